/-! day, on, bestMark -/
theorem DX_keep {P : Dp} {s : Dy} {t lk : Nat} {σ τ : fb_S} (h : DX P s t lk σ τ) : Keep σ τ := fun k j hs => h.1 k j (fun e => by subst e; cases hs) (fun e => by subst e; cases hs) (fun e => by subst e; cases hs)
theorem X_full (N : Nat) (hN : 40000 ≤ N) {σ : fb_S} (hR : Rl σ) {m : Nat} (hm : m ≤ 60) : ∃ mk τ, mk ≤ 999 ∧ σ.1 18 4 = nI mk ∧ f_X5_walkDay N (nI m) σ = some τ ∧ DX (DP σ) (dys (DP σ) mk m) m (lks (DP σ) mk m) σ τ := by
  have r4 := rgn1 0 999 (by decide) hR.2.2.2.2.2.1.2.2.2.2.2.1
  unfold f_X5_walkDay
  rw [X_damping N hN σ hR, Option.bind_some]
  obtain ⟨T, τ, h1, h2, h3, h4⟩ := X_day N hN hR hm (by omega : (σ.1 18 4).toNatClampNeg ≤ 1000) (by omega : 9999 ≤ 9999) σ (fun _ _ _ _ _ => rfl)
  refine ⟨(σ.1 18 4).toNatClampNeg, τ, r4.2.2, r4.1, ?_, ?_⟩
  · rw [← r4.1] at h2
    have h2' : f_X2_walkDay N (nI m) (σ.1 18 4) 9999 (σ.1 1 1) (iI (dmp σ)) σ = some τ := h2
    rw [h2', Option.bind_some]
  · rcases h4 with h4 | h4
    · subst h4; exact h3
    · have := dys_inv (PX_q hR) (σ.1 18 4).toNatClampNeg T (by omega)
      have := this.2.2.2.2.2.1
      omega
theorem day_n {a : Int32} (c : 1 ≤ a ∧ a ≤ 60) : ∃ m : Nat, m ≤ 60 ∧ a = nI m := ex_n (c := 60) (by decide) (t_le.mpr (by have := t_le.mp c.1; have e : (1 : Int32).toInt = 1 := rfl; have e0 : (0 : Int32).toInt = 0 := rfl; omega)) c.2
theorem st_day (N : Nat) (hN : 40000 ≤ N) (σ : fb_S) (hR : Rl σ) (a1 : Int32) (a2 : Int32) : ∃ r σ1 σ2, f_X5_day N a1 a2 σ = some (r, σ1) ∧ f_X6_day N a1 a2 σ1 = some (r, σ2) ∧ Rl σ2 := by
  unfold f_X5_day
  rw [X_isDay, X_within]
  have hk0 : Keep σ (fb_up σ 29 0 0) := Keep.up rfl Keep.rfl'
  by_cases c1 : 1 ≤ a1 ∧ a1 ≤ 60
  · by_cases c2 : 0 ≤ a2 ∧ a2 ≤ 5
    · obtain ⟨m, hm, rfl⟩ := day_n c1
      obtain ⟨mk, τ, hmk, e4, x1, x2⟩ := X_full N hN hR hm
      have kx := DX_keep x2
      obtain ⟨-, x20, x21, x4, x5, x6, x7, x8, x9, -⟩ := x2
      rw [if_pos c1, Option.bind_some, if_neg z_1, if_pos c2, Option.bind_some, if_neg z_1, x1, Option.bind_some]
      have k1 : Keep σ (fb_up τ 29 0 0) := Keep.up rfl kx
      obtain ⟨τ', y1, yk, yd, y45, y46, y25, y26, y27, y28, y29, -⟩ := M_live N hN hR hm (by omega : mk ≤ 1000) k1
      have e43 : (fb_up τ 29 0 0).1 43 4 = nI mk := by rw [M_ways hR k1 (by decide), e4]
      have hM : f_X6_day N (nI m) a2 τ = (if a2 = 0 then (some (τ'.1 29 25, τ')) else if a2 = 1 then ((f_X6_onBridge N τ').bind fun q5 => some (q5, τ')) else if a2 = 2 then (some (τ'.1 29 26, τ')) else if a2 = 3 then (some (τ'.1 29 27, τ')) else if a2 = 4 then (some (τ'.1 29 28, τ')) else some (τ'.1 29 29, τ')) := by
        unfold f_X6_day
        rw [nm_e_, M_in2 (nI m) 1 60 (by decide) (by decide), if_pos c1, Option.bind_some, if_neg z_1, M_in2 a2 0 5 (by decide) (by decide), if_pos c2, Option.bind_some, if_neg z_1, e43, y1, Option.bind_some]
      have p0 := (PX_q hR).1
      have hb := M_onBridge N hN p0.2 (by rw [M_ways hR yk (by decide)]; exact (PX_p hR).1) y45
      by_cases d0 : a2 = 0
      · rw [if_pos d0, x4]; rw [if_pos d0, y25] at hM
        exact ⟨_, _, _, rfl, hM, Rl_keep yk hR⟩
      · rw [if_neg d0]; rw [if_neg d0] at hM
        by_cases d1 : a2 = 1
        · rw [if_pos d1, x5]; rw [if_pos d1, hb, Option.bind_some] at hM
          exact ⟨_, _, _, rfl, hM, Rl_keep yk hR⟩
        · rw [if_neg d1]; rw [if_neg d1] at hM
          by_cases d2 : a2 = 2
          · rw [if_pos d2, x6]; rw [if_pos d2, y26] at hM
            exact ⟨_, _, _, rfl, hM, Rl_keep yk hR⟩
          · rw [if_neg d2]; rw [if_neg d2] at hM
            by_cases d3 : a2 = 3
            · rw [if_pos d3, x7]; rw [if_pos d3, y27] at hM
              exact ⟨_, _, _, rfl, hM, Rl_keep yk hR⟩
            · rw [if_neg d3]; rw [if_neg d3] at hM
              by_cases d4 : a2 = 4
              · rw [if_pos d4, x8]; rw [if_pos d4, y28] at hM
                exact ⟨_, _, _, rfl, hM, Rl_keep yk hR⟩
              · rw [if_neg d4, x9]; rw [if_neg d4, y29] at hM
                exact ⟨_, _, _, rfl, hM, Rl_keep yk hR⟩
    · refine ⟨-2, σ, fb_up σ 29 0 0, ?_, ?_, Rl_keep hk0 hR⟩
      · rw [if_pos c1, if_neg c2]; rfl
      · unfold f_X6_day
        rw [nm_e_, M_in2 a1 1 60 (by decide) (by decide), if_pos c1, Option.bind_some, if_neg z_1, M_in2 a2 0 5 (by decide) (by decide), if_neg c2]; rfl
  · refine ⟨-2, σ, fb_up σ 29 0 0, ?_, ?_, Rl_keep hk0 hR⟩
    · rw [if_neg c1]; rfl
    · unfold f_X6_day
      rw [nm_e_, M_in2 a1 1 60 (by decide) (by decide), if_neg c1]; rfl
theorem st_on (N : Nat) (hN : 40000 ≤ N) (σ : fb_S) (hR : Rl σ) (a1 : Int32) (a2 : Int32) : ∃ r σ1 σ2, f_X5_on N a1 a2 σ = some (r, σ1) ∧ f_X6_on N a1 a2 σ1 = some (r, σ2) ∧ Rl σ2 := by
  unfold f_X5_on
  rw [X_isDay, X_within]
  have hk0 : Keep σ (fb_up σ 29 0 0) := Keep.up rfl Keep.rfl'
  have e0 : ∀ τ, Keep σ τ → τ.1 43 0 = σ.1 18 0 := fun τ h => M_ways hR h (by decide)
  by_cases c1 : 1 ≤ a1 ∧ a1 ≤ 60
  · by_cases c2 : 0 ≤ a2 ∧ a2 ≤ σ.1 18 0 - 1
    · obtain ⟨m, hm, rfl⟩ := day_n c1
      obtain ⟨mk, τ, hmk, e4, x1, x2⟩ := X_full N hN hR hm
      have kx := DX_keep x2
      have x20 := x2.2.1
      rw [if_pos c1, Option.bind_some, if_neg z_1, if_pos c2, Option.bind_some, if_neg z_1, x1, Option.bind_some]
      have k1 : Keep σ (fb_up τ 29 0 0) := Keep.up rfl kx
      obtain ⟨τ', y1, yk, yd, y45, -⟩ := M_live N hN hR hm (by omega : mk ≤ 1000) k1
      have e43 : (fb_up τ 29 0 0).1 43 4 = nI mk := by rw [M_ways hR k1 (by decide), e4]
      have p0 := (PX_q hR).1
      have ex : σ.1 18 0 - 1 = nI ((DP σ).1 0 - 1) := by
        rw [(PX_p hR).1]
        have hl : (DP σ).1 0 = (DP σ).1 0 - 1 + 1 := by omega
        rw [hl, nI_pred]; rfl
      obtain ⟨j, hj, rfl⟩ : ∃ j, j < 8 ∧ a2 = nI j := by
        rw [ex] at c2
        have h1 := t_le.mp c2.1
        have h2 := t_le.mp c2.2
        rw [t_n (by omega)] at h2
        have e : (0 : Int32).toInt = 0 := rfl
        obtain ⟨j, hj, e⟩ := rgn 7 (by decide) (x := a2) ⟨by omega, by omega⟩
        exact ⟨j, by omega, e⟩
      have hin : fb_in (nI j) 8 = true := in_n hj (by decide)
      rw [ck_t hin, cl_n (by omega), x20 j hj]
      refine ⟨_, τ, τ', rfl, ?_, Rl_keep yk hR⟩
      unfold f_X6_on
      rw [nm_e_, M_in2 (nI m) 1 60 (by decide) (by decide), if_pos c1, Option.bind_some, if_neg z_1, M_in2 (nI j) 0 ((fb_up τ 29 0 0).1 43 0 - 1) (by decide) rfl, e0 _ k1, if_pos c2, Option.bind_some, if_neg z_1, e43, y1, Option.bind_some, ck_t hin, cl_n (by omega), y45 j hj]
    · refine ⟨-1, σ, fb_up σ 29 0 0, ?_, ?_, Rl_keep hk0 hR⟩
      · rw [if_pos c1, if_neg c2]; rfl
      · unfold f_X6_on
        rw [nm_e_, M_in2 a1 1 60 (by decide) (by decide), if_pos c1, Option.bind_some, if_neg z_1, M_in2 a2 0 ((fb_up σ 29 0 0).1 43 0 - 1) (by decide) rfl, e0 _ hk0, if_neg c2]; rfl
  · refine ⟨-2, σ, fb_up σ 29 0 0, ?_, ?_, Rl_keep hk0 hR⟩
    · rw [if_neg c1]; rfl
    · unfold f_X6_on
      rw [nm_e_, M_in2 a1 1 60 (by decide) (by decide), if_neg c1]; rfl
/-! the best mark -/
def bmk (P : Dp) (m cf : Nat) : Nat → Int × Int
  | 0 => (-9, -1)
  | k + 1 => if (dys P k m).2.2.2.2.2.1 ≤ cf ∧ (bmk P m cf k).2 < ((dys P k m).2.2.1 : Int) then ((k : Int), ((dys P k m).2.2.1 : Int)) else bmk P m cf k
theorem bmk_b {P : Dp} (hP : Pq P) {m cf : Nat} (hm : m ≤ 60) : ∀ k, -1 ≤ (bmk P m cf k).2 ∧ (bmk P m cf k).2 ≤ 5940 := by
  intro k
  induction k with
  | zero => exact ⟨by show (-1 : Int) ≤ -1; omega, by show (-1 : Int) ≤ 5940; omega⟩
  | succ k ih =>
    unfold bmk
    have := (dys_inv hP k m hm).2.2.1
    split
    · exact ⟨by show -1 ≤ ((dys P k m).2.2.1 : Int); omega, by show ((dys P k m).2.2.1 : Int) ≤ _; omega⟩
    · exact ih
theorem bmk_run {P : Dp} {m cf mk T : Nat} (hT : T ≤ m) (h : T = m ∨ cf < (dys P mk T).2.2.2.2.2.1) : ∀ d, mk + d ≤ lks P mk T → bmk P m cf (mk + d + 1) = bmk P m cf (mk + 1) := by
  intro d
  induction d with
  | zero => intro _; rfl
  | succ d ih =>
    intro hd
    have ih := ih (by omega)
    have e1 : bmk P m cf (mk + (d + 1) + 1) = if (dys P (mk + d + 1) m).2.2.2.2.2.1 ≤ cf ∧ (bmk P m cf (mk + d + 1)).2 < ((dys P (mk + d + 1) m).2.2.1 : Int) then (((mk + d + 1 : Nat) : Int), ((dys P (mk + d + 1) m).2.2.1 : Int)) else bmk P m cf (mk + d + 1) := rfl
    rw [e1, ih]
    have eT := dys_mark (P := P) (mk := mk) (mk' := mk + d + 1) (by omega) T (by omega)
    by_cases c : cf < (dys P mk T).2.2.2.2.2.1
    · have h2 := wo_mono (P := P) (mk := mk + d + 1) (m - T) T
      rw [show T + (m - T) = m by omega, eT] at h2
      rw [if_neg (by omega)]
    · rcases h with h | h
      · subst h
        rw [eT, if_neg]
        rintro ⟨h1, h2⟩
        have e2 : bmk P T cf (mk + 1) = if (dys P mk T).2.2.2.2.2.1 ≤ cf ∧ (bmk P T cf mk).2 < ((dys P mk T).2.2.1 : Int) then ((mk : Int), ((dys P mk T).2.2.1 : Int)) else bmk P T cf mk := rfl
        rw [e2] at h2
        by_cases c2 : (dys P mk T).2.2.2.2.2.1 ≤ cf ∧ (bmk P T cf mk).2 < ((dys P mk T).2.2.1 : Int)
        · rw [if_pos c2] at h2
          exact absurd h2 (by show ¬ ((dys P mk T).2.2.1 : Int) < _; omega)
        · rw [if_neg c2] at h2
          exact c2 ⟨h1, h2⟩
      · exact absurd h c
theorem X_best (N : Nat) (hN : 40000 ≤ N) {σ : fb_S} (hR : Rl σ) {m cf : Nat} (hm : m ≤ 60) (hcf : cf ≤ 9999) (ecf : σ.1 1 3 = nI cf) : ∀ (n i mk : Nat) (τ : fb_S), i ≤ mk → mk ≤ 1001 → 1001 - mk < n → (∀ k j, k ≠ 17 → k ≠ 20 → k ≠ 21 → τ.1 k j = σ.1 k j) → ∃ τ', f_X2_markOfMostOver_L13 N n (nI m) (iI (dmp σ)) (iI (bmk (DP σ) m cf (min mk 201)).1) (iI (bmk (DP σ) m cf (min mk 201)).2) (nI mk) (nI i) τ = some (iI (bmk (DP σ) m cf 201).1, τ') ∧ (∀ k j, k ≠ 17 → k ≠ 20 → k ≠ 21 → τ'.1 k j = σ.1 k j) := by
  have hP := PX_q hR
  intro n
  induction n with
  | zero => intro i mk τ h1 h2 h3; omega
  | succ n ih =>
    intro i mk τ hi hmk hn hf
    unfold f_X2_markOfMostOver_L13
    by_cases c1 : 200 < i
    · rw [if_pos (lc_lt 200 c1 (by omega)), show min mk 201 = 201 by omega]
      exact ⟨τ, rfl, hf⟩
    · rw [if_neg (lc_nlt 200 (by omega) (by omega))]
      by_cases c2 : 200 < mk
      · rw [if_pos (lc_lt 200 c2 (by omega)), show min mk 201 = 201 by omega]
        exact ⟨τ, rfl, hf⟩
      · rw [if_neg (lc_nlt 200 (by omega) (by omega)), hf 1 3 (by decide) (by decide) (by decide), hf 1 1 (by decide) (by decide) (by decide), ecf]
        obtain ⟨T, τ2, t1, t2, t3, t4⟩ := X_day N hN hR hm (by omega : mk ≤ 1000) hcf τ hf
        obtain ⟨y0, -, -, y4, -, -, -, y8, -, y10⟩ := t3
        have hI := dys_inv hP mk T (by omega)
        obtain ⟨-, -, i3, -, -, i6, -⟩ := hI
        have hlk := lks_le (P := DP σ) (mk := mk) T
        have hlg := lks_ge (P := DP σ) (mk := mk) (by omega) T
        rw [t2, Option.bind_some, y0 1 3 (by decide) (by decide) (by decide), ecf, y8, y4, show min mk 201 = mk by omega]
        have hbb := bmk_b hP (cf := cf) hm mk
        have run := bmk_run (P := DP σ) (m := m) (cf := cf) (mk := mk) t1 t4
        have e2 : bmk (DP σ) m cf (mk + 1) = if (dys (DP σ) mk m).2.2.2.2.2.1 ≤ cf ∧ (bmk (DP σ) m cf mk).2 < ((dys (DP σ) mk m).2.2.1 : Int) then ((mk : Int), ((dys (DP σ) mk m).2.2.1 : Int)) else bmk (DP σ) m cf mk := rfl
        have e3 : bmk (DP σ) m cf (min (lks (DP σ) mk T + 1) 201) = bmk (DP σ) m cf (mk + 1) := by
          have := run (min (lks (DP σ) mk T + 1) 201 - 1 - mk) (by omega)
          rw [← this]
          congr 1
          omega
        have go : ∀ b : Int × Int, b = bmk (DP σ) m cf (mk + 1) → ∃ τ', f_X2_markOfMostOver_L74 N (f_X2_markOfMostOver_L13 N n) (nI m) (iI (dmp σ)) (iI b.1) (iI b.2) (nI i) τ2 = some (iI (bmk (DP σ) m cf 201).1, τ') ∧ (∀ k j, k ≠ 17 → k ≠ 20 → k ≠ 21 → τ'.1 k j = σ.1 k j) := by
          intro b hb
          unfold f_X2_markOfMostOver_L74
          rw [nm_e_, y10, nI_1, nI_1, hb, ← e3]
          exact ih (i + 1) (lks (DP σ) mk T + 1) τ2 (by omega) (by omega) (by omega) y0
        by_cases d1 : cf < (dys (DP σ) mk T).2.2.2.2.2.1
        · rw [if_pos (nI_lt d1 (by omega))]
          refine go _ ?_
          have h2 := wo_mono (P := DP σ) (mk := mk) (m - T) T
          rw [show T + (m - T) = m by omega] at h2
          rw [e2, if_neg (by omega)]
        · have eT : T = m := by rcases t4 with h | h
                                · exact h
                                · exact absurd h d1
          subst eT
          rw [if_neg (nI_nlt (by omega) (by omega)), iI_n]
          by_cases d2 : ((dys (DP σ) mk T).2.2.1 : Int) ≤ (bmk (DP σ) T cf mk).2
          · rw [if_pos ((iI_le (by omega) (by omega) (by omega) (by omega)).mpr d2)]
            refine go _ ?_
            rw [e2, if_neg (by omega)]
          · rw [if_neg (fun q => d2 ((iI_le (by omega) (by omega) (by omega) (by omega)).mp q)), nm_e_]
            have := go ((mk : Int), ((dys (DP σ) mk T).2.2.1 : Int)) (by rw [e2, if_pos ⟨by omega, by omega⟩])
            rw [iI_n mk]
            exact this
theorem M_best (N : Nat) (hN : 40000 ≤ N) {σ : fb_S} (hR : Rl σ) {m cf : Nat} (hm : m ≤ 60) (hcf : cf ≤ 9999) (ecf : σ.1 1 3 = nI cf) : ∀ (n k : Nat) (τ : fb_S), k ≤ 201 → 201 - k < n → Keep σ τ → ∃ τ', f_X6_bestMark_L28 N n (nI m) (iI (bmk (DP σ) m cf k).1) (iI (bmk (DP σ) m cf k).2) (nI k) τ = some (iI (bmk (DP σ) m cf 201).1, τ') ∧ Keep σ τ' := by
  have hP := PX_q hR
  intro n
  induction n with
  | zero => intro k τ h1 h2; omega
  | succ n ih =>
    intro k τ hk hn hK
    unfold f_X6_bestMark_L28
    by_cases c : k = 201
    · subst c
      rw [if_pos (by decide)]
      exact ⟨τ, rfl, hK⟩
    · rw [if_neg (lc_nlt 200 (by omega) (by omega))]
      obtain ⟨τ', y1, yk, yd, y45, y46, y25, y26, y27, y28, y29, -⟩ := M_live N hN hR hm (by omega : k ≤ 1000) hK
      have hI := dys_inv hP k m hm
      obtain ⟨-, -, i3, -, -, i6, -⟩ := hI
      have hbb := bmk_b hP (cf := cf) hm k
      have e2 : bmk (DP σ) m cf (k + 1) = if (dys (DP σ) k m).2.2.2.2.2.1 ≤ cf ∧ (bmk (DP σ) m cf k).2 < ((dys (DP σ) k m).2.2.1 : Int) then ((k : Int), ((dys (DP σ) k m).2.2.1 : Int)) else bmk (DP σ) m cf k := rfl
      have ih := ih (k + 1) τ' (by omega) (by omega) yk
      rw [y1, Option.bind_some, yk 37 3 rfl, hR.2.2.1.1 3 (by decide), ecf, y28, y25, nI_1]
      by_cases d1 : cf < (dys (DP σ) k m).2.2.2.2.2.1
      · rw [if_pos (nI_lt d1 (by omega))]
        rw [e2, if_neg (by omega)] at ih
        exact ih
      · rw [if_neg (nI_nlt (by omega) (by omega)), iI_n (dys (DP σ) k m).2.2.1]
        by_cases d2 : ((dys (DP σ) k m).2.2.1 : Int) ≤ (bmk (DP σ) m cf k).2
        · rw [if_pos ((iI_le (by omega) (by omega) (by omega) (by omega)).mpr d2)]
          rw [e2, if_neg (by omega)] at ih
          exact ih
        · rw [if_neg (fun q => d2 ((iI_le (by omega) (by omega) (by omega) (by omega)).mp q)), nm_e_]
          rw [e2, if_pos ⟨by omega, by omega⟩] at ih
          rw [iI_n k]
          exact ih
theorem st_bestMark (N : Nat) (hN : 40000 ≤ N) (σ : fb_S) (hR : Rl σ) (a1 : Int32) : ∃ r σ1 σ2, f_X5_bestMark N a1 σ = some (r, σ1) ∧ f_X6_bestMark N a1 σ1 = some (r, σ2) ∧ Rl σ2 := by
  unfold f_X5_bestMark
  rw [X_isDay]
  have hk0 : Keep σ (fb_up σ 29 0 0) := Keep.up rfl Keep.rfl'
  by_cases c1 : 1 ≤ a1 ∧ a1 ≤ 60
  · obtain ⟨m, hm, rfl⟩ := day_n c1
    have r3 := rgn1 0 9999 (by decide) hR.2.2.1.2.2.2.2
    rw [if_pos c1, Option.bind_some, if_neg z_1, X_damping N hN σ hR, Option.bind_some]
    obtain ⟨τ, x1, x2⟩ := X_best N hN hR hm r3.2.2 r3.1 N 0 0 σ (by omega) (by omega) (by omega) (fun _ _ _ _ _ => rfl)
    have x1' : f_X2_markOfMostOver N (nI m) (iI (dmp σ)) σ = _ := x1
    have kx : Keep σ τ := fun k j hs => x2 k j (fun e => by subst e; cases hs) (fun e => by subst e; cases hs) (fun e => by subst e; cases hs)
    rw [x1', Option.bind_some]
    obtain ⟨τ', y1, yk⟩ := M_best N hN hR hm r3.2.2 r3.1 N 0 (fb_up τ 29 0 0) (by omega) (by omega) (Keep.up rfl kx)
    refine ⟨_, _, τ', rfl, ?_, Rl_keep yk hR⟩
    unfold f_X6_bestMark
    rw [nm_e_, M_in2 (nI m) 1 60 (by decide) (by decide), if_pos c1, Option.bind_some, if_neg z_1]
    exact y1
  · refine ⟨-2, σ, fb_up σ 29 0 0, ?_, ?_, Rl_keep hk0 hR⟩
    · rw [if_neg c1]; rfl
    · unfold f_X6_bestMark
      rw [nm_e_, M_in2 a1 1 60 (by decide) (by decide), if_neg c1]; rfl
