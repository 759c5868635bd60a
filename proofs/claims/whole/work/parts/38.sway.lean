/-! damping in all -/
def dsum (r15 r12 : Nat → Int32) : Nat → Int
  | 0 => 0
  | j + 1 => dsum r15 r12 j + (r15 j).toInt * (r12 j).toInt
theorem X_addB (N : Nat) (σ : fb_S) {c : Nat} (hc : c ≤ 10) (ec : σ.1 11 5 = nI c) : ∀ (n j : Nat), j ≤ c → c - j < n → f_X1_addOfBuilt_L4 N σ n (iI (dsum (σ.1 15) (σ.1 12) j)) (nI j) = some (iI (dsum (σ.1 15) (σ.1 12) c)) := by
  intro n
  induction n with
  | zero => intro j h1 h2; omega
  | succ n ih =>
    intro j h1 h2
    unfold f_X1_addOfBuilt_L4
    rw [ec]
    by_cases hj : j = c
    · rw [if_pos (nI_le (by omega) (by omega)), hj]
    · have hin : fb_in (nI j) 10 = true := in_n (by omega) (by decide)
      rw [if_neg (nI_ge (by omega) (by omega)), ck_t hin, ck_t hin, nm_e_, nI_1, cl_n (by omega), mulI, iI_add]
      exact ih (j + 1) (by omega) (by omega)
def dmp (σ : fb_S) : Int := (σ.1 1 0).toInt + dsum (σ.1 15) (σ.1 12) (σ.1 11 5).toNatClampNeg
theorem X_damping (N : Nat) (hN : 40000 ≤ N) (σ : fb_S) (hR : Rl σ) : f_X5_allDamping N σ = some (iI (dmp σ)) := by
  obtain ⟨c, hc, ec⟩ := rgn 10 (by decide) hR.2.2.2.1.1
  unfold f_X5_allDamping f_X1_addOfBuilt dmp
  have e := X_addB N σ hc ec N 0 (by omega) (by omega)
  have e0 : iI (dsum (σ.1 15) (σ.1 12) 0) = 0 := rfl
  rw [e0] at e
  have e' : f_X1_addOfBuilt_L4 N σ N 0 0 = some (iI (dsum (σ.1 15) (σ.1 12) c)) := e
  rw [e', Option.bind_some, ec, cl_n (by omega), ← iI_add, iI_self]
theorem dmp_b (σ : fb_S) (hR : Rl σ) : 1 ≤ dmp σ ∧ dmp σ ≤ 5500 := by
  obtain ⟨r1, r2, r3⟩ := hR.2.2.2.1
  obtain ⟨c, hc, ec⟩ := rgn 10 (by decide) r1
  have key : ∀ j, j ≤ 10 → 0 ≤ dsum (σ.1 15) (σ.1 12) j ∧ dsum (σ.1 15) (σ.1 12) j ≤ 500 * j := by
    intro j
    induction j with
    | zero => intro _; exact ⟨Int.le_refl _, Int.le_refl _⟩
    | succ j ih =>
      intro hj
      have ih := ih (by omega)
      have h := r3 j (by omega)
      have a1 := h.1.2
      unfold rg at a1
      unfold dsum
      rcases bool_n h.2.2.2.1.2 with e | e
      · rw [e]
        have : (0 : Int32).toInt = 0 := rfl
        rw [this]
        omega
      · rw [e]
        have : (1 : Int32).toInt = 1 := rfl
        rw [this]
        omega
  have h3 := hR.2.2.1.2.1
  unfold rg at h3
  unfold dmp
  rw [ec, cl_n (by omega)]
  have := key c hc
  omega
theorem Wr_of {σ : fb_S} (hR : Rl σ) : Wr (σ.1 7) (σ.1 8) (σ.1 9) (σ.1 10) := fun j hj => by
  have h := hR.2.1 j hj
  exact ⟨h.1.2, h.2.1.2, h.2.2.1.2, h.2.2.2.2⟩
/-! the reference looks at walkers and dampers as they are -/
def E9 (σ τ : fb_S) : Prop := ∀ k i, ¬ (k = 29 ∧ i = 9) → τ.1 k i = σ.1 k i
theorem M_asIs32 (N : Nat) (σ : fb_S) {c : Nat} (hc : c ≤ 10) (ec : σ.1 29 11 = nI c) {r15 r12 : Nat → Int32} (h41 : ∀ j, j < 10 → σ.1 41 j = r15 j) (h38 : ∀ j, j < 10 → σ.1 38 j = r12 j) (hb : ∀ j, j < 10 → r15 j = 0 ∨ r15 j = 1) : ∀ (n j : Nat) (τ : fb_S), j ≤ c → c - j < n → E9 σ τ → τ.1 29 9 = iI (dsum r15 r12 j) → ∃ τ', f_X6_asIs_L32 N n (nI j) τ = some τ' ∧ E9 σ τ' ∧ τ'.1 29 9 = iI (dsum r15 r12 c) := by
  intro n
  induction n with
  | zero => intro j τ h1 h2; omega
  | succ n ih =>
    intro j τ h1 h2 he h9
    unfold f_X6_asIs_L32
    rw [he 29 11 (by decide), ec]
    by_cases hj : j = c
    · rw [if_pos (nI_le (by omega) (by omega))]
      exact ⟨τ, rfl, he, by rw [h9, hj]⟩
    · have hin : fb_in (nI j) 10 = true := in_n (by omega) (by decide)
      rw [if_neg (nI_ge (by omega) (by omega)), ck_t hin, nI_1, cl_n (by omega), he 41 j (by omega), h41 j (by omega)]
      have up9 : ∀ v, E9 σ (fb_up τ 29 9 v) := fun v k i hki => by rw [up_ne _ _ hki]; exact he k i hki
      rcases hb j (by omega) with e | e
      · rw [if_pos e, nm_e_]
        refine ih (j + 1) _ (by omega) (by omega) (up9 _) ?_
        rw [up_eq, h9, Int32.add_zero]
        unfold dsum
        rw [e]
        have : (0 : Int32).toInt = 0 := rfl
        rw [this, Int.zero_mul, Int.add_zero]
        cases j <;> rfl
      · rw [if_neg (by rw [e]; exact z_1), ck_t hin, nm_e_, he 38 j (by omega), h38 j (by omega)]
        refine ih (j + 1) _ (by omega) (by omega) (up9 _) ?_
        rw [up_eq, h9]
        show iI (dsum r15 r12 j) + r12 j = iI (dsum r15 r12 j + (r15 j).toInt * (r12 j).toInt)
        rw [e]
        have : (1 : Int32).toInt = 1 := rfl
        rw [this, Int.one_mul, ← iI_add, iI_self]
theorem M_asIs2 (N : Nat) (hN : 40000 ≤ N) (σ : fb_S) {c : Nat} (hc : c ≤ 10) (ec : σ.1 29 11 = nI c) {r15 r12 : Nat → Int32} (h41 : ∀ j, j < 10 → σ.1 41 j = r15 j) (h38 : ∀ j, j < 10 → σ.1 38 j = r12 j) (hb : ∀ j, j < 10 → r15 j = 0 ∨ r15 j = 1) : ∀ (n j : Nat) (τ : fb_S), j ≤ 4 → 4 - j < n → (∀ k i, k ≠ 36 → τ.1 k i = σ.1 k i) → (∀ i, i < j → τ.1 36 i = σ.1 35 i) → ∃ τ', f_X6_asIs_L2 N n (nI j) τ = some τ' ∧ (∀ k i, k ≠ 36 → ¬ (k = 29 ∧ i = 9) → τ'.1 k i = σ.1 k i) ∧ (∀ i, i < 4 → τ'.1 36 i = σ.1 35 i) ∧ τ'.1 29 9 = iI (dsum r15 r12 c) := by
  intro n
  induction n with
  | zero => intro j τ h1 h2; omega
  | succ n ih =>
    intro j τ h1 h2 he h6
    unfold f_X6_asIs_L2
    by_cases hj : j = 4
    · subst hj
      rw [if_pos (by decide), nm_e_]
      have hu : ∀ k i, ¬ (k = 29 ∧ i = 9) → (fb_up τ 29 9 0).1 k i = τ.1 k i := fun k i h => up_ne _ _ h
      obtain ⟨τ', e1, e2, e3⟩ := M_asIs32 N (fb_up τ 29 9 0) hc (by rw [hu 29 11 (by decide), he 29 11 (by decide), ec]) (r15 := r15) (r12 := r12) (fun j hj => by rw [hu 41 j (by omega), he 41 j (by decide)]; exact h41 j hj) (fun j hj => by rw [hu 38 j (by omega), he 38 j (by decide)]; exact h38 j hj) hb N 0 (fb_up τ 29 9 0) (by omega) (by omega) (fun _ _ _ => rfl) (by rw [up_eq]; rfl)
      refine ⟨τ', e1, fun k i hk hki => ?_, fun i hi => ?_, e3⟩
      · rw [e2 k i hki, hu k i hki, he k i hk]
      · rw [e2 36 i (by omega), hu 36 i (by omega), h6 i hi]
    · have hin : fb_in (nI j) 4 = true := in_n (by omega) (by decide)
      rw [if_neg (lc_nle 4 (by omega) (by omega)), ck_t hin, ck_t hin, nm_e_, nI_1, cl_n (by omega)]
      refine ih (j + 1) _ (by omega) (by omega) (fun k i hk => ?_) (fun i hi => ?_)
      · rw [up_ne _ _ (by omega)]; exact he k i hk
      · rw [up_at]
        by_cases e : i = j
        · rw [if_pos ⟨rfl, e⟩, he 35 j (by decide), e]
        · rw [if_neg (by omega)]; exact h6 i (by omega)
theorem M_asIs (N : Nat) (hN : 40000 ≤ N) {σ : fb_S} (hR : Rl σ) {τ0 : fb_S} (hk : Keep σ τ0) : ∃ τ, f_X6_asIs N τ0 = some τ ∧ Keep σ τ ∧ Md (σ.1 7) (σ.1 8) (σ.1 9) (σ.1 10) (dmp σ) τ ∧ ∀ k i, k ≠ 36 → ¬ (k = 29 ∧ i = 9) → τ.1 k i = τ0.1 k i := by
  obtain ⟨r1, r2, r3⟩ := hR.2.2.2.1
  obtain ⟨c, hc, ec⟩ := rgn 10 (by decide) r1
  obtain ⟨τ, e1, e2, e3, e4⟩ := M_asIs2 N hN τ0 hc (by rw [hk 29 11 rfl, r2, ec]) (r15 := σ.1 15) (r12 := σ.1 12) (fun j hj => by rw [hk 41 j rfl]; exact (r3 j hj).2.2.2.1.1) (fun j hj => by rw [hk 38 j rfl]; exact (r3 j hj).1.1) (fun j hj => bool_n (r3 j hj).2.2.2.1.2) N 0 τ0 (by omega) (by omega) (fun _ _ _ => rfl) (fun i hi => by omega)
  refine ⟨τ, e1, fun k j h => ?_, ⟨fun j hj => ?_, ?_⟩, e2⟩
  · by_cases c1 : k = 36
    · subst c1; cases h
    · by_cases c2 : k = 29 ∧ j = 9
      · obtain ⟨rfl, rfl⟩ := c2; cases h
      · rw [e2 k j c1 c2]; exact hk k j h
  · have h := hR.2.1 j hj
    refine ⟨?_, ?_, ?_, ?_⟩
    · rw [e2 32 j (by decide) (by omega), hk 32 j rfl]; exact h.1.1
    · rw [e2 33 j (by decide) (by omega), hk 33 j rfl]; exact h.2.1.1
    · rw [e2 34 j (by decide) (by omega), hk 34 j rfl]; exact h.2.2.1.1
    · rw [e3 j hj, hk 35 j rfl]; exact h.2.2.2.1
  · have hb := dmp_b σ hR
    have h0 := hR.2.2.1.2.1
    unfold rg at h0
    have hd : dmp σ = (σ.1 1 0).toInt + dsum (σ.1 15) (σ.1 12) c := by unfold dmp; rw [ec, cl_n (by omega)]
    rw [e2 37 0 (by decide) (by decide), hk 37 0 rfl, hR.2.2.1.1 0 (by decide), e4, iI_t (by omega) (by omega)]
    exact hd.symm
/-! net, inStep, beats -/
theorem sway_n {a1 : Int32} (c : 0 ≤ a1 ∧ a1 ≤ 9999) : ∃ v : Nat, v ≤ 9999 ∧ a1 = nI v := ex_n (c := 9999) (by decide) c.1 c.2
theorem st_net (N : Nat) (hN : 40000 ≤ N) (σ : fb_S) (hR : Rl σ) (a1 : Int32) : ∃ r σ2, f_X5_net N a1 σ = some r ∧ f_X6_net N a1 σ = some (r, σ2) ∧ Rl σ2 := by
  unfold f_X5_net f_X6_net
  rw [X_isSway, nm_e_, M_noSway]
  have hk0 : Keep σ (fb_up σ 29 0 0) := Keep.up rfl Keep.rfl'
  by_cases c1 : 0 ≤ a1 ∧ a1 ≤ 9999
  · obtain ⟨τ, e1, e2, e3, -⟩ := M_asIs N hN hR hk0
    refine ⟨iI (netz (σ.1 7) (σ.1 8) (σ.1 9) (σ.1 10) (dmp σ) a1.toInt) + 100000, τ, ?_, ?_, Rl_keep e2 hR⟩
    · rw [if_pos c1, Option.bind_some, if_neg z_1, X_damping N hN σ hR, Option.bind_some, X_netAt N hN σ (Wr_of hR), Option.bind_some]
    · rw [if_pos c1, Option.bind_some, if_pos rfl, e1, Option.bind_some, M_netAt N hN e3 (Wr_of hR), Option.bind_some]
  · refine ⟨-2, fb_up σ 29 0 0, ?_, ?_, Rl_keep hk0 hR⟩
    · rw [if_neg c1]; rfl
    · rw [if_neg c1]; rfl
def csum (lo st cr : Nat → Int32) (v : Int) : Nat → Int32
  | 0 => 0
  | j + 1 => csum lo st cr v j + (if (lo j).toInt ≤ v ∧ v ≤ (st j).toInt then cr j else 0)
theorem X_cis (N : Nat) (σ : fb_S) (v : Int32) : ∀ (n j : Nat), j ≤ 4 → 4 - j < n → f_X4_countInStep_L4 N σ n v (csum (σ.1 8) (σ.1 9) (σ.1 10) v.toInt j) (nI j) = some (csum (σ.1 8) (σ.1 9) (σ.1 10) v.toInt 4) := by
  intro n
  induction n with
  | zero => intro j h1 h2; omega
  | succ n ih =>
    intro j h1 h2
    unfold f_X4_countInStep_L4
    by_cases hj : j = 4
    · subst hj
      rw [if_pos (by decide)]
    · rw [if_neg (lc_nle 4 (by omega) (by omega)), X_inStep σ (by omega), Option.bind_some, nI_1]
      have hin : fb_in (nI j) 4 = true := in_n (by omega) (by decide)
      have ih := ih (j + 1) (by omega) (by omega)
      unfold csum at ih
      by_cases c : (σ.1 8 j).toInt ≤ v.toInt ∧ v.toInt ≤ (σ.1 9 j).toInt
      · rw [if_pos c, if_neg z_1, ck_t hin, nm_e_, cl_n (by omega)]
        rw [if_pos c] at ih
        exact ih
      · rw [if_neg c, if_pos rfl]
        rw [if_neg c, Int32.add_zero] at ih
        exact ih
theorem M_cis (N : Nat) (σ : fb_S) (v : Int32) : ∀ (n j : Nat), j ≤ 4 → 4 - j < n → f_X6_inStep_L19 N n v (csum (σ.1 33) (σ.1 34) (σ.1 35) v.toInt j) (nI j) σ = some (csum (σ.1 33) (σ.1 34) (σ.1 35) v.toInt 4, σ) := by
  intro n
  induction n with
  | zero => intro j h1 h2; omega
  | succ n ih =>
    intro j h1 h2
    unfold f_X6_inStep_L19
    by_cases hj : j = 4
    · subst hj
      rw [if_pos (by decide)]
    · rw [if_neg (lc_nle 4 (by omega) (by omega)), M_inStep σ (by omega), Option.bind_some, nI_1]
      have hin : fb_in (nI j) 4 = true := in_n (by omega) (by decide)
      have ih := ih (j + 1) (by omega) (by omega)
      unfold csum at ih
      by_cases c : (σ.1 33 j).toInt ≤ v.toInt ∧ v.toInt ≤ (σ.1 34 j).toInt
      · rw [if_pos c, if_neg z_1, ck_t hin, nm_e_, cl_n (by omega)]
        rw [if_pos c] at ih
        exact ih
      · rw [if_neg c, if_pos rfl, nm_e_]
        rw [if_neg c] at ih
        exact ih
theorem csum_c {lo st cr lo' st' cr' : Nat → Int32} (v : Int) : ∀ j, (∀ i, i < j → lo' i = lo i ∧ st' i = st i ∧ cr' i = cr i) → csum lo' st' cr' v j = csum lo st cr v j := by
  intro j
  induction j with
  | zero => intro _; rfl
  | succ j ih =>
    intro h
    obtain ⟨h2, h3, h4⟩ := h j (by omega)
    unfold csum
    rw [ih (fun i hi => h i (by omega)), h2, h3, h4]
theorem st_inStep (N : Nat) (hN : 40000 ≤ N) (σ : fb_S) (hR : Rl σ) (a1 : Int32) : ∃ r σ2, f_X5_inStep N a1 σ = some r ∧ f_X6_inStep N a1 σ = some (r, σ2) ∧ Rl σ2 := by
  unfold f_X5_inStep f_X6_inStep
  rw [X_isSway, nm_e_, M_noSway]
  have hk0 : Keep σ (fb_up σ 29 0 0) := Keep.up rfl Keep.rfl'
  by_cases c1 : 0 ≤ a1 ∧ a1 ≤ 9999
  · refine ⟨csum (σ.1 8) (σ.1 9) (σ.1 10) a1.toInt 4, fb_up σ 29 0 0, ?_, ?_, Rl_keep hk0 hR⟩
    · rw [if_pos c1, Option.bind_some, if_neg z_1]
      unfold f_X4_countInStep
      have e : f_X4_countInStep_L4 N σ N a1 0 0 = some (csum (σ.1 8) (σ.1 9) (σ.1 10) a1.toInt 4) := X_cis N σ a1 N 0 (by omega) (by omega)
      rw [e, Option.bind_some]
    · rw [if_pos c1, Option.bind_some, if_pos rfl]
      have e : f_X6_inStep_L19 N N a1 0 0 (fb_up σ 29 0 0) = _ := M_cis N (fb_up σ 29 0 0) a1 N 0 (by omega) (by omega)
      rw [e]
      congr 2
      refine csum_c _ 4 (fun i hi => ?_)
      have h := hR.2.1 i hi
      exact ⟨by rw [hk0 33 i rfl]; exact h.2.1.1, by rw [hk0 34 i rfl]; exact h.2.2.1.1, by rw [hk0 35 i rfl]; exact h.2.2.2.1⟩
  · refine ⟨-2, fb_up σ 29 0 0, ?_, ?_, Rl_keep hk0 hR⟩
    · rw [if_neg c1]; rfl
    · rw [if_neg c1]; rfl
/-- the sway, one beat on -/
def spx (σ : fb_S) (d : Int) : Nat → Nat := stp (σ.1 7) (σ.1 8) (σ.1 9) (σ.1 10) d
theorem itr_fix {f : Nat → Nat} {v : Nat} (h : f v = v) : ∀ n, itr f n v = v := by
  intro n
  induction n with
  | zero => rfl
  | succ n ih => unfold itr; rw [h]; exact ih
theorem itr_le {f : Nat → Nat} (h : ∀ v, f v ≤ 9999) : ∀ n v, v ≤ 9999 → itr f n v ≤ 9999 := by
  intro n
  induction n with
  | zero => intro v hv; exact hv
  | succ n ih => intro v _; exact ih (f v) (h v)
theorem itr_s (f : Nat → Nat) : ∀ n v, itr f (n + 1) v = f (itr f n v) := by
  intro n
  induction n with
  | zero => intro v; rfl
  | succ n ih => intro v; show itr f (n + 1) (f v) = _; rw [ih (f v)]; rfl
theorem itr_add (f : Nat → Nat) : ∀ a b v, itr f (a + b) v = itr f b (itr f a v) := by
  intro a
  induction a with
  | zero => intro b v; rw [Nat.zero_add]; rfl
  | succ a ih => intro b v; rw [show a + 1 + b = (a + b) + 1 by omega]; show itr f (a + b) (f v) = _; rw [ih b (f v)]; rfl
theorem X_behind (N : Nat) (hN : 40000 ≤ N) (σ : fb_S) (h : Wr (σ.1 7) (σ.1 8) (σ.1 9) (σ.1 10)) {d : Int} (h1 : 0 ≤ d) (h2 : d ≤ 6000) {k : Nat} (hk : k ≤ 20000) : ∀ (n i v : Nat), i ≤ k → k - i < n → v ≤ 9999 → f_X4_swayBehind_L6 N σ n (nI k) (iI d) (nI v) (nI i) = some (nI (itr (spx σ d) (k - i) v)) := by
  intro n
  induction n with
  | zero => intro i v h1 h2; omega
  | succ n ih =>
    intro i v hi hn hv
    unfold f_X4_swayBehind_L6
    by_cases e : i = k
    · rw [if_pos (nI_le (by omega) (by omega)), e, Nat.sub_self]; rfl
    · rw [if_neg (nI_ge (by omega) (by omega)), X_beatFrom N hN σ h h1 h2 hv, Option.bind_some, nI_1]
      have hle := stp_le (σ.1 7) (σ.1 8) (σ.1 9) (σ.1 10) d v
      have es : itr (spx σ d) (k - i) v = itr (spx σ d) (k - (i + 1)) (spx σ d v) := by rw [show k - i = (k - (i + 1)) + 1 by omega]; rfl
      by_cases c : nI (stp (σ.1 7) (σ.1 8) (σ.1 9) (σ.1 10) d v) = nI v
      · rw [if_pos c]
        have c1 : stp (σ.1 7) (σ.1 8) (σ.1 9) (σ.1 10) d v = v := (nI_eq (by omega) (by omega)).mp c
        have c' : spx σ d v = v := c1
        rw [itr_fix c', c]
      · rw [if_neg c, es]
        exact ih (i + 1) _ (by omega) (by omega) hle
theorem M_beatsL (N : Nat) (hN : 40000 ≤ N) {pu lo st cr : Nat → Int32} {d : Int} {τ : fb_S} (hm : Md pu lo st cr d τ) (h : Wr pu lo st cr) (h1 : 0 ≤ d) (h2 : d ≤ 6000) {k : Nat} (hk : k ≤ 20000) : ∀ (n i v : Nat), i ≤ k → k - i < n → v ≤ 9999 → f_X6_beats_L36 N n (nI k) (nI v) (nI i) τ = some (nI (itr (stp pu lo st cr d) (k - i) v), τ) := by
  intro n
  induction n with
  | zero => intro i v h1 h2; omega
  | succ n ih =>
    intro i v hi hn hv
    unfold f_X6_beats_L36
    by_cases e : i = k
    · rw [if_pos (nI_le (by omega) (by omega)), e, Nat.sub_self]; rfl
    · rw [if_neg (nI_ge (by omega) (by omega)), M_beat N hN hm h h1 h2 hv, Option.bind_some, nI_1]
      have es : itr (stp pu lo st cr d) (k - i) v = itr (stp pu lo st cr d) (k - (i + 1)) (stp pu lo st cr d v) := by rw [show k - i = (k - (i + 1)) + 1 by omega]; rfl
      rw [es]
      exact ih (i + 1) _ (by omega) (by omega) (stp_le _ _ _ _ _ _)
theorem st_beats (N : Nat) (hN : 40000 ≤ N) (σ : fb_S) (hR : Rl σ) (a1 : Int32) (a2 : Int32) : ∃ r σ2, f_X5_beats N a1 a2 σ = some r ∧ f_X6_beats N a1 a2 σ = some (r, σ2) ∧ Rl σ2 := by
  unfold f_X5_beats f_X6_beats
  rw [X_isSway, nm_e_, M_noSway, X_within, M_in2 a2 0 10000 (by decide) (by decide)]
  have hk0 : Keep σ (fb_up σ 29 0 0) := Keep.up rfl Keep.rfl'
  by_cases c1 : 0 ≤ a1 ∧ a1 ≤ 9999
  · by_cases c2 : 0 ≤ a2 ∧ a2 ≤ 10000
    · obtain ⟨v, hv, rfl⟩ := sway_n c1
      obtain ⟨k, hk, rfl⟩ := ex_n (c := 10000) (by decide) c2.1 c2.2
      obtain ⟨τ, e1, e2, e3, -⟩ := M_asIs N hN hR hk0
      have hd := dmp_b σ hR
      refine ⟨nI (itr (spx σ (dmp σ)) k v), τ, ?_, ?_, Rl_keep e2 hR⟩
      · rw [if_pos c1, Option.bind_some, if_neg z_1, if_pos c2, Option.bind_some, if_neg z_1, X_damping N hN σ hR, Option.bind_some]
        unfold f_X4_swayBehind
        have e : f_X4_swayBehind_L6 N σ N (nI k) (iI (dmp σ)) (nI v) 0 = _ := X_behind N hN σ (Wr_of hR) (by omega) (by omega) (show k ≤ 20000 by omega) N 0 v (by omega) (by omega) hv
        rw [e, Option.bind_some]; rfl
      · rw [if_pos c1, Option.bind_some, if_pos rfl, if_pos c2, Option.bind_some, if_neg z_1, e1, Option.bind_some]
        exact M_beatsL N hN e3 (Wr_of hR) (by omega) (by omega) (show k ≤ 20000 by omega) N 0 v (by omega) (by omega) hv
    · refine ⟨-2, fb_up σ 29 0 0, ?_, ?_, Rl_keep hk0 hR⟩
      · rw [if_pos c1, if_neg c2]; rfl
      · rw [if_pos c1, if_neg c2]; rfl
  · refine ⟨-2, fb_up σ 29 0 0, ?_, ?_, Rl_keep hk0 hR⟩
    · rw [if_neg c1]; rfl
    · rw [if_neg c1]; rfl
