/-! till it is still -/
def E64 (σ τ : fb_S) : Prop := ∀ k j, ¬ (k = 6 ∧ j = 4) → τ.1 k j = σ.1 k j
theorem E64.row {σ τ : fb_S} (h : E64 σ τ) {k : Nat} (hk : k ≠ 6) : τ.1 k = σ.1 k := funext fun j => h k j (fun q => hk q.1)
theorem E64.keep {σ τ : fb_S} (h : E64 σ τ) : Keep σ τ := fun k j hs => h k j (fun q => by obtain ⟨rfl, rfl⟩ := q; cases hs)
theorem X_bf (N : Nat) (hN : 40000 ≤ N) {σ τ : fb_S} (he : E64 σ τ) (h : Wr (σ.1 7) (σ.1 8) (σ.1 9) (σ.1 10)) {d : Int} (h1 : 0 ≤ d) (h2 : d ≤ 6000) {v : Nat} (hv : v ≤ 9999) : f_X4_beatFrom N (nI v) (iI d) τ = some (nI (spx σ d v)) := by
  have e7 := he.row (k := 7) (by decide)
  have e8 := he.row (k := 8) (by decide)
  have e9 := he.row (k := 9) (by decide)
  have e10 := he.row (k := 10) (by decide)
  rw [X_beatFrom N hN τ (by rw [e7, e8, e9, e10]; exact h) h1 h2 hv, e7, e8, e9, e10]
  rfl
def pow2 (m : Nat) : Prop := m = 0 ∨ m = 1 ∨ m = 2 ∨ m = 4 ∨ m = 8 ∨ m = 16 ∨ m = 32 ∨ m = 64 ∨ m = 128 ∨ m = 256 ∨ m = 512 ∨ m = 1024 ∨ m = 2048 ∨ m = 4096 ∨ m = 8192 ∨ m = 16384
theorem spx_le (σ : fb_S) (d : Int) (v : Nat) : spx σ d v ≤ 9999 := stp_le _ _ _ _ _ _
theorem spx_0 (σ : fb_S) (d : Int) : spx σ d 0 = 0 := stp_0 _ _ _ _ _
/-- the answer, and the sway that is kept -/
def StillQ (σ : fb_S) (f : Nat → Nat) (v T : Nat) (o : Option (Int32 × fb_S)) : Prop := ∃ τ, o = some (if itr f T v = 0 then nI T else -9, τ) ∧ E64 σ τ ∧ (itr f T v ≠ 0 → ∃ m c, 0 < c ∧ itr f (m + c) v = itr f m v ∧ τ.1 6 4 = nI (itr f m v))
theorem X_stillL (N : Nat) (hN : 40000 ≤ N) (σ : fb_S) (h : Wr (σ.1 7) (σ.1 8) (σ.1 9) (σ.1 10)) {d : Int} (h1 : 0 ≤ d) (h2 : d ≤ 6000) {v T K : Nat} (hv : v ≤ 9999) (hr : Rho (spx σ d) v T K) : ∀ (n b m p : Nat) (τ : fb_S), 30000 - b < n → b ≤ 30000 → E64 σ τ → τ.1 6 4 = nI (itr (spx σ d) m v) → m ≤ b → b ≤ p → pow2 m → (m = 0 → p = 1) → (m ≠ 0 → p = 2 * m) → (m = 16384 → b < 16384 + (K - T)) → (itr (spx σ d) T v = 0 → b ≤ T) →
    StillQ σ (spx σ d) v T (f_X4_beatsTillStill_L13 N n (iI d) (nI (itr (spx σ d) b v)) (nI p) (nI b) τ) := by
  have hTK := hr.1
  have hK := hr.2.1
  intro n
  induction n with
  | zero => intro b m p τ h1 h2; omega
  | succ n ih =>
    intro b m p τ hn hb he h64 hmb hbp hpw hp0 hp1 hD hZ
    unfold f_X4_beatsTillStill_L13
    have hat := itr_le (spx_le σ d) b v hv
    by_cases cb : b = 30000
    · exfalso
      unfold pow2 at hpw
      omega
    rw [if_neg (lc_nle 30000 (by omega) (by omega))]
    by_cases c0 : itr (spx σ d) b v = 0
    · rw [if_pos (by rw [c0]; rfl)]
      have hT0 : itr (spx σ d) T v = 0 := Classical.byContradiction fun hn => rho_zero hr (spx_0 σ d) hn b c0
      have hbT : b = T := hr.2.2.2 b T (by have := hZ hT0; omega) hTK (c0.trans hT0.symm)
      exact ⟨τ, by rw [if_pos hT0, hbT], he, fun q => absurd hT0 q⟩
    · have hne0 : ¬ nI (itr (spx σ d) b v) = 0 := fun q => c0 ((nI_eq (b := 0) (by omega) (by decide)).mp q)
      rw [if_neg hne0]
      have hbT : itr (spx σ d) T v = 0 → b < T := fun q => by
        have := hZ q
        have : b ≠ T := fun e => c0 (by rw [e]; exact q)
        omega
      -- the beat, and what is kept
      have step : ∀ (m' p' : Nat) (τ' : fb_S), E64 σ τ' → τ'.1 6 4 = nI (itr (spx σ d) m' v) → m' ≤ b → b + 1 ≤ p' → pow2 m' → (m' = 0 → p' = 1) → (m' ≠ 0 → p' = 2 * m') → (m' = 16384 → b < 16384 + (K - T)) → StillQ σ (spx σ d) v T (f_X4_beatsTillStill_L46 N (f_X4_beatsTillStill_L13 N n) (iI d) (nI (itr (spx σ d) b v)) (nI p') (nI b) τ') := by
        intro m' p' τ' he' h64' hmb' hbp' hpw' hp0' hp1' hD'
        unfold f_X4_beatsTillStill_L46
        rw [X_bf N hN he' h h1 h2 hat, Option.bind_some, h64', nI_1, ← itr_s (spx σ d) b v]
        have hat1 := itr_le (spx_le σ d) (b + 1) v hv
        have hatm := itr_le (spx_le σ d) m' v hv
        by_cases ck : itr (spx σ d) (b + 1) v = itr (spx σ d) m' v
        · rw [if_pos (by rw [ck])]
          have e1 : itr (spx σ d) (m' + (b + 1 - m')) v = itr (spx σ d) m' v := by rw [show m' + (b + 1 - m') = b + 1 by omega]; exact ck
          have hTm := rho_in hr (show 0 < b + 1 - m' by omega) e1
          have hT0 : ¬ itr (spx σ d) T v = 0 := fun q => by have := hbT q; omega
          exact ⟨τ', by rw [if_neg hT0], he', fun _ => ⟨m', b + 1 - m', by omega, e1, h64'⟩⟩
        · rw [if_neg (fun q => ck ((nI_eq (by omega) (by omega)).mp q))]
          refine ih (b + 1) m' p' τ' (by omega) (by omega) he' h64' (by omega) hbp' hpw' hp0' hp1' (fun e => ?_) (fun q => by have := hbT q; omega)
          have hd := hD' e
          have : b + 1 ≠ 16384 + (K - T) := fun e2 => ck (by
            rw [e, e2]
            exact rho_per hr (by omega))
          omega
      by_cases cp : b = p
      · rw [if_pos (by rw [cp]), nm_e_, nm_e_]
        have e2 : nI p * 2 = nI (p * 2) := pk_mul p 2
        rw [e2]
        refine step p (p * 2) _ (fun k j hkj => by rw [up_ne _ _ hkj]; exact he k j hkj) (by rw [up_eq, cp]) (by omega) (by unfold pow2 at hpw; omega) ?_ (fun e => ?_) (fun e => by omega) (fun e => by omega)
        · unfold pow2 at hpw ⊢; omega
        · unfold pow2 at hpw; omega
      · rw [if_neg (fun q => cp ((nI_eq (by omega) (by unfold pow2 at hpw; omega)).mp q))]
        exact step m p τ he h64 hmb (by omega) hpw hp0 hp1 hD
theorem X_still (N : Nat) (hN : 40000 ≤ N) (σ : fb_S) (h : Wr (σ.1 7) (σ.1 8) (σ.1 9) (σ.1 10)) {d : Int} (h1 : 0 ≤ d) (h2 : d ≤ 6000) {v T K : Nat} (hv : v ≤ 9999) (hr : Rho (spx σ d) v T K) : StillQ σ (spx σ d) v T (f_X4_beatsTillStill N (nI v) (iI d) σ) := by
  unfold f_X4_beatsTillStill
  rw [nm_e_]
  have hTK := hr.1
  exact X_stillL N hN σ h h1 h2 hv hr N 0 0 1 _ (by omega) (by omega) (fun k j hkj => up_ne _ _ hkj) (up_eq _ _ _ _) (by omega) (by omega) (Or.inl rfl) (fun _ => rfl) (fun e => absurd rfl e) (fun e => by omega) (fun _ => by omega)
/-! the reference's visits -/
def Eg (σ τ : fb_S) : Prop := ∀ k j, k ≠ 42 → ¬ (k = 29 ∧ (j = 18 ∨ j = 19 ∨ j = 20)) → τ.1 k j = σ.1 k j
theorem Eg.keep {σ τ : fb_S} (h : Eg σ τ) : Keep σ τ := fun k j hs => h k j (fun q => by subst q; cases hs) (fun q => by obtain ⟨rfl, rfl | rfl | rfl⟩ := q <;> cases hs)
theorem Md_c {pu lo st cr : Nat → Int32} {d : Int} {σ τ : fb_S} (h : ∀ k j, (k = 32 ∨ k = 33 ∨ k = 34 ∨ k = 36 ∨ (k = 37 ∧ j = 0) ∨ (k = 29 ∧ j = 9)) → τ.1 k j = σ.1 k j) (hm : Md pu lo st cr d σ) : Md pu lo st cr d τ := by
  refine ⟨fun j hj => ?_, ?_⟩
  · have := hm.1 j hj
    rw [h 32 j (by omega), h 33 j (by omega), h 34 j (by omega), h 36 j (by omega)]
    exact this
  · rw [h 37 0 (by omega), h 29 9 (by omega)]
    exact hm.2
theorem m9n {i : Nat} (h : i < 2147483648) : ¬ nI i = (-9 : Int32) := by
  intro e
  have := congrArg Int32.toInt e
  rw [t_n h, t_m9] at this
  omega
theorem M_goOn27 (N : Nat) (hN : 40000 ≤ N) {pu lo st cr : Nat → Int32} {d : Int} (hW : Wr pu lo st cr) (h1 : 0 ≤ d) (h2 : d ≤ 6000) {v T K : Nat} (hv : v ≤ 9999) (hr : Rho (stp pu lo st cr d) v T K) (σ : fb_S) (hm : Md pu lo st cr d σ) : ∀ (n k : Nat) (τ : fb_S), K - k < n → k ≤ K → Eg σ τ → (∀ i, i < k → τ.1 42 (itr (stp pu lo st cr d) i v) = nI i) → (∀ x, x ≤ 9999 → (∀ i, i < k → itr (stp pu lo st cr d) i v ≠ x) → τ.1 42 x = -9) →
    ∃ τ', f_X6_goOn_L27 N n (nI (itr (stp pu lo st cr d) k v)) (nI k) τ = some τ' ∧ Eg σ τ' ∧ τ'.1 29 18 = nI T ∧ τ'.1 29 19 = nI (K - T) ∧ τ'.1 29 20 = nI (itr (stp pu lo st cr d) T v) := by
  have hTK := hr.1
  have hK := hr.2.1
  generalize hf : stp pu lo st cr d = f at *
  have fle : ∀ x, f x ≤ 9999 := fun x => by rw [← hf]; exact stp_le _ _ _ _ _ _
  intro n
  induction n with
  | zero => intro k τ h1 h2; omega
  | succ n ih =>
    intro k τ hn hk he hvis hun
    unfold f_X6_goOn_L27
    have hat := itr_le fle k v hv
    have hin : fb_in (nI (itr f k v)) 10000 = true := in_n (by omega) (by decide)
    rw [ck_t hin, ck_t hin, ck_t hin, cl_n (by omega)]
    by_cases ck : k = K
    · have e : itr f k v = itr f T v := by rw [ck]; exact hr.2.2.1
      rw [e, hvis T (by omega), if_neg (m9n (by omega)), nm_e_, nm_e_, nm_e_]
      refine ⟨_, rfl, fun a b ha hb => ?_, ?_, ?_, ?_⟩
      · rw [up_ne _ _ (by omega), up_ne _ _ (by omega), up_ne _ _ (by omega)]; exact he a b ha hb
      · simp [up_at]
      · simp only [up_at]
        simp
        rw [ck, pk_sub (by omega)]
      · simp [up_at]
    · have hnew : τ.1 42 (itr f k v) = -9 := hun _ hat (fun i hi e => by have := hr.2.2.2 i k (by omega) (by omega) e; omega)
      rw [if_pos hnew, nm_e_]
      have he' : Eg σ (fb_up τ 42 (itr f k v) (nI k)) := fun a b ha hb => by rw [up_ne _ _ (by omega)]; exact he a b ha hb
      have hm' : Md pu lo st cr d (fb_up τ 42 (itr f k v) (nI k)) := Md_c (fun a b hab => he' a b (by omega) (by omega)) hm
      rw [M_beat N hN hm' hW h1 h2 hat, Option.bind_some, nI_1, hf, ← itr_s f k v]
      refine ih (k + 1) _ (by omega) (by omega) he' (fun i hi => ?_) (fun x hx hno => ?_)
      · rw [up_at]
        by_cases e : i = k
        · rw [if_pos ⟨rfl, by rw [e]⟩, e]
        · rw [if_neg (fun q => by have := hr.2.2.2 i k (by omega) (by omega) q.2; omega)]
          exact hvis i (by omega)
      · rw [up_ne _ _ (fun q => hno k (by omega) q.2.symm)]
        exact hun x hx (fun i hi => hno i (by omega))
theorem M_goOn2 (N : Nat) (a : Int32) : ∀ (n j : Nat) (τ : fb_S), 10000 - j < n → j ≤ 10000 → ∃ τ', f_X6_goOn_L2 N n a (nI j) τ = f_X6_goOn_L27 N N a 0 τ' ∧ ∀ k i, τ'.1 k i = if k = 42 ∧ j ≤ i ∧ i < 10000 then -9 else τ.1 k i := by
  intro n
  induction n with
  | zero => intro j τ h1 h2; omega
  | succ n ih =>
    intro j τ h1 h2
    unfold f_X6_goOn_L2
    by_cases hj : j = 10000
    · rw [if_pos (by rw [hj]; decide)]
      exact ⟨τ, rfl, fun k i => by rw [if_neg (by omega)]⟩
    · rw [if_neg (lc_nle 10000 (by omega) (by omega)), ck_t (in_n (by omega) (by decide)), nm_e_, nI_1, cl_n (by omega)]
      obtain ⟨τ', e1, e2⟩ := ih (j + 1) (fb_up τ 42 j (-9)) (by omega) (by omega)
      refine ⟨τ', e1, fun k i => ?_⟩
      rw [e2, up_at]
      by_cases c1 : k = 42 ∧ j + 1 ≤ i ∧ i < 10000
      · rw [if_pos c1, if_pos ⟨c1.1, by omega, c1.2.2⟩]
      · rw [if_neg c1]
        by_cases c2 : k = 42 ∧ i = j
        · rw [if_pos c2, if_pos ⟨c2.1, by omega, by omega⟩]
        · rw [if_neg c2, if_neg (fun q => by omega)]
theorem M_goOn (N : Nat) (hN : 40000 ≤ N) {pu lo st cr : Nat → Int32} {d : Int} (hW : Wr pu lo st cr) (h1 : 0 ≤ d) (h2 : d ≤ 6000) {v T K : Nat} (hv : v ≤ 9999) (hr : Rho (stp pu lo st cr d) v T K) (σ : fb_S) (hm : Md pu lo st cr d σ) : ∃ τ', f_X6_goOn N (nI v) σ = some τ' ∧ Eg σ τ' ∧ τ'.1 29 18 = nI T ∧ τ'.1 29 19 = nI (K - T) ∧ τ'.1 29 20 = nI (itr (stp pu lo st cr d) T v) := by
  unfold f_X6_goOn
  obtain ⟨τ, e1, e2⟩ := M_goOn2 N (nI v) N 0 σ (by omega) (by omega)
  have e1' : f_X6_goOn_L2 N N (nI v) 0 σ = f_X6_goOn_L27 N N (nI v) 0 τ := e1
  rw [e1']
  have he : Eg σ τ := fun k j hk _ => by rw [e2, if_neg (fun q => hk q.1)]
  have hK := hr.2.1
  exact M_goOn27 N hN hW h1 h2 hv hr σ hm N 0 τ (by omega) (by omega) he (fun i hi => by omega) (fun x hx _ => by rw [e2, if_pos ⟨rfl, by omega, by omega⟩])
theorem n0 {i : Nat} (h : i < 2147483648) : nI i = 0 ↔ i = 0 := nI_eq (b := 0) (by omega) (by decide)
theorem st_settles (N : Nat) (hN : 40000 ≤ N) (σ : fb_S) (hR : Rl σ) (a1 : Int32) : ∃ r σ1 σ2, f_X5_settles N a1 σ = some (r, σ1) ∧ f_X6_settles N a1 σ1 = some (r, σ2) ∧ Rl σ2 := by
  unfold f_X5_settles f_X6_settles
  rw [X_isSway]
  by_cases c1 : 0 ≤ a1 ∧ a1 ≤ 9999
  · obtain ⟨v, hv, rfl⟩ := sway_n c1
    have hd := dmp_b σ hR
    obtain ⟨T, K, hr⟩ := rho_of (spx_le σ (dmp σ)) hv
    obtain ⟨τ, e1, e2, -⟩ := X_still N hN σ (Wr_of hR) (by omega) (by omega) hv hr
    have hk0 : Keep σ (fb_up τ 29 0 0) := Keep.up rfl e2.keep
    obtain ⟨τ1, g1, g2, g3, -⟩ := M_asIs N hN hR hk0
    obtain ⟨τ2, q1, q2, q3, q4, q5⟩ := M_goOn N hN (Wr_of hR) (by omega) (by omega) hv hr τ1 g3
    have hle : itr (spx σ (dmp σ)) T v ≤ 9999 := itr_le (spx_le σ (dmp σ)) T v hv
    have q5 : τ2.1 29 20 = nI (itr (spx σ (dmp σ)) T v) := q5
    refine ⟨if itr (spx σ (dmp σ)) T v = 0 then nI T else -9, τ, τ2, ?_, ?_, Rl_keep (g2.tr q2.keep) hR⟩
    · rw [if_pos c1, Option.bind_some, if_neg z_1, X_damping N hN σ hR, Option.bind_some, e1, Option.bind_some]
    · rw [nm_e_, M_noSway, if_pos c1, Option.bind_some, if_pos rfl, g1, Option.bind_some, q1, Option.bind_some, q5, q3]
      by_cases c : itr (spx σ (dmp σ)) T v = 0
      · rw [if_pos (by rw [c]; rfl), if_pos c]
      · rw [if_neg (fun q => c ((n0 (by omega)).mp q)), if_neg c]
  · rw [if_neg c1]
    refine ⟨-2, σ, fb_up σ 29 0 0, rfl, ?_, Rl_keep (Keep.up rfl Keep.rfl') hR⟩
    rw [nm_e_, M_noSway, if_neg c1]
    rfl
