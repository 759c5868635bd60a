/-! the reference lives a day -/
theorem M_goL (N : Nat) (k87 : Int32 → Int32 → Int32 → Int32 → fb_S → Option fb_S) (v1 v2 v4 : Int32) {l h f : Nat} (hl : l < 8) (hh : h ≤ 99) (hf : f ≤ 99) : ∀ (n i : Nat) (τ : fb_S) (o : Nat → Nat), i ≤ l → i < n → (∀ j, j < 8 → o j ≤ h) → τ.1 43 1 = nI h → τ.1 43 2 = nI f → Row τ 45 8 o → ∃ τ', f_X6_live_L112 N k87 n v1 v2 (nI l) v4 (nI i - 1) τ = f_X6_live_L112 N k87 1 v1 v2 (nI l) v4 (-1) τ' ∧ Row τ' 45 8 (mvs h f i o) ∧ ∀ k j, k ≠ 45 → τ'.1 k j = τ.1 k j := by
  intro n
  induction n with
  | zero => intro i τ o h1 h2; omega
  | succ n ih =>
    intro i τ o hi hn ho e1 e2 hr
    cases i with
    | zero =>
      refine ⟨τ, ?_, hr, fun _ _ _ => rfl⟩
      have e : nI 0 - 1 = (-1 : Int32) := by decide
      rw [e]
      unfold f_X6_live_L112
      rw [if_pos (by decide), if_pos (by decide)]
    | succ i =>
      have hin : fb_in (nI i) 8 = true := in_n (by omega) (by decide)
      have hin1 : fb_in (nI (i + 1)) 8 = true := in_n (by omega) (by decide)
      have a1 := ho i (by omega)
      have a2 := ho (i + 1) (by omega)
      have hne : ¬ nI i = nI l := fun q => by have := (nI_eq (by omega) (by omega)).mp q; omega
      have hs : nI i + (-1) = nI i - 1 := (Int32.sub_eq_add_neg _ _).symm
      have key : ∀ r, r = h - o (i + 1) → f_X6_live_L187 N k87 (f_X6_live_L112 N k87 n) v1 v2 (nI l) v4 (nI i) (nI (min (o i) f)) (nI r) τ = f_X6_live_L112 N k87 n v1 v2 (nI l) v4 (nI i - 1) (fb_up (fb_up τ 45 i (nI (o i - min (min (o i) f) (h - o (i + 1))))) 45 (i + 1) (nI (o (i + 1) + min (min (o i) f) (h - o (i + 1))))) := by
        intro r hrr
        subst hrr
        unfold f_X6_live_L187 f_X6_live_L190
        rw [M_lesser (by omega) (by omega), Option.bind_some, ck_t hin, ck_t hin, nm_e_, if_neg hne, nI_1, ck_t hin1, ck_t hin1, nm_e_, cl_n (by omega), cl_n (by omega), up_ne _ _ (by omega : ¬ (45 = 45 ∧ i + 1 = i)), hr i (by omega), hr (i + 1) (by omega), nI_sub (by omega), nI_add, hs]
      have step : f_X6_live_L112 N k87 (n + 1) v1 v2 (nI l) v4 (nI i) τ = f_X6_live_L112 N k87 n v1 v2 (nI l) v4 (nI i - 1) (fb_up (fb_up τ 45 i (nI (o i - min (min (o i) f) (h - o (i + 1))))) 45 (i + 1) (nI (o (i + 1) + min (min (o i) f) (h - o (i + 1))))) := by
        rw [f_X6_live_L112, if_neg (nlt0 (by omega)), ck_t hin, cl_n (by omega), hr i (by omega), e2, M_lesser (by omega) (by omega), Option.bind_some, if_neg hne, nI_1, ck_t hin1, ck_t hin1, cl_n (by omega), hr (i + 1) (by omega), e1, nI_sub a2]
        by_cases c : h - o (i + 1) = 0
        · rw [if_pos (by rw [c]; decide)]
          exact key 0 c.symm
        · rw [if_neg (lc_nle_z (by omega) (by omega))]
          exact key _ rfl
      rw [nI_pred, step]
      obtain ⟨τ', q1, q2, q3⟩ := ih i (fb_up (fb_up τ 45 i (nI (o i - min (min (o i) f) (h - o (i + 1))))) 45 (i + 1) (nI (o (i + 1) + min (min (o i) f) (h - o (i + 1))))) (mv1 h f i o) (by omega) (by omega) (mv1_le ho (by omega)) (by rw [up_ne _ _ (by omega), up_ne _ _ (by omega)]; exact e1) (by rw [up_ne _ _ (by omega), up_ne _ _ (by omega)]; exact e2) (Row_up (Row_up hr i _) (i + 1) _)
      refine ⟨τ', q1, q2, fun k j hk => ?_⟩
      rw [q3 k j hk, up_ne _ _ (fun q => hk q.1), up_ne _ _ (fun q => hk q.1)]
theorem M_go (N : Nat) (hN : 40000 ≤ N) (k87 : Int32 → Int32 → Int32 → Int32 → fb_S → Option fb_S) (v1 v2 v4 : Int32) {P : Dp} (hP : Pq P) {s : Dy} {t : Nat} (hI : Dinv P s t) (ht : t ≤ 60) {τ : fb_S} (e1 : τ.1 43 1 = nI (P.1 1)) (e2 : τ.1 43 2 = nI (P.1 2)) (hr : Row τ 45 8 s.1) (e4 : τ.1 29 25 = nI s.2.2.1) : ∃ τ', f_X6_live_L112 N k87 N v1 v2 (nI (P.1 0 - 1)) v4 (nI (P.1 0 - 1)) τ = f_X6_live_L112 N k87 1 v1 v2 (nI (P.1 0 - 1)) v4 (-1) τ' ∧ Row τ' 45 8 (pon P s) ∧ τ'.1 29 25 = nI (pov P s) ∧ ∀ k j, k ≠ 45 → ¬ (k = 29 ∧ j = 25) → τ'.1 k j = τ.1 k j := by
  obtain ⟨p1, p2, p3, p4⟩ := id hP
  obtain ⟨N', rfl⟩ : ∃ N', N = N' + 1 := ⟨N - 1, by omega⟩
  have hin : fb_in (nI (P.1 0 - 1)) 8 = true := in_n (by omega) (by decide)
  have a1 := hI.1 (P.1 0 - 1) (by omega)
  have a2 := hI.2.2.1
  have hs : nI (P.1 0 - 1) + (-1) = nI (P.1 0 - 1) - 1 := (Int32.sub_eq_add_neg _ _).symm
  have step : f_X6_live_L112 (N' + 1) k87 (N' + 1) v1 v2 (nI (P.1 0 - 1)) v4 (nI (P.1 0 - 1)) τ = f_X6_live_L112 (N' + 1) k87 N' v1 v2 (nI (P.1 0 - 1)) v4 (nI (P.1 0 - 1) - 1) (fb_up (fb_up τ 45 (P.1 0 - 1) (nI (s.1 (P.1 0 - 1) - min (s.1 (P.1 0 - 1)) (P.1 2)))) 29 25 (nI (s.2.2.1 + min (s.1 (P.1 0 - 1)) (P.1 2)))) := by
    rw [f_X6_live_L112, if_neg (nlt0 (by omega)), ck_t hin, cl_n (by omega), hr _ (by omega), e2, M_lesser (by omega) (by omega), Option.bind_some, if_pos rfl]
    unfold f_X6_live_L190
    rw [ck_t hin, ck_t hin, nm_e_, if_pos rfl, nm_e_, cl_n (by omega), up_ne _ _ (by omega : ¬ (29 = 45 ∧ 25 = P.1 0 - 1)), hr _ (by omega), e4, nI_sub (by omega), nI_add, hs]
  obtain ⟨τ', q1, q2, q3⟩ := M_goL (N' + 1) k87 v1 v2 v4 (l := P.1 0 - 1) (by omega) p2.2 p3.2 N' (P.1 0 - 1) (fb_up (fb_up τ 45 (P.1 0 - 1) (nI (s.1 (P.1 0 - 1) - min (s.1 (P.1 0 - 1)) (P.1 2)))) 29 25 (nI (s.2.2.1 + min (s.1 (P.1 0 - 1)) (P.1 2)))) (outs (P.1 2) (P.1 0 - 1) s.1) (Nat.le_refl _) (by omega) (outs_le hI.1) (by rw [up_ne _ _ (by omega), up_ne _ _ (by omega)]; exact e1) (by rw [up_ne _ _ (by omega), up_ne _ _ (by omega)]; exact e2) (Row_ne (Row_up hr _ _) (by decide) _ _)
  refine ⟨τ', by rw [step, q1], q2, ?_, fun k j hk hj => ?_⟩
  · rw [q3 29 25 (by decide), up_eq]; rfl
  · rw [q3 k j hk, up_ne _ _ hj, up_ne _ _ (fun q => hk q.1)]
theorem M_onB (N : Nat) (τ : fb_S) {p : Nat} {o : Nat → Nat} (hp : p ≤ 8) (e0 : τ.1 43 0 = nI p) (hr : Row τ 45 8 o) : ∀ (n j : Nat), j ≤ p → p - j < n → f_X6_onBridge_L4 N τ n (nI (osum o j)) (nI j) = some (nI (osum o p)) := by
  intro n
  induction n with
  | zero => intro j h1 h2; omega
  | succ n ih =>
    intro j h1 h2
    unfold f_X6_onBridge_L4
    rw [e0]
    by_cases c : j = p
    · rw [if_pos (nI_le (by omega) (by omega)), c]
    · rw [if_neg (nI_ge (by omega) (by omega)), ck_t (in_n (by omega) (by decide)), nm_e_, cl_n (by omega), hr j (by omega), nI_add, nI_1]
      exact ih (j + 1) (by omega) (by omega)
theorem M_onBridge (N : Nat) (hN : 40000 ≤ N) {τ : fb_S} {p : Nat} {o : Nat → Nat} (hp : p ≤ 8) (e0 : τ.1 43 0 = nI p) (hr : Row τ 45 8 o) : f_X6_onBridge N τ = some (nI (osum o p)) := M_onB N τ hp e0 hr N 0 (by omega) (by omega)
theorem M_known (N : Nat) (hN : 40000 ≤ N) (k87 : Int32 → Int32 → Int32 → Int32 → fb_S → Option fb_S) (v1 v2 v3 : Int32) {P : Dp} (hP : Pq P) {s : Dy} {t : Nat} (ht : t < 60) {τ : fb_S} (e0 : τ.1 43 0 = nI (P.1 0)) (e5 : τ.1 43 5 = nI (P.1 5)) (h45 : Row τ 45 8 (pon P s)) (hr : Row τ 46 t s.2.1) : f_X6_live_L112 N k87 1 v1 v2 v3 (nI t) (-1) τ = f_X6_live_L287 N k87 v1 v2 v3 (nI t) (nI (knw P s t)) τ := by
  have p5 := hP.2.2.2.2.1
  have p0 := hP.1
  rw [f_X6_live_L112, if_pos (by decide), nm_e_, e5]
  unfold knw
  by_cases c : P.1 5 = 0
  · rw [if_pos (by rw [c]; rfl), if_pos c, M_onBridge N hN p0.2 e0 h45, Option.bind_some]
  · rw [if_neg (nI_ne0 (by omega) (by omega)), if_neg c]
    by_cases d : P.1 5 ≤ t
    · rw [nI_sub d, if_pos (le0 (by omega)), if_pos d, ck_t (in_n (by omega) (by decide)), cl_n (by omega), hr _ (by omega)]
    · have hx : ¬ (0 : Int32) ≤ nI t - nI (P.1 5) := by
        rw [iI_n, iI_n, iI_sub, show (0 : Int32) = iI 0 from rfl, iI_le (by omega) (by omega) (by omega) (by omega)]
        omega
      rw [if_neg hx, if_neg d]
      rfl
theorem M_let (N : Nat) (k87 : Int32 → Int32 → Int32 → Int32 → fb_S → Option fb_S) (v1 v3 v4 : Int32) {P : Dp} (hP : Pq P) {s : Dy} {t mk : Nat} (ht : t < 60) (hmk : mk ≤ 1000) (hI : Dinv P s t) {τ : fb_S} (e1 : τ.1 43 1 = nI (P.1 1)) (e3 : τ.1 43 3 = nI (P.1 3)) (e6 : τ.1 29 26 = nI (pqu P s t)) (h45 : Row τ 45 8 (pon P s)) : ∃ o' qu' τ', min1 P mk s t = fin1 P s t o' qu' ∧ (∀ j, j < 8 → o' j ≤ P.1 1) ∧ qu' ≤ pqu P s t ∧ f_X6_live_L287 N k87 v1 (nI mk) v3 v4 (nI (knw P s t)) τ = f_X6_live_L372 N k87 v1 (nI mk) v3 v4 τ' ∧ Row τ' 45 8 o' ∧ τ'.1 29 26 = nI qu' ∧ ∀ k j, k ≠ 45 → ¬ (k = 29 ∧ j = 26) → τ'.1 k j = τ.1 k j := by
  have hk := knw_le hP hI
  have hq : pqu P s t ≤ 99 * t + 99 := by
    have a := hI.2.2.2.1
    have b := hP.2.2.2.2.2.2.1 t ht
    unfold pqu
    omega
  have hq' : pqu P s t ≤ 6039 := by omega
  have h0 := pon_le hP hI.1 0 (by omega)
  have ph := hP.2.1
  have pl := hP.2.2.2.1
  have p0 := hP.1
  unfold f_X6_live_L287 min1
  by_cases c : knw P s t < mk
  · rw [if_pos c, if_neg (nI_ge c (by omega)), e1, h45 0 (by omega), nI_sub h0]
    have ee : ent P s t = min (min (pqu P s t) (P.1 3)) (P.1 1 - pon P s 0) := rfl
    refine ⟨_, _, fb_up (fb_up τ 29 26 (nI (pqu P s t - ent P s t))) 45 0 (nI (pon P s 0 + ent P s t)), rfl, ponL_le hP hI.1, Nat.sub_le _ _, ?_, ?_, ?_, fun k j hk hj => ?_⟩
    rotate_left
    · exact Row_up (Row_ne h45 (by decide) _ _) _ _
    · rw [up_ne _ _ (by omega), up_eq]
    · rw [up_ne _ _ (by omega), up_ne _ _ (by omega)]
    · have key : ∀ r, r = P.1 1 - pon P s 0 → f_X6_live_L328 N k87 v1 (nI mk) v3 v4 (nI r) τ = f_X6_live_L372 N k87 v1 (nI mk) v3 v4 (fb_up (fb_up τ 29 26 (nI (pqu P s t - ent P s t))) 45 0 (nI (pon P s 0 + ent P s t))) := by
        intro r hr
        subst hr
        unfold f_X6_live_L328
        rw [e6, e3, M_lesser (by omega) (by omega), Option.bind_some, M_lesser (by omega) (by omega), Option.bind_some, ← ee, nm_e_, nm_e_, nI_sub (by omega), up_ne _ _ (by omega : ¬ (45 = 29 ∧ 0 = 26)), h45 0 (by omega), nI_add]
      by_cases d : P.1 1 - pon P s 0 = 0
      · rw [if_pos (by rw [d]; decide)]
        exact key 0 d.symm
      · rw [if_neg (lc_nle_z (by omega) (by omega))]
        exact key _ rfl
  · rw [if_neg c, if_pos (nI_le (by omega) (by omega))]
    exact ⟨_, _, τ, rfl, pon_le hP hI.1, Nat.le_refl _, rfl, h45, e6, fun _ _ _ _ => rfl⟩
