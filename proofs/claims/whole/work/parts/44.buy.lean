/-! the reference's choice -/
def buyT (N : Nat) (k18 : Int32 → Int32 → Int32 → fb_S → Option (Int32 × fb_S)) (v1 v2 v3 v4 v5 v6 : Int32) (σ : fb_S) : Option (Int32 × fb_S) :=
  if v1 = (-9 : Int32) then f_X6_buy_L138 N k18 v1 v2 v3 v4 v5 v6 σ else if v4 < v1 then f_X6_buy_L138 N k18 v1 v2 v3 v4 v5 v6 σ else if v4 = v1 then (if v2 ≤ v6 then f_X6_buy_L142 N k18 v1 v2 v3 v4 v5 v6 σ else f_X6_buy_L138 N k18 v1 v2 v3 v4 v5 v6 σ) else f_X6_buy_L142 N k18 v1 v2 v3 v4 v5 v6 σ
theorem M_buy39 (N : Nat) (k18 : Int32 → Int32 → Int32 → fb_S → Option (Int32 × fb_S)) (σ : fb_S) {c s : Nat} (hc : c ≤ 10) (ec : σ.1 29 11 = nI c) (hs : s < 1024) {ad pr lo : Nat → Int32} (h38 : ∀ j, j < 10 → σ.1 38 j = ad j) (h39 : ∀ j, j < 10 → σ.1 39 j = pr j) (h40 : ∀ j, j < 10 → σ.1 40 j = lo j) (v1 v2 : Int32) : ∀ (n i : Nat) (τ : fb_S), i ≤ c → c - i < n → E9 σ τ → τ.1 29 9 = iI (dtot c ad s i) → ∃ τ', f_X6_buy_L39 N k18 n v1 v2 (nI s) (iI (dtot c pr s i)) (iI (dtot c lo s i)) (nI (dcnt c s i)) (nI i) τ = buyT N k18 v1 v2 (nI s) (iI (dtot c pr s c)) (iI (dtot c lo s c)) (nI (dcnt c s c)) τ' ∧ E9 σ τ' ∧ τ'.1 29 9 = iI (dtot c ad s c) := by
  intro n
  induction n with
  | zero => intro i τ h1 h2; omega
  | succ n ih =>
    intro i τ h1 h2 he h9
    unfold f_X6_buy_L39
    have ec' : τ.1 29 11 = nI c := by rw [he 29 11 (by decide), ec]
    rw [ec']
    by_cases hi : i = c
    · subst hi
      rw [if_pos (nI_le (Nat.le_refl _) (by omega))]
      exact ⟨τ, rfl, he, h9⟩
    · have hin : fb_in (nI i) 10 = true := in_n (by omega) (by decide)
      have hb := bit_d hc hs (show i < c by omega) (x := nI c) rfl
      have hcl := dcnt_le c s i
      have e1 : dtot c pr s (i + 1) = dtot c pr s i + (if dbit c s i = true then (pr i).toInt else 0) := rfl
      have e2 : dtot c lo s (i + 1) = dtot c lo s i + (if dbit c s i = true then (lo i).toInt else 0) := rfl
      have e3 : dtot c ad s (i + 1) = dtot c ad s i + (if dbit c s i = true then (ad i).toInt else 0) := rfl
      have e4 : dcnt c s (i + 1) = dcnt c s i + (if dbit c s i = true then 1 else 0) := rfl
      rw [if_neg (nI_ge (by omega) (by omega)), show nI i + 1 = nI (i + 1) from nI_1 i]
      by_cases cb : dbit c s i = true
      · rw [if_pos (hb.mpr cb), ck_t hin, nm_e_, ck_t hin, nm_e_, ck_t hin, nm_e_, cl_n (by omega), nI_1, he 38 i (by omega), he 39 i (by omega), he 40 i (by omega), h38 i (by omega), h39 i (by omega), h40 i (by omega)]
        obtain ⟨τ', q1, q2, q3⟩ := ih (i + 1) (fb_up τ 29 9 (τ.1 29 9 + ad i)) (by omega) (by omega) (fun k j hkj => by rw [up_ne _ _ hkj]; exact he k j hkj) (by rw [up_eq, h9, e3, if_pos cb, ← iI_add, iI_self])
        rw [e1, e2, e4, if_pos cb, if_pos cb, if_pos cb, ← iI_add, ← iI_add, iI_self, iI_self] at q1
        exact ⟨τ', q1, q2, q3⟩
      · rw [if_neg (fun q => cb (hb.mp q))]
        obtain ⟨τ', q1, q2, q3⟩ := ih (i + 1) τ (by omega) (by omega) he (by rw [h9, e3, if_neg cb, Int.add_zero])
        rw [e1, e2, e4, if_neg cb, if_neg cb, if_neg cb, Int.add_zero, Int.add_zero, Nat.add_zero] at q1
        exact ⟨τ', q1, q2, q3⟩
/-- best price, its number, its set -/
def Bst (c : Nat) (pr : Nat → Int32) (o : Option Nat) (v1 v2 : Int32) (τ : fb_S) : Prop := match o with
  | none => v1 = -9
  | some b => v1 = iI (dtot c pr b c) ∧ v2 = nI (dcnt c b c) ∧ τ.1 29 16 = nI b
/-- the reference while it buys -/
def Eb (σ τ : fb_S) : Prop := ∀ k j, k ≠ 42 → ¬ (k = 29 ∧ (j = 9 ∨ j = 16 ∨ j = 18 ∨ j = 19 ∨ j = 20)) → τ.1 k j = σ.1 k j
theorem Eb.keep {σ τ : fb_S} (h : Eb σ τ) : Keep σ τ := fun k j hs => h k j (fun q => by subst q; cases hs) (fun q => by obtain ⟨rfl, rfl | rfl | rfl | rfl | rfl⟩ := q <;> cases hs)
theorem M_buyL (N : Nat) (hN : 40000 ≤ N) (σ : fb_S) (hR : Rl σ) {c : Nat} (hc : c ≤ 10) (ec : σ.1 11 5 = nI c) (τ0 : fb_S) (hk0 : Keep σ τ0) (hm0 : Md (σ.1 7) (σ.1 8) (σ.1 9) (σ.1 10) (dmp σ) τ0) : ∀ (n k : Nat) (v1 v2 : Int32) (τ : fb_S), 2 ^ c - k < n → k ≤ 2 ^ c → Eb τ0 τ → Bst c (σ.1 13) (pick σ c k) v1 v2 τ → ∃ r v τ', f_X6_buy_L18 N n v1 v2 (iI ((2 ^ c : Nat) - 1 - (k : Int))) τ = some (r, τ') ∧ Eb τ0 τ' ∧ Bst c (σ.1 13) (pick σ c (2 ^ c)) r v τ' := by
  obtain ⟨q1, q2, q3⟩ := hR.2.2.2.1
  have hpc := pow_c hc
  obtain ⟨sm, hsm, -, esm⟩ := small_n hR
  have hW := Wr_of hR
  have h0 := hR.2.2.1.2.1
  have hca := hR.2.2.1.2.2.2.1
  unfold rg at h0 hca
  intro n
  induction n with
  | zero => intro k v1 v2 τ h1 h2; omega
  | succ n ih =>
    intro k v1 v2 τ hn hk he hb
    unfold f_X6_buy_L18
    have z0 : (0 : Int32) = iI 0 := rfl
    by_cases ck : k = 2 ^ c
    · rw [if_pos (by rw [z0, iI_lt (by omega) (by omega) (by omega) (by omega)]; omega)]
      exact ⟨v1, v2, τ, rfl, he, by rw [← ck]; exact hb⟩
    · have es : iI ((2 ^ c : Nat) - 1 - (k : Int)) = nI (2 ^ c - 1 - k) := by rw [iI_nat (by omega)]; congr 1; omega
      have en : nI (2 ^ c - 1 - k) + (-1) = iI ((2 ^ c : Nat) - 1 - ((k + 1 : Nat) : Int)) := by rw [← es, show (-1 : Int32) = iI (-1) from rfl, iI_add]; congr 1; omega
      rw [es, if_neg (nlt0 (by omega)), nm_e_]
      have hu : ∀ a b, ¬ (a = 29 ∧ b = 9) → (fb_up τ 29 9 0).1 a b = τ.1 a b := fun a b h => up_ne _ _ h
      have kp : ∀ a b, scr a b = false → a ≠ 42 → ¬ (a = 29 ∧ (b = 9 ∨ b = 16 ∨ b = 18 ∨ b = 19 ∨ b = 20)) → τ.1 a b = σ.1 a b := fun a b h1 h2 h3 => by rw [he a b h2 h3]; exact hk0 a b h1
      obtain ⟨τ1, g1, g2, g3⟩ := M_buy39 N (f_X6_buy_L18 N n) (fb_up τ 29 9 0) hc (by rw [hu 29 11 (by decide), kp 29 11 rfl (by decide) (by decide), q2, ec]) (show 2 ^ c - 1 - k < 1024 by omega) (ad := σ.1 12) (pr := σ.1 13) (lo := σ.1 14) (fun j hj => by rw [hu 38 j (by omega), kp 38 j rfl (by decide) (by omega)]; exact (q3 j hj).1.1) (fun j hj => by rw [hu 39 j (by omega), kp 39 j rfl (by decide) (by omega)]; exact (q3 j hj).2.1.1) (fun j hj => by rw [hu 40 j (by omega), kp 40 j rfl (by decide) (by omega)]; exact (q3 j hj).2.2.1.1) v1 v2 N 0 (fb_up τ 29 9 0) (by omega) (by omega) (fun _ _ _ => rfl) (up_eq _ _ _ _)
      have g1' : f_X6_buy_L39 N (f_X6_buy_L18 N n) N v1 v2 (nI (2 ^ c - 1 - k)) 0 0 0 0 (fb_up τ 29 9 0) = _ := g1
      rw [g1']
      have he1 : Eb τ0 τ1 := fun a b p1 p2 => by rw [g2 a b (by omega), hu a b (by omega)]; exact he a b p1 p2
      have t12 := dtot_b (r := σ.1 12) (m := 500) (fun j hj => (q3 j hj).1.2) c (2 ^ c - 1 - k) c (by omega)
      have t13 := dtot_b (r := σ.1 13) (m := 9999) (fun j hj => (q3 j hj).2.1.2) c (2 ^ c - 1 - k) c (by omega)
      have t14 := dtot_b (r := σ.1 14) (m := 99) (fun j hj => (q3 j hj).2.2.1.2) c (2 ^ c - 1 - k) c (by omega)
      have hpk : pick σ c (k + 1) = if dtot c (σ.1 14) (2 ^ c - 1 - k) c ≤ (σ.1 1 2).toInt ∧ dbetter c (σ.1 13) (2 ^ c - 1 - k) (pick σ c k) = true ∧ okk σ (dtot c (σ.1 12) (2 ^ c - 1 - k) c) = true then some (2 ^ c - 1 - k) else pick σ c k := rfl
      have e372 : τ1.1 37 2 = σ.1 1 2 := by rw [he1 37 2 (by decide) (by omega), hk0 37 2 rfl]; exact hR.2.2.1.1 2 (by decide)
      have e16 : τ1.1 29 16 = τ.1 29 16 := by rw [g2 29 16 (by omega), hu 29 16 (by omega)]
      have hb1 : Bst c (σ.1 13) (pick σ c k) v1 v2 τ1 := by
        cases ho : pick σ c k with
        | none => rw [ho] at hb; exact hb
        | some b => rw [ho] at hb; exact ⟨hb.1, hb.2.1, by rw [e16]; exact hb.2.2⟩
      have same : ∀ τ' : fb_S, Eb τ0 τ' → τ'.1 29 16 = τ1.1 29 16 → pick σ c (k + 1) = pick σ c k → ∃ r v τ2, f_X6_buy_L18 N n v1 v2 (nI (2 ^ c - 1 - k) + (-1)) τ' = some (r, τ2) ∧ Eb τ0 τ2 ∧ Bst c (σ.1 13) (pick σ c (2 ^ c)) r v τ2 := by
        intro τ' p1 p2 p3
        rw [en]
        refine ih (k + 1) v1 v2 τ' (by omega) (by omega) p1 ?_
        rw [p3]
        cases ho : pick σ c k with
        | none => rw [ho] at hb1; exact hb1
        | some b => rw [ho] at hb1; exact ⟨hb1.1, hb1.2.1, by rw [p2]; exact hb1.2.2⟩
      have l143 : ∀ s0 : Int32, (s0 = 1 ∧ dbetter c (σ.1 13) (2 ^ c - 1 - k) (pick σ c k) = true) ∨ (s0 = 0 ∧ ¬ dbetter c (σ.1 13) (2 ^ c - 1 - k) (pick σ c k) = true) → ∃ r v τ2, f_X6_buy_L143 N (f_X6_buy_L18 N n) v1 v2 (nI (2 ^ c - 1 - k)) (iI (dtot c (σ.1 13) (2 ^ c - 1 - k) c)) (iI (dtot c (σ.1 14) (2 ^ c - 1 - k) c)) (nI (dcnt c (2 ^ c - 1 - k) c)) s0 τ1 = some (r, τ2) ∧ Eb τ0 τ2 ∧ Bst c (σ.1 13) (pick σ c (2 ^ c)) r v τ2 := by
        intro s0 hs0
        unfold f_X6_buy_L143
        rw [e372]
        by_cases c1 : (σ.1 1 2).toInt < dtot c (σ.1 14) (2 ^ c - 1 - k) c
        · rw [if_pos (by rw [t_lt, iI_t (by omega) (by omega)]; exact c1)]
          exact same τ1 he1 rfl (by rw [hpk, if_neg (by omega)])
        · rw [if_neg (by rw [t_lt, iI_t (by omega) (by omega)]; exact c1)]
          rcases hs0 with ⟨rfl, hbt⟩ | ⟨rfl, hbt⟩
          · have hmd : Md (σ.1 7) (σ.1 8) (σ.1 9) (σ.1 10) ((σ.1 1 0).toInt + dtot c (σ.1 12) (2 ^ c - 1 - k) c) τ1 := by
              refine ⟨fun j hj => ?_, ?_⟩
              · have := hm0.1 j hj
                rw [he1 32 j (by decide) (by omega), he1 33 j (by decide) (by omega), he1 34 j (by decide) (by omega), he1 36 j (by decide) (by omega)]
                exact this
              · rw [he1 37 0 (by decide) (by omega), hk0 37 0 rfl, hR.2.2.1.1 0 (by decide), g3, iI_t (by omega) (by omega)]
            obtain ⟨τ2, w1, w2⟩ := M_small N hN hW (by omega) (by omega) hsm τ1 hmd (by rw [he1 37 1 (by decide) (by omega), hk0 37 1 rfl, hR.2.2.1.1 1 (by decide), esm])
            have hok : okk σ (dtot c (σ.1 12) (2 ^ c - 1 - k) c) = stlB (stp (σ.1 7) (σ.1 8) (σ.1 9) (σ.1 10) ((σ.1 1 0).toInt + dtot c (σ.1 12) (2 ^ c - 1 - k) c)) sm := by unfold okk; rw [esm, cl_n (by omega)]
            have he2 : Eb τ0 τ2 := fun a b p1 p2 => by rw [w2 a b p1 (by omega)]; exact he1 a b p1 p2
            rw [if_neg z_1, w1, Option.bind_some]
            by_cases c3 : stlB (stp (σ.1 7) (σ.1 8) (σ.1 9) (σ.1 10) ((σ.1 1 0).toInt + dtot c (σ.1 12) (2 ^ c - 1 - k) c)) sm = true
            · rw [if_pos c3, if_neg z_1, nm_e_, en]
              refine ih (k + 1) _ _ _ (by omega) (by omega) (fun a b p1 p2 => by rw [up_ne _ _ (by omega)]; exact he2 a b p1 p2) ?_
              rw [hpk, if_pos ⟨by omega, hbt, by rw [hok]; exact c3⟩]
              exact ⟨rfl, rfl, up_eq _ _ _ _⟩
            · rw [if_neg c3, if_pos rfl]
              exact same τ2 he2 (w2 29 16 (by decide) (by omega)) (by rw [hpk, if_neg (fun q => c3 (by rw [← hok]; exact q.2.2))])
          · rw [if_pos rfl]
            exact same τ1 he1 rfl (by rw [hpk, if_neg (fun q => hbt q.2.1)])
      unfold buyT f_X6_buy_L138 f_X6_buy_L142
      cases ho : pick σ c k with
      | none =>
        rw [ho] at hb1 l143
        rw [if_pos (show v1 = -9 from hb1)]
        exact l143 1 (Or.inl ⟨rfl, rfl⟩)
      | some b =>
        rw [ho] at hb1 l143
        obtain ⟨w1, w2, w3⟩ := hb1
        have t2 := dtot_b (r := σ.1 13) (m := 9999) (fun j hj => (q3 j hj).2.1.2) c b c (by omega)
        have l1 := dcnt_le c (2 ^ c - 1 - k) c
        have l2 := dcnt_le c b c
        have hv9 : ¬ v1 = -9 := by rw [w1, iI_nat t2.1]; exact m9n (by omega)
        rw [if_neg hv9]
        have dbe : dbetter c (σ.1 13) (2 ^ c - 1 - k) (some b) = (decide (dtot c (σ.1 13) (2 ^ c - 1 - k) c < dtot c (σ.1 13) b c) || (decide (dtot c (σ.1 13) (2 ^ c - 1 - k) c = dtot c (σ.1 13) b c) && decide (dcnt c (2 ^ c - 1 - k) c < dcnt c b c))) := rfl
        by_cases x1 : dtot c (σ.1 13) (2 ^ c - 1 - k) c < dtot c (σ.1 13) b c
        · rw [if_pos (by rw [w1, iI_lt (by omega) (by omega) (by omega) (by omega)]; exact x1)]
          exact l143 1 (Or.inl ⟨rfl, by rw [dbe]; simp [x1]⟩)
        · rw [if_neg (by rw [w1, iI_lt (by omega) (by omega) (by omega) (by omega)]; exact x1)]
          by_cases x2 : dtot c (σ.1 13) (2 ^ c - 1 - k) c = dtot c (σ.1 13) b c
          · rw [if_pos (by rw [w1, x2])]
            by_cases x3 : dcnt c b c ≤ dcnt c (2 ^ c - 1 - k) c
            · rw [if_pos (by rw [w2]; exact nI_le x3 (by omega))]
              exact l143 0 (Or.inr ⟨rfl, by rw [dbe]; simp [x2]; omega⟩)
            · rw [if_neg (by rw [w2]; exact nI_ge (by omega) (by omega))]
              exact l143 1 (Or.inl ⟨rfl, by rw [dbe]; simp [x2]; omega⟩)
          · rw [if_neg (by rw [w1, iI_eq (by omega) (by omega) (by omega) (by omega)]; exact x2)]
            exact l143 0 (Or.inr ⟨rfl, by rw [dbe]; simp [x1, x2]⟩)
theorem M_buy (N : Nat) (hN : 40000 ≤ N) (σ : fb_S) (hR : Rl σ) {c : Nat} (hc : c ≤ 10) (ec : σ.1 11 5 = nI c) (τ0 : fb_S) (hk0 : Keep σ τ0) : ∃ r v τ', f_X6_buy N τ0 = some (r, τ') ∧ Keep σ τ' ∧ Bst c (σ.1 13) (pick σ c (2 ^ c)) r v τ' := by
  unfold f_X6_buy
  obtain ⟨τ1, g1, g2, g3, -⟩ := M_asIs N hN hR hk0
  have hpc := pow_c hc
  have e11 : τ1.1 29 11 = nI c := by rw [g2 29 11 rfl, hR.2.2.2.1.2.1, ec]
  rw [g1, Option.bind_some, nm_e_, e11, all_sets c (by omega)]
  have hs : nI (2 ^ c - 1) = iI ((2 ^ c : Nat) - 1 - ((0 : Nat) : Int)) := by rw [iI_n]; congr 1; omega
  rw [hs]
  obtain ⟨r, v, τ2, w1, w2, w3⟩ := M_buyL N hN σ hR hc ec τ1 g2 g3 N 0 (-9) 0 τ1 (by omega) (by omega) (fun _ _ _ _ => rfl) rfl
  exact ⟨r, v, τ2, w1, g2.tr w2.keep, w3⟩
theorem st_cheapest (N : Nat) (hN : 40000 ≤ N) (σ : fb_S) (hR : Rl σ) : ∃ r σ1 σ2, f_X5_cheapest N σ = some (r, σ1) ∧ f_X6_cheapest N σ1 = some (r, σ2) ∧ Rl σ2 := by
  obtain ⟨c, hc, ec⟩ := rgn 10 (by decide) hR.2.2.2.1.1
  have hpc := pow_c hc
  obtain ⟨τ, e1, e2, e3, e4⟩ := X_choose N hN σ hR hc ec
  have hR1 := Rl_choice hR hc ec e2 e3 e4
  have ec1 : τ.1 11 5 = nI c := by rw [e2 11 5 (by omega) (by decide) (by omega), ec]
  have hpk : pick τ c (2 ^ c) = pick σ c (2 ^ c) := by
    unfold pick okk
    rw [e2.row (k := 1) (by decide) (by decide) (by decide), e2.row (k := 7) (by decide) (by decide) (by decide), e2.row (k := 8) (by decide) (by decide) (by decide), e2.row (k := 9) (by decide) (by decide) (by decide), e2.row (k := 10) (by decide) (by decide) (by decide), e2.row (k := 12) (by decide) (by decide) (by decide), e2.row (k := 13) (by decide) (by decide) (by decide), e2.row (k := 14) (by decide) (by decide) (by decide)]
  obtain ⟨r, v, τ2, w1, w2, w3⟩ := M_buy N hN τ hR1 hc ec1 (fb_up τ 29 0 0) (Keep.up rfl Keep.rfl')
  refine ⟨r, τ, τ2, ?_, ?_, Rl_keep w2 hR1⟩
  · unfold f_X5_cheapest f_X1_chosenPrice
    rw [e1, Option.bind_some, e4]
    rw [hpk] at w3
    have hlt := pick_lt σ c (2 ^ c)
    cases ho : pick σ c (2 ^ c) with
    | none =>
      rw [ho] at w3
      rw [if_pos (show dval none = -9 from rfl), Option.bind_some]
      rw [show r = -9 from w3]
    | some b =>
      rw [ho] at w3
      have hb := hlt b ho
      have ed : dval (some b) = nI b := rfl
      rw [ed, if_neg (m9n (by omega)), X_total' N hN τ hc ec1 (by omega) rfl, Option.bind_some, Option.bind_some, w3.1]
  · unfold f_X6_cheapest
    rw [nm_e_, w1, Option.bind_some]
theorem bought_loops (N : Nat) (τ τm : fb_S) {c b : Nat} (hc : c ≤ 10) (hb : b < 1024) (e5 : τ.1 11 5 = nI c) (e7 : τ.1 11 7 = nI b) (m11 : τm.1 29 11 = nI c) (m16 : τm.1 29 16 = nI b) (a1 : Int32) : ∀ (n i : Nat) (q : Int32), i ≤ c → c - i < n → ∃ r, f_X1_chosenAt_L20 N τ n a1 q (nI i) = some r ∧ f_X6_bought_L21 N n a1 q (nI i) τm = some (r, τm) := by
  intro n
  induction n with
  | zero => intro i q h1 h2; omega
  | succ n ih =>
    intro i q h1 h2
    unfold f_X1_chosenAt_L20 f_X1_isIn f_X6_bought_L21
    rw [e5, e7, m11, m16]
    by_cases hi : i = c
    · rw [if_pos (nI_le (by omega) (by omega)), if_pos (nI_le (by omega) (by omega))]
      exact ⟨_, rfl, rfl⟩
    · rw [if_neg (nI_ge (by omega) (by omega)), if_neg (nI_ge (by omega) (by omega)), nI_1]
      have hbd := bit_d hc hb (show i < c by omega) (x := nI c) rfl
      by_cases cb : dbit c b i = true
      · rw [if_pos (hbd.mpr cb), if_pos (hbd.mpr cb), Option.bind_some, if_neg z_1]
        by_cases ce : q = a1
        · rw [if_pos ce, if_pos ce]; exact ⟨_, rfl, rfl⟩
        · rw [if_neg ce, if_neg ce]; exact ih (i + 1) (q + 1) (by omega) (by omega)
      · rw [if_neg (fun p => cb (hbd.mp p)), if_neg (fun p => cb (hbd.mp p)), Option.bind_some, if_pos rfl]
        exact ih (i + 1) q (by omega) (by omega)
theorem bought_neg (N : Nat) (τm : fb_S) {c : Nat} (hc : c ≤ 10) (m11 : τm.1 29 11 = nI c) {a1 : Int32} (ha : ¬ 0 ≤ a1) : ∀ (n i q : Nat), i ≤ c → q ≤ i → c - i < n → f_X6_bought_L21 N n a1 (nI q) (nI i) τm = some (-9, τm) := by
  intro n
  induction n with
  | zero => intro i q h1 h2; omega
  | succ n ih =>
    intro i q h1 hq h2
    unfold f_X6_bought_L21
    rw [m11]
    by_cases hi : i = c
    · rw [if_pos (nI_le (by omega) (by omega))]
    · rw [if_neg (nI_ge (by omega) (by omega)), nI_1, nI_1]
      have hne : ¬ nI q = a1 := fun e => ha (by rw [← e]; exact le0 (by omega))
      simp only [if_neg hne]
      split
      · exact ih (i + 1) (q + 1) (by omega) (by omega) (by omega)
      · exact ih (i + 1) q (by omega) (by omega) (by omega)
theorem st_bought (N : Nat) (hN : 40000 ≤ N) (σ : fb_S) (hR : Rl σ) (a1 : Int32) : ∃ r σ1 σ2, f_X5_bought N a1 σ = some (r, σ1) ∧ f_X6_bought N a1 σ1 = some (r, σ2) ∧ Rl σ2 := by
  obtain ⟨c, hc, ec⟩ := rgn 10 (by decide) hR.2.2.2.1.1
  have hpc := pow_c hc
  obtain ⟨τ, e1, e2, e3, e4⟩ := X_choose N hN σ hR hc ec
  have hR1 := Rl_choice hR hc ec e2 e3 e4
  have ec1 : τ.1 11 5 = nI c := by rw [e2 11 5 (by omega) (by decide) (by omega), ec]
  have hpk : pick τ c (2 ^ c) = pick σ c (2 ^ c) := by
    unfold pick okk
    rw [e2.row (k := 1) (by decide) (by decide) (by decide), e2.row (k := 7) (by decide) (by decide) (by decide), e2.row (k := 8) (by decide) (by decide) (by decide), e2.row (k := 9) (by decide) (by decide) (by decide), e2.row (k := 10) (by decide) (by decide) (by decide), e2.row (k := 12) (by decide) (by decide) (by decide), e2.row (k := 13) (by decide) (by decide) (by decide), e2.row (k := 14) (by decide) (by decide) (by decide)]
  obtain ⟨r, v, τ2, w1, w2, w3⟩ := M_buy N hN τ hR1 hc ec1 (fb_up τ 29 0 0) (Keep.up rfl Keep.rfl')
  have hlt := pick_lt σ c (2 ^ c)
  rw [hpk] at w3
  unfold f_X5_bought f_X1_chosenAt f_X6_bought
  rw [e1, Option.bind_some, e4]
  cases ho : pick σ c (2 ^ c) with
  | none =>
    rw [ho] at w3
    refine ⟨-9, τ, τ2, ?_, ?_, Rl_keep w2 hR1⟩
    · rw [if_pos (show dval none = -9 from rfl)]; rfl
    · rw [nm_e_, w1, Option.bind_some, if_pos (show r = -9 from w3)]
  | some b =>
    rw [ho] at w3 e4
    have hb := hlt b ho
    have ed : dval (some b) = nI b := rfl
    have t2 := dtot_b (r := τ.1 13) (m := 9999) (fun j hj => (hR1.2.2.2.1.2.2 j hj).2.1.2) c b c (by omega)
    have hr9 : ¬ r = -9 := by rw [w3.1, iI_nat t2.1]; exact m9n (by omega)
    have m11 : τ2.1 29 11 = nI c := by rw [w2 29 11 rfl, hR1.2.2.2.1.2.1, ec1]
    rw [ed, if_neg (m9n (by omega))]
    by_cases ca : 0 ≤ a1
    · obtain ⟨r', x1, x2⟩ := bought_loops N τ τ2 hc (show b < 1024 by omega) ec1 e4 m11 w3.2.2 a1 N 0 0 (by omega) (by omega)
      refine ⟨r', τ, τ2, ?_, ?_, Rl_keep w2 hR1⟩
      · rw [if_pos ca]
        have x1' : f_X1_chosenAt_L20 N τ N a1 0 0 = some r' := x1
        rw [x1', Option.bind_some]
      · rw [nm_e_, w1, Option.bind_some, if_neg hr9]
        exact x2
    · refine ⟨-9, τ, τ2, ?_, ?_, Rl_keep w2 hR1⟩
      · rw [if_neg ca]; rfl
      · rw [nm_e_, w1, Option.bind_some, if_neg hr9]
        exact bought_neg N τ2 hc m11 ca N 0 0 (by omega) (by omega) (by omega)
