/-! all laws that fit -/
section FL
variable (r23 r24 r25 : Nat → Int32) (t : Nat)
theorem fitL_s (m : Nat) : fitL r23 r24 r25 t (m + 1) = if fitB r23 r24 r25 t m = true then fitL r23 r24 r25 t m ++ [m] else fitL r23 r24 r25 t m := by
  unfold fitL
  rw [List.range_succ, List.filter_append]
  by_cases c : fitB r23 r24 r25 t m = true
  · rw [if_pos c, List.filter_cons_of_pos c]; rfl
  · rw [if_neg c, List.filter_cons_of_neg c]; simp
theorem fitL_len (m : Nat) : (fitL r23 r24 r25 t m).length ≤ m := by
  unfold fitL
  have := List.length_filter_le (fun law => fitB r23 r24 r25 t law) (List.range m)
  rw [List.length_range] at this
  exact this
theorem fitL_lt (m : Nat) : ∀ law, law ∈ fitL r23 r24 r25 t m → law < m := by
  intro law h
  unfold fitL at h
  exact List.mem_range.mp (List.mem_filter.mp h).1
end FL
theorem fbit_c {r q : Nat → Int32} (h : ∀ j, r j = q j) (law : Nat) : fbit r law = fbit q law := by rw [funext h]
def FF (t : Nat) (σ τ : fb_S) (m : Nat) : Prop := (∀ k j, k ≠ 26 → ¬ (k = 22 ∧ j = 7) → τ.1 k j = σ.1 k j) ∧ τ.1 22 7 = nI (fitL (σ.1 23) (σ.1 24) (σ.1 25) t m).length ∧ ∀ law, law < m → fbit (τ.1 26) law = fitB (σ.1 23) (σ.1 24) (σ.1 25) t law
theorem X_fitI (N : Nat) (hN : 40000 ≤ N) (k7 : Int32 → fb_S → Option fb_S) {σ : fb_S} {t : Nat} (ht : t ≤ 20) (et : σ.1 22 6 = nI t) (h23 : ∀ j, j < t → rg (σ.1 23 j) 0 99) {p : Nat} (hp : p ≤ 49) : ∀ (n d : Nat) (τ : fb_S), 1 ≤ d → d ≤ 51 → 51 - d < n → FF t σ τ (50 * p + (d - 1)) → (∀ e, d ≤ e → lb (hjf (τ.1 26) p) e = false) → ∃ τ', f_X3_findFitting_L22 N k7 n (nI p) (nI d) τ = k7 (nI (p + 1)) τ' ∧ FF t σ τ' (50 * (p + 1)) := by
  intro n
  induction n with
  | zero => intro d τ h1 h2 h3; omega
  | succ n ih =>
    intro d τ h1 h2 h3 hF hz
    unfold f_X3_findFitting_L22
    by_cases c : d = 51
    · subst c
      rw [if_pos (lc_lt 50 (by omega) (by omega)), nI_1]
      exact ⟨τ, rfl, by rw [show 50 * (p + 1) = 50 * p + (51 - 1) by omega]; exact hF⟩
    · obtain ⟨f1, f2, f3⟩ := id hF
      have g : ∀ k, k ≠ 26 → k ≠ 22 → τ.1 k = σ.1 k := fun k q1 q2 => funext fun j => f1 k j q1 (fun q => q2 q.1)
      have e := X_brk N hN τ ht (by rw [f1 22 6 (by decide) (by omega), et]) (by rw [g 23 (by decide) (by decide)]; exact h23) hp h1 (by omega : d ≤ 50)
      rw [g 23 (by decide) (by decide), g 24 (by decide) (by decide), g 25 (by decide) (by decide)] at e
      have hlen := fitL_len (σ.1 23) (σ.1 24) (σ.1 25) t (50 * p + (d - 1))
      have hs := fitL_s (σ.1 23) (σ.1 24) (σ.1 25) t (50 * p + (d - 1))
      have hB := fitB_iff (σ.1 23) (σ.1 24) (σ.1 25) ht (50 * p + (d - 1))
      have ed : 50 * p + (d - 1) + 1 = 50 * p + (d + 1 - 1) := by omega
      have l1 : (50 * p + (d - 1)) / 50 = p := by omega
      have l2 : (50 * p + (d - 1)) % 50 + 1 = d := by omega
      have hin : fb_in (nI p) 50 = true := in_n (by omega) (by decide)
      rw [ed] at hs
      rw [if_neg (lc_nlt 50 (by omega) (by omega)), e, Option.bind_some, nI_1]
      by_cases c2 : brk (lok (σ.1 23) (σ.1 24) (σ.1 25) (50 * p + (d - 1))) t 0 = -9
      · rw [if_pos c2, ck_t hin, ck_t hin, nm_e_, nm_e_, cl_n (by omega)]
        obtain ⟨t2, et2⟩ : ∃ t2, t2 = fb_upH τ 26 p (hjf (τ.1 26) p ||| ((1 : Int64) <<< ((nI d).toInt64 &&& 63))) := ⟨_, rfl⟩
        rw [← et2]
        have s2 : ∀ k j, k ≠ 26 → t2.1 k j = τ.1 k j := fun k j h => by rw [et2, upH_ne _ _ _ _ _ h]
        have b2 : ∀ i x, lb (hjf (t2.1 26) i) x = if i = p then (lb (hjf (τ.1 26) p) x || decide (d = x)) else lb (hjf (τ.1 26) i) x := fun i x => by
          rw [et2, upH_h]
          by_cases q : i = p
          · rw [if_pos q, if_pos q, lb_set (by omega)]
          · rw [if_neg q, if_neg q]
        rw [s2 22 7 (by decide), f2, nI_1]
        rw [if_pos (hB.mpr c2)] at hs
        have h26 : ∀ j, (fb_up t2 22 7 (nI ((fitL (σ.1 23) (σ.1 24) (σ.1 25) t (50 * p + (d - 1))).length + 1))).1 26 j = t2.1 26 j := fun j => up_ne _ _ (by omega)
        refine ih (d + 1) _ (by omega) (by omega) (by omega) ⟨fun k j q1 q2 => ?_, ?_, fun law hl => ?_⟩ (fun x hx => ?_)
        · rw [up_ne _ _ q2, s2 k j q1]; exact f1 k j q1 q2
        · rw [up_eq, hs, List.length_append]; rfl
        · rw [fbit_c h26]
          unfold fbit
          rw [b2]
          by_cases q : law = 50 * p + (d - 1)
          · rw [q, l1, l2, if_pos rfl, hB.mpr c2]
            simp
          · have h9 := f3 law (by omega)
            unfold fbit at h9
            by_cases q2 : law / 50 = p
            · rw [if_pos q2, ← q2, h9]
              have q3 : ¬ d = law % 50 + 1 := by omega
              simp [q3]
            · rw [if_neg q2, h9]
        · rw [hjf_c h26, b2, if_pos rfl, hz x (by omega)]
          have q3 : ¬ d = x := by omega
          simp [q3]
      · rw [if_neg c2]
        rw [if_neg (fun q => c2 (hB.mp q))] at hs
        refine ih (d + 1) τ (by omega) (by omega) (by omega) ⟨f1, by rw [hs]; exact f2, fun law hl => ?_⟩ (fun x hx => hz x (by omega))
        by_cases q : law = 50 * p + (d - 1)
        · rw [q, Bool.eq_false_iff.mpr (fun q => c2 (hB.mp q))]
          unfold fbit
          rw [l1, l2]
          exact hz d (by omega)
        · exact f3 law (by omega)
theorem X_fitO (N : Nat) (hN : 40000 ≤ N) {σ : fb_S} {t : Nat} (ht : t ≤ 20) (et : σ.1 22 6 = nI t) (h23 : ∀ j, j < t → rg (σ.1 23 j) 0 99) : ∀ (n p : Nat) (τ : fb_S), p ≤ 50 → 50 - p < n → FF t σ τ (50 * p) → ∃ τ', f_X3_findFitting_L7 N n (nI p) τ = some τ' ∧ FF t σ τ' 2500 := by
  intro n
  induction n with
  | zero => intro p τ h1 h2; omega
  | succ n ih =>
    intro p τ h1 h2 hF
    unfold f_X3_findFitting_L7
    by_cases c : p = 50
    · subst c
      rw [if_pos (by decide)]
      exact ⟨τ, rfl, hF⟩
    · obtain ⟨f1, f2, f3⟩ := id hF
      rw [if_neg (lc_nlt 49 (by omega) (by omega)), ck_t (in_n (by omega) (by decide)), nm_e_, cl_n (by omega)]
      obtain ⟨τ', q1, q2⟩ := X_fitI N hN (f_X3_findFitting_L7 N n) ht et h23 (by omega : p ≤ 49) N 1 (fb_upH τ 26 p 0) (by omega) (by omega) (by omega) ⟨fun k j p1 p2 => by rw [upH_ne _ _ _ _ _ p1]; exact f1 k j p1 p2, by rw [upH_ne _ _ _ _ _ (by decide)]; exact f2, fun law hl => by
        have h9 := f3 law (by omega)
        unfold fbit at h9 ⊢
        rw [upH_h, if_neg (by omega), h9]⟩ (fun x _ => by rw [upH_h, if_pos rfl, lb_0])
      have q1' : f_X3_findFitting_L22 N (f_X3_findFitting_L7 N n) N (nI p) 1 (fb_upH τ 26 p 0) = _ := q1
      rw [q1']
      exact ih (p + 1) τ' (by omega) (by omega) q2
theorem X_find (N : Nat) (hN : 40000 ≤ N) {σ : fb_S} {t : Nat} (ht : t ≤ 20) (et : σ.1 22 6 = nI t) (h23 : ∀ j, j < t → rg (σ.1 23 j) 0 99) : ∃ τ, f_X3_findFitting N σ = some τ ∧ (∀ k j, k ≠ 26 → ¬ (k = 22 ∧ j = 7) → τ.1 k j = σ.1 k j) ∧ R8 τ := by
  unfold f_X3_findFitting
  rw [nm_e_]
  obtain ⟨τ, q1, q2, q3, q4⟩ := X_fitO N hN (σ := fb_up σ 22 7 0) ht (by rw [up_ne _ _ (by omega)]; exact et) (fun j hj => by rw [up_ne _ _ (by omega)]; exact h23 j hj) N 0 (fb_up σ 22 7 0) (by omega) (by omega) ⟨fun _ _ _ _ => rfl, by rw [up_eq]; rfl, fun law h => by omega⟩
  refine ⟨τ, q1, fun k j h1 h2 => by rw [q2 k j h1 h2, up_ne _ _ h2], ?_⟩
  have g : ∀ k, k ≠ 26 → k ≠ 22 → τ.1 k = (fb_up σ 22 7 0).1 k := fun k q1 q3 => funext fun j => q2 k j q1 (fun q => q3 q.1)
  unfold R8
  rw [q2 22 6 (by decide) (by omega), up_ne _ _ (by omega : ¬ (22 = 22 ∧ 6 = 7)), et, cl_n (by omega), g 23 (by decide) (by decide), g 24 (by decide) (by decide), g 25 (by decide) (by decide)]
  exact ⟨q3, q4⟩
/-! the reference's look at all laws -/
theorem R7_t {σ : fb_S} (h : R7 σ) : ∃ t, t ≤ 20 ∧ σ.1 22 6 = nI t ∧ σ.1 29 30 = nI t := by
  obtain ⟨t, ht, e⟩ := rgn 20 (by decide) h.1
  exact ⟨t, ht, e, by rw [h.2.1, e]⟩
theorem R7_ok {σ : fb_S} (h : R7 σ) {t : Nat} (ht : t ≤ 20) (et : σ.1 22 6 = nI t) {law : Nat} (hl : law < 2500) {j : Nat} (hj : j < t) : lok (σ.1 23) (σ.1 24) (σ.1 25) law j = mok (σ.1 47) law j := by
  obtain ⟨a1, a2, a3, a4, a5, a6, a7, a8, a9⟩ := h.2.2 j (by rw [et, t_n (by omega)]; omega)
  have hb := lawn_b (n := (σ.1 23 j).toNatClampNeg) (rgn1 0 99 (by decide) a2).2.2 hl
  have := a9 (lawn (σ.1 23 j).toNatClampNeg law) hb.1 hb.2
  unfold lok mok
  rw [a1]
  exact (decide_eq_decide.mpr this).symm
theorem R7_mrg {σ : fb_S} (h : R7 σ) {t : Nat} (ht : t ≤ 20) (et : σ.1 22 6 = nI t) {j : Nat} (hj : j < t) : mrg (σ.1 47) j := by
  obtain ⟨a1, a2, a3, a4, -⟩ := h.2.2 j (by rw [et, t_n (by omega)]; omega)
  exact ⟨by rw [a1]; exact a2, a3, a4⟩
theorem M_brk' (N : Nat) (hN : 40000 ≤ N) {σ τ : fb_S} (h : R7 σ) {t : Nat} (ht : t ≤ 20) (et : σ.1 22 6 = nI t) (hk : Keep σ τ) {law : Nat} (hl : law < 2500) : f_X6_firstBreak N (nI law) τ = some (brk (lok (σ.1 23) (σ.1 24) (σ.1 25) law) t 0) := by
  have e47 : τ.1 47 = σ.1 47 := funext fun j => hk 47 j rfl
  rw [M_brk N hN τ ht (by rw [hk 29 30 rfl, h.2.1, et]) (by rw [e47]; exact fun j hj => R7_mrg h ht et hj) hl, e47]
  congr 1
  exact brk_c _ _ (fun i _ hi => (R7_ok h ht et hl (by omega)).symm)
def FM (t : Nat) (σ τ : fb_S) (m : Nat) : Prop := Keep σ τ ∧ τ.1 29 33 = nI (fitL (σ.1 23) (σ.1 24) (σ.1 25) t m).length ∧ ∀ law, law < m → τ.1 48 law = if fitB (σ.1 23) (σ.1 24) (σ.1 25) t law = true then 1 else 0
theorem M_fitL (N : Nat) (hN : 40000 ≤ N) {σ : fb_S} (h : R7 σ) {t : Nat} (ht : t ≤ 20) (et : σ.1 22 6 = nI t) : ∀ (n m : Nat) (τ : fb_S), m ≤ 2500 → 2500 - m < n → FM t σ τ m → ∃ τ', f_X6_fit_L7 N n (nI m) τ = some τ' ∧ FM t σ τ' 2500 := by
  intro n
  induction n with
  | zero => intro m τ h1 h2; omega
  | succ n ih =>
    intro m τ h1 h2 hF
    unfold f_X6_fit_L7
    by_cases c : m = 2500
    · subst c
      rw [if_pos (by decide)]
      exact ⟨τ, rfl, hF⟩
    · obtain ⟨f1, f2, f3⟩ := id hF
      have hin : fb_in (nI m) 2500 = true := in_n (by omega) (by decide)
      have hs := fitL_s (σ.1 23) (σ.1 24) (σ.1 25) t m
      have hB := fitB_iff (σ.1 23) (σ.1 24) (σ.1 25) ht m
      rw [if_neg (lc_nle 2500 (by omega) (by omega)), M_brk' N hN h ht et f1 (by omega : m < 2500), Option.bind_some]
      have go : ∀ b : Int32, b = (if fitB (σ.1 23) (σ.1 24) (σ.1 25) t m = true then 1 else 0) → ∃ τ', f_X6_fit_L34 N (f_X6_fit_L7 N n) (nI m) (nI m) b τ = some τ' ∧ FM t σ τ' 2500 := by
        intro b hb
        unfold f_X6_fit_L34
        have ez : fb_z b = b := by
          rw [hb]
          split <;> rfl
        rw [ck_t hin, nm_e_, ck_t hin, cl_n (by omega), up_eq, nI_1, ez]
        have nx : ∀ x : Int32, x = nI (fitL (σ.1 23) (σ.1 24) (σ.1 25) t (m + 1)).length → ∃ τ', f_X6_fit_L7 N n (nI (m + 1)) (fb_up (fb_up τ 48 m b) 29 33 x) = some τ' ∧ FM t σ τ' 2500 := by
          intro x hx
          refine ih (m + 1) _ (by omega) (by omega) ⟨Keep.up rfl (Keep.up rfl f1), by rw [up_eq, hx], fun law hl => ?_⟩
          rw [up_ne _ _ (by omega), up_at]
          by_cases e : law = m
          · rw [if_pos ⟨rfl, e⟩, e, hb]
          · rw [if_neg (fun q => e q.2)]; exact f3 law (by omega)
        by_cases d : fitB (σ.1 23) (σ.1 24) (σ.1 25) t m = true
        · rw [if_pos d] at hb hs
          rw [hb, if_neg z_1, nm_e_, up_ne _ _ (by omega : ¬ (29 = 48 ∧ 33 = m)), f2, nI_1, ← hb]
          exact nx _ (by rw [hs, List.length_append]; rfl)
        · rw [if_neg d] at hb hs
          rw [hb, if_pos rfl, nm_e_, up_ne _ _ (by omega : ¬ (29 = 48 ∧ 33 = m)), f2, Int32.add_zero, ← hb]
          exact nx _ (by rw [hs])
      by_cases c2 : brk (lok (σ.1 23) (σ.1 24) (σ.1 25) m) t 0 = -9
      · rw [if_pos c2]
        exact go 1 (by rw [if_pos (hB.mpr c2)])
      · rw [if_neg c2]
        exact go 0 (by rw [if_neg (fun q => c2 (hB.mp q))])
theorem M_fit (N : Nat) (hN : 40000 ≤ N) {σ τ : fb_S} (h : R7 σ) {t : Nat} (ht : t ≤ 20) (et : σ.1 22 6 = nI t) (hk : Keep σ τ) : ∃ τ', f_X6_fit N τ = some τ' ∧ FM t σ τ' 2500 := by
  unfold f_X6_fit
  rw [nm_e_]
  exact M_fitL N hN h ht et N 0 (fb_up τ 29 33 0) (by omega) (by omega) ⟨Keep.up rfl hk, by rw [up_eq]; rfl, fun _ q => by omega⟩
