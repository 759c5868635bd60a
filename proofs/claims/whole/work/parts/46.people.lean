/-! a day is walked -/
def cr0 (n : Nat) : Nat → Int32 := fun j => if j = 0 then nI n else 0
def DP (σ : fb_S) : Dp := (fun j => if j = 6 then (σ.1 1 1).toNatClampNeg else (σ.1 18 j).toNatClampNeg, fun j => (σ.1 19 j).toNatClampNeg, fun n v => stp (σ.1 7) (σ.1 8) (σ.1 9) (cr0 n) (dmp σ) v)
theorem rgn1 {x : Int32} (l c : Nat) (hc : c < 2147483647) (h : rg x (l : Int) (c : Int)) : x = nI x.toNatClampNeg ∧ l ≤ x.toNatClampNeg ∧ x.toNatClampNeg ≤ c := by
  obtain ⟨i, hi, rfl⟩ := rgn c hc ⟨by have := h.1; omega, h.2⟩
  have h1 := h.1
  rw [t_n (by omega)] at h1
  rw [cl_n (by omega)]
  exact ⟨rfl, by omega, hi⟩
section PX
variable {σ : fb_S}
theorem PX_p (hR : Rl σ) : σ.1 18 0 = nI ((DP σ).1 0) ∧ σ.1 18 1 = nI ((DP σ).1 1) ∧ σ.1 18 2 = nI ((DP σ).1 2) ∧ σ.1 18 3 = nI ((DP σ).1 3) ∧ σ.1 18 5 = nI ((DP σ).1 5) ∧ σ.1 1 1 = nI ((DP σ).1 6) ∧ (∀ j, j < 60 → σ.1 19 j = nI ((DP σ).2.1 j)) := by
  obtain ⟨-, b1, b2, b3, b4, -, b6, b7⟩ := hR.2.2.2.2.2.1
  exact ⟨(rgn1 1 8 (by decide) b1).1, (rgn1 1 99 (by decide) b2).1, (rgn1 1 99 (by decide) b3).1, (rgn1 0 99 (by decide) b4).1, (rgn1 0 9 (by decide) b6).1, (rgn1 1 9999 (by decide) hR.2.2.1.2.2.1).1, fun j hj => (rgn1 0 99 (by decide) (b7 j hj).2).1⟩
theorem PX_q (hR : Rl σ) : Pq (DP σ) := by
  obtain ⟨-, b1, b2, b3, b4, -, b6, b7⟩ := hR.2.2.2.2.2.1
  exact ⟨(rgn1 1 8 (by decide) b1).2, (rgn1 1 99 (by decide) b2).2, (rgn1 1 99 (by decide) b3).2, (rgn1 0 99 (by decide) b4).2.2, (rgn1 0 9 (by decide) b6).2.2, (rgn1 1 9999 (by decide) hR.2.2.1.2.2.1).2.2, fun j hj => (rgn1 0 99 (by decide) (b7 j hj).2).2.2, fun n v => stp_le _ _ _ _ _ _⟩
end PX
theorem Wr0 {σ : fb_S} (hR : Rl σ) {n : Nat} (hn : n ≤ 999) : Wr (σ.1 7) (σ.1 8) (σ.1 9) (cr0 n) := fun j hj => by
  have h := Wr_of hR j hj
  refine ⟨h.1, h.2.1, h.2.2.1, ?_⟩
  unfold cr0
  split
  · exact ⟨by rw [t_n (by omega)]; omega, by rw [t_n (by omega)]; omega⟩
  · exact ⟨by decide, by decide⟩
theorem X_first {σ τ : fb_S} (hR : Rl σ) (h7 : τ.1 7 0 = σ.1 7 0) (h8 : τ.1 8 0 = σ.1 8 0) (h9 : τ.1 9 0 = σ.1 9 0) {n v : Nat} (hn : n ≤ 999) (hv : v ≤ 9999) : ∃ q, f_X4_netOfFirstSort (nI n) (nI v) (iI (dmp σ)) τ = some q ∧ f_X5_beat (nI v) q = some (nI ((DP σ).2.2 n v)) := by
  have hW := Wr0 hR hn
  have hd := dmp_b σ hR
  have hb := netz_b hW (d := dmp σ) (by omega) (by omega) (v : Int)
  refine ⟨iI (netz (σ.1 7) (σ.1 8) (σ.1 9) (cr0 n) (dmp σ) v), ?_, ?_⟩
  · unfold f_X4_netOfFirstSort
    have hi : f_X4_isInStep 0 (nI v) τ = _ := X_inStep τ (by decide : 0 < 4) (nI v)
    rw [hi, Option.bind_some, h8, h9, h7, t_n (by omega)]
    have e4 : psum (σ.1 7) (σ.1 8) (σ.1 9) (cr0 n) v 4 = if (σ.1 8 0).toInt ≤ (v : Int) ∧ (v : Int) ≤ (σ.1 9 0).toInt then (n : Int) * (σ.1 7 0).toInt else 0 := by
      have e0 : ∀ j, j ≠ 0 → (cr0 n j).toInt = 0 := fun j hj => by unfold cr0; rw [if_neg hj]; rfl
      have e1 : (cr0 n 0).toInt = (n : Int) := by unfold cr0; rw [if_pos rfl, t_n (by omega)]
      simp only [psum, e0 1 (by decide), e0 2 (by decide), e0 3 (by decide), e1, Int.zero_mul, ite_self, Int.add_zero, Int.zero_add]
    rw [← net_ok hW, e4]
    by_cases c : (σ.1 8 0).toInt ≤ (v : Int) ∧ (v : Int) ≤ (σ.1 9 0).toInt
    · rw [if_pos c, if_neg z_1, if_pos c, mulI, t_n (by omega)]
    · rw [if_neg c, if_pos rfl, if_neg c]
      rfl
  · exact X_beat hv hb.1 hb.2
def Row (τ : fb_S) (k n : Nat) (o : Nat → Nat) : Prop := ∀ j, j < n → τ.1 k j = nI (o j)
theorem Row_up {τ : fb_S} {k n : Nat} {o : Nat → Nat} (h : Row τ k n o) (j v : Nat) : Row (fb_up τ k j (nI v)) k n (up1 o j v) := fun i hi => by
  rw [up_at]
  by_cases c : i = j
  · rw [if_pos ⟨rfl, c⟩, c, up1_eq]
  · rw [if_neg (fun q => c q.2), up1_ne _ _ c]; exact h i hi
theorem Row_ne {τ : fb_S} {k n : Nat} {o : Nat → Nat} (h : Row τ k n o) {k' : Nat} (hk : k ≠ k') (j : Nat) (v : Int32) : Row (fb_up τ k' j v) k n o := fun i hi => by
  rw [up_ne _ _ (fun q => hk q.1)]; exact h i hi
theorem X_goL (N : Nat) {h f : Nat} (hh : h ≤ 99) (hf : f ≤ 99) : ∀ (n i : Nat) (τ : fb_S) (o : Nat → Nat), i < 8 → i < n → (∀ j, j < 8 → o j ≤ h) → τ.1 18 1 = nI h → τ.1 18 2 = nI f → Row τ 20 8 o → ∃ τ', f_X2_goOn_L59 N n (nI i - 1) τ = some τ' ∧ Row τ' 20 8 (mvs h f i o) ∧ ∀ k j, k ≠ 20 → τ'.1 k j = τ.1 k j := by
  intro n
  induction n with
  | zero => intro i τ o h1 h2; omega
  | succ n ih =>
    intro i τ o hi hn ho e1 e2 hr
    unfold f_X2_goOn_L59
    cases i with
    | zero =>
      rw [if_pos (by decide)]
      exact ⟨τ, rfl, hr, fun _ _ _ => rfl⟩
    | succ i =>
      have hin : fb_in (nI i) 8 = true := in_n (by omega) (by decide)
      have hin1 : fb_in (nI (i + 1)) 8 = true := in_n (by omega) (by decide)
      have a1 := ho i (by omega)
      have a2 := ho (i + 1) hi
      rw [nI_pred, if_neg (nlt0 (by omega)), nI_1, ck_t hin1, nm_e_, ck_t hin, nm_e_, ck_t hin, ck_t hin, nm_e_, ck_t hin1, ck_t hin1, nm_e_, cl_n (by omega), cl_n (by omega)]
      rw [up_ne _ _ (by omega : ¬ (20 = 20 ∧ i + 1 = i)), hr i (by omega), hr (i + 1) hi, e1, e2, nI_sub a2, mn_n (by omega) (by omega), mn_n (by omega) (by omega), nI_sub (by omega), nI_add]
      have hs : nI i + (-1) = nI i - 1 := (Int32.sub_eq_add_neg _ _).symm
      rw [hs]
      obtain ⟨τ', q1, q2, q3⟩ := ih i _ (mv1 h f i o) (by omega) (by omega) (mv1_le ho hi) (by rw [up_ne _ _ (by omega), up_ne _ _ (by omega)]; exact e1) (by rw [up_ne _ _ (by omega), up_ne _ _ (by omega)]; exact e2) (Row_up (Row_up hr i _) (i + 1) _)
      refine ⟨τ', q1, q2, fun k j hk => ?_⟩
      rw [q3 k j hk, up_ne _ _ (fun q => hk q.1), up_ne _ _ (fun q => hk q.1)]
theorem X_go (N : Nat) (hN : 40000 ≤ N) {P : Dp} (hP : Pq P) {s : Dy} {t : Nat} (hI : Dinv P s t) (ht : t ≤ 60) {τ : fb_S} (e0 : τ.1 18 0 = nI (P.1 0)) (e1 : τ.1 18 1 = nI (P.1 1)) (e2 : τ.1 18 2 = nI (P.1 2)) (hr : Row τ 20 8 s.1) (e4 : τ.1 17 4 = nI s.2.2.1) (e5 : τ.1 17 5 = nI (osum s.1 (P.1 0))) : ∃ τ', f_X2_goOn N τ = some τ' ∧ Row τ' 20 8 (pon P s) ∧ τ'.1 17 4 = nI (pov P s) ∧ τ'.1 17 5 = nI (osum (pon P s) (P.1 0)) ∧ ∀ k j, k ≠ 20 → ¬ (k = 17 ∧ (j = 4 ∨ j = 5)) → τ'.1 k j = τ.1 k j := by
  obtain ⟨p1, p2, p3, p4⟩ := id hP
  have hl : P.1 0 - 1 + 1 = P.1 0 := by omega
  have hin : fb_in (nI (P.1 0 - 1)) 8 = true := in_n (by omega) (by decide)
  have a1 := hI.1 (P.1 0 - 1) (by omega)
  have a2 := hI.2.2.1
  have a3 := osum792 hP hI.1
  have a4 := osum_ge (o := s.1) (P.1 0) (P.1 0 - 1) (by omega)
  have ex : nI (P.1 0) - 1 = nI (P.1 0 - 1) := by rw [← hl, nI_pred]; rfl
  unfold f_X2_goOn
  rw [e0, ex, nm_e_, ck_t hin, nm_e_, ck_t hin, ck_t hin, nm_e_, nm_e_, nm_e_, nm_e_, cl_n (by omega)]
  rw [up_ne _ _ (by omega : ¬ (17 = 20 ∧ 5 = P.1 0 - 1)), up_ne _ _ (by omega : ¬ (17 = 17 ∧ 4 = 5)), up_ne _ _ (by omega : ¬ (17 = 20 ∧ 4 = P.1 0 - 1)), e4, e5, hr _ (by omega), e2, mn_n (by omega) (by omega), nI_sub (by omega), nI_sub (by omega), nI_add]
  obtain ⟨τ', q1, q2, q3⟩ := X_goL N p2.2 p3.2 N (P.1 0 - 1) (fb_up (fb_up (fb_up τ 20 (P.1 0 - 1) (nI (s.1 (P.1 0 - 1) - min (s.1 (P.1 0 - 1)) (P.1 2)))) 17 5 (nI (osum s.1 (P.1 0) - min (s.1 (P.1 0 - 1)) (P.1 2)))) 17 4 (nI (s.2.2.1 + min (s.1 (P.1 0 - 1)) (P.1 2)))) (outs (P.1 2) (P.1 0 - 1) s.1) (by omega) (by omega) (outs_le hI.1) (by rw [up_ne _ _ (by omega), up_ne _ _ (by omega), up_ne _ _ (by omega)]; exact e1) (by rw [up_ne _ _ (by omega), up_ne _ _ (by omega), up_ne _ _ (by omega)]; exact e2) (Row_ne (Row_ne (Row_up hr _ _) (by decide) _ _) (by decide) _ _)
  refine ⟨τ', q1, q2, ?_, ?_, fun k j hk hj => ?_⟩
  · rw [q3 17 4 (by decide), up_eq]; rfl
  · rw [q3 17 5 (by decide), up_ne _ _ (by omega), up_eq, pon_sum hP]
  · rw [q3 k j hk, up_ne _ _ (by omega), up_ne _ _ (by omega), up_ne _ _ (by omega)]
theorem X_known {P : Dp} (hP : Pq P) {s : Dy} {t : Nat} (ht : t < 60) {τ : fb_S} (e5 : τ.1 18 5 = nI (P.1 5)) (e17 : τ.1 17 5 = nI (osum (pon P s) (P.1 0))) (hr : Row τ 21 t s.2.1) : f_X2_knownAtGate (nI t) τ = some (nI (knw P s t)) := by
  have p5 := hP.2.2.2.2.1
  unfold f_X2_knownAtGate knw
  rw [e5]
  by_cases c : P.1 5 = 0
  · rw [if_pos (by rw [c]; rfl), if_pos c, e17]
  · rw [if_neg (nI_ne0 (by omega) (by omega)), if_neg c, nm_e_]
    by_cases d : P.1 5 ≤ t
    · rw [nI_sub d, if_pos (le0 (by omega)), if_pos d, ck_t (in_n (by omega) (by decide)), cl_n (by omega), hr _ (by omega)]
    · have hx : ¬ (0 : Int32) ≤ nI t - nI (P.1 5) := by
        rw [iI_n, iI_n, iI_sub, show (0 : Int32) = iI 0 from rfl, iI_le (by omega) (by omega) (by omega) (by omega)]
        omega
      rw [if_neg hx, if_neg d]
      rfl
