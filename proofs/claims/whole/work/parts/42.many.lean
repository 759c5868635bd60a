/-! too many -/
def mAt (pu lo st cr : Nat → Int32) (s : Nat) (v : Int) : Nat :=
  if pu s = 0 then 1000 else if (lo s).toInt ≤ v ∧ v ≤ (st s).toInt then (100 - (psum pu lo st cr v 4).toNat % 100 + (pu s).toInt.toNat - 1) / (pu s).toInt.toNat else 1000
def mmin (pu lo st cr : Nat → Int32) (s : Nat) : Nat → Nat
  | 0 => 1000
  | j + 1 => min (min (mmin pu lo st cr s j) (mAt pu lo st cr s (lo j).toInt)) (mAt pu lo st cr s ((st j).toInt + 1))
theorem mAt_pos {pu lo st cr : Nat → Int32} (h : Wr pu lo st cr) {s : Nat} (hs : s < 4) (v : Int) : 1 ≤ mAt pu lo st cr s v ∧ mAt pu lo st cr s v ≤ 1000 := by
  unfold mAt
  have hp := (h s hs).1
  unfold rg at hp
  split
  · omega
  · next hne =>
    split
    · have hp0 : 0 < (pu s).toInt.toNat := by
        have : (pu s).toInt ≠ 0 := fun e => hne (t_eq.mpr (by rw [e]; rfl))
        omega
      refine ⟨(Nat.le_div_iff_mul_le hp0).mpr (by omega), ?_⟩
      have h2 := Nat.div_le_self (100 - (psum pu lo st cr v 4).toNat % 100 + (pu s).toInt.toNat - 1) (pu s).toInt.toNat
      omega
    · omega
theorem mmin_b {pu lo st cr : Nat → Int32} (h : Wr pu lo st cr) {s : Nat} (hs : s < 4) : ∀ j, 1 ≤ mmin pu lo st cr s j ∧ mmin pu lo st cr s j ≤ 1000 := by
  intro j
  induction j with
  | zero => exact ⟨show 1 ≤ 1000 by decide, Nat.le_refl _⟩
  | succ j ih =>
    have a := mAt_pos h hs (lo j).toInt
    have b := mAt_pos h hs ((st j).toInt + 1)
    unfold mmin
    omega
theorem mmin_le {pu lo st cr : Nat → Int32} {s : Nat} : ∀ n j, j < n → mmin pu lo st cr s n ≤ mAt pu lo st cr s (lo j).toInt ∧ mmin pu lo st cr s n ≤ mAt pu lo st cr s ((st j).toInt + 1) := by
  intro n
  induction n with
  | zero => intro j hj; omega
  | succ n ih =>
    intro j hj
    unfold mmin
    by_cases e : j = n
    · subst e; omega
    · have := ih j (by omega); omega
theorem X_mAt (N : Nat) (hN : 40000 ≤ N) (τ : fb_S) (h : Wr (τ.1 7) (τ.1 8) (τ.1 9) (τ.1 10)) {s : Nat} (hs : s < 4) (v : Int32) : f_X4_moreToChangeNetAt N v (nI s) τ = some (nI (mAt (τ.1 7) (τ.1 8) (τ.1 9) (τ.1 10) s v.toInt)) := by
  unfold f_X4_moreToChangeNetAt mAt
  have hin : fb_in (nI s) 4 = true := in_n hs (by decide)
  have hp := (h s hs).1
  unfold rg at hp
  rw [ck_t hin, cl_n (by omega)]
  by_cases c0 : τ.1 7 s = 0
  · rw [if_pos c0, if_pos c0]; rfl
  · rw [if_neg c0, if_neg c0, X_inStep τ hs, Option.bind_some]
    by_cases c1 : (τ.1 8 s).toInt ≤ v.toInt ∧ v.toInt ≤ (τ.1 9 s).toInt
    · have hb := psum_b h v.toInt 4 (by omega)
      have hne : (τ.1 7 s).toInt ≠ 0 := fun e => c0 (t_eq.mpr (by rw [e]; rfl))
      obtain ⟨p, hp1, hp2⟩ := rgn 99 (by decide) (h s hs).1
      have ep : (τ.1 7 s).toInt.toNat = p := by rw [hp2, t_n (by omega)]; omega
      have hp0 : 0 < p := by omega
      rw [if_pos c1, if_pos c1, if_neg z_1, X_push' N hN, Option.bind_some, nm_e_, ck_t hin, ck_t hin, ck_t (by simpa using c0), iI_nat hb.1, ep, hp2]
      have ha : (psum (τ.1 7) (τ.1 8) (τ.1 9) (τ.1 10) v.toInt 4).toNat < 400000 := by omega
      generalize (psum (τ.1 7) (τ.1 8) (τ.1 9) (τ.1 10) v.toInt 4).toNat = a at ha ⊢
      have e1 : nI a - nI a / 100 * 100 = nI (a % 100) := pk_rem (d := 100) (by omega) (by decide) (by decide)
      have e2 : (100 : Int32) - nI (a % 100) = nI (100 - a % 100) := pk_sub (a := 100) (by omega)
      have e3 : nI (100 - a % 100) + nI p - 1 = nI (100 - a % 100 + p - 1) := by rw [nI_add]; exact pk_sub (b := 1) (by omega)
      rw [e1, e2, e3, pk_div (by omega) hp0 (by omega)]
    · rw [if_neg c1, if_neg c1, if_pos rfl]; rfl
theorem X_mmin (N : Nat) (hN : 40000 ≤ N) (τ : fb_S) (h : Wr (τ.1 7) (τ.1 8) (τ.1 9) (τ.1 10)) {s : Nat} (hs : s < 4) : ∀ (n j : Nat), j ≤ 4 → 4 - j < n → f_X4_moreToChangeNet_L6 N τ n (nI s) (nI (mmin (τ.1 7) (τ.1 8) (τ.1 9) (τ.1 10) s j)) (nI j) = some (nI (mmin (τ.1 7) (τ.1 8) (τ.1 9) (τ.1 10) s 4)) := by
  intro n
  induction n with
  | zero => intro j h1 h2; omega
  | succ n ih =>
    intro j h1 h2
    unfold f_X4_moreToChangeNet_L6
    by_cases hj : j = 4
    · subst hj
      rw [if_pos (by decide)]
    · have hin : fb_in (nI j) 4 = true := in_n (by omega) (by decide)
      have hst := (h j (by omega)).2.2.1
      unfold rg at hst
      have e1 : (τ.1 9 j + 1).toInt = (τ.1 9 j).toInt + 1 := by
        have t1 : (1 : Int32).toInt = 1 := rfl
        rw [t_add] <;> rw [t1] <;> omega
      have a := mAt_pos h hs (τ.1 8 j).toInt
      have b := mAt_pos h hs ((τ.1 9 j).toInt + 1)
      have c := mmin_b h hs j
      rw [if_neg (lc_nle 4 (by omega) (by omega)), ck_t hin, cl_n (by omega), X_mAt N hN τ h hs, Option.bind_some, nm_e_, ck_t hin, X_mAt N hN τ h hs, Option.bind_some, nm_e_, e1, nI_1, mn_n (by omega) (by omega), mn_n (by omega) (by omega)]
      exact ih (j + 1) (by omega) (by omega)
theorem X_more (N : Nat) (hN : 40000 ≤ N) (τ : fb_S) (h : Wr (τ.1 7) (τ.1 8) (τ.1 9) (τ.1 10)) {s : Nat} (hs : s < 4) : f_X4_moreToChangeNet N (nI s) τ = some (nI (mmin (τ.1 7) (τ.1 8) (τ.1 9) (τ.1 10) s 4)) := by
  unfold f_X4_moreToChangeNet
  exact X_mmin N hN τ h hs N 0 (by omega) (by omega)
/-! numbers of walkers between which no net changes -/
theorem maxle (bp : Nat → Int) (v : Int) : ∀ n, (∃ i, i < n ∧ bp i ≤ v) → ∃ i, i < n ∧ bp i ≤ v ∧ ∀ j, j < n → bp j ≤ v → bp j ≤ bp i := by
  intro n
  induction n with
  | zero => rintro ⟨i, hi, -⟩; omega
  | succ n ih =>
    rintro ⟨i, hi, hv⟩
    by_cases c : ∃ i, i < n ∧ bp i ≤ v
    · obtain ⟨i, h1, h2, h3⟩ := ih c
      by_cases c2 : bp n ≤ v ∧ bp i < bp n
      · refine ⟨n, by omega, c2.1, fun j hj hjv => ?_⟩
        by_cases e : j = n
        · subst e; exact Int.le_refl _
        · have := h3 j (by omega) hjv; omega
      · refine ⟨i, by omega, h2, fun j hj hjv => ?_⟩
        by_cases e : j = n
        · subst e; omega
        · exact h3 j (by omega) hjv
    · have : i = n := by
        refine Classical.byContradiction fun hne => c ⟨i, by omega, hv⟩
      subst this
      refine ⟨i, by omega, hv, fun j hj hjv => ?_⟩
      by_cases e : j = i
      · subst e; exact Int.le_refl _
      · exact absurd ⟨j, by omega, hjv⟩ c
theorem psum_in {pu lo st cr : Nat → Int32} {v p : Int} : ∀ j, (∀ i, i < j → (((lo i).toInt ≤ p ∧ p ≤ (st i).toInt) ↔ ((lo i).toInt ≤ v ∧ v ≤ (st i).toInt))) → psum pu lo st cr p j = psum pu lo st cr v j := by
  intro j
  induction j with
  | zero => intro _; rfl
  | succ j ih =>
    intro h
    unfold psum
    rw [ih (fun i hi => h i (by omega))]
    have := h j (by omega)
    by_cases c : (lo j).toInt ≤ v ∧ v ≤ (st j).toInt
    · rw [if_pos c, if_pos (this.mpr c)]
    · rw [if_neg c, if_neg (fun q => c (this.mp q))]
theorem psum_upd {pu lo st cr : Nat → Int32} {s n n' : Nat} (hn : n ≤ n') (hn' : n' < 2147483648) (v : Int) : ∀ j, psum pu lo st (upd cr s (nI n')) v j = psum pu lo st (upd cr s (nI n)) v j + (if s < j ∧ (lo s).toInt ≤ v ∧ v ≤ (st s).toInt then ((n' - n : Nat) : Int) * (pu s).toInt else 0) := by
  intro j
  induction j with
  | zero => rw [if_neg (by omega)]; rfl
  | succ j ih =>
    unfold psum
    rw [ih]
    by_cases e : j = s
    · subst e
      have u1 : upd cr j (nI n') j = nI n' := by simp [upd]
      have u2 : upd cr j (nI n) j = nI n := by simp [upd]
      rw [u1, u2, t_n hn', t_n (by omega), if_neg (show ¬ (j < j ∧ (lo j).toInt ≤ v ∧ v ≤ (st j).toInt) by omega)]
      by_cases c : (lo j).toInt ≤ v ∧ v ≤ (st j).toInt
      · rw [if_pos c, if_pos c, if_pos ⟨by omega, c⟩]
        have : (n' : Int) = (n : Int) + ((n' - n : Nat) : Int) := by omega
        rw [this, Int.add_mul]
        omega
      · rw [if_neg c, if_neg c, if_neg (fun q => c q.2)]
    · have u1 : upd cr s (nI n') j = cr j := by simp [upd, e]
      have u2 : upd cr s (nI n) j = cr j := by simp [upd, e]
      rw [u1, u2]
      by_cases c : s < j ∧ (lo s).toInt ≤ v ∧ v ≤ (st s).toInt
      · rw [if_pos c, if_pos (show s < j + 1 ∧ (lo s).toInt ≤ v ∧ v ≤ (st s).toInt from ⟨by omega, c.2⟩)]; omega
      · rw [if_neg c, if_neg (show ¬ (s < j + 1 ∧ (lo s).toInt ≤ v ∧ v ≤ (st s).toInt) from fun q => c ⟨by omega, q.2⟩)]; omega
theorem div_same {A Q : Int} (hA : 0 ≤ A) (hQ : 0 ≤ Q) (h : Q < 100 - A % 100) : (A + Q) / 100 = A / 100 := by omega
theorem skip {pu lo st cr : Nat → Int32} {s n n' : Nat} (hs : s < 4) (hW : Wr pu lo st (upd cr s (nI n))) (hn : n ≤ n') (hm : n' < n + mmin pu lo st (upd cr s (nI n)) s 4) (hn2 : n ≤ 1000) (d : Int) : stp pu lo st (upd cr s (nI n')) d = stp pu lo st (upd cr s (nI n)) d := by
  funext x
  unfold stp netz
  have hmb := mmin_b hW hs 4
  have e := psum_upd (pu := pu) (lo := lo) (st := st) (cr := cr) (s := s) hn (by omega) (x : Int) 4
  rw [e]
  have hA := psum_b hW (x : Int) 4 (by omega)
  by_cases c : (lo s).toInt ≤ (x : Int) ∧ (x : Int) ≤ (st s).toInt
  · rw [if_pos ⟨hs, c⟩]
    have hp := (hW s hs).1
    unfold rg at hp
    by_cases c0 : pu s = 0
    · have : (pu s).toInt = 0 := by rw [c0]; rfl
      rw [this, Int.mul_zero, Int.add_zero]
    · -- a probe at which the same walkers are in step
      have hmax := maxle (fun i => if i % 2 = 0 then (lo (i / 2)).toInt else (st (i / 2)).toInt + 1) (x : Int) 8 ⟨2 * s, by omega, by
        show (if 2 * s % 2 = 0 then (lo (2 * s / 2)).toInt else (st (2 * s / 2)).toInt + 1) ≤ (x : Int)
        rw [if_pos (by omega), show 2 * s / 2 = s by omega]
        exact c.1⟩
      obtain ⟨i, hi, h1, h2⟩ := hmax
      generalize hpe : (if i % 2 = 0 then (lo (i / 2)).toInt else (st (i / 2)).toInt + 1) = pr at h1 h2
      have h2a : ∀ j, j < 4 → (lo j).toInt ≤ (x : Int) → (lo j).toInt ≤ pr := fun j hj hjx => by
        have := h2 (2 * j) (by omega)
        simp only [show 2 * j % 2 = 0 by omega, show 2 * j / 2 = j by omega, if_true] at this
        exact this hjx
      have h2b : ∀ j, j < 4 → (st j).toInt + 1 ≤ (x : Int) → (st j).toInt + 1 ≤ pr := fun j hj hjx => by
        have := h2 (2 * j + 1) (by omega)
        simp only [show (2 * j + 1) % 2 = 1 by omega, show (2 * j + 1) / 2 = j by omega] at this
        have := this (by simpa using hjx)
        simpa using this
      have h1' : pr ≤ (x : Int) := h1
      have same : ∀ j, j < 4 → (((lo j).toInt ≤ pr ∧ pr ≤ (st j).toInt) ↔ ((lo j).toInt ≤ (x : Int) ∧ (x : Int) ≤ (st j).toInt)) := fun j hj => by
        have a := h2a j hj
        have b := h2b j hj
        constructor
        · rintro ⟨q1, q2⟩
          refine ⟨by omega, ?_⟩
          refine Classical.byContradiction fun q3 => ?_
          have := b (by omega)
          omega
        · rintro ⟨q1, q2⟩
          exact ⟨a q1, by omega⟩
      have hps := psum_in (pu := pu) (cr := upd cr s (nI n)) 4 same
      have hle : mmin pu lo st (upd cr s (nI n)) s 4 ≤ mAt pu lo st (upd cr s (nI n)) s pr := by
        have := mmin_le (pu := pu) (lo := lo) (st := st) (cr := upd cr s (nI n)) (s := s) 4 (i / 2) (by omega)
        rw [← hpe]
        split
        · exact this.1
        · exact this.2
      have hsame := same s hs
      unfold mAt at hle
      rw [if_neg c0, if_pos (hsame.mpr c), hps] at hle
      have hne : (pu s).toInt ≠ 0 := fun q => c0 (t_eq.mpr (by rw [q]; rfl))
      generalize hpp : (pu s).toInt.toNat = p at hle
      have hpi : (pu s).toInt = (p : Int) := by omega
      generalize hAA : psum pu lo st (upd cr s (nI n)) (x : Int) 4 = A at hle hA ⊢
      have hdm := Nat.div_mul_le_self (100 - A.toNat % 100 + p - 1) p
      have hD : (n' - n) + 1 ≤ (100 - A.toNat % 100 + p - 1) / p := by omega
      have hD2 := Nat.mul_le_mul_right p hD
      rw [Nat.add_mul] at hD2
      have hQ : (n' - n) * p < 100 - A.toNat % 100 := by omega
      rw [hpi]
      have hQ2 : (((n' - n : Nat) : Int)) * (p : Int) = (((n' - n) * p : Nat) : Int) := by push_cast; rfl
      rw [hQ2, div_same hA.1 (by omega) (by omega)]
  · rw [if_neg (fun q => c q.2), Int.add_zero]
/-! the first number with which it does not settle -/
def Tm (P : Nat → Bool) (r : Int32) : Prop := (r = -9 ∧ ∀ n, n < 1000 → P n = true) ∨ ∃ n, n < 1000 ∧ r = nI n ∧ P n = false ∧ ∀ i, i < n → P i = true
theorem Tm_eq {P : Nat → Bool} {r r' : Int32} (h : Tm P r) (h' : Tm P r') : r' = r := by
  rcases h with ⟨e, h⟩ | ⟨n, hn, e, h1, h2⟩
  · rcases h' with ⟨e', -⟩ | ⟨n', hn', e', h1', -⟩
    · rw [e, e']
    · rw [h n' hn'] at h1'; cases h1'
  · rcases h' with ⟨e', h'⟩ | ⟨n', hn', e', h1', h2'⟩
    · rw [h' n hn] at h1; cases h1
    · have : n' = n := by
        rcases Nat.lt_trichotomy n n' with q | q | q
        · rw [h2' n q] at h1; cases h1
        · exact q.symm
        · rw [h2 n' q] at h1'; cases h1'
      rw [e, e', this]
def E10 (s : Nat) (σ τ : fb_S) : Prop := ∀ k j, ¬ (k = 6 ∧ j = 4) → ¬ (k = 10 ∧ j = s) → τ.1 k j = σ.1 k j
theorem Wr_upd {pu lo st cr : Nat → Int32} (h : Wr pu lo st cr) {s n : Nat} (hn : n ≤ 999) : Wr pu lo st (upd cr s (nI n)) := fun j hj => by
  have := h j hj
  refine ⟨this.1, this.2.1, this.2.2.1, ?_⟩
  unfold upd
  split
  · exact rg_n hn (by decide)
  · exact this.2.2.2
theorem X_manyL (N : Nat) (hN : 40000 ≤ N) (σ : fb_S) (hW : Wr (σ.1 7) (σ.1 8) (σ.1 9) (σ.1 10)) {d : Int} (h1 : 0 ≤ d) (h2 : d ≤ 6000) {s sm : Nat} (hs : s < 4) (hsm : sm ≤ 9999) : ∀ (k i n : Nat) (τ : fb_S), 1001 - i < k → i ≤ 1000 → i ≤ n → n ≤ 3000 → E10 s σ τ → (∀ q, q < n → q < 1000 → stlB (stp (σ.1 7) (σ.1 8) (σ.1 9) (upd (σ.1 10) s (nI q)) d) sm = true) →
    ∃ r τ', f_X4_fewestTooMany_L18 N k (nI s) (nI sm) (iI d) (σ.1 10 s) (-9) (nI n) (nI i) τ = some (r, τ') ∧ E64 σ τ' ∧ Tm (fun q => stlB (stp (σ.1 7) (σ.1 8) (σ.1 9) (upd (σ.1 10) s (nI q)) d) sm) r := by
  have hin : fb_in (nI s) 4 = true := in_n hs (by decide)
  have endd : ∀ (τ : fb_S) (r : Int32), E10 s σ τ → Tm (fun q => stlB (stp (σ.1 7) (σ.1 8) (σ.1 9) (upd (σ.1 10) s (nI q)) d) sm) r → ∃ r' τ', f_X4_fewestTooMany_L83 N (nI s) (σ.1 10 s) r τ = some (r', τ') ∧ E64 σ τ' ∧ Tm (fun q => stlB (stp (σ.1 7) (σ.1 8) (σ.1 9) (upd (σ.1 10) s (nI q)) d) sm) r' := by
    intro τ r he ht
    unfold f_X4_fewestTooMany_L83
    rw [ck_t hin, nm_e_, cl_n (by omega)]
    refine ⟨r, _, rfl, fun a b hab => ?_, ht⟩
    rw [up_at]
    by_cases e : a = 10 ∧ b = s
    · rw [if_pos e, e.1, e.2]
    · rw [if_neg e]; exact he a b hab e
  intro k
  induction k with
  | zero => intro i n τ h1 h2; omega
  | succ k ih =>
    intro i n τ hk hi hin2 hn he hall
    unfold f_X4_fewestTooMany_L18
    by_cases c1 : i = 1000
    · rw [if_pos (by rw [c1]; decide)]
      exact endd τ (-9) he (Or.inl ⟨rfl, fun q hq => hall q (by omega) hq⟩)
    rw [if_neg (lc_nlt 999 (by omega) (by omega))]
    by_cases c2 : 999 < n
    · rw [if_pos (lc_lt 999 c2 (by omega))]
      exact endd τ (-9) he (Or.inl ⟨rfl, fun q hq => hall q (by omega) hq⟩)
    rw [if_neg (lc_nlt 999 (by omega) (by omega)), if_pos rfl, ck_t hin, nm_e_, cl_n (by omega), nI_1]
    generalize hτ1 : fb_up τ 10 s (nI n) = τ1
    have he1 : E10 s σ τ1 := fun a b h3 h4 => by rw [← hτ1, up_ne _ _ h4]; exact he a b h3 h4
    have r7 : τ1.1 7 = σ.1 7 := funext fun j => he1 7 j (by omega) (by omega)
    have r8 : τ1.1 8 = σ.1 8 := funext fun j => he1 8 j (by omega) (by omega)
    have r9 : τ1.1 9 = σ.1 9 := funext fun j => he1 9 j (by omega) (by omega)
    have r10 : τ1.1 10 = upd (σ.1 10) s (nI n) := funext fun j => by
      rw [← hτ1, up_at]
      unfold upd
      by_cases e : j = s
      · rw [if_pos ⟨rfl, e⟩, if_pos e]
      · rw [if_neg (fun q => e q.2), if_neg e]; exact he 10 j (by omega) (fun q => e q.2)
    have hW1 : Wr (τ1.1 7) (τ1.1 8) (τ1.1 9) (τ1.1 10) := by rw [r7, r8, r9, r10]; exact Wr_upd hW (by omega)
    have hsp : spx τ1 d = stp (σ.1 7) (σ.1 8) (σ.1 9) (upd (σ.1 10) s (nI n)) d := by unfold spx; rw [r7, r8, r9, r10]
    obtain ⟨T, K, hr⟩ := rho_of (spx_le τ1 d) hsm
    obtain ⟨τ2, e1, e2, -⟩ := X_still N hN τ1 hW1 h1 h2 hsm hr
    have hst := stlB_rho (spx_0 τ1 d) hr
    rw [e1, Option.bind_some]
    have he2 : E10 s σ τ2 := fun a b h3 h4 => by rw [e2 a b h3]; exact he1 a b h3 h4
    by_cases c : itr (spx τ1 d) T sm = 0
    · have hset : stlB (stp (σ.1 7) (σ.1 8) (σ.1 9) (upd (σ.1 10) s (nI n)) d) sm = true := by rw [← hsp]; exact hst.mpr c
      have q7 := e2.row (k := 7) (by decide)
      have q8 := e2.row (k := 8) (by decide)
      have q9 := e2.row (k := 9) (by decide)
      have q10 := e2.row (k := 10) (by decide)
      have hW2 : Wr (τ2.1 7) (τ2.1 8) (τ2.1 9) (τ2.1 10) := by rw [q7, q8, q9, q10]; exact hW1
      rw [if_pos c]
      have hTK := hr.1
      have hK := hr.2.1
      rw [if_neg (m9n (by omega)), X_more N hN τ2 hW2 hs, Option.bind_some, nm_e_, nI_add, q7, q8, q9, q10, r7, r8, r9, r10]
      have hmb := mmin_b (Wr_upd hW (s := s) (n := n) (by omega)) hs 4
      refine ih (i + 1) _ τ2 (by omega) (by omega) (by omega) (by omega) he2 (fun q hq hq2 => ?_)
      by_cases c3 : q < n
      · exact hall q c3 hq2
      · rw [skip hs (Wr_upd hW (by omega)) (show n ≤ q by omega) hq (by omega) d]
        exact hset
    · rw [if_neg c, if_pos rfl]
      have hun : stlB (stp (σ.1 7) (σ.1 8) (σ.1 9) (upd (σ.1 10) s (nI n)) d) sm = false := by
        rw [← hsp]
        exact Bool.eq_false_iff.mpr (fun q => c (hst.mp q))
      have hT : Tm (fun q => stlB (stp (σ.1 7) (σ.1 8) (σ.1 9) (upd (σ.1 10) s (nI q)) d) sm) (nI n) := Or.inr ⟨n, by omega, rfl, hun, fun q hq => hall q hq (by omega)⟩
      cases k with
      | zero => omega
      | succ k =>
        unfold f_X4_fewestTooMany_L18
        by_cases c4 : i + 1 = 1000
        · rw [if_pos (by rw [c4]; decide)]
          exact endd τ2 _ he2 hT
        · rw [if_neg (lc_nlt 999 (by omega) (by omega)), if_neg (lc_nlt 999 (by omega) (by omega)), if_neg (m9n (by omega))]
          exact endd τ2 _ he2 hT
/-- the reference, with its own row of walkers -/
def Md' (s : Nat) (pu lo st cr : Nat → Int32) (d : Int) (τ : fb_S) : Prop := (∀ j, j < 4 → τ.1 32 j = pu j ∧ τ.1 33 j = lo j ∧ τ.1 34 j = st j ∧ (j ≠ s → τ.1 36 j = cr j)) ∧ (τ.1 37 0).toInt + (τ.1 29 9).toInt = d
theorem M_small (N : Nat) (hN : 40000 ≤ N) {pu lo st cr : Nat → Int32} {d : Int} (hW : Wr pu lo st cr) (h1 : 0 ≤ d) (h2 : d ≤ 6000) {sm : Nat} (hsm : sm ≤ 9999) (τ : fb_S) (hm : Md pu lo st cr d τ) (e1 : τ.1 37 1 = nI sm) : ∃ τ', f_X6_smallSettles N τ = some (if stlB (stp pu lo st cr d) sm = true then 1 else 0, τ') ∧ Eg τ τ' := by
  unfold f_X6_smallSettles
  obtain ⟨T, K, hr⟩ := rho_of (stp_le pu lo st cr d) hsm
  obtain ⟨τ', q1, q2, q3, q4, q5⟩ := M_goOn N hN hW h1 h2 hsm hr τ hm
  have hst := stlB_rho (stp_0 pu lo st cr d) hr
  have hle := itr_le (stp_le pu lo st cr d) T sm hsm
  rw [e1, q1, Option.bind_some, q5]
  by_cases c : itr (stp pu lo st cr d) T sm = 0
  · rw [if_pos (by rw [c]; rfl), if_pos (hst.mpr c)]
    exact ⟨τ', rfl, q2⟩
  · rw [if_neg (fun q => c ((n0 (by omega)).mp q)), if_neg (fun q => c (hst.mp q))]
    exact ⟨τ', rfl, q2⟩
theorem M_manyL (N : Nat) (hN : 40000 ≤ N) {pu lo st cr : Nat → Int32} {d : Int} (hW : Wr pu lo st cr) (h1 : 0 ≤ d) (h2 : d ≤ 6000) {s sm : Nat} (hs : s < 4) (hsm : sm ≤ 9999) {σ : fb_S} : ∀ (k n : Nat) (τ : fb_S), 1000 - n < k → n ≤ 1000 → Keep σ τ → Md' s pu lo st cr d τ → τ.1 37 1 = nI sm → (∀ q, q < n → stlB (stp pu lo st (upd cr s (nI q)) d) sm = true) →
    ∃ r τ', f_X6_tooMany_L20 N k (nI s) (nI n) τ = some (r, τ') ∧ Keep σ τ' ∧ Tm (fun q => stlB (stp pu lo st (upd cr s (nI q)) d) sm) r := by
  have hin : fb_in (nI s) 4 = true := in_n hs (by decide)
  intro k
  induction k with
  | zero => intro n τ h1 h2; omega
  | succ k ih =>
    intro n τ hk hn hke hm e1 hall
    unfold f_X6_tooMany_L20
    by_cases c : n = 1000
    · rw [if_pos (by rw [c]; decide)]
      exact ⟨-9, τ, rfl, hke, Or.inl ⟨rfl, fun q hq => hall q (by omega)⟩⟩
    · rw [if_neg (lc_nle 1000 (by omega) (by omega)), ck_t hin, nm_e_, cl_n (by omega), nI_1]
      have hmd : Md pu lo st (upd cr s (nI n)) d (fb_up τ 36 s (nI n)) := by
        refine ⟨fun j hj => ?_, ?_⟩
        · have := hm.1 j hj
          rw [up_ne _ _ (by omega), up_ne _ _ (by omega), up_ne _ _ (by omega)]
          refine ⟨this.1, this.2.1, this.2.2.1, ?_⟩
          rw [up_at]
          unfold upd
          by_cases e : j = s
          · rw [if_pos ⟨rfl, e⟩, if_pos e]
          · rw [if_neg (fun q => e q.2), if_neg e]; exact this.2.2.2 e
        · rw [up_ne _ _ (by omega), up_ne _ _ (by omega)]; exact hm.2
      obtain ⟨τ1, g1, g2⟩ := M_small N hN (Wr_upd hW (s := s) (n := n) (by omega)) h1 h2 hsm _ hmd (by rw [up_ne _ _ (by omega)]; exact e1)
      rw [g1, Option.bind_some]
      have hk1 : Keep σ τ1 := (Keep.up rfl hke).tr g2.keep
      by_cases cs : stlB (stp pu lo st (upd cr s (nI n)) d) sm = true
      · rw [if_pos cs, if_neg z_1]
        refine ih (n + 1) τ1 (by omega) (by omega) hk1 ⟨fun j hj => ?_, ?_⟩ ?_ (fun q hq => ?_)
        · have := hmd.1 j hj
          rw [g2 32 j (by decide) (by omega), g2 33 j (by decide) (by omega), g2 34 j (by decide) (by omega), g2 36 j (by decide) (by omega)]
          refine ⟨this.1, this.2.1, this.2.2.1, fun e => ?_⟩
          rw [this.2.2.2]
          simp [upd, e]
        · rw [g2 37 0 (by decide) (by decide), g2 29 9 (by decide) (by decide)]; exact hmd.2
        · rw [g2 37 1 (by decide) (by decide), up_ne _ _ (by omega)]; exact e1
        · by_cases e : q = n
          · rw [e]; exact cs
          · exact hall q (by omega)
      · rw [if_neg cs, if_pos rfl]
        exact ⟨nI n, τ1, rfl, hk1, Or.inr ⟨n, by omega, rfl, Bool.eq_false_iff.mpr cs, hall⟩⟩
theorem small_n {σ : fb_S} (hR : Rl σ) : ∃ sm, sm ≤ 9999 ∧ 1 ≤ sm ∧ σ.1 1 1 = nI sm := by
  have h := hR.2.2.1.2.2.1
  obtain ⟨sm, h1, h2⟩ := rgn 9999 (by decide) ⟨by have := h.1; omega, h.2⟩
  refine ⟨sm, h1, ?_, h2⟩
  have := h.1
  rw [h2, t_n (by omega)] at this
  omega
theorem st_tooMany (N : Nat) (hN : 40000 ≤ N) (σ : fb_S) (hR : Rl σ) (a1 : Int32) : ∃ r σ1 σ2, f_X5_tooMany N a1 σ = some (r, σ1) ∧ f_X6_tooMany N a1 σ1 = some (r, σ2) ∧ Rl σ2 := by
  unfold f_X5_tooMany f_X6_tooMany
  rw [X_isSort]
  by_cases c1 : 0 ≤ a1 ∧ a1 ≤ 3
  · obtain ⟨s, hs, rfl⟩ := ex_n (c := 3) (by decide) c1.1 c1.2
    obtain ⟨sm, hsm, -, esm⟩ := small_n hR
    have hd := dmp_b σ hR
    have hW := Wr_of hR
    obtain ⟨r, τ, e1, e2, e3⟩ := X_manyL N hN σ hW (d := dmp σ) (by omega) (by omega) (show s < 4 by omega) hsm N 0 0 σ (by omega) (by omega) (by omega) (by omega) (fun _ _ _ _ => rfl) (fun q hq => by omega)
    have hk0 : Keep σ (fb_up τ 29 0 0) := Keep.up rfl e2.keep
    obtain ⟨τ1, g1, g2, g3, -⟩ := M_asIs N hN hR hk0
    obtain ⟨r', τ2, q1, q2, q3⟩ := M_manyL N hN hW (d := dmp σ) (by omega) (by omega) (show s < 4 by omega) hsm N 0 τ1 (by omega) (by omega) g2 ⟨fun j hj => ⟨(g3.1 j hj).1, (g3.1 j hj).2.1, (g3.1 j hj).2.2.1, fun _ => (g3.1 j hj).2.2.2⟩, g3.2⟩ (by rw [g2 37 1 rfl, hR.2.2.1.1 1 (by decide), esm]) (fun q hq => by omega)
    have er := Tm_eq e3 q3
    rw [er] at q1
    refine ⟨r, τ, τ2, ?_, ?_, Rl_keep q2 hR⟩
    · rw [if_pos c1, Option.bind_some, if_neg z_1, X_damping N hN σ hR, Option.bind_some, esm]
      unfold f_X4_fewestTooMany
      rw [ck_t (in_n (show s < 4 by omega) (by decide)), nm_e_, cl_n (by omega)]
      have e1' : f_X4_fewestTooMany_L18 N N (nI s) (nI sm) (iI (dmp σ)) (σ.1 10 s) (-9) 0 0 σ = some (r, τ) := e1
      rw [e1', Option.bind_some]
    · rw [nm_e_, M_noSort, if_pos c1, Option.bind_some, if_pos rfl, g1, Option.bind_some]
      exact q1
  · rw [if_neg c1]
    refine ⟨-1, σ, fb_up σ 29 0 0, rfl, ?_, Rl_keep (Keep.up rfl Keep.rfl') hR⟩
    rw [nm_e_, M_noSort, if_neg c1]
    rfl
