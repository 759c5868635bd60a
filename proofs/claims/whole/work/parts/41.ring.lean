/-! the ring -/
def rmn (g : Nat → Nat) : Nat → Nat
  | 0 => g 0
  | j + 1 => min (rmn g j) (g (j + 1))
def rmx (g : Nat → Nat) : Nat → Nat
  | 0 => g 0
  | j + 1 => max (rmx g j) (g (j + 1))
theorem rmn_le (g : Nat → Nat) : ∀ n j, j ≤ n → rmn g n ≤ g j := by
  intro n
  induction n with
  | zero => intro j hj; rw [show j = 0 by omega]; exact Nat.le_refl _
  | succ n ih =>
    intro j hj
    unfold rmn
    by_cases e : j = n + 1
    · subst e; omega
    · have := ih j (by omega); omega
theorem rmn_ex (g : Nat → Nat) : ∀ n, ∃ j, j ≤ n ∧ rmn g n = g j := by
  intro n
  induction n with
  | zero => exact ⟨0, Nat.le_refl _, rfl⟩
  | succ n ih =>
    obtain ⟨j, h1, h2⟩ := ih
    unfold rmn
    by_cases c : rmn g n ≤ g (n + 1)
    · exact ⟨j, by omega, by omega⟩
    · exact ⟨n + 1, by omega, by omega⟩
theorem rmx_ge (g : Nat → Nat) : ∀ n j, j ≤ n → g j ≤ rmx g n := by
  intro n
  induction n with
  | zero => intro j hj; rw [show j = 0 by omega]; exact Nat.le_refl _
  | succ n ih =>
    intro j hj
    unfold rmx
    by_cases e : j = n + 1
    · subst e; omega
    · have := ih j (by omega); omega
theorem rmx_ex (g : Nat → Nat) : ∀ n, ∃ j, j ≤ n ∧ rmx g n = g j := by
  intro n
  induction n with
  | zero => exact ⟨0, Nat.le_refl _, rfl⟩
  | succ n ih =>
    obtain ⟨j, h1, h2⟩ := ih
    unfold rmx
    by_cases c : g (n + 1) ≤ rmx g n
    · exact ⟨j, by omega, by omega⟩
    · exact ⟨n + 1, by omega, by omega⟩
section Rg
variable {f : Nat → Nat} {v T K : Nat}
theorem ring_a (h : Rho f v T K) {m : Nat} (hm : T ≤ m) (j : Nat) : ∃ i, i ≤ K - T - 1 ∧ itr f (m + j) v = itr f (T + i) v := by
  obtain ⟨i, i1, i2, i3⟩ := rho_red h (show T ≤ m + j by omega)
  exact ⟨i - T, by omega, by rw [i3, show T + (i - T) = i by omega]⟩
theorem ring_b (h : Rho f v T K) {m : Nat} (hm : T ≤ m) (i : Nat) : ∃ j, j ≤ K - T - 1 ∧ itr f (T + i) v = itr f (m + j) v := by
  have hL : 0 < K - T := by have := h.1; omega
  have e1 := rho_perm h m (j := T + i) (by omega)
  have hge : m ≤ m * (K - T) := Nat.le_mul_of_pos_right m hL
  refine ⟨(T + i + m * (K - T) - m) % (K - T), by have := Nat.mod_lt (T + i + m * (K - T) - m) hL; omega, ?_⟩
  have e2 := rho_perm h ((T + i + m * (K - T) - m) / (K - T)) (j := m + (T + i + m * (K - T) - m) % (K - T)) (by omega)
  have e3 : m + (T + i + m * (K - T) - m) % (K - T) + (T + i + m * (K - T) - m) / (K - T) * (K - T) = T + i + m * (K - T) := by
    have := Nat.mod_add_div (T + i + m * (K - T) - m) (K - T)
    rw [Nat.mul_comm (K - T)] at this
    omega
  rw [e3] at e2
  exact e1.symm.trans e2
theorem ring_mn (h : Rho f v T K) {m : Nat} (hm : T ≤ m) : rmn (fun j => itr f (m + j) v) (K - T - 1) = rmn (fun j => itr f (T + j) v) (K - T - 1) := by
  obtain ⟨j, j1, j2⟩ := rmn_ex (fun j => itr f (m + j) v) (K - T - 1)
  obtain ⟨i, i1, i2⟩ := rmn_ex (fun j => itr f (T + j) v) (K - T - 1)
  obtain ⟨i', a1, a2⟩ := ring_a h hm j
  obtain ⟨j', b1, b2⟩ := ring_b h hm i
  have q1 := rmn_le (fun j => itr f (T + j) v) (K - T - 1) i' a1
  have q2 := rmn_le (fun j => itr f (m + j) v) (K - T - 1) j' b1
  rw [j2] at q2 ⊢
  rw [i2] at q1 ⊢
  rw [← a2] at q1
  rw [← b2] at q2
  exact Nat.le_antisymm q2 q1
theorem ring_mx (h : Rho f v T K) {m : Nat} (hm : T ≤ m) : rmx (fun j => itr f (m + j) v) (K - T - 1) = rmx (fun j => itr f (T + j) v) (K - T - 1) := by
  obtain ⟨j, j1, j2⟩ := rmx_ex (fun j => itr f (m + j) v) (K - T - 1)
  obtain ⟨i, i1, i2⟩ := rmx_ex (fun j => itr f (T + j) v) (K - T - 1)
  obtain ⟨i', a1, a2⟩ := ring_a h hm j
  obtain ⟨j', b1, b2⟩ := ring_b h hm i
  have q1 := rmx_ge (fun j => itr f (T + j) v) (K - T - 1) i' a1
  have q2 := rmx_ge (fun j => itr f (m + j) v) (K - T - 1) j' b1
  rw [j2] at q2 ⊢
  rw [i2] at q1 ⊢
  rw [← a2] at q1
  rw [← b2] at q2
  exact Nat.le_antisymm q1 q2
end Rg
theorem mn_n {a b : Nat} (ha : a < 2147483648) (hb : b < 2147483648) : mn_ (nI a) (nI b) = nI (min a b) := by
  rw [iI_n, iI_n, iI_n, mn_i (by omega) (by omega) (by omega) (by omega)]
  congr 1
  omega
theorem mx_n {a b : Nat} (ha : a < 2147483648) (hb : b < 2147483648) : mx_ (nI a) (nI b) = nI (max a b) := by
  rw [iI_n, iI_n, iI_n, mx_i (by omega) (by omega) (by omega) (by omega)]
  congr 1
  omega
theorem M_lesser {a b : Nat} (ha : a < 2147483648) (hb : b < 2147483648) : f_X6_lesser (nI a) (nI b) = some (nI (min a b)) := by
  unfold f_X6_lesser
  by_cases c : b ≤ a
  · rw [if_pos (nI_le c (by omega)), show min a b = b by omega]
  · rw [if_neg (nI_ge (by omega) (by omega)), show min a b = a by omega]
section RX
variable {N : Nat} (hN : 40000 ≤ N) {σ τ : fb_S} (he : E64 σ τ) (hW : Wr (σ.1 7) (σ.1 8) (σ.1 9) (σ.1 10)) {d : Int} (h1 : 0 ≤ d) (h2 : d ≤ 6000) {v T K m : Nat} (hv : v ≤ 9999) (hr : Rho (spx σ d) v T K) (hm : T ≤ m)
theorem X_ringSizeL (hN : 40000 ≤ N) (he : E64 σ τ) (hW : Wr (σ.1 7) (σ.1 8) (σ.1 9) (σ.1 10)) (h1 : 0 ≤ d) (h2 : d ≤ 6000) (hv : v ≤ 9999) (hr : Rho (spx σ d) v T K) (hm : T ≤ m) : ∀ (n i : Nat), i + 1 ≤ K - T → K - T - i < n → f_X4_ringSize_L13 N τ n (nI (itr (spx σ d) m v)) (iI d) (nI (i + 1)) (nI (itr (spx σ d) (m + (i + 1)) v)) (nI i) = some (nI (K - T)) := by
  have hK := hr.2.1
  intro n
  induction n with
  | zero => intro i h1 h2; omega
  | succ n ih =>
    intro i hi hn
    unfold f_X4_ringSize_L13
    have a1 := itr_le (spx_le σ d) m v hv
    have a2 := itr_le (spx_le σ d) (m + (i + 1)) v hv
    rw [if_neg (lc_nle 10000 (by omega) (by omega))]
    by_cases c : i + 1 = K - T
    · rw [if_pos (by rw [c, rho_per hr hm]), c]
    · rw [if_neg (fun q => rho_apart hr hm (show 0 < i + 1 by omega) (by omega) ((nI_eq (by omega) (by omega)).mp q)), X_bf N hN he hW h1 h2 a2, Option.bind_some, nI_1, nI_1, ← itr_s (spx σ d) (m + (i + 1)) v]
      exact ih (i + 1) (by omega) (by omega)
theorem X_ringSize (hN : 40000 ≤ N) (he : E64 σ τ) (hW : Wr (σ.1 7) (σ.1 8) (σ.1 9) (σ.1 10)) (h1 : 0 ≤ d) (h2 : d ≤ 6000) (hv : v ≤ 9999) (hr : Rho (spx σ d) v T K) (hm : T ≤ m) : f_X4_ringSize N (nI (itr (spx σ d) m v)) (iI d) τ = some (nI (K - T)) := by
  have a1 := itr_le (spx_le σ d) m v hv
  have hTK := hr.1
  have hK := hr.2.1
  unfold f_X4_ringSize
  rw [X_bf N hN he hW h1 h2 a1, Option.bind_some, ← itr_s (spx σ d) m v]
  exact X_ringSizeL hN he hW h1 h2 hv hr hm N 0 (by omega) (by omega)
theorem X_ringEndL (hN : 40000 ≤ N) (he : E64 σ τ) (hW : Wr (σ.1 7) (σ.1 8) (σ.1 9) (σ.1 10)) (h1 : 0 ≤ d) (h2 : d ≤ 6000) (hv : v ≤ 9999) (hr : Rho (spx σ d) v T K) (hm : T ≤ m) (b : Int32) : ∀ (n i : Nat), i + 1 ≤ K - T → K - T - i < n → f_X4_ringEnd_L14 N τ n (nI (itr (spx σ d) m v)) b (iI d) (nI (if b = 0 then rmn (fun j => itr (spx σ d) (m + j) v) i else rmx (fun j => itr (spx σ d) (m + j) v) i)) (nI (itr (spx σ d) (m + (i + 1)) v)) (nI i) = some (nI (if b = 0 then rmn (fun j => itr (spx σ d) (m + j) v) (K - T - 1) else rmx (fun j => itr (spx σ d) (m + j) v) (K - T - 1))) := by
  have hK := hr.2.1
  intro n
  induction n with
  | zero => intro i h1 h2; omega
  | succ n ih =>
    intro i hi hn
    unfold f_X4_ringEnd_L14 f_X4_ringEnd_L49
    have a1 := itr_le (spx_le σ d) m v hv
    have a2 := itr_le (spx_le σ d) (m + (i + 1)) v hv
    rw [if_neg (lc_nle 10000 (by omega) (by omega))]
    by_cases c : i + 1 = K - T
    · rw [if_pos (by rw [c, rho_per hr hm]), show K - T - 1 = i by omega]
    · have ih := ih (i + 1) (by omega) (by omega)
      obtain ⟨j1, -, e1⟩ := rmn_ex (fun j => itr (spx σ d) (m + j) v) i
      obtain ⟨j2, -, e2⟩ := rmx_ex (fun j => itr (spx σ d) (m + j) v) i
      have b1 : rmn (fun j => itr (spx σ d) (m + j) v) i ≤ 9999 := by rw [e1]; exact itr_le (spx_le σ d) _ v hv
      have b2 : rmx (fun j => itr (spx σ d) (m + j) v) i ≤ 9999 := by rw [e2]; exact itr_le (spx_le σ d) _ v hv
      rw [if_neg (fun q => rho_apart hr hm (show 0 < i + 1 by omega) (by omega) ((nI_eq (by omega) (by omega)).mp q)), X_bf N hN he hW h1 h2 a2, Option.bind_some, Option.bind_some, nI_1, ← itr_s (spx σ d) (m + (i + 1)) v]
      by_cases cb : b = 0
      · rw [if_pos cb, if_pos cb, if_pos cb, mn_n (by omega) (by omega)]
        rw [if_pos cb, if_pos cb] at ih
        exact ih
      · rw [if_neg cb, if_neg cb, if_neg cb, mx_n (by omega) (by omega)]
        rw [if_neg cb, if_neg cb] at ih
        exact ih
theorem X_ringEnd (hN : 40000 ≤ N) (he : E64 σ τ) (hW : Wr (σ.1 7) (σ.1 8) (σ.1 9) (σ.1 10)) (h1 : 0 ≤ d) (h2 : d ≤ 6000) (hv : v ≤ 9999) (hr : Rho (spx σ d) v T K) (hm : T ≤ m) (b : Int32) : f_X4_ringEnd N (nI (itr (spx σ d) m v)) b (iI d) τ = some (nI (if b = 0 then rmn (fun j => itr (spx σ d) (T + j) v) (K - T - 1) else rmx (fun j => itr (spx σ d) (T + j) v) (K - T - 1))) := by
  have a1 := itr_le (spx_le σ d) m v hv
  have hTK := hr.1
  have hK := hr.2.1
  unfold f_X4_ringEnd
  rw [X_bf N hN he hW h1 h2 a1, Option.bind_some, ← itr_s (spx σ d) m v, ← ring_mn hr hm, ← ring_mx hr hm]
  have e := X_ringEndL hN he hW h1 h2 hv hr hm b N 0 (by omega) (by omega)
  have e0 : (if b = 0 then rmn (fun j => itr (spx σ d) (m + j) v) 0 else rmx (fun j => itr (spx σ d) (m + j) v) 0) = itr (spx σ d) m v := by split <;> rfl
  rw [e0] at e
  exact e
theorem X_aheadL (hN : 40000 ≤ N) (he : E64 σ τ) (hW : Wr (σ.1 7) (σ.1 8) (σ.1 9) (σ.1 10)) (h1 : 0 ≤ d) (h2 : d ≤ 6000) (hv : v ≤ 9999) (hr : Rho (spx σ d) v T K) : ∀ (n i : Nat), i ≤ T → T - i < n → f_X4_beatsAheadOfRing_L18 N τ n (iI d) (nI (itr (spx σ d) i v)) (nI (itr (spx σ d) (i + (K - T)) v)) (nI i) (nI i) = some (nI T) := by
  have hTK := hr.1
  have hK := hr.2.1
  intro n
  induction n with
  | zero => intro i h1 h2; omega
  | succ n ih =>
    intro i hi hn
    unfold f_X4_beatsAheadOfRing_L18
    have a1 := itr_le (spx_le σ d) i v hv
    have a2 := itr_le (spx_le σ d) (i + (K - T)) v hv
    rw [if_neg (lc_nle 10000 (by omega) (by omega))]
    by_cases c : i = T
    · rw [if_pos (by rw [c, rho_per hr (Nat.le_refl _)]), c]
    · rw [if_neg (fun q => by have := rho_first hr ((nI_eq (by omega) (by omega)).mp q).symm; omega), X_bf N hN he hW h1 h2 a1, Option.bind_some, X_bf N hN he hW h1 h2 a2, Option.bind_some, nI_1, ← itr_s (spx σ d) i v, ← itr_s (spx σ d) (i + (K - T)) v]
      have := ih (i + 1) (by omega) (by omega)
      rw [show i + 1 + (K - T) = i + (K - T) + 1 by omega] at this
      exact this
theorem X_ahead (hN : 40000 ≤ N) (he : E64 σ τ) (hW : Wr (σ.1 7) (σ.1 8) (σ.1 9) (σ.1 10)) (h1 : 0 ≤ d) (h2 : d ≤ 6000) (hv : v ≤ 9999) (hr : Rho (spx σ d) v T K) : f_X4_beatsAheadOfRing N (nI v) (nI (K - T)) (iI d) τ = some (nI T) := by
  have hTK := hr.1
  have hK := hr.2.1
  unfold f_X4_beatsAheadOfRing f_X4_swayBehind
  have e7 := he.row (k := 7) (by decide)
  have e8 := he.row (k := 8) (by decide)
  have e9 := he.row (k := 9) (by decide)
  have e10 := he.row (k := 10) (by decide)
  have hs : spx τ d = spx σ d := by unfold spx; rw [e7, e8, e9, e10]
  have e : f_X4_swayBehind_L6 N τ N (nI (K - T)) (iI d) (nI v) 0 = _ := X_behind N hN τ (by rw [e7, e8, e9, e10]; exact hW) h1 h2 (show K - T ≤ 20000 by omega) N 0 v (by omega) (by omega) hv
  rw [e, Option.bind_some, hs]
  have := X_aheadL hN he hW h1 h2 hv hr N 0 (by omega) (by omega)
  rw [Nat.zero_add] at this
  exact this
end RX
/-! the reference's ring -/
def ringV (f : Nat → Nat) (v T K : Nat) (a2 : Int32) : Int32 := if a2 = 0 then nI (rmn (fun j => itr f (T + j) v) (K - T - 1)) else if a2 = 1 then nI (rmx (fun j => itr f (T + j) v) (K - T - 1)) else if a2 = 2 then nI (K - T) else nI T
theorem M_ringL (N : Nat) (hN : 40000 ≤ N) {pu lo st cr : Nat → Int32} {d : Int} (hW : Wr pu lo st cr) (h1 : 0 ≤ d) (h2 : d ≤ 6000) {v T K : Nat} (hv : v ≤ 9999) (hr : Rho (stp pu lo st cr d) v T K) (τ : fb_S) (hm : Md pu lo st cr d τ) (e18 : τ.1 29 18 = nI T) (e19 : τ.1 29 19 = nI (K - T)) (a2 : Int32) : ∀ (n k : Nat), k ≤ K - T → K - T - k < n → f_X6_ring_L66 N n a2 (nI (rmn (fun j => itr (stp pu lo st cr d) (T + j) v) (k - 1))) (nI (rmx (fun j => itr (stp pu lo st cr d) (T + j) v) (k - 1))) (nI (itr (stp pu lo st cr d) (T + k) v)) (nI k) τ = some (ringV (stp pu lo st cr d) v T K a2, τ) := by
  have hTK := hr.1
  have hK := hr.2.1
  generalize hf : stp pu lo st cr d = f at *
  have fle : ∀ x, f x ≤ 9999 := fun x => by rw [← hf]; exact stp_le _ _ _ _ _ _
  intro n
  induction n with
  | zero => intro k h1 h2; omega
  | succ n ih =>
    intro k hk hn
    unfold f_X6_ring_L66 f_X6_ring_L96
    rw [e18, e19]
    by_cases c : k = K - T
    · rw [if_pos (nI_le (by omega) (by omega)), c]
      unfold ringV
      split
      · rfl
      · split
        · rfl
        · split <;> rfl
    · have a2' := itr_le fle (T + k) v hv
      obtain ⟨j1, -, e1⟩ := rmn_ex (fun j => itr f (T + j) v) (k - 1)
      obtain ⟨j2, -, e2⟩ := rmx_ex (fun j => itr f (T + j) v) (k - 1)
      have b1 : rmn (fun j => itr f (T + j) v) (k - 1) ≤ 9999 := by rw [e1]; exact itr_le fle _ v hv
      have b2 : rmx (fun j => itr f (T + j) v) (k - 1) ≤ 9999 := by rw [e2]; exact itr_le fle _ v hv
      have ih := ih (k + 1) (by omega) (by omega)
      rw [if_neg (nI_ge (by omega) (by omega)), M_lesser (by omega) (by omega), Option.bind_some, M_beat N hN hm hW h1 h2 a2', Option.bind_some, Option.bind_some, nI_1, hf, ← itr_s f (T + k) v]
      have q1 : min (rmn (fun j => itr f (T + j) v) (k - 1)) (itr f (T + k) v) = rmn (fun j => itr f (T + j) v) (k + 1 - 1) := by
        cases k with
        | zero => show min (itr f (T + 0) v) (itr f (T + 0) v) = itr f (T + 0) v; omega
        | succ k => rfl
      have q2 : max (rmx (fun j => itr f (T + j) v) (k - 1)) (itr f (T + k) v) = rmx (fun j => itr f (T + j) v) (k + 1 - 1) := by
        cases k with
        | zero => show max (itr f (T + 0) v) (itr f (T + 0) v) = itr f (T + 0) v; omega
        | succ k => rfl
      rw [q1]
      by_cases cx : itr f (T + k) v ≤ rmx (fun j => itr f (T + j) v) (k - 1)
      · rw [if_pos (nI_le cx (by omega))]
        rw [show max (rmx (fun j => itr f (T + j) v) (k - 1)) (itr f (T + k) v) = rmx (fun j => itr f (T + j) v) (k - 1) by omega] at q2
        rw [q2]
        exact ih
      · rw [if_neg (nI_ge (by omega) (by omega))]
        rw [show max (rmx (fun j => itr f (T + j) v) (k - 1)) (itr f (T + k) v) = itr f (T + k) v by omega] at q2
        rw [← q2] at ih
        exact ih
theorem st_ring (N : Nat) (hN : 40000 ≤ N) (σ : fb_S) (hR : Rl σ) (a1 : Int32) (a2 : Int32) : ∃ r σ1 σ2, f_X5_ring N a1 a2 σ = some (r, σ1) ∧ f_X6_ring N a1 a2 σ1 = some (r, σ2) ∧ Rl σ2 := by
  unfold f_X5_ring f_X6_ring
  rw [X_isSway, X_within, M_noSway, M_in2 a2 0 3 (by decide) (by decide)]
  by_cases c1 : 0 ≤ a1 ∧ a1 ≤ 9999
  · by_cases c2 : 0 ≤ a2 ∧ a2 ≤ 3
    · obtain ⟨v, hv, rfl⟩ := sway_n c1
      have hd := dmp_b σ hR
      have hW := Wr_of hR
      obtain ⟨T, K, hr⟩ := rho_of (spx_le σ (dmp σ)) hv
      obtain ⟨τ, e1, e2, e3⟩ := X_still N hN σ hW (by omega) (by omega) hv hr
      have hk0 : Keep σ (fb_up τ 29 0 0) := Keep.up rfl e2.keep
      obtain ⟨τ1, g1, g2, g3, -⟩ := M_asIs N hN hR hk0
      obtain ⟨τ2, q1, q2, q3, q4, q5⟩ := M_goOn N hN hW (by omega) (by omega) hv hr τ1 g3
      have hle : itr (spx σ (dmp σ)) T v ≤ 9999 := itr_le (spx_le σ (dmp σ)) T v hv
      have q5 : τ2.1 29 20 = nI (itr (spx σ (dmp σ)) T v) := q5
      have hTK := hr.1
      have hK := hr.2.1
      by_cases c : itr (spx σ (dmp σ)) T v = 0
      · refine ⟨-9, τ, τ2, ?_, ?_, Rl_keep (g2.tr q2.keep) hR⟩
        · rw [if_pos c1, Option.bind_some, if_neg z_1, if_pos c2, Option.bind_some, if_neg z_1, X_damping N hN σ hR, Option.bind_some]
          unfold f_X4_ringFigure
          rw [e1, if_pos c, Option.bind_some, if_neg (m9n (by omega)), Option.bind_some]
        · rw [nm_e_, if_pos c1, Option.bind_some, if_pos rfl, if_pos c2, Option.bind_some, if_neg z_1, g1, Option.bind_some, q1, Option.bind_some, q5]
          rw [if_pos (by rw [c]; rfl)]
      · obtain ⟨m, cc, hcc, em, e64⟩ := e3 c
        have hTm := rho_in hr hcc em
        refine ⟨ringV (spx σ (dmp σ)) v T K a2, τ, τ2, ?_, ?_, Rl_keep (g2.tr q2.keep) hR⟩
        · rw [if_pos c1, Option.bind_some, if_neg z_1, if_pos c2, Option.bind_some, if_neg z_1, X_damping N hN σ hR, Option.bind_some]
          unfold f_X4_ringFigure
          rw [e1, if_neg c, Option.bind_some, if_pos rfl]
          dsimp only
          rw [e64, X_ringEnd hN e2 hW (by omega) (by omega) hv hr hTm 0, X_ringEnd hN e2 hW (by omega) (by omega) hv hr hTm 1, X_ringSize hN e2 hW (by omega) (by omega) hv hr hTm]
          simp only [Option.bind_some]
          rw [X_ahead hN e2 hW (by omega) (by omega) hv hr]
          unfold ringV
          simp only [Option.bind_some, if_pos, if_neg z_1]
          split
          · rfl
          · split
            · rfl
            · split <;> rfl
        · rw [nm_e_, if_pos c1, Option.bind_some, if_pos rfl, if_pos c2, Option.bind_some, if_neg z_1, g1, Option.bind_some, q1, Option.bind_some, q5, if_neg (fun q => c ((n0 (by omega)).mp q)), nm_e_, nm_e_, nm_e_]
          exact M_ringL N hN hW (by omega) (by omega) hv hr τ2 (Md_c (fun a b hab => q2 a b (by omega) (by omega)) g3) q3 q4 a2 N 0 (by omega) (by omega)
    · refine ⟨-2, σ, fb_up σ 29 0 0, ?_, ?_, Rl_keep (Keep.up rfl Keep.rfl') hR⟩
      · rw [if_pos c1, if_neg c2]; rfl
      · rw [nm_e_, if_pos c1, if_neg c2]; rfl
  · refine ⟨-2, σ, fb_up σ 29 0 0, ?_, ?_, Rl_keep (Keep.up rfl Keep.rfl') hR⟩
    · rw [if_neg c1]; rfl
    · rw [nm_e_, if_neg c1]; rfl
