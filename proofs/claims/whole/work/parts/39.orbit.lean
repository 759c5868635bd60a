/-! an orbit in a finite set comes to a ring -/
theorem php : ∀ (n m : Nat) (g : Nat → Nat), (∀ i, i < m → g i < n) → (∀ i j, i < m → j < m → g i = g j → i = j) → m ≤ n := by
  intro n
  induction n with
  | zero =>
    intro m g h1 _
    cases m with
    | zero => exact Nat.le_refl _
    | succ m => exact absurd (h1 0 (by omega)) (by omega)
  | succ n ih =>
    intro m g h1 h2
    by_cases c : ∃ i0, i0 < m ∧ g i0 = n
    · obtain ⟨i0, hi0, e0⟩ := c
      have hne : ∀ i, i < m → i ≠ i0 → g i < n := fun i hi hn => by
        have := h1 i hi
        have : g i ≠ n := fun e => hn (h2 i i0 hi hi0 (by rw [e, e0]))
        omega
      have := ih (m - 1) (fun i => if i < i0 then g i else g (i + 1)) (fun i hi => by
        split
        · exact hne i (by omega) (by omega)
        · exact hne (i + 1) (by omega) (by omega)) (fun i j hi hj e => by
        split at e <;> split at e
        · exact h2 i j (by omega) (by omega) e
        · have := h2 i (j + 1) (by omega) (by omega) e; omega
        · have := h2 (i + 1) j (by omega) (by omega) e; omega
        · have := h2 (i + 1) (j + 1) (by omega) (by omega) e; omega)
      omega
    · have := ih m g (fun i hi => by
        have := h1 i hi
        have : g i ≠ n := fun e => c ⟨i, hi, e⟩
        omega) h2
      omega
/-- T beats till the ring, K - T sways in it -/
def Rho (f : Nat → Nat) (v T K : Nat) : Prop := T < K ∧ K ≤ 10000 ∧ itr f K v = itr f T v ∧ ∀ i j, i < K → j < K → itr f i v = itr f j v → i = j
theorem rho_of {f : Nat → Nat} (hf : ∀ v, f v ≤ 9999) {v : Nat} (hv : v ≤ 9999) : ∃ T K, Rho f v T K := by
  have hex : ∃ k, ∃ i, i < k ∧ k ≤ 10000 ∧ itr f i v = itr f k v := by
    refine Classical.byContradiction fun hn => ?_
    have := php 10000 10001 (fun i => itr f i v) (fun i _ => by have := itr_le hf i v hv; show itr f i v < 10000; omega) (fun i j hi hj e => by
      have e : itr f i v = itr f j v := e
      rcases Nat.lt_trichotomy i j with h | h | h
      · exact absurd ⟨j, i, h, by omega, e⟩ hn
      · exact h
      · exact absurd ⟨i, j, h, by omega, e.symm⟩ hn)
    omega
  obtain ⟨K, ⟨T, h1, h2, h3⟩, hmin⟩ := pk_least _ hex
  refine ⟨T, K, h1, h2, h3.symm, fun i j hi hj e => ?_⟩
  rcases Nat.lt_trichotomy i j with h | h | h
  · exact absurd ⟨i, h, by omega, e⟩ (hmin j hj)
  · exact h
  · exact absurd ⟨j, h, by omega, e.symm⟩ (hmin i hi)
theorem rho_eq {f : Nat → Nat} {v T K T' K' : Nat} (h : Rho f v T K) (h' : Rho f v T' K') : T' = T ∧ K' = K := by
  obtain ⟨a1, a2, a3, a4⟩ := h
  obtain ⟨b1, b2, b3, b4⟩ := h'
  have hK : K' = K := by
    rcases Nat.lt_trichotomy K K' with h | h | h
    · have := b4 K T h (by omega) a3; omega
    · exact h.symm
    · have := a4 K' T' h (by omega) b3; omega
  subst hK
  exact ⟨a4 T' T b1 a1 (b3.symm.trans a3), rfl⟩
section Rh
variable {f : Nat → Nat} {v T K : Nat}
theorem rho_per (h : Rho f v T K) {j : Nat} (hj : T ≤ j) : itr f (j + (K - T)) v = itr f j v := by
  obtain ⟨a1, a2, a3, a4⟩ := h
  have e1 : j + (K - T) = K + (j - T) := by omega
  have e2 : j = T + (j - T) := by omega
  rw [e1, itr_add, a3, ← itr_add, ← e2]
theorem rho_perm (h : Rho f v T K) : ∀ (n : Nat) {j : Nat}, T ≤ j → itr f (j + n * (K - T)) v = itr f j v := by
  intro n
  induction n with
  | zero => intro j _; rw [Nat.zero_mul, Nat.add_zero]
  | succ n ih =>
    intro j hj
    rw [show j + (n + 1) * (K - T) = (j + n * (K - T)) + (K - T) by rw [Nat.succ_mul]; omega, rho_per h (by omega), ih hj]
theorem rho_red (h : Rho f v T K) {j : Nat} (hj : T ≤ j) : ∃ i, T ≤ i ∧ i < K ∧ itr f j v = itr f i v := by
  have a1 := h.1
  refine ⟨T + (j - T) % (K - T), by omega, by have := Nat.mod_lt (j - T) (show 0 < K - T by omega); omega, ?_⟩
  have e : j = (T + (j - T) % (K - T)) + (j - T) / (K - T) * (K - T) := by
    have := Nat.mod_add_div (j - T) (K - T)
    rw [Nat.mul_comm] at this
    omega
  have e2 := rho_perm h ((j - T) / (K - T)) (j := T + (j - T) % (K - T)) (by omega)
  rw [← e] at e2
  exact e2
/-- what comes again stands in the ring -/
theorem rho_in (h : Rho f v T K) {m c : Nat} (hc : 0 < c) (e : itr f (m + c) v = itr f m v) : T ≤ m := by
  refine Nat.not_lt.mp fun hm => ?_
  have a1 := h.1
  by_cases c1 : m + c < K
  · have := h.2.2.2 (m + c) m c1 (by omega) e; omega
  · obtain ⟨i, h1, h2, h3⟩ := rho_red h (show T ≤ m + c by omega)
    have := h.2.2.2 m i (by omega) h2 (e.symm.trans h3); omega
theorem rho_first (h : Rho f v T K) {i : Nat} (e : itr f (i + (K - T)) v = itr f i v) : T ≤ i := rho_in h (by have := h.1; omega) e
/-- sways of the ring are apart -/
theorem rho_apart (h : Rho f v T K) {m : Nat} (hm : T ≤ m) {j : Nat} (h1 : 0 < j) (h2 : j < K - T) : itr f (m + j) v ≠ itr f m v := by
  intro e
  have a1 := h.1
  obtain ⟨i, i1, i2, i3⟩ := rho_red h hm
  have e2 : itr f (i + j) v = itr f i v := by rw [itr_add, ← i3, ← itr_add, e, i3]
  by_cases c : i + j < K
  · have := h.2.2.2 (i + j) i c i2 e2; omega
  · have e3 : itr f (i + j - (K - T)) v = itr f (i + j) v := by
      have := rho_per h (j := i + j - (K - T)) (by omega)
      rw [show i + j - (K - T) + (K - T) = i + j by omega] at this
      exact this.symm
    have := h.2.2.2 (i + j - (K - T)) i (by omega) i2 (e3.trans e2); omega
theorem itr_zero (h0 : f 0 = 0) {i j : Nat} (hij : i ≤ j) (e : itr f i v = 0) : itr f j v = 0 := by
  rw [show j = i + (j - i) by omega, itr_add, e, itr_fix h0]
theorem rho_zero (h : Rho f v T K) (h0 : f 0 = 0) (hn : itr f T v ≠ 0) (i : Nat) : itr f i v ≠ 0 := by
  intro e
  have a1 := h.1
  have e1 := rho_perm h i (j := T) (Nat.le_refl _)
  have : i ≤ T + i * (K - T) := by
    have : i * 1 ≤ i * (K - T) := Nat.mul_le_mul_left i (by omega)
    omega
  exact hn (e1.symm.trans (itr_zero h0 this e))
end Rh
theorem stp_0 (pu lo st cr : Nat → Int32) (d : Int) : stp pu lo st cr d 0 = 0 := by
  unfold stp bz
  simp
  decide
theorem stlB_rho {f : Nat → Nat} (h0 : f 0 = 0) {v T K : Nat} (h : Rho f v T K) : stlB f v = true ↔ itr f T v = 0 := by
  unfold stlB
  rw [List.any_eq_true]
  constructor
  · rintro ⟨t, -, e⟩
    refine Classical.byContradiction fun hn => rho_zero h h0 hn t (by simpa using e)
  · intro e
    exact ⟨T, List.mem_range.mpr (by have := h.1; have := h.2.1; omega), by simpa using e⟩
