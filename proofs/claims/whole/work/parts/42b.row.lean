/-! whole numbers divided; rows of bits -/
theorem nI_sub {a b : Nat} (h : b ≤ a) : nI a - nI b = nI (a - b) := by
  rw [iI_n, iI_n, iI_n, iI_sub]
  congr 1
  omega
theorem nI_mul (a b : Nat) : nI a * nI b = nI (a * b) := by
  rw [iI_n, iI_n, iI_n, iI_mul]
  congr 1
theorem nI_div {a : Nat} (c : Nat) (ha : a < 2147483648) (hc : 1 < c) (hc2 : c < 2147483648) : nI a / nI c = nI (a / c) := by
  rw [iI_n, iI_n, iI_n, iI_div (by omega) (by omega) (by omega) (by omega), tdivp (by omega)]
  congr 1
theorem nI_mod {a : Nat} (c : Nat) (ha : a < 2147483648) (hc : 1 < c) (hc2 : c < 2147483648) : nI a - nI a / nI c * nI c = nI (a % c) := by
  rw [nI_div c ha hc hc2, nI_mul, nI_sub (Nat.div_mul_le_self a c)]
  congr 1
  have := Nat.div_add_mod a c
  rw [Nat.mul_comm] at this
  omega
/-- the bit of a sum -/
def tb (σ : fb_S) (k a : Nat) : Bool := lb (hjf (σ.1 k) (a / 64)) (a % 64)
theorem tb_c {σ τ : fb_S} {k : Nat} (h : ∀ j, τ.1 k j = σ.1 k j) (b : Nat) : tb τ k b = tb σ k b := by
  unfold tb
  rw [hjf_c h]
theorem tb_set (σ : fb_S) (k a b : Nat) : tb (fb_upH σ k (a / 64) (hjf (σ.1 k) (a / 64) ||| ((1 : Int64) <<< ((nI (a % 64)).toInt64 &&& 63)))) k b = (tb σ k b || decide (a = b)) := by
  unfold tb
  rw [upH_h]
  by_cases e : b / 64 = a / 64
  · rw [if_pos e, lb_set (Nat.mod_lt _ (by decide)), ← e]
    congr 1
    refine decide_eq_decide.mpr ⟨fun h => ?_, fun h => by rw [h]⟩
    omega
  · rw [if_neg e]
    have h : ¬ a = b := fun q => e (by rw [q])
    simp [h]
theorem fillH_loop (ka N : Nat) (v : Int64) (hl : fb_len ka < 2147483648) : ∀ (n j : Nat) (σ : fb_S), j ≤ fb_len ka → fb_len ka - j < n → (∀ i, i < j → hjf (σ.1 ka) i = v) → ∃ σ', f_J7_fill_d0a16_L6 ka N n v (nI j) (nI (fb_len ka)) σ = some σ' ∧ (∀ i, i < fb_len ka → hjf (σ'.1 ka) i = v) ∧ ∀ a b, a ≠ ka → σ'.1 a b = σ.1 a b := by
  intro n
  induction n with
  | zero => intro j σ h1 h2; omega
  | succ n ih =>
    intro j σ h1 h2 h3
    unfold f_J7_fill_d0a16_L6
    by_cases hj : j = fb_len ka
    · subst hj
      rw [if_pos (nI_le (Nat.le_refl _) (by omega))]
      exact ⟨σ, rfl, h3, fun _ _ _ => rfl⟩
    · rw [if_neg (nI_ge (by omega) (by omega)), ck_t (in_n (by omega) hl), nm_e_, nI_1, cl_n (by omega)]
      obtain ⟨σ', e1, e2, e3⟩ := ih (j + 1) (fb_upH σ ka j v) (by omega) (by omega) (fun i hi => by
        rw [upH_h]
        by_cases e : i = j
        · rw [if_pos e]
        · rw [if_neg e]; exact h3 i (by omega))
      exact ⟨σ', e1, e2, fun a b h => by rw [e3 a b h, upH_ne _ _ _ _ _ h]⟩
theorem fillH_ok (ka N : Nat) (v : Int64) (hl : fb_len ka < 2147483648) (hN : fb_len ka < N) (σ : fb_S) : ∃ σ', f_J7_fill_d0a16 N ka v σ = some σ' ∧ (∀ i, i < fb_len ka → hjf (σ'.1 ka) i = v) ∧ ∀ a b, a ≠ ka → σ'.1 a b = σ.1 a b :=
  fillH_loop ka N v hl N 0 σ (Nat.zero_le _) (by omega) (fun i hi => by omega)
