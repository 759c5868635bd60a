/-! the choice of dampers -/
theorem s_l : ∀ n, n < 32 → ((nI n &&& 31).toBitVec.smod 32).toNat = n := by decide +kernel
theorem bit_ok {s j : Nat} (hs : s < 2147483648) (hj : j < 32) : ((nI s >>> (nI j &&& 31)) &&& 1) = nI (s / 2 ^ j % 2) := by
  rw [pk_shrN (by omega) _ j (s_l j hj), pk_andN (n := s / 2 ^ j) (by have := Nat.div_le_self s (2 ^ j); omega) (m := 1) 1 (by decide)]
theorem all_sets : ∀ c, c < 11 → ((1 : Int32) <<< (nI c &&& 31)) - 1 = nI (2 ^ c - 1) := by decide +kernel
theorem bitc : ∀ s, s < 1024 → f_J6_bitCount_0f7a4 (nI s) = some (nI (dcnt 10 s 10)) := by decide +kernel
theorem dcnt_10 : ∀ c, c < 11 → ∀ s, s < 2 ^ c → dcnt c s c = dcnt 10 s 10 := by decide +kernel
theorem dcnt_le (c s : Nat) : ∀ i, dcnt c s i ≤ i := by
  intro i
  induction i with
  | zero => exact Nat.le_refl _
  | succ i ih => unfold dcnt; split <;> omega
theorem pow_c {c : Nat} (hc : c ≤ 10) : 1 ≤ 2 ^ c ∧ 2 ^ c ≤ 1024 := ⟨Nat.one_le_two_pow, Nat.pow_le_pow_right (n := 2) (by decide) hc⟩
theorem bit_d {c s i : Nat} (hc : c ≤ 10) (hs : s < 1024) (hi : i < c) {x : Int32} (ex : x = nI c) : (((nI s >>> (((x - 1) - nI i) &&& 31)) &&& 1) = 1) ↔ dbit c s i = true := by
  have e1 : x - 1 = nI (c - 1) := by rw [ex]; exact pk_sub (b := 1) (by omega)
  rw [e1, pk_sub (by omega), bit_ok (by omega) (by omega)]
  unfold dbit
  rw [beq_iff_eq]
  have h2 := Nat.mod_lt (s / 2 ^ (c - 1 - i)) (show 0 < 2 by decide)
  exact nI_eq (b := 1) (by omega) (by decide)
theorem dtot_b {r : Nat → Int32} {m : Int} (hr : ∀ j, j < 10 → rg (r j) 0 m) (c s : Nat) : ∀ i, i ≤ 10 → 0 ≤ dtot c r s i ∧ dtot c r s i ≤ m * i := by
  intro i
  induction i with
  | zero => intro _; exact ⟨Int.le_refl _, by rw [show ((0 : Nat) : Int) = 0 from rfl, Int.mul_zero]; exact Int.le_refl _⟩
  | succ i ih =>
    intro hi
    have ih := ih (by omega)
    have h := hr i (by omega)
    unfold rg at h
    have e : m * ((i + 1 : Nat) : Int) = m * (i : Int) + m := by push_cast; rw [Int.mul_add, Int.mul_one]
    rw [e]
    unfold dtot
    split <;> omega
theorem X_total (N : Nat) (σ : fb_S) {ka c s : Nat} (hc : c ≤ 10) (ec : σ.1 11 5 = nI c) (hs : s < 1024) (hl : fb_len ka = 10) : ∀ (n i : Nat), i ≤ c → c - i < n → f_X1_total_L5 ka N σ n (nI s) (iI (dtot c (σ.1 ka) s i)) (nI i) = some (iI (dtot c (σ.1 ka) s c)) := by
  intro n
  induction n with
  | zero => intro i h1 h2; omega
  | succ n ih =>
    intro i h1 h2
    unfold f_X1_total_L5 f_X1_isIn
    rw [ec, hl]
    by_cases hi : i = c
    · rw [if_pos (nI_le (by omega) (by omega)), hi]
    · have hin : fb_in (nI i) 10 = true := in_n (by omega) (by decide)
      have ih := ih (i + 1) (by omega) (by omega)
      have es : dtot c (σ.1 ka) s (i + 1) = dtot c (σ.1 ka) s i + (if dbit c s i = true then (σ.1 ka i).toInt else 0) := rfl
      rw [es] at ih
      have hb := bit_d hc hs (show i < c by omega) (x := nI c) rfl
      rw [if_neg (nI_ge (by omega) (by omega)), nI_1]
      by_cases cb : dbit c s i = true
      · rw [if_pos (hb.mpr cb), Option.bind_some, if_neg z_1, ck_t hin, nm_e_, cl_n (by omega)]
        rw [if_pos cb, ← iI_add, iI_self] at ih
        exact ih
      · rw [if_neg (fun q => cb (hb.mp q)), Option.bind_some, if_pos rfl]
        rw [if_neg cb, Int.add_zero] at ih
        exact ih
theorem X_total' (N : Nat) (hN : 40000 ≤ N) (σ : fb_S) {ka c s : Nat} (hc : c ≤ 10) (ec : σ.1 11 5 = nI c) (hs : s < 1024) (hl : fb_len ka = 10) : f_X1_total N ka (nI s) σ = some (iI (dtot c (σ.1 ka) s c)) := by
  unfold f_X1_total
  exact X_total N σ hc ec hs hl N 0 (by omega) (by omega)
theorem X_better (N : Nat) (hN : 40000 ≤ N) (τ : fb_S) {c s : Nat} (hc : c ≤ 10) (ec : τ.1 11 5 = nI c) (hs : s < 2 ^ c) (hp : ∀ j, j < 10 → rg (τ.1 13 j) 0 9999) {o : Option Nat} (eo : τ.1 11 7 = dval o) (ho : ∀ b, o = some b → b < 2 ^ c) : f_X1_isBetter N (nI s) τ = some (if dbetter c (τ.1 13) s o = true then 1 else 0) := by
  have hpc := pow_c hc
  unfold f_X1_isBetter
  rw [eo]
  cases o with
  | none => rw [if_pos (show dval none = -9 from rfl), if_pos (show dbetter c (τ.1 13) s none = true from rfl)]
  | some b =>
    have hb := ho b rfl
    have t1 := dtot_b hp c s c (by omega)
    have t2 := dtot_b hp c b c (by omega)
    show (if nI b = (-9 : Int32) then _ else _) = _
    have ed : dval (some b) = nI b := rfl
    rw [if_neg (m9n (by omega)), X_total' N hN τ hc ec (by omega) rfl, Option.bind_some, ed, X_total' N hN τ hc ec (by omega) rfl, Option.bind_some, nm_e_, iI_sub]
    have z0 : (0 : Int32) = iI 0 := rfl
    unfold dbetter
    dsimp only
    by_cases c1 : dtot c (τ.1 13) s c < dtot c (τ.1 13) b c
    · rw [if_pos (by rw [z0, iI_lt (by omega) (by omega) (by omega) (by omega)]; omega), if_pos (by simp [c1])]
    · rw [if_neg (by rw [z0, iI_lt (by omega) (by omega) (by omega) (by omega)]; omega)]
      by_cases c2 : dtot c (τ.1 13) s c = dtot c (τ.1 13) b c
      · have hcs := dcnt_10 c (by omega) s hs
        have hcb := dcnt_10 c (by omega) b hb
        have l1 := dcnt_le 10 s 10
        have l2 := dcnt_le 10 b 10
        rw [if_pos (by rw [z0, iI_eq (by omega) (by omega) (by omega) (by omega)]; omega), bitc s (by omega), Option.bind_some, bitc b (by omega), Option.bind_some]
        by_cases c3 : dcnt 10 b 10 ≤ dcnt 10 s 10
        · rw [if_pos (nI_le c3 (by omega)), if_neg (by simp [c2]; omega)]
        · rw [if_neg (nI_ge (by omega) (by omega)), if_pos (by simp [c2]; omega)]
      · rw [if_neg (by rw [z0, iI_eq (by omega) (by omega) (by omega) (by omega)]; omega), if_neg (by simp [c1, c2])]
/-- while it chooses: nothing that lasts changes but the choice -/
def Ec (σ τ : fb_S) : Prop := ∀ k j, ¬ (k = 6 ∧ j = 4) → k ≠ 16 ∧ k ≠ 50 → ¬ (k = 11 ∧ (j = 6 ∨ j = 7)) → τ.1 k j = σ.1 k j
theorem Ec.row {σ τ : fb_S} (h : Ec σ τ) {k : Nat} (h6 : k ≠ 6) (h16 : k ≠ 16 ∧ k ≠ 50) (h11 : k ≠ 11) : τ.1 k = σ.1 k := funext fun j => h k j (fun q => h6 q.1) h16 (fun q => h11 q.1)
theorem Ec.e64 {σ τ τ' : fb_S} (h : Ec σ τ) (h' : E64 τ τ') : Ec σ τ' := fun k j a b c => by rw [h' k j a]; exact h k j a b c
def okk (σ : fb_S) (a : Int) : Bool := stlB (stp (σ.1 7) (σ.1 8) (σ.1 9) (σ.1 10) ((σ.1 1 0).toInt + a)) (σ.1 1 1).toNatClampNeg
/-- what has been tried is known -/
def Tr (σ τ : fb_S) : Prop := ∀ a : Nat, a < 5001 → (tb τ 16 a = true → tb τ 50 a = okk σ a) ∧ (tb τ 16 a = false → tb τ 50 a = false)
theorem Tr.c {σ τ τ' : fb_S} (h : Tr σ τ) (h16 : ∀ j, τ'.1 16 j = τ.1 16 j) (h50 : ∀ j, τ'.1 50 j = τ.1 50 j) : Tr σ τ' := fun a ha => by
  rw [tb_c h16, tb_c h50]
  exact h a ha
theorem X_sw70 (N : Nat) {σ : fb_S} {a : Nat} (ha : a ≤ 5000) (τ : fb_S) (h : tb τ 50 a = okk σ a) : f_X1_settlesWith_L70 N (nI (a / 64)) ((1 : Int64) <<< ((nI (a % 64)).toInt64 &&& 63)) τ = some (if okk σ a = true then 1 else 0, τ) := by
  unfold f_X1_settlesWith_L70
  have hm : a % 64 < 64 := Nat.mod_lt _ (by decide)
  rw [ck_t (in_n (by omega) (by decide)), cl_n (by omega), ← h]
  by_cases c : tb τ 50 a = true
  · rw [if_neg (fun q => by
      have q2 := (lb_get hm _).mp ((lgc_eq0 _ _).mp q)
      unfold tb at c
      rw [q2] at c
      cases c), if_pos c]
  · have c2 : tb τ 50 a = false := Bool.eq_false_iff.mpr c
    rw [if_pos ((lgc_eq0 _ _).mpr ((lb_get hm _).mpr c2)), if_neg c]
theorem X_swith (N : Nat) (hN : 40000 ≤ N) (σ : fb_S) (hR : Rl σ) {a : Nat} (ha : a ≤ 5000) (τ : fb_S) (he : Ec σ τ) (ht : Tr σ τ) : ∃ τ', f_X1_settlesWith N (nI a) τ = some (if okk σ a = true then 1 else 0, τ') ∧ Ec σ τ' ∧ Tr σ τ' ∧ τ'.1 11 7 = τ.1 11 7 := by
  have hm : a % 64 < 64 := Nat.mod_lt _ (by decide)
  have hin : fb_in (nI (a / 64)) 79 = true := in_n (by omega) (by decide)
  have e64 : (64 : Int32) = nI 64 := rfl
  have ed : nI a / (64 : Int32) = nI (a / 64) := by rw [e64, nI_div 64 (by omega) (by decide) (by decide)]
  have em : nI a - nI a / (64 : Int32) * (64 : Int32) = nI (a % 64) := by rw [e64, nI_mod 64 (by omega) (by decide) (by decide)]
  unfold f_X1_settlesWith
  rw [nm_e_, nm_e_, em, ed, ck_t hin, cl_n (by omega)]
  by_cases c0 : tb τ 16 a = true
  · rw [if_neg (fun q => by
      have q2 := (lb_get hm _).mp ((lgc_eq0 _ _).mp q)
      unfold tb at c0
      rw [q2] at c0
      cases c0)]
    exact ⟨τ, X_sw70 N ha τ ((ht a (by omega)).1 c0), he, ht, rfl⟩
  · have c2 : tb τ 16 a = false := Bool.eq_false_iff.mpr c0
    rw [if_pos ((lgc_eq0 _ _).mpr ((lb_get hm _).mpr c2)), ck_t hin, ck_t hin, nm_e_]
    obtain ⟨t3, et⟩ : ∃ t, t = fb_upH τ 16 (a / 64) (hjf (τ.1 16) (a / 64) ||| ((1 : Int64) <<< ((nI (a % 64)).toInt64 &&& 63))) := ⟨_, rfl⟩
    rw [← et]
    have s3 : ∀ k j, k ≠ 16 → t3.1 k j = τ.1 k j := fun k j h => by rw [et, upH_ne _ _ _ _ _ h]
    have b3 : ∀ b, tb t3 16 b = (tb τ 16 b || decide (a = b)) := fun b => by rw [et, tb_set]
    have he3 : Ec σ t3 := fun k j p1 p2 p3 => by rw [s3 k j p2.1]; exact he k j p1 p2 p3
    have r7 := he3.row (k := 7) (by decide) (by decide) (by decide)
    have r8 := he3.row (k := 8) (by decide) (by decide) (by decide)
    have r9 := he3.row (k := 9) (by decide) (by decide) (by decide)
    have r10 := he3.row (k := 10) (by decide) (by decide) (by decide)
    have r1 := he3.row (k := 1) (by decide) (by decide) (by decide)
    obtain ⟨sm, hsm, -, esm⟩ := small_n hR
    have h0 := hR.2.2.1.2.1
    unfold rg at h0
    have hd : t3.1 1 0 + nI a = iI ((σ.1 1 0).toInt + a) := by rw [r1, ← iI_add, iI_self, iI_n]
    have hsp : spx t3 ((σ.1 1 0).toInt + a) = stp (σ.1 7) (σ.1 8) (σ.1 9) (σ.1 10) ((σ.1 1 0).toInt + a) := by unfold spx; rw [r7, r8, r9, r10]
    obtain ⟨T, K, hr⟩ := rho_of (spx_le t3 ((σ.1 1 0).toInt + a)) hsm
    obtain ⟨τ1, e1, e2, -⟩ := X_still N hN t3 (by rw [r7, r8, r9, r10]; exact Wr_of hR) (d := (σ.1 1 0).toInt + a) (by omega) (by omega) hsm hr
    have hst := stlB_rho (spx_0 t3 ((σ.1 1 0).toInt + a)) hr
    have hok : okk σ a = true ↔ itr (spx t3 ((σ.1 1 0).toInt + a)) T sm = 0 := by
      unfold okk
      rw [← hsp, esm, cl_n (by omega)]
      exact hst
    rw [hd, r1, esm, e1, Option.bind_some]
    have hTK := hr.1
    have hK := hr.2.1
    have f16 : ∀ b, tb τ1 16 b = (tb τ 16 b || decide (a = b)) := fun b => by rw [tb_c (fun j => e2 16 j (by omega)), b3]
    have f50 : ∀ b, tb τ1 50 b = tb τ 50 b := fun b => by rw [tb_c (fun j => e2 50 j (by omega)), tb_c (fun j => s3 50 j (by decide))]
    have he1 : Ec σ τ1 := he3.e64 e2
    have h17 : τ1.1 11 7 = τ.1 11 7 := by rw [e2 11 7 (by omega), s3 11 7 (by decide)]
    by_cases c : itr (spx t3 ((σ.1 1 0).toInt + a)) T sm = 0
    · have ok : okk σ a = true := hok.mpr c
      rw [if_pos c, if_neg (m9n (by omega)), ck_t hin, ck_t hin, nm_e_]
      dsimp only
      obtain ⟨t5, et5⟩ : ∃ t, t = fb_upH τ1 50 (a / 64) (hjf (τ1.1 50) (a / 64) ||| ((1 : Int64) <<< ((nI (a % 64)).toInt64 &&& 63))) := ⟨_, rfl⟩
      rw [← et5]
      have s5 : ∀ k j, k ≠ 50 → t5.1 k j = τ1.1 k j := fun k j h => by rw [et5, upH_ne _ _ _ _ _ h]
      have b5 : ∀ b, tb t5 50 b = (tb τ1 50 b || decide (a = b)) := fun b => by rw [et5, tb_set]
      refine ⟨t5, X_sw70 N ha t5 (by rw [b5, ok]; simp), fun k j p1 p2 p3 => by rw [s5 k j p2.2]; exact he1 k j p1 p2 p3, fun b hb => ?_, by rw [s5 11 7 (by decide), h17]⟩
      rw [tb_c (fun j => s5 16 j (by decide)), f16, b5, f50]
      by_cases e : a = b
      · subst e
        simp [ok]
      · have hq := ht b hb
        simpa [e] using hq
    · have ok : okk σ a = false := Bool.eq_false_iff.mpr (fun q => c (hok.mp q))
      rw [if_neg c, if_pos rfl]
      refine ⟨τ1, X_sw70 N ha τ1 (by rw [f50, (ht a (by omega)).2 c2, ok]), he1, fun b hb => ?_, h17⟩
      rw [f16, f50]
      by_cases e : a = b
      · subst e
        simp [ok, (ht a (by omega)).2 c2]
      · have hq := ht b hb
        simpa [e] using hq
def pick (σ : fb_S) (c k : Nat) : Option Nat := dpick c (σ.1 12) (σ.1 13) (σ.1 14) (σ.1 1 2).toInt (okk σ) k
theorem pick_lt (σ : fb_S) (c : Nat) : ∀ k b, pick σ c k = some b → b < 2 ^ c := by
  intro k
  induction k with
  | zero => intro b h; cases h
  | succ k ih =>
    intro b h
    unfold pick dpick at h
    dsimp only at h
    split at h
    · have := Nat.one_le_two_pow (n := c)
      have := Option.some.inj h
      omega
    · exact ih b h
theorem X_chooseL (N : Nat) (hN : 40000 ≤ N) (σ : fb_S) (hR : Rl σ) {c : Nat} (hc : c ≤ 10) (ec : σ.1 11 5 = nI c) : ∀ (n k : Nat) (τ : fb_S), 2 ^ c - k < n → k ≤ 2 ^ c → Ec σ τ → Tr σ τ → τ.1 11 7 = dval (pick σ c k) → ∃ τ', f_X1_choose_L39 N n (iI ((2 ^ c : Nat) - 1 - (k : Int))) τ = some τ' ∧ Ec σ τ' ∧ τ'.1 11 6 = 1 ∧ τ'.1 11 7 = dval (pick σ c (2 ^ c)) := by
  obtain ⟨q1, q2, q3⟩ := hR.2.2.2.1
  have hpc := pow_c hc
  intro n
  induction n with
  | zero => intro k τ h1 h2; omega
  | succ n ih =>
    intro k τ hn hk he ht h7
    unfold f_X1_choose_L39
    have z0 : (0 : Int32) = iI 0 := rfl
    by_cases ck : k = 2 ^ c
    · rw [if_pos (by rw [z0, iI_lt (by omega) (by omega) (by omega) (by omega)]; omega), nm_e_]
      refine ⟨_, rfl, fun a b p1 p2 p3 => ?_, up_eq _ _ _ _, ?_⟩
      · rw [up_ne _ _ (by omega)]; exact he a b p1 p2 p3
      · rw [up_ne _ _ (by omega), h7, ck]
    · have hkk : k < 2 ^ c := by omega
      have es : iI ((2 ^ c : Nat) - 1 - (k : Int)) = nI (2 ^ c - 1 - k) := by rw [iI_nat (by omega)]; congr 1; omega
      have en : nI (2 ^ c - 1 - k) + (-1) = iI ((2 ^ c : Nat) - 1 - ((k + 1 : Nat) : Int)) := by rw [← es, show (-1 : Int32) = iI (-1) from rfl, iI_add]; congr 1; omega
      have r12 := he.row (k := 12) (by decide) (by decide) (by decide)
      have r13 := he.row (k := 13) (by decide) (by decide) (by decide)
      have r14 := he.row (k := 14) (by decide) (by decide) (by decide)
      have r1 := he.row (k := 1) (by decide) (by decide) (by decide)
      have ec' : τ.1 11 5 = nI c := by rw [he 11 5 (by omega) (by decide) (by omega), ec]
      have t12 := dtot_b (r := σ.1 12) (m := 500) (fun j hj => (q3 j hj).1.2) c (2 ^ c - 1 - k) c (by omega)
      have t14 := dtot_b (r := σ.1 14) (m := 99) (fun j hj => (q3 j hj).2.2.1.2) c (2 ^ c - 1 - k) c (by omega)
      have h12 := hR.2.2.1.2.2.2.1
      unfold rg at h12
      rw [es, if_neg (nlt0 (by omega)), X_total' N hN τ hc ec' (by omega) rfl, Option.bind_some, r14, r1, en]
      have hpk : pick σ c (k + 1) = if dtot c (σ.1 14) (2 ^ c - 1 - k) c ≤ (σ.1 1 2).toInt ∧ dbetter c (σ.1 13) (2 ^ c - 1 - k) (pick σ c k) = true ∧ okk σ (dtot c (σ.1 12) (2 ^ c - 1 - k) c) = true then some (2 ^ c - 1 - k) else pick σ c k := rfl
      by_cases c1 : (σ.1 1 2).toInt < dtot c (σ.1 14) (2 ^ c - 1 - k) c
      · rw [if_pos (by rw [t_lt, iI_t (by omega) (by omega)]; exact c1)]
        exact ih (k + 1) τ (by omega) (by omega) he ht (by rw [h7, hpk, if_neg (by omega)])
      · rw [if_neg (by rw [t_lt, iI_t (by omega) (by omega)]; exact c1), X_better N hN τ hc ec' (by omega) (by rw [r13]; exact fun j hj => (q3 j hj).2.1.2) h7 (pick_lt σ c k), Option.bind_some, r13]
        by_cases c2 : dbetter c (σ.1 13) (2 ^ c - 1 - k) (pick σ c k) = true
        · have ea : iI (dtot c (σ.1 12) (2 ^ c - 1 - k) c) = nI (dtot c (σ.1 12) (2 ^ c - 1 - k) c).toNat := iI_nat t12.1
          obtain ⟨τ1, e1, e2, e3, e4⟩ := X_swith N hN σ hR (a := (dtot c (σ.1 12) (2 ^ c - 1 - k) c).toNat) (by omega) τ he ht
          have ei : (((dtot c (σ.1 12) (2 ^ c - 1 - k) c).toNat : Nat) : Int) = dtot c (σ.1 12) (2 ^ c - 1 - k) c := by omega
          rw [ei] at e1
          rw [if_pos c2, if_neg z_1, X_total' N hN τ hc ec' (by omega) rfl, Option.bind_some, r12, ea, e1, Option.bind_some]
          by_cases c3 : okk σ (dtot c (σ.1 12) (2 ^ c - 1 - k) c) = true
          · rw [if_pos c3, if_neg z_1, nm_e_]
            refine ih (k + 1) _ (by omega) (by omega) (fun a b p1 p2 p3 => ?_) (e3.c (fun j => up_ne _ _ (by omega)) (fun j => up_ne _ _ (by omega))) ?_
            · rw [up_ne _ _ (by omega)]; exact e2 a b p1 p2 p3
            · rw [up_eq, hpk, if_pos ⟨by omega, c2, c3⟩]; rfl
          · rw [if_neg c3, if_pos rfl]
            exact ih (k + 1) τ1 (by omega) (by omega) e2 e3 (by rw [e4, h7, hpk, if_neg (fun q => c3 q.2.2)])
        · rw [if_neg c2, if_pos rfl]
          exact ih (k + 1) τ (by omega) (by omega) he ht (by rw [h7, hpk, if_neg (fun q => c2 q.2.1)])
theorem X_choose (N : Nat) (hN : 40000 ≤ N) (σ : fb_S) (hR : Rl σ) {c : Nat} (hc : c ≤ 10) (ec : σ.1 11 5 = nI c) : ∃ τ, f_X1_choose N σ = some τ ∧ Ec σ τ ∧ τ.1 11 6 = 1 ∧ τ.1 11 7 = dval (pick σ c (2 ^ c)) := by
  have hch : chos (σ.1 1) (σ.1 7) (σ.1 8) (σ.1 9) (σ.1 10) (σ.1 12) (σ.1 13) (σ.1 14) (σ.1 11 5) = pick σ c (2 ^ c) := by
    unfold chos pick
    rw [ec, cl_n (by omega)]
    rfl
  unfold f_X1_choose
  rcases hR.2.2.2.2.1 with h | ⟨h1, h2⟩
  · rw [if_pos h]
    have l16 : fb_len 16 = 79 := rfl
    have l50 : fb_len 50 = 79 := rfl
    obtain ⟨τ0, e1, e2, e3⟩ := fillH_ok 16 N 0 (by decide) (by omega) σ
    obtain ⟨τ, g1, g2, g3⟩ := fillH_ok 50 N 0 (by decide) (by omega) τ0
    rw [e1, Option.bind_some, g1, Option.bind_some, nm_e_, nm_e_]
    have e5 : (fb_up τ 11 7 (-9)).1 11 5 = nI c := by rw [up_ne _ _ (by omega), g3 11 5 (by decide), e3 11 5 (by decide), ec]
    have hpc := pow_c hc
    rw [e5, all_sets c (by omega)]
    have he : Ec σ (fb_up τ 11 7 (-9)) := fun a b p1 p2 p3 => by rw [up_ne _ _ (by omega), g3 a b p2.2, e3 a b p2.1]
    have hs : nI (2 ^ c - 1) = iI ((2 ^ c : Nat) - 1 - ((0 : Nat) : Int)) := by rw [iI_n]; congr 1; omega
    rw [hs]
    have b16 : ∀ a, a < 5001 → tb (fb_up τ 11 7 (-9)) 16 a = false := fun a ha => by
      rw [tb_c (σ := τ) (fun j => up_ne _ _ (by omega)), tb_c (σ := τ0) (fun j => g3 16 j (by decide))]
      unfold tb
      rw [e2 (a / 64) (by omega), lb_0]
    have b50 : ∀ a, a < 5001 → tb (fb_up τ 11 7 (-9)) 50 a = false := fun a ha => by
      rw [tb_c (σ := τ) (fun j => up_ne _ _ (by omega))]
      unfold tb
      rw [g2 (a / 64) (by omega), lb_0]
    exact X_chooseL N hN σ hR hc ec N 0 _ (by omega) (by omega) he (fun a ha => ⟨fun q => absurd (q.symm.trans (b16 a ha)) (by decide), fun _ => b50 a ha⟩) (up_eq _ _ _ _)
  · rw [if_neg (by rw [h1]; exact z_1)]
    exact ⟨σ, rfl, fun _ _ _ _ _ => rfl, h1, by rw [h2, hch]⟩
theorem Rl_choice {σ τ : fb_S} (hR : Rl σ) {c : Nat} (hc : c ≤ 10) (ec : σ.1 11 5 = nI c) (he : Ec σ τ) (h6 : τ.1 11 6 = 1) (h7 : τ.1 11 7 = dval (pick σ c (2 ^ c))) : Rl τ := by
  have fr : ∀ (d : Nat → Nat → Bool), d 6 4 = false → (∀ j, d 16 j = false ∧ d 50 j = false) → d 11 6 = false → d 11 7 = false → ∀ k j, d k j = true → τ.1 k j = σ.1 k j := by
    intro d a1 a2 a3 a4 k j hd
    refine he k j ?_ ?_ ?_
    · rintro ⟨rfl, rfl⟩; rw [a1] at hd; cases hd
    · exact ⟨(by rintro rfl; rw [(a2 j).1] at hd; cases hd), (by rintro rfl; rw [(a2 j).2] at hd; cases hd)⟩
    · rintro ⟨rfl, rfl | rfl⟩
      · rw [a3] at hd; cases hd
      · rw [a4] at hd; cases hd
  refine ⟨R1_c (fr d1 rfl (fun _ => ⟨rfl, rfl⟩) rfl rfl) hR.1, R2_c (fr d2 rfl (fun _ => ⟨rfl, rfl⟩) rfl rfl) hR.2.1, R3_c (fr d3 rfl (fun _ => ⟨rfl, rfl⟩) rfl rfl) hR.2.2.1, R4_c (fr d4 rfl (fun _ => ⟨rfl, rfl⟩) rfl rfl) hR.2.2.2.1, Or.inr ⟨h6, ?_⟩, R6_c (fr d6 rfl (fun _ => ⟨rfl, rfl⟩) rfl rfl) hR.2.2.2.2.2.1, R7_c (fr d7 rfl (fun _ => ⟨rfl, rfl⟩) rfl rfl) hR.2.2.2.2.2.2.1, R8_c (fr d8 rfl (fun _ => ⟨rfl, rfl⟩) rfl rfl) hR.2.2.2.2.2.2.2⟩
  rw [h7, he.row (k := 1) (by decide) (by decide) (by decide), he.row (k := 7) (by decide) (by decide) (by decide), he.row (k := 8) (by decide) (by decide) (by decide), he.row (k := 9) (by decide) (by decide) (by decide), he.row (k := 10) (by decide) (by decide) (by decide), he.row (k := 12) (by decide) (by decide) (by decide), he.row (k := 13) (by decide) (by decide) (by decide), he.row (k := 14) (by decide) (by decide) (by decide), he 11 5 (by omega) (by decide) (by omega)]
  unfold chos pick
  rw [ec, cl_n (by omega)]
  rfl
