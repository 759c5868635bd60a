/-! the next test -/
def kc (key : Nat → Nat) (L : List Nat) (c : Nat) : Nat := (L.filter (fun b => key b == c)).length
def rms (key : Nat → Nat) : List Nat → Nat
  | [] => 0
  | a :: r => max (rms key r) (kc key r (key a) + 1)
def mst (key : Nat → Nat) (L : List Nat) : Nat := rms key L.reverse
theorem kc_s (key : Nat → Nat) (L : List Nat) (a c : Nat) : kc key (L ++ [a]) c = kc key L c + (if key a = c then 1 else 0) := by
  unfold kc
  rw [List.filter_append, List.length_append]
  by_cases h : key a = c
  · rw [if_pos h, List.filter_cons_of_pos (by simpa using h)]; rfl
  · rw [if_neg h, List.filter_cons_of_neg (by simpa using h)]; rfl
theorem kc_le (key : Nat → Nat) (L : List Nat) (c : Nat) : kc key L c ≤ L.length := List.length_filter_le _ _
theorem mst_s (key : Nat → Nat) (L : List Nat) (a : Nat) : mst key (L ++ [a]) = max (mst key L) (kc key L (key a) + 1) := by
  have e : (L ++ [a]).reverse = a :: L.reverse := by simp
  unfold mst
  rw [e]
  have ek : kc key L.reverse (key a) = kc key L (key a) := by
    unfold kc
    rw [List.filter_reverse, List.length_reverse]
  show max (rms key L.reverse) (kc key L.reverse (key a) + 1) = _
  rw [ek]
theorem rms_le (key : Nat → Nat) : ∀ L, rms key L ≤ L.length := by
  intro L
  induction L with
  | nil => exact Nat.le_refl _
  | cons a L ih =>
    unfold rms
    have := kc_le key L (key a)
    rw [List.length_cons]
    omega
theorem mst_le (key : Nat → Nat) (L : List Nat) : mst key L ≤ L.length := by
  have := rms_le key L.reverse
  rw [List.length_reverse] at this
  exact this
theorem mst_app (key : Nat → Nat) : ∀ (M L : List Nat), mst key L ≤ mst key (L ++ M) := by
  intro M
  induction M with
  | nil => intro L; rw [List.append_nil]; exact Nat.le_refl _
  | cons a M ih =>
    intro L
    have h1 := ih (L ++ [a])
    rw [List.append_assoc] at h1
    refine Nat.le_trans ?_ h1
    rw [mst_s]
    omega
theorem mst_take (key : Nat → Nat) (L : List Nat) (i : Nat) : mst key (L.take i) ≤ mst key L := by
  have := mst_app key (L.drop i) (L.take i)
  rw [List.take_append_drop] at this
  exact this
theorem kc_c {key key' : Nat → Nat} {L : List Nat} {a : Nat} (h : ∀ b, b ∈ L → (key b = key a ↔ key' b = key' a)) : kc key L (key a) = kc key' L (key' a) := by
  unfold kc
  congr 1
  refine List.filter_congr (fun b hb => ?_)
  have := h b hb
  by_cases c : key b = key a
  · rw [c, this.mp c]; simp
  · have c' : ¬ key' b = key' a := fun q => c (this.mpr q)
    rw [beq_false_of_ne c, beq_false_of_ne c']
theorem rms_c {key key' : Nat → Nat} : ∀ (L : List Nat), (∀ a b, a ∈ L → b ∈ L → (key b = key a ↔ key' b = key' a)) → rms key L = rms key' L := by
  intro L
  induction L with
  | nil => intro _; rfl
  | cons a L ih =>
    intro h
    unfold rms
    rw [ih (fun x y hx hy => h x y (List.mem_cons.mpr (Or.inr hx)) (List.mem_cons.mpr (Or.inr hy))), kc_c (fun b hb => h a b (List.mem_cons.mpr (Or.inl rfl)) (List.mem_cons.mpr (Or.inr hb)))]
theorem mst_c {key key' : Nat → Nat} {L : List Nat} (h : ∀ a b, a ∈ L → b ∈ L → (key b = key a ↔ key' b = key' a)) : mst key L = mst key' L := rms_c _ (fun a b ha hb => h a b (List.mem_reverse.mp ha) (List.mem_reverse.mp hb))
/-! groups -/
def grp (f : Nat → Nat) : Nat → Nat
  | 0 => 0
  | i + 1 => grp f i + (if f (i + 1) = f i then 0 else 1)
theorem grp_le (f : Nat → Nat) : ∀ i, grp f i ≤ i := by
  intro i
  induction i with
  | zero => exact Nat.le_refl _
  | succ i ih => unfold grp; split <;> omega
theorem grp_d {f : Nat → Nat} {n : Nat} (hf : ∀ i j, i ≤ j → j < n → f i ≤ f j) (i : Nat) : ∀ d, i + d < n → grp f i ≤ grp f (i + d) ∧ (grp f (i + d) = grp f i ↔ f (i + d) = f i) := by
  intro d
  induction d with
  | zero => intro _; exact ⟨Nat.le_refl _, by simp⟩
  | succ d ih =>
    intro hd
    obtain ⟨h1, h2⟩ := ih (by omega)
    have m1 := hf i (i + d) (by omega) (by omega)
    have m2 := hf (i + d) (i + d + 1) (by omega) (by omega)
    show grp f i ≤ grp f (i + d) + (if f (i + d + 1) = f (i + d) then 0 else 1) ∧ (grp f (i + d) + (if f (i + d + 1) = f (i + d) then 0 else 1) = grp f i ↔ f (i + d + 1) = f i)
    by_cases c : f (i + d + 1) = f (i + d)
    · rw [if_pos c, c, Nat.add_zero]
      exact ⟨h1, h2⟩
    · rw [if_neg c]
      exact ⟨by omega, ⟨fun q => by omega, fun q => by omega⟩⟩
theorem grp_iff {f : Nat → Nat} {n : Nat} (hf : ∀ i j, i ≤ j → j < n → f i ≤ f j) {i j : Nat} (hi : i < n) (hj : j < n) : grp f i = grp f j ↔ f i = f j := by
  by_cases c : i ≤ j
  · have := (grp_d hf i (j - i) (by omega)).2
    rw [show i + (j - i) = j by omega] at this
    exact ⟨fun q => (this.mp q.symm).symm, fun q => (this.mpr q.symm).symm⟩
  · have := (grp_d hf j (i - j) (by omega)).2
    rw [show j + (i - j) = i by omega] at this
    exact this
/-! what is alike by n walkers -/
def nkey (sm k n law : Nat) : Nat := swn (lawn n law) k sm
def fnet (sm k i : Nat) : Nat := swn ((i : Int) - 50) k sm
def gkey (sm k n law : Nat) : Nat := grp (fnet sm k) (lawn n law + 50).toNat
theorem fnet_m (sm k : Nat) : ∀ i j, i ≤ j → j < 98 → fnet sm k i ≤ fnet sm k j := fun i j h1 _ => swn_mono (by omega) (by omega) k (Nat.le_refl sm)
theorem key_iff (sm k n : Nat) (hn : n ≤ 99) {a b : Nat} (ha : a < 2500) (hb : b < 2500) : gkey sm k n b = gkey sm k n a ↔ nkey sm k n b = nkey sm k n a := by
  have h1 := lawn_b hn ha
  have h2 := lawn_b hn hb
  unfold gkey nkey
  rw [grp_iff (fnet_m sm k) (by omega) (by omega)]
  unfold fnet
  rw [show (((lawn n b + 50).toNat : Nat) : Int) - 50 = lawn n b by omega, show (((lawn n a + 50).toNat : Nat) : Int) - 50 = lawn n a by omega]
theorem X_groupL (N : Nat) (hN : 40000 ≤ N) {σ : fb_S} {sm k : Nat} (hsm : sm ≤ 9999) (hk : k ≤ 30) : ∀ (n i : Nat) (τ : fb_S), i ≤ 98 → 98 - i < n → (∀ c j, c ≠ 27 → τ.1 c j = σ.1 c j) → (∀ j, j < i → τ.1 27 j = nI (grp (fnet sm k) j)) → ∃ τ', f_X3_groupNets_L14 N n (nI sm) (nI k) (nI (grp (fnet sm k) (i - 1))) (nI (fnet sm k (i - 1))) (nI i) τ = some τ' ∧ (∀ c j, c ≠ 27 → τ'.1 c j = σ.1 c j) ∧ (∀ j, j < 98 → τ'.1 27 j = nI (grp (fnet sm k) j)) := by
  intro n
  induction n with
  | zero => intro i τ h1 h2; omega
  | succ n ih =>
    intro i τ h1 h2 h3 h4
    unfold f_X3_groupNets_L14
    by_cases c : i = 98
    · subst c
      rw [if_pos (nI_le (Nat.le_refl _) (by decide))]
      exact ⟨τ, rfl, h3, h4⟩
    · have en : (-50 : Int32) + nI i = iI ((i : Int) - 50) := by
        have e : (-50 : Int32) = iI (-50) := by decide
        rw [e, iI_n, iI_add]; congr 1 <;> omega
      have hle : fnet sm k i ≤ 9999 := swn_le k hsm
      have hle' : fnet sm k (i - 1) ≤ 9999 := swn_le k hsm
      have ef : swn ((i : Int) - 50) k sm = fnet sm k i := rfl
      have hin : fb_in (nI i) 98 = true := in_n (by omega) (by decide)
      have hg := grp_le (fnet sm k) i
      have hg' := grp_le (fnet sm k) (i - 1)
      rw [if_neg (nI_ge (by omega) (by decide)), en, X_sway N hN (by omega) (by omega) (by omega) hsm, Option.bind_some, ef]
      have go : ∀ g, g = grp (fnet sm k) i → ∃ τ', f_X3_groupNets_L46 N (f_X3_groupNets_L14 N n) (nI sm) (nI k) (nI g) (nI i) (nI (fnet sm k i)) τ = some τ' ∧ (∀ c j, c ≠ 27 → τ'.1 c j = σ.1 c j) ∧ (∀ j, j < 98 → τ'.1 27 j = nI (grp (fnet sm k) j)) := by
        intro g e
        subst e
        unfold f_X3_groupNets_L46
        rw [ck_t hin, nm_e_, nI_1, cl_n (by omega)]
        refine ih (i + 1) _ (by omega) (by omega) (fun c j q => ?_) (fun j hj => ?_)
        · rw [up_ne _ _ (fun p => q p.1)]; exact h3 c j q
        · rw [up_at]
          by_cases e : j = i
          · rw [if_pos ⟨rfl, e⟩, e]
          · rw [if_neg (fun p => e p.2)]; exact h4 j (by omega)
      by_cases d : fnet sm k i = fnet sm k (i - 1)
      · rw [if_pos (by rw [d])]
        refine go _ ?_
        cases i with
        | zero => rfl
        | succ i =>
          show grp _ i = grp _ i + (if _ then 0 else 1)
          have d' : fnet sm k (i + 1) = fnet sm k i := d
          rw [if_pos d']; rfl
      · rw [if_neg (fun q => d ((nI_eq (by omega) (by omega)).mp q)), nI_1]
        refine go _ ?_
        cases i with
        | zero => exact absurd rfl d
        | succ i =>
          show grp _ i + 1 = grp _ i + (if _ then 0 else 1)
          have d' : ¬ fnet sm k (i + 1) = fnet sm k i := d
          rw [if_neg d']
theorem X_group (N : Nat) (hN : 40000 ≤ N) {σ : fb_S} {sm k : Nat} (hsm : sm ≤ 9999) (hk : k ≤ 30) : ∃ τ', f_X3_groupNets N (nI sm) (nI k) σ = some τ' ∧ (∀ c j, c ≠ 27 → τ'.1 c j = σ.1 c j) ∧ (∀ j, j < 98 → τ'.1 27 j = nI (grp (fnet sm k) j)) := by
  unfold f_X3_groupNets
  have e : (-50 : Int32) = iI (-50) := by decide
  rw [e, X_sway N hN (by omega) (by omega) (by omega) hsm, Option.bind_some]
  exact X_groupL N hN hsm hk N 0 σ (by omega) (by omega) (fun _ _ _ => rfl) (fun j hj => by omega)
theorem mst_up (key : Nat → Nat) (σ : fb_S) (m : Nat) : ∀ d, mst key (LLm σ m) ≤ mst key (LLm σ (m + d)) := by
  intro d
  induction d with
  | zero => exact Nat.le_refl _
  | succ d ih =>
    show _ ≤ mst key (LLm σ (m + d + 1))
    rw [LLm_s]
    split
    · rw [mst_s]; omega
    · exact ih
def AI (σ τ : fb_S) (sm k v m : Nat) : Prop := (∀ c j, c ≠ 27 → c ≠ 28 → τ.1 c j = σ.1 c j) ∧ (∀ j, j < 98 → τ.1 27 j = nI (grp (fnet sm k) j)) ∧ (∀ g, g < 98 → τ.1 28 g = nI (kc (gkey sm k v) (LLm σ m) g))
theorem X_alikeI (N : Nat) {σ : fb_S} (hR : Rl σ) (k13 : Int32 → Int32 → Int32 → Int32 → fb_S → Option (Int32 × fb_S)) (b : Int32) {sm k v : Nat} (hv : v ≤ 99) {p : Nat} (hp : p ≤ 49) : ∀ (n d : Nat) (τ : fb_S), 1 ≤ d → d ≤ 51 → 51 - d < n → AI σ τ sm k v (50 * p + (d - 1)) → ∃ τ', f_X3_mostAlike_L28 N k13 n (nI v) b (nI (mst (gkey sm k v) (LLm σ (50 * p + (d - 1))))) (nI p) (nI d) τ = k13 (nI v) b (nI (mst (gkey sm k v) (LLm σ (50 * (p + 1))))) (nI (p + 1)) τ' ∧ AI σ τ' sm k v (50 * (p + 1)) := by
  intro n
  induction n with
  | zero => intro d τ h1 h2 h3; omega
  | succ n ih =>
    intro d τ h1 h2 h3 hA
    unfold f_X3_mostAlike_L28
    by_cases c : d = 51
    · subst c
      unfold AI at hA
      rw [LLm_e] at hA ⊢
      rw [if_pos (lc_lt 50 (by omega) (by omega)), nI_1]
      exact ⟨τ, rfl, hA⟩
    · obtain ⟨a3, a4, a5⟩ := id hA
      have hs := LLm_n σ (p := p) h1
      have hl := LLm_len σ (50 * p + (d - 1))
      have hm := mst_le (gkey sm k v) (LLm σ (50 * p + (d - 1)))
      rw [if_neg (lc_nlt 50 (by omega) (by omega)), X_isF hR (fun j => a3 26 j (by decide) (by decide)) hp h1 (by omega), Option.bind_some, nI_1]
      by_cases c2 : FB σ (50 * p + (d - 1)) = true
      · rw [if_pos c2] at hs
        have q2 : 50 * p + (d - 1) < 2500 := by omega
        have en := X_lawNet (n := v) (by omega) hp h1 (by omega : d ≤ 50)
        generalize 50 * p + (d - 1) = law at *
        have hb := lawn_b hv q2
        have ex : iI (lawn v law) - (-50 : Int32) = nI (lawn v law + 50).toNat := by
          have e : (-50 : Int32) = iI (-50) := by decide
          rw [e, iI_sub, iI_nat (by omega)]
          congr 2
        have hg : gkey sm k v law < 98 := by
          have := grp_le (fnet sm k) (lawn v law + 50).toNat
          show grp _ _ < 98
          omega
        have e27 : τ.1 27 (lawn v law + 50).toNat = nI (gkey sm k v law) := a4 _ (by omega)
        have hkc := kc_le (gkey sm k v) (LLm σ law) (gkey sm k v law)
        have hin2 : fb_in (nI (gkey sm k v law)) 98 = true := in_n hg (by decide)
        rw [if_pos c2, if_neg z_1, en, Option.bind_some, ex, ck_t (in_n (by omega) (by decide)), nm_e_, cl_n (by omega), e27, ck_t hin2, ck_t hin2, nm_e_, ck_t hin2, nm_e_, cl_n (by omega), up_eq, a5 _ hg, nI_1, mx_n (by omega) (by omega)]
        have ih := ih (d + 1) (fb_up τ 28 (gkey sm k v law) (nI (kc (gkey sm k v) (LLm σ law) (gkey sm k v law) + 1))) (by omega) (by omega) (by omega) ⟨fun c j p1 p2 => by rw [up_ne _ _ (fun p => p2 p.1)]; exact a3 c j p1 p2, fun j hj => by rw [up_ne _ _ (by omega)]; exact a4 j hj, fun g hg2 => by
          rw [hs, kc_s, up_at]
          by_cases e : g = gkey sm k v law
          · rw [if_pos ⟨rfl, e⟩, if_pos e.symm, e]
          · rw [if_neg (fun p => e p.2), if_neg (fun p => e p.symm)]; exact a5 g hg2⟩
        rw [hs, mst_s] at ih
        exact ih
      · rw [if_neg c2] at hs
        rw [if_neg c2, if_pos rfl]
        have ih := ih (d + 1) τ (by omega) (by omega) (by omega) (by unfold AI; rw [hs]; exact hA)
        rw [hs] at ih
        exact ih
theorem X_alikeL (N : Nat) (hN : 40000 ≤ N) {σ : fb_S} (hR : Rl σ) {sm k v en : Nat} (hv : v ≤ 99) (hen : en ≤ 2501) : ∀ (n p : Nat) (τ : fb_S), p ≤ 50 → 50 - p < n → AI σ τ sm k v (50 * p) → ∃ r τ', f_X3_mostAlike_L13 N n (nI v) (nI en) (nI (mst (gkey sm k v) (LLm σ (50 * p)))) (nI p) τ = some (nI r, τ') ∧ r ≤ 2500 ∧ (en ≤ r ↔ en ≤ mst (gkey sm k v) (LLm σ 2500)) ∧ (r < en → r = mst (gkey sm k v) (LLm σ 2500)) ∧ (∀ c j, c ≠ 27 → c ≠ 28 → τ'.1 c j = σ.1 c j) ∧ (∀ j, j < 98 → τ'.1 27 j = nI (grp (fnet sm k) j)) := by
  intro n
  induction n with
  | zero => intro p τ h1 h2; omega
  | succ n ih =>
    intro p τ h1 h2 hA
    have hm := mst_le (gkey sm k v) (LLm σ (50 * p))
    have hl := LLm_len σ (50 * p)
    unfold f_X3_mostAlike_L13
    by_cases c : p = 50
    · subst c
      rw [if_pos (by decide)]
      exact ⟨mst (gkey sm k v) (LLm σ 2500), τ, rfl, by have e : 50 * 50 = 2500 := rfl; rw [e] at hm hl; omega, Iff.rfl, fun _ => rfl, hA.1, hA.2.1⟩
    · rw [if_neg (lc_nlt 49 (by omega) (by omega))]
      by_cases d : en ≤ mst (gkey sm k v) (LLm σ (50 * p))
      · rw [if_pos (nI_le d (by omega))]
        have h9 := mst_up (gkey sm k v) σ (50 * p) (2500 - 50 * p)
        rw [show 50 * p + (2500 - 50 * p) = 2500 by omega] at h9
        exact ⟨_, τ, rfl, by omega, ⟨fun _ => by omega, fun _ => d⟩, fun q => by omega, hA.1, hA.2.1⟩
      · rw [if_neg (nI_ge (by omega) (by omega))]
        obtain ⟨τ', q1, q2⟩ := X_alikeI N hR (f_X3_mostAlike_L13 N n) (nI en) hv (by omega : p ≤ 49) N 1 τ (by omega) (by omega) (by omega) hA
        have q1' : f_X3_mostAlike_L28 N (f_X3_mostAlike_L13 N n) N (nI v) (nI en) (nI (mst (gkey sm k v) (LLm σ (50 * p)))) (nI p) 1 τ = _ := q1
        rw [q1']
        exact ih (p + 1) τ' (by omega) (by omega) q2
theorem X_alike (N : Nat) (hN : 40000 ≤ N) {σ : fb_S} (hR : Rl σ) {sm k v en : Nat} (hv : v ≤ 99) (hen : en ≤ 2501) (τ : fb_S) (h3 : ∀ c j, c ≠ 27 → c ≠ 28 → τ.1 c j = σ.1 c j) (h4 : ∀ j, j < 98 → τ.1 27 j = nI (grp (fnet sm k) j)) : ∃ r τ', f_X3_mostAlike N (nI v) (nI en) τ = some (nI r, τ') ∧ r ≤ 2500 ∧ (en ≤ r ↔ en ≤ mst (nkey sm k v) (LLm σ 2500)) ∧ (r < en → r = mst (nkey sm k v) (LLm σ 2500)) ∧ (∀ c j, c ≠ 27 → c ≠ 28 → τ'.1 c j = σ.1 c j) ∧ (∀ j, j < 98 → τ'.1 27 j = nI (grp (fnet sm k) j)) := by
  have hlen := LLm_len σ 2500
  unfold f_X3_mostAlike
  obtain ⟨τ1, f1, -, f3⟩ := fill_ok 28 N 0 (by decide) (by show 98 < N; omega) τ
  rw [f1, Option.bind_some]
  have e : mst (gkey sm k v) (LLm σ 2500) = mst (nkey sm k v) (LLm σ 2500) := mst_c (fun a b ha hb => key_iff sm k v hv (LLm_lt ha) (LLm_lt hb))
  rw [← e]
  exact X_alikeL N hN hR hv hen N 0 τ1 (by omega) (by omega) ⟨fun c j p1 p2 => by rw [f3, if_neg (fun p => p2 p.1)]; exact h3 c j p1 p2, fun j hj => by rw [f3, if_neg (by omega)]; exact h4 j hj, fun g hg => by rw [f3, if_pos ⟨rfl, hg⟩]; rfl⟩
def nxs (f : Nat → Nat) (l : Nat) : Nat → Int × Nat
  | 0 => (-9, l + 1)
  | v + 1 => if f v < (nxs f l v).2 then ((v : Int), f v) else nxs f l v
theorem nxs_b {f : Nat → Nat} {l : Nat} : ∀ v, (nxs f l v).2 ≤ l + 1 := by
  intro v
  induction v with
  | zero => exact Nat.le_refl _
  | succ v ih =>
    unfold nxs
    split
    · show f v ≤ _; omega
    · exact ih
theorem X_partL (N : Nat) (hN : 40000 ≤ N) {σ : fb_S} (hR : Rl σ) {sm k : Nat} : ∀ (n v : Nat) (τ : fb_S), v ≤ 100 → 100 - v < n → (∀ c j, c ≠ 27 → c ≠ 28 → τ.1 c j = σ.1 c j) → (∀ j, j < 98 → τ.1 27 j = nI (grp (fnet sm k) j)) → ∃ τ', f_X3_bestParting_L20 N n (iI (nxs (fun v => mst (nkey sm k v) (LLm σ 2500)) (LLm σ 2500).length v).1) (nI (nxs (fun v => mst (nkey sm k v) (LLm σ 2500)) (LLm σ 2500).length v).2) (nI v) τ = some (iI (nxs (fun v => mst (nkey sm k v) (LLm σ 2500)) (LLm σ 2500).length 100).1, τ') ∧ (∀ c j, c ≠ 27 → c ≠ 28 → τ'.1 c j = σ.1 c j) := by
  have hlen := LLm_len σ 2500
  intro n
  induction n with
  | zero => intro v τ h1 h2; omega
  | succ n ih =>
    intro v τ h1 h2 h3 h4
    unfold f_X3_bestParting_L20
    by_cases c : v = 100
    · subst c
      rw [if_pos (by decide)]
      exact ⟨τ, rfl, h3⟩
    · have hb := nxs_b (f := fun v => mst (nkey sm k v) (LLm σ 2500)) (l := (LLm σ 2500).length) v
      obtain ⟨r, τ1, a1, a2, a3, a4, a5, a6⟩ := X_alike N hN hR (sm := sm) (k := k) (v := v) (en := (nxs (fun v => mst (nkey sm k v) (LLm σ 2500)) (LLm σ 2500).length v).2) (by omega) (by omega) τ h3 h4
      have ih := ih (v + 1) τ1 (by omega) (by omega) a5 a6
      have es : nxs (fun v => mst (nkey sm k v) (LLm σ 2500)) (LLm σ 2500).length (v + 1) = if mst (nkey sm k v) (LLm σ 2500) < (nxs (fun v => mst (nkey sm k v) (LLm σ 2500)) (LLm σ 2500).length v).2 then ((v : Int), mst (nkey sm k v) (LLm σ 2500)) else nxs (fun v => mst (nkey sm k v) (LLm σ 2500)) (LLm σ 2500).length v := rfl
      rw [es] at ih
      rw [if_neg (lc_nlt 99 (by omega) (by omega)), a1, Option.bind_some, nI_1]
      by_cases d : (nxs (fun v => mst (nkey sm k v) (LLm σ 2500)) (LLm σ 2500).length v).2 ≤ r
      · rw [if_neg (by have := a3.mp d; omega)] at ih
        rw [if_pos (nI_le d (by omega))]
        exact ih
      · have er := a4 (by omega)
        rw [if_pos (by rw [← er]; omega)] at ih
        rw [if_neg (nI_ge (by omega) (by omega)), er, iI_n v]
        dsimp only at ih ⊢
        exact ih
theorem M_alikeL (N : Nat) (hN : 40000 ≤ N) (k48 : Int32 → Int32 → Int32 → Int32 → fb_S → Option (Int32 × fb_S)) (b : Int32) {σ : fb_S} (hR : Rl σ) {sm k v fe : Nat} (hsm : sm ≤ 9999) (esm : σ.1 1 1 = nI sm) (hk : k ≤ 30) (hv : v ≤ 99) (hfe : fe ≤ 2501) : ∀ (n m : Nat) (τ : fb_S), m ≤ 2500 → 2500 - m < n → Keep σ τ → M48 σ τ → (∀ c, c < 10000 → τ.1 49 c = nI (kc (nkey sm k v) (LLm σ m) c)) → ∃ τ', f_X6_next_L86 N k48 n (nI k) b (nI fe) (nI v) (nI (mst (nkey sm k v) (LLm σ m))) (nI m) τ = (if fe ≤ mst (nkey sm k v) (LLm σ 2500) then k48 (nI k) b (nI fe) (nI (v + 1)) τ' else k48 (nI k) (nI v) (nI (mst (nkey sm k v) (LLm σ 2500))) (nI (v + 1)) τ') ∧ Keep σ τ' ∧ M48 σ τ' := by
  intro n
  induction n with
  | zero => intro m τ h1 h2; omega
  | succ n ih =>
    intro m τ h1 h2 h3 h4 h5
    have hm := mst_le (nkey sm k v) (LLm σ m)
    have hl := LLm_len σ m
    unfold f_X6_next_L86
    by_cases c : m = 2500
    · subst c
      rw [if_pos (by decide), nI_1]
      by_cases d : fe ≤ mst (nkey sm k v) (LLm σ 2500)
      · rw [if_pos (nI_le d (by omega))]
        exact ⟨τ, (if_pos d).symm, h3, h4⟩
      · rw [if_neg (nI_ge (by omega) (by omega))]
        exact ⟨τ, (if_neg d).symm, h3, h4⟩
    · have hs := LLm_s σ m
      have hin : fb_in (nI m) 2500 = true := in_n (by omega) (by decide)
      rw [if_neg (lc_nle 2500 (by omega) (by omega)), ck_t hin, cl_n (by omega), h4 m (by omega)]
      by_cases d : FB σ m = true
      · rw [if_pos d] at hs
        have hle : nkey sm k v m ≤ 9999 := swn_le k hsm
        have hin2 : fb_in (nI (nkey sm k v m)) 10000 = true := in_n (by omega) (by decide)
        have e37 : τ.1 37 1 = nI sm := by rw [h3 37 1 rfl, hR.2.2.1.1 1 (by decide), esm]
        have ea : f_X6_after N (nI v) (nI sm) (nI k) (nI m) = some (nI (nkey sm k v m)) := M_after N hN (by omega) (by omega) (by omega) hsm
        have hkc := kc_le (nkey sm k v) (LLm σ m) (nkey sm k v m)
        rw [if_pos d, if_neg z_1, e37, ea, Option.bind_some, ck_t hin2, ck_t hin2, nm_e_, ck_t hin2, ck_t hin2, nm_e_, cl_n (by omega), up_eq, h5 _ (by omega), nI_1, nI_1]
        have ih := ih (m + 1) (fb_up τ 49 (nkey sm k v m) (nI (kc (nkey sm k v) (LLm σ m) (nkey sm k v m) + 1))) (by omega) (by omega) (Keep.up rfl h3) (fun law q => by rw [up_ne _ _ (by omega)]; exact h4 law q) (fun x hx => by
          rw [hs, kc_s, up_at]
          by_cases e : x = nkey sm k v m
          · rw [if_pos ⟨rfl, e⟩, if_pos e.symm, e]
          · rw [if_neg (fun p => e p.2), if_neg (fun p => e p.symm)]; exact h5 x hx)
        rw [hs, mst_s] at ih
        by_cases f : kc (nkey sm k v) (LLm σ m) (nkey sm k v m) + 1 ≤ mst (nkey sm k v) (LLm σ m)
        · rw [if_pos (nI_le f (by omega))]
          rw [show max (mst (nkey sm k v) (LLm σ m)) (kc (nkey sm k v) (LLm σ m) (nkey sm k v m) + 1) = mst (nkey sm k v) (LLm σ m) by omega] at ih
          exact ih
        · rw [if_neg (nI_ge (by omega) (by omega))]
          rw [show max (mst (nkey sm k v) (LLm σ m)) (kc (nkey sm k v) (LLm σ m) (nkey sm k v m) + 1) = kc (nkey sm k v) (LLm σ m) (nkey sm k v m) + 1 by omega] at ih
          exact ih
      · rw [if_neg d] at hs
        rw [if_neg d, if_pos rfl, nI_1]
        have ih := ih (m + 1) τ (by omega) (by omega) h3 h4 (by rw [hs]; exact h5)
        rw [hs] at ih
        exact ih
theorem M_zeroL (N : Nat) (k48 : Int32 → Int32 → Int32 → Int32 → fb_S → Option (Int32 × fb_S)) (v1 b fe v : Int32) {σ : fb_S} : ∀ (n i : Nat) (τ : fb_S), i ≤ 10000 → 10000 - i < n → Keep σ τ → M48 σ τ → (∀ c, c < i → τ.1 49 c = 0) → ∃ τ', f_X6_next_L58 N k48 n v1 b fe v (nI i) τ = f_X6_next_L86 N k48 N v1 b fe v 0 0 τ' ∧ Keep σ τ' ∧ M48 σ τ' ∧ (∀ c, c < 10000 → τ'.1 49 c = 0) := by
  intro n
  induction n with
  | zero => intro i τ h1 h2; omega
  | succ n ih =>
    intro i τ h1 h2 h3 h4 h5
    unfold f_X6_next_L58
    by_cases c : i = 10000
    · subst c
      rw [if_pos (by decide)]
      exact ⟨τ, rfl, h3, h4, h5⟩
    · rw [if_neg (lc_nle 10000 (by omega) (by omega)), ck_t (in_n (by omega) (by decide)), nm_e_, nI_1, cl_n (by omega)]
      refine ih (i + 1) _ (by omega) (by omega) (Keep.up rfl h3) (fun law q => by rw [up_ne _ _ (by omega)]; exact h4 law q) (fun x hx => ?_)
      rw [up_at]
      by_cases e : x = i
      · rw [if_pos ⟨rfl, e⟩]
      · rw [if_neg (fun p => e p.2)]; exact h5 x (by omega)
theorem M_partL (N : Nat) (hN : 40000 ≤ N) {σ : fb_S} (hR : Rl σ) {sm k : Nat} (hsm : sm ≤ 9999) (esm : σ.1 1 1 = nI sm) (hk : k ≤ 30) : ∀ (n v : Nat) (τ : fb_S), v ≤ 100 → 100 - v < n → Keep σ τ → M48 σ τ → ∃ τ', f_X6_next_L48 N n (nI k) (iI (nxs (fun v => mst (nkey sm k v) (LLm σ 2500)) (LLm σ 2500).length v).1) (nI (nxs (fun v => mst (nkey sm k v) (LLm σ 2500)) (LLm σ 2500).length v).2) (nI v) τ = some (iI (nxs (fun v => mst (nkey sm k v) (LLm σ 2500)) (LLm σ 2500).length 100).1, τ') ∧ Keep σ τ' := by
  have hlen := LLm_len σ 2500
  intro n
  induction n with
  | zero => intro v τ h1 h2; omega
  | succ n ih =>
    intro v τ h1 h2 h3 h4
    unfold f_X6_next_L48
    by_cases c : v = 100
    · subst c
      rw [if_pos (by decide)]
      exact ⟨τ, rfl, h3⟩
    · have hb := nxs_b (f := fun v => mst (nkey sm k v) (LLm σ 2500)) (l := (LLm σ 2500).length) v
      rw [if_neg (lc_nle 100 (by omega) (by omega))]
      obtain ⟨τ1, a1, a2, a3, a4⟩ := M_zeroL N (f_X6_next_L48 N n) (nI k) (iI (nxs (fun v => mst (nkey sm k v) (LLm σ 2500)) (LLm σ 2500).length v).1) (nI (nxs (fun v => mst (nkey sm k v) (LLm σ 2500)) (LLm σ 2500).length v).2) (nI v) N 0 τ (by omega) (by omega) h3 h4 (fun c hc => by omega)
      have a1' : f_X6_next_L58 N (f_X6_next_L48 N n) N (nI k) (iI (nxs (fun v => mst (nkey sm k v) (LLm σ 2500)) (LLm σ 2500).length v).1) (nI (nxs (fun v => mst (nkey sm k v) (LLm σ 2500)) (LLm σ 2500).length v).2) (nI v) 0 τ = _ := a1
      rw [a1']
      obtain ⟨τ2, b1, b2, b3⟩ := M_alikeL N hN (f_X6_next_L48 N n) (iI (nxs (fun v => mst (nkey sm k v) (LLm σ 2500)) (LLm σ 2500).length v).1) hR (sm := sm) (k := k) (v := v) (fe := (nxs (fun v => mst (nkey sm k v) (LLm σ 2500)) (LLm σ 2500).length v).2) hsm esm hk (by omega) (by omega) N 0 τ1 (by omega) (by omega) a2 a3 (fun c hc => by rw [a4 c hc]; rfl)
      have b1' : f_X6_next_L86 N (f_X6_next_L48 N n) N (nI k) (iI (nxs (fun v => mst (nkey sm k v) (LLm σ 2500)) (LLm σ 2500).length v).1) (nI (nxs (fun v => mst (nkey sm k v) (LLm σ 2500)) (LLm σ 2500).length v).2) (nI v) 0 0 τ1 = _ := b1
      rw [b1']
      have ih := ih (v + 1) τ2 (by omega) (by omega) b2 b3
      have es : nxs (fun v => mst (nkey sm k v) (LLm σ 2500)) (LLm σ 2500).length (v + 1) = if mst (nkey sm k v) (LLm σ 2500) < (nxs (fun v => mst (nkey sm k v) (LLm σ 2500)) (LLm σ 2500).length v).2 then ((v : Int), mst (nkey sm k v) (LLm σ 2500)) else nxs (fun v => mst (nkey sm k v) (LLm σ 2500)) (LLm σ 2500).length v := rfl
      rw [es] at ih
      by_cases d : (nxs (fun v => mst (nkey sm k v) (LLm σ 2500)) (LLm σ 2500).length v).2 ≤ mst (nkey sm k v) (LLm σ 2500)
      · rw [if_neg (by omega)] at ih
        rw [if_pos d]
        exact ih
      · rw [if_pos (by omega)] at ih
        rw [if_neg d, iI_n v]
        dsimp only at ih
        exact ih
theorem st_next (N : Nat) (hN : 40000 ≤ N) (σ : fb_S) (hR : Rl σ) (a1 : Int32) : ∃ r σ1 σ2, f_X5_next N a1 σ = some (r, σ1) ∧ f_X6_next N a1 σ1 = some (r, σ2) ∧ Rl σ2 := by
  have hk0 : Keep σ (fb_up σ 29 0 0) := Keep.up rfl Keep.rfl'
  have hlen := LLm_len σ 2500
  unfold f_X5_next
  rw [X_isBeats, R8_n hR]
  by_cases c : 1 ≤ a1 ∧ a1 ≤ 30
  · rw [if_pos c, Option.bind_some, if_neg z_1]
    obtain ⟨k, hk, rfl⟩ : ∃ k : Nat, k ≤ 30 ∧ a1 = nI k := ex_n (c := 30) (by decide) (t_le.mpr (by have := t_le.mp c.1; have e : (1 : Int32).toInt = 1 := rfl; have e0 : (0 : Int32).toInt = 0 := rfl; omega)) c.2
    obtain ⟨sm, hsm, -, esm⟩ := small_n hR
    by_cases d : 2 ≤ (LLm σ 2500).length
    · rw [if_pos (lc_le 2 d (by omega)), esm]
      obtain ⟨τ1, g1, g2, g3⟩ := X_group N hN (σ := σ) hsm hk
      obtain ⟨τ2, p1, p2⟩ := X_partL N hN hR (sm := sm) (k := k) N 0 τ1 (by omega) (by omega) (fun c j q1 q2 => g2 c j q1) g3
      have kx : Keep σ τ2 := fun k j hs => p2 k j (fun e => by subst e; cases hs) (fun e => by subst e; cases hs)
      unfold f_X3_bestParting
      rw [g1, Option.bind_some, nm_e_, g2 22 7 (by decide), R8_n hR, nI_1]
      have p1' : f_X3_bestParting_L20 N N (-9) (nI ((LLm σ 2500).length + 1)) 0 τ1 = _ := p1
      rw [p1', Option.bind_some]
      have k1 : Keep σ (fb_up τ2 29 0 0) := Keep.up rfl kx
      obtain ⟨τ3, e1, e2, e3, e4⟩ := M_fit' N hN hR k1
      obtain ⟨τ4, q1, q2⟩ := M_partL N hN hR hsm esm hk N 0 τ3 (by omega) (by omega) e2 e4
      refine ⟨_, _, τ4, rfl, ?_, Rl_keep q2 hR⟩
      unfold f_X6_next
      rw [nm_e_, M_in2 (nI k) 1 30 (by decide) (by decide), if_pos c, Option.bind_some, if_neg z_1, e1, Option.bind_some, e3, if_pos (lc_le 2 d (by omega)), nm_e_, nI_1]
      exact q1
    · rw [if_neg (lc_nle 2 (by omega) (by omega))]
      obtain ⟨τ3, e1, e2, e3, e4⟩ := M_fit' N hN hR hk0
      refine ⟨-9, σ, τ3, rfl, ?_, Rl_keep e2 hR⟩
      unfold f_X6_next
      rw [nm_e_, M_in2 (nI k) 1 30 (by decide) (by decide), if_pos c, Option.bind_some, if_neg z_1, e1, Option.bind_some, e3, if_neg (lc_nle 2 (by omega) (by omega))]
  · refine ⟨-2, σ, fb_up σ 29 0 0, ?_, ?_, Rl_keep hk0 hR⟩
    · rw [if_neg c]; rfl
    · unfold f_X6_next
      rw [nm_e_, M_in2 a1 1 30 (by decide) (by decide), if_neg c]; rfl
