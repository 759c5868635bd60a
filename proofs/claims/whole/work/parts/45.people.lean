/-! a day of people, in whole numbers -/
abbrev Dy := (Nat → Nat) × (Nat → Nat) × Nat × Nat × Nat × Nat × Nat
abbrev Dp := (Nat → Nat) × (Nat → Nat) × (Nat → Nat → Nat)
def osum (o : Nat → Nat) : Nat → Nat
  | 0 => 0
  | j + 1 => osum o j + o j
def up1 (o : Nat → Nat) (i v : Nat) : Nat → Nat := fun j => if j = i then v else o j
def mv1 (h f i : Nat) (o : Nat → Nat) : Nat → Nat :=
  up1 (up1 o i (o i - min (min (o i) f) (h - o (i + 1)))) (i + 1) (o (i + 1) + min (min (o i) f) (h - o (i + 1)))
def mvs (h f : Nat) : Nat → (Nat → Nat) → (Nat → Nat)
  | 0, o => o
  | i + 1, o => mvs h f i (mv1 h f i o)
def outs (f l : Nat) (o : Nat → Nat) : Nat → Nat := up1 o l (o l - min (o l) f)
def pon (P : Dp) (s : Dy) : Nat → Nat := mvs (P.1 1) (P.1 2) (P.1 0 - 1) (outs (P.1 2) (P.1 0 - 1) s.1)
def pov (P : Dp) (s : Dy) : Nat := s.2.2.1 + min (s.1 (P.1 0 - 1)) (P.1 2)
def pqu (P : Dp) (s : Dy) (t : Nat) : Nat := s.2.2.2.1 + P.2.1 t
def knw (P : Dp) (s : Dy) (t : Nat) : Nat := if P.1 5 = 0 then osum (pon P s) (P.1 0) else if P.1 5 ≤ t then s.2.1 (t - P.1 5) else 0
def ent (P : Dp) (s : Dy) (t : Nat) : Nat := min (min (pqu P s t) (P.1 3)) (P.1 1 - pon P s 0)
def fin1 (P : Dp) (s : Dy) (t : Nat) (o : Nat → Nat) (qu : Nat) : Dy :=
  (o, up1 s.2.1 t (osum o (P.1 0)), pov P s, qu, P.2.2 (osum o (P.1 0)) s.2.2.2.2.1, max s.2.2.2.2.2.1 (P.2.2 (osum o (P.1 0)) s.2.2.2.2.1), max s.2.2.2.2.2.2 (osum o (P.1 0)))
def min1 (P : Dp) (mk : Nat) (s : Dy) (t : Nat) : Dy :=
  if knw P s t < mk then fin1 P s t (up1 (pon P s) 0 (pon P s 0 + ent P s t)) (pqu P s t - ent P s t) else fin1 P s t (pon P s) (pqu P s t)
def dys (P : Dp) (mk : Nat) : Nat → Dy
  | 0 => (fun _ => 0, fun _ => 0, 0, 0, P.1 6, 0, 0)
  | t + 1 => min1 P mk (dys P mk t) t
def lks (P : Dp) (mk : Nat) : Nat → Nat
  | 0 => 1000
  | t + 1 => if knw P (dys P mk t) t < mk then lks P mk t else min (lks P mk t) (knw P (dys P mk t) t)
/-! the numbers stay small -/
theorem up1_eq (o : Nat → Nat) (i v : Nat) : up1 o i v i = v := if_pos rfl
theorem up1_ne (o : Nat → Nat) {i j : Nat} (v : Nat) (h : j ≠ i) : up1 o i v j = o j := if_neg h
theorem osum_c {o q : Nat → Nat} : ∀ n, (∀ j, j < n → o j = q j) → osum o n = osum q n := by
  intro n
  induction n with
  | zero => intro _; rfl
  | succ n ih => intro h; unfold osum; rw [ih (fun j hj => h j (by omega)), h n (by omega)]
theorem osum_up (o : Nat → Nat) (i v : Nat) : ∀ n, i < n → osum (up1 o i v) n + o i = osum o n + v := by
  intro n
  induction n with
  | zero => intro h; omega
  | succ n ih =>
    intro h
    unfold osum
    by_cases c : i = n
    · subst c
      rw [up1_eq, osum_c (q := o) i (fun j hj => up1_ne o v (by omega))]
      omega
    · have := ih (by omega)
      rw [up1_ne o v (by omega : n ≠ i)]
      omega
theorem osum_le {o : Nat → Nat} {b : Nat} : ∀ n, (∀ j, j < n → o j ≤ b) → osum o n ≤ b * n := by
  intro n
  induction n with
  | zero => intro _; exact Nat.le_refl _
  | succ n ih =>
    intro h
    unfold osum
    have h1 := ih (fun j hj => h j (by omega))
    have h2 := h n (by omega)
    have h3 : b * (n + 1) = b * n + b := by rw [Nat.mul_add, Nat.mul_one]
    omega
theorem osum_ge {o : Nat → Nat} : ∀ n i, i < n → o i ≤ osum o n := by
  intro n
  induction n with
  | zero => intro i h; omega
  | succ n ih =>
    intro i h
    unfold osum
    by_cases c : i = n
    · subst c; omega
    · have := ih i (by omega); omega
theorem mv1_le {h f i : Nat} {o : Nat → Nat} (H : ∀ j, j < 8 → o j ≤ h) (hi : i + 1 < 8) : ∀ j, j < 8 → mv1 h f i o j ≤ h := by
  intro j hj
  unfold mv1
  have a1 := H i (by omega)
  have a2 := H (i + 1) hi
  by_cases c : j = i + 1
  · rw [c, up1_eq]; omega
  · rw [up1_ne _ _ c]
    by_cases d : j = i
    · rw [d, up1_eq]; omega
    · rw [up1_ne _ _ d]; exact H j hj
theorem mvs_le {h f : Nat} : ∀ (i : Nat) (o : Nat → Nat), i < 8 → (∀ j, j < 8 → o j ≤ h) → ∀ j, j < 8 → mvs h f i o j ≤ h := by
  intro i
  induction i with
  | zero => intro o _ H; exact H
  | succ i ih => intro o hi H; exact ih _ (by omega) (mv1_le H hi)
theorem mv1_sum {h f i n : Nat} {o : Nat → Nat} (hi : i + 1 < n) : osum (mv1 h f i o) n = osum o n := by
  unfold mv1
  have a1 := osum_up (up1 o i (o i - min (min (o i) f) (h - o (i + 1)))) (i + 1) (o (i + 1) + min (min (o i) f) (h - o (i + 1))) n hi
  have a2 := osum_up o i (o i - min (min (o i) f) (h - o (i + 1))) n (by omega)
  rw [up1_ne o _ (by omega : i + 1 ≠ i)] at a1
  omega
theorem mvs_sum {h f n : Nat} : ∀ (i : Nat) (o : Nat → Nat), i < n → osum (mvs h f i o) n = osum o n := by
  intro i
  induction i with
  | zero => intro o _; rfl
  | succ i ih => intro o hi; unfold mvs; rw [ih _ (by omega), mv1_sum hi]
def Pq (P : Dp) : Prop := (1 ≤ P.1 0 ∧ P.1 0 ≤ 8) ∧ (1 ≤ P.1 1 ∧ P.1 1 ≤ 99) ∧ (1 ≤ P.1 2 ∧ P.1 2 ≤ 99) ∧ P.1 3 ≤ 99 ∧ P.1 5 ≤ 9 ∧ P.1 6 ≤ 9999 ∧ (∀ j, j < 60 → P.2.1 j ≤ 99) ∧ ∀ n v, P.2.2 n v ≤ 9999
def Dinv (P : Dp) (s : Dy) (t : Nat) : Prop := (∀ j, j < 8 → s.1 j ≤ P.1 1) ∧ (∀ j, s.2.1 j ≤ 792) ∧ s.2.2.1 ≤ 99 * t ∧ s.2.2.2.1 ≤ 99 * t ∧ s.2.2.2.2.1 ≤ 9999 ∧ s.2.2.2.2.2.1 ≤ 9999 ∧ s.2.2.2.2.2.2 ≤ 792
theorem outs_le {f l h : Nat} {o : Nat → Nat} (H : ∀ j, j < 8 → o j ≤ h) : ∀ j, j < 8 → outs f l o j ≤ h := by
  intro j hj
  unfold outs
  by_cases c : j = l
  · rw [c, up1_eq]
    have := H l (by omega)
    omega
  · rw [up1_ne _ _ c]; exact H j hj
theorem pon_le {P : Dp} {s : Dy} (hP : Pq P) (H : ∀ j, j < 8 → s.1 j ≤ P.1 1) : ∀ j, j < 8 → pon P s j ≤ P.1 1 := mvs_le _ _ (by have := hP.1; omega) (outs_le H)
theorem pon_sum {P : Dp} {s : Dy} (hP : Pq P) : osum (pon P s) (P.1 0) = osum s.1 (P.1 0) - min (s.1 (P.1 0 - 1)) (P.1 2) := by
  unfold pon
  have h1 := hP.1
  rw [mvs_sum _ _ (by omega)]
  unfold outs
  have h2 := osum_up s.1 (P.1 0 - 1) (s.1 (P.1 0 - 1) - min (s.1 (P.1 0 - 1)) (P.1 2)) (P.1 0) (by omega)
  have h3 := osum_ge (o := s.1) (P.1 0) (P.1 0 - 1) (by omega)
  omega
theorem osum792 {P : Dp} {o : Nat → Nat} (hP : Pq P) (H : ∀ j, j < 8 → o j ≤ P.1 1) : osum o (P.1 0) ≤ 792 := by
  have h1 := hP.1
  have h2 := hP.2.1
  have h3 := osum_le (o := o) (b := 99) (P.1 0) (fun j hj => by have := H j (by omega); omega)
  omega
theorem ponL_le {P : Dp} {s : Dy} {t : Nat} (hP : Pq P) (H : ∀ j, j < 8 → s.1 j ≤ P.1 1) : ∀ j, j < 8 → up1 (pon P s) 0 (pon P s 0 + ent P s t) j ≤ P.1 1 := by
  intro j hj
  have h0 := pon_le hP H 0 (by omega)
  by_cases c : j = 0
  · rw [c, up1_eq]; unfold ent; omega
  · rw [up1_ne _ _ c]; exact pon_le hP H j hj
theorem fin1_inv {P : Dp} {s : Dy} {t : Nat} (hP : Pq P) (ht : t < 60) (h : Dinv P s t) {o : Nat → Nat} {qu : Nat} (ho : ∀ j, j < 8 → o j ≤ P.1 1) (hq : qu ≤ pqu P s t) : Dinv P (fin1 P s t o qu) (t + 1) := by
  obtain ⟨a1, a2, a3, a4, a5, a6, a7⟩ := h
  have hs := osum792 hP ho
  have hb := hP.2.2.2.2.2.2.2 (osum o (P.1 0)) s.2.2.2.2.1
  have hf := hP.2.2.1
  have ha := hP.2.2.2.2.2.2.1 t ht
  have h1 := hP.1
  refine ⟨ho, fun j => ?_, ?_, ?_, hb, ?_, ?_⟩
  · show up1 _ _ _ j ≤ 792
    by_cases c : j = t
    · rw [c, up1_eq]; exact hs
    · rw [up1_ne _ _ c]; exact a2 j
  · show pov P s ≤ _
    unfold pov; omega
  · show qu ≤ _
    unfold pqu at hq; omega
  · show max _ _ ≤ _
    omega
  · show max _ _ ≤ _
    omega
theorem dys_inv {P : Dp} (hP : Pq P) (mk : Nat) : ∀ t, t ≤ 60 → Dinv P (dys P mk t) t := by
  intro t
  induction t with
  | zero => intro _; exact ⟨fun _ _ => Nat.zero_le _, fun _ => Nat.zero_le _, Nat.zero_le _, Nat.zero_le _, hP.2.2.2.2.2.1, Nat.zero_le _, Nat.zero_le _⟩
  | succ t ih =>
    intro ht
    have ih := ih (by omega)
    unfold dys min1
    split
    · exact fin1_inv hP (by omega) ih (ponL_le hP ih.1) (Nat.sub_le _ _)
    · exact fin1_inv hP (by omega) ih (pon_le hP ih.1) (Nat.le_refl _)
theorem knw_le {P : Dp} {s : Dy} {t : Nat} (hP : Pq P) (h : Dinv P s t) : knw P s t ≤ 792 := by
  unfold knw
  split
  · exact osum792 hP (pon_le hP h.1)
  · split
    · exact h.2.1 _
    · omega
/-! marks that shut as others do -/
theorem dys_mark {P : Dp} {mk mk' : Nat} (h : mk ≤ mk') : ∀ t, mk' ≤ lks P mk t → dys P mk' t = dys P mk t := by
  intro t
  induction t with
  | zero => intro _; rfl
  | succ t ih =>
    intro hl
    unfold lks at hl
    unfold dys
    by_cases c : knw P (dys P mk t) t < mk
    · rw [if_pos c] at hl
      rw [ih hl]
      unfold min1
      rw [if_pos c, if_pos (by omega)]
    · rw [if_neg c] at hl
      rw [ih (by omega)]
      unfold min1
      rw [if_neg c, if_neg (by omega)]
theorem wo_mono {P : Dp} {mk : Nat} : ∀ d t, (dys P mk t).2.2.2.2.2.1 ≤ (dys P mk (t + d)).2.2.2.2.2.1 := by
  intro d
  induction d with
  | zero => intro t; exact Nat.le_refl _
  | succ d ih =>
    intro t
    refine Nat.le_trans (ih t) ?_
    show _ ≤ (min1 P mk (dys P mk (t + d)) (t + d)).2.2.2.2.2.1
    unfold min1
    split
    · show _ ≤ max _ _
      omega
    · show _ ≤ max _ _
      omega
theorem lks_ge {P : Dp} {mk : Nat} (hmk : mk ≤ 1000) : ∀ t, mk ≤ lks P mk t := by
  intro t
  induction t with
  | zero => exact hmk
  | succ t ih =>
    unfold lks
    split
    · exact ih
    · omega
theorem lks_le {P : Dp} {mk : Nat} : ∀ t, lks P mk t ≤ 1000 := by
  intro t
  induction t with
  | zero => exact Nat.le_refl _
  | succ t ih =>
    unfold lks
    split
    · exact ih
    · omega
