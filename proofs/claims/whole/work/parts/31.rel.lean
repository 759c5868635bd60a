/-! the sway in whole numbers -/
def bz (v : Nat) (net : Int) : Nat := (max 0 (min 9999 ((v : Int) + ((v : Int) * net) / 1000))).toNat
def psum (pu lo st cr : Nat → Int32) (v : Int) : Nat → Int
  | 0 => 0
  | j + 1 => psum pu lo st cr v j + (if (lo j).toInt ≤ v ∧ v ≤ (st j).toInt then (cr j).toInt * (pu j).toInt else 0)
def netz (pu lo st cr : Nat → Int32) (d : Int) (v : Int) : Int := psum pu lo st cr v 4 / 100 - d
def stp (pu lo st cr : Nat → Int32) (d : Int) (v : Nat) : Nat := bz v (netz pu lo st cr d v)
def itr (f : Nat → Nat) : Nat → Nat → Nat
  | 0, v => v
  | n + 1, v => itr f n (f v)
def stlB (f : Nat → Nat) (v : Nat) : Bool := (List.range 10000).any (fun t => itr f t v == 0)
/-! the choice of dampers -/
def dbit (c s i : Nat) : Bool := (s / 2 ^ (c - 1 - i)) % 2 == 1
def dtot (c : Nat) (r : Nat → Int32) (s : Nat) : Nat → Int
  | 0 => 0
  | i + 1 => dtot c r s i + (if dbit c s i = true then (r i).toInt else 0)
def dcnt (c s : Nat) : Nat → Nat
  | 0 => 0
  | i + 1 => dcnt c s i + (if dbit c s i = true then 1 else 0)
def dbetter (c : Nat) (pr : Nat → Int32) (s : Nat) : Option Nat → Bool
  | none => true
  | some b => decide (dtot c pr s c < dtot c pr b c) || (decide (dtot c pr s c = dtot c pr b c) && decide (dcnt c s c < dcnt c b c))
def dpick (c : Nat) (ad pr lo : Nat → Int32) (carry : Int) (ok : Int → Bool) : Nat → Option Nat
  | 0 => none
  | k + 1 => let s := 2 ^ c - 1 - k; let b := dpick c ad pr lo carry ok k
             if dtot c lo s c ≤ carry ∧ dbetter c pr s b = true ∧ ok (dtot c ad s c) = true then some s else b
def dval (o : Option Nat) : Int32 := match o with
  | none => -9
  | some s => nI s
def chos (r1 r7 r8 r9 r10 r12 r13 r14 : Nat → Int32) (c : Int32) : Option Nat :=
  dpick c.toNatClampNeg r12 r13 r14 (r1 2).toInt (fun a => stlB (stp r7 r8 r9 r10 ((r1 0).toInt + a)) (r1 1).toNatClampNeg) (2 ^ c.toNatClampNeg)
/-! tests and laws -/
def lawn (n law : Nat) : Int := ((n * (law / 50) / 100 : Nat) : Int) - ((law % 50 : Nat) + 1 : Int)
def lcode (law : Nat) : Nat := 100 * (law / 50) + law % 50 + 1
def swn (net : Int) : Nat → Nat → Nat
  | 0, v => v
  | k + 1, v => swn net k (bz v net)
/-- the bit that a push's row has for a damping -/
def fbit (r : Nat → Int32) (law : Nat) : Bool := lb (hjf r (law / 50)) (law % 50 + 1)
def fitB (r23 r24 r25 : Nat → Int32) (t law : Nat) : Bool := (List.range t).all (fun j => decide ((r24 j).toInt ≤ lawn (r23 j).toNatClampNeg law ∧ lawn (r23 j).toNatClampNeg law ≤ (r25 j).toInt))
def fitL (r23 r24 r25 : Nat → Int32) (t m : Nat) : List Nat := (List.range m).filter (fun law => fitB r23 r24 r25 t law)
/-! what both sides have in common -/
def R1 (σ : fb_S) : Prop := rg (σ.1 2 3) 1 5 ∧ σ.1 29 1 = σ.1 2 3 ∧ (∀ j, j < 5 → σ.1 30 j = σ.1 3 j ∧ rg (σ.1 3 j) 1 9) ∧ (∀ j, j < 6 → σ.1 31 j = σ.1 4 j ∧ rg (σ.1 4 j) 0 99)
def R2 (σ : fb_S) : Prop := ∀ j, j < 4 → (σ.1 32 j = σ.1 7 j ∧ rg (σ.1 7 j) 0 99) ∧ (σ.1 33 j = σ.1 8 j ∧ rg (σ.1 8 j) 0 9999) ∧ (σ.1 34 j = σ.1 9 j ∧ rg (σ.1 9 j) 0 9999) ∧ (σ.1 35 j = σ.1 10 j ∧ rg (σ.1 10 j) 0 999)
def R3 (σ : fb_S) : Prop := (∀ j, j < 4 → σ.1 37 j = σ.1 1 j) ∧ rg (σ.1 1 0) 1 500 ∧ rg (σ.1 1 1) 1 9999 ∧ rg (σ.1 1 2) 0 999 ∧ rg (σ.1 1 3) 0 9999
def R4 (σ : fb_S) : Prop := rg (σ.1 11 5) 0 10 ∧ σ.1 29 11 = σ.1 11 5 ∧ (∀ j, j < 10 → (σ.1 38 j = σ.1 12 j ∧ rg (σ.1 12 j) 0 500) ∧ (σ.1 39 j = σ.1 13 j ∧ rg (σ.1 13 j) 0 9999) ∧ (σ.1 40 j = σ.1 14 j ∧ rg (σ.1 14 j) 0 99) ∧ (σ.1 41 j = σ.1 15 j ∧ rg (σ.1 15 j) 0 1) ∧ ((σ.1 11 5).toInt ≤ j → σ.1 15 j = 0))
def R5 (σ : fb_S) : Prop := σ.1 11 6 = 0 ∨ (σ.1 11 6 = 1 ∧ σ.1 11 7 = dval (chos (σ.1 1) (σ.1 7) (σ.1 8) (σ.1 9) (σ.1 10) (σ.1 12) (σ.1 13) (σ.1 14) (σ.1 11 5)))
def R6 (σ : fb_S) : Prop := (∀ j, j < 6 → σ.1 43 j = σ.1 18 j) ∧ rg (σ.1 18 0) 1 8 ∧ rg (σ.1 18 1) 1 99 ∧ rg (σ.1 18 2) 1 99 ∧ rg (σ.1 18 3) 0 99 ∧ rg (σ.1 18 4) 0 999 ∧ rg (σ.1 18 5) 0 9 ∧ (∀ j, j < 60 → σ.1 44 j = σ.1 19 j ∧ rg (σ.1 19 j) 0 99)
def R7 (σ : fb_S) : Prop := rg (σ.1 22 6) 0 20 ∧ σ.1 29 30 = σ.1 22 6 ∧ (∀ j : Nat, (j : Int) < (σ.1 22 6).toInt → σ.1 47 (5 * j) = σ.1 23 j ∧ rg (σ.1 23 j) 0 99 ∧ rg (σ.1 47 (5 * j + 1)) 0 9999 ∧ rg (σ.1 47 (5 * j + 2)) 1 30 ∧ rg (σ.1 47 (5 * j + 3)) 0 9999 ∧ rg (σ.1 47 (5 * j + 4)) 0 9999 ∧ rg (σ.1 24 j) (-50) 48 ∧ rg (σ.1 25 j) (-51) 47 ∧
  ∀ net : Int, -50 ≤ net → net ≤ 47 → (((σ.1 47 (5 * j + 3)).toInt ≤ (swn net (σ.1 47 (5 * j + 2)).toNatClampNeg (σ.1 47 (5 * j + 1)).toNatClampNeg : Nat) ∧ ((swn net (σ.1 47 (5 * j + 2)).toNatClampNeg (σ.1 47 (5 * j + 1)).toNatClampNeg : Nat) : Int) ≤ (σ.1 47 (5 * j + 4)).toInt) ↔ ((σ.1 24 j).toInt ≤ net ∧ net ≤ (σ.1 25 j).toInt)))
def R8 (σ : fb_S) : Prop := σ.1 22 7 = nI (fitL (σ.1 23) (σ.1 24) (σ.1 25) (σ.1 22 6).toNatClampNeg 2500).length ∧ ∀ law, law < 2500 → fbit (σ.1 26) law = fitB (σ.1 23) (σ.1 24) (σ.1 25) (σ.1 22 6).toNatClampNeg law
def Rl (σ : fb_S) : Prop := R1 σ ∧ R2 σ ∧ R3 σ ∧ R4 σ ∧ R5 σ ∧ R6 σ ∧ R7 σ ∧ R8 σ
/-! what each of them looks at -/
def d1 (k j : Nat) : Bool := (k == 2 && j == 3) || (k == 29 && j == 1) || k == 3 || k == 4 || k == 30 || k == 31
def d2 (k : Nat) (_ : Nat) : Bool := k == 7 || k == 8 || k == 9 || k == 10 || k == 32 || k == 33 || k == 34 || k == 35
def d3 (k : Nat) (_ : Nat) : Bool := k == 1 || k == 37
def d4 (k j : Nat) : Bool := (k == 11 && j == 5) || (k == 29 && j == 11) || k == 12 || k == 13 || k == 14 || k == 15 || k == 38 || k == 39 || k == 40 || k == 41
def d5 (k j : Nat) : Bool := (k == 11 && (j == 5 || j == 6 || j == 7)) || k == 1 || k == 7 || k == 8 || k == 9 || k == 10 || k == 12 || k == 13 || k == 14
def d6 (k : Nat) (_ : Nat) : Bool := k == 18 || k == 19 || k == 43 || k == 44
def d7 (k j : Nat) : Bool := (k == 22 && j == 6) || (k == 29 && j == 30) || k == 23 || k == 24 || k == 25 || k == 47
def d8 (k j : Nat) : Bool := (k == 22 && (j == 6 || j == 7)) || k == 23 || k == 24 || k == 25 || k == 26
section C
variable {σ τ : fb_S}
theorem R1_c (h : ∀ k j, d1 k j = true → τ.1 k j = σ.1 k j) (hR : R1 σ) : R1 τ := by
  obtain ⟨a1, a2, a3, a4⟩ := hR
  refine ⟨by rw [h 2 3 rfl]; exact a1, by rw [h 2 3 rfl, h 29 1 rfl]; exact a2, fun j hj => ?_, fun j hj => ?_⟩
  · rw [h 30 j rfl, h 3 j rfl]; exact a3 j hj
  · rw [h 31 j rfl, h 4 j rfl]; exact a4 j hj
theorem R2_c (h : ∀ k j, d2 k j = true → τ.1 k j = σ.1 k j) (hR : R2 σ) : R2 τ := by
  intro j hj
  rw [h 32 j rfl, h 33 j rfl, h 34 j rfl, h 35 j rfl, h 7 j rfl, h 8 j rfl, h 9 j rfl, h 10 j rfl]
  exact hR j hj
theorem R3_c (h : ∀ k j, d3 k j = true → τ.1 k j = σ.1 k j) (hR : R3 σ) : R3 τ := by
  obtain ⟨a1, a2, a3, a4, a5⟩ := hR
  refine ⟨fun j hj => by rw [h 37 j rfl, h 1 j rfl]; exact a1 j hj, by rw [h 1 0 rfl]; exact a2, by rw [h 1 1 rfl]; exact a3, by rw [h 1 2 rfl]; exact a4, by rw [h 1 3 rfl]; exact a5⟩
theorem R4_c (h : ∀ k j, d4 k j = true → τ.1 k j = σ.1 k j) (hR : R4 σ) : R4 τ := by
  obtain ⟨a1, a2, a3⟩ := hR
  refine ⟨by rw [h 11 5 rfl]; exact a1, by rw [h 29 11 rfl, h 11 5 rfl]; exact a2, fun j hj => ?_⟩
  rw [h 11 5 rfl, h 38 j rfl, h 39 j rfl, h 40 j rfl, h 41 j rfl, h 12 j rfl, h 13 j rfl, h 14 j rfl, h 15 j rfl]
  exact a3 j hj
theorem R5_c (h : ∀ k j, d5 k j = true → τ.1 k j = σ.1 k j) (hR : R5 σ) : R5 τ := by
  have e : ∀ k, (∀ j, d5 k j = true) → τ.1 k = σ.1 k := fun k hk => funext fun j => h k j (hk j)
  unfold R5
  rw [h 11 6 rfl, h 11 7 rfl, h 11 5 rfl, e 1 (fun _ => rfl), e 7 (fun _ => rfl), e 8 (fun _ => rfl), e 9 (fun _ => rfl), e 10 (fun _ => rfl), e 12 (fun _ => rfl), e 13 (fun _ => rfl), e 14 (fun _ => rfl)]
  exact hR
theorem R6_c (h : ∀ k j, d6 k j = true → τ.1 k j = σ.1 k j) (hR : R6 σ) : R6 τ := by
  obtain ⟨a1, a2, a3, a4, a5, a6, a7, a8⟩ := hR
  refine ⟨fun j hj => by rw [h 43 j rfl, h 18 j rfl]; exact a1 j hj, by rw [h 18 0 rfl]; exact a2, by rw [h 18 1 rfl]; exact a3, by rw [h 18 2 rfl]; exact a4, by rw [h 18 3 rfl]; exact a5, by rw [h 18 4 rfl]; exact a6, by rw [h 18 5 rfl]; exact a7, fun j hj => by rw [h 44 j rfl, h 19 j rfl]; exact a8 j hj⟩
theorem R7_c (h : ∀ k j, d7 k j = true → τ.1 k j = σ.1 k j) (hR : R7 σ) : R7 τ := by
  have e : ∀ k, (∀ j, d7 k j = true) → τ.1 k = σ.1 k := fun k hk => funext fun j => h k j (hk j)
  unfold R7
  rw [h 22 6 rfl, h 29 30 rfl, e 23 (fun _ => rfl), e 24 (fun _ => rfl), e 25 (fun _ => rfl), e 47 (fun _ => rfl)]
  exact hR
theorem R8_c (h : ∀ k j, d8 k j = true → τ.1 k j = σ.1 k j) (hR : R8 σ) : R8 τ := by
  have e : ∀ k, (∀ j, d8 k j = true) → τ.1 k = σ.1 k := fun k hk => funext fun j => h k j (hk j)
  unfold R8
  rw [h 22 6 rfl, h 22 7 rfl, e 23 (fun _ => rfl), e 24 (fun _ => rfl), e 25 (fun _ => rfl), e 26 (fun _ => rfl)]
  exact hR
/-- places that hold nothing that lasts -/
def scr (k j : Nat) : Bool := k == 0 || k == 5 || (k == 6) || k == 16 || k == 17 || k == 20 || k == 21 || k == 27 || k == 28 || (k == 29 && (j != 1 && j != 11 && j != 30)) || k == 36 || k == 42 || k == 45 || k == 46 || k == 48 || k == 49 || k == 50
def Keep (σ τ : fb_S) : Prop := ∀ k j, scr k j = false → τ.1 k j = σ.1 k j
theorem Keep.rfl' : Keep σ σ := fun _ _ _ => rfl
theorem Keep.tr {a b c : fb_S} (h1 : Keep a b) (h2 : Keep b c) : Keep a c := fun k j h => (h2 k j h).trans (h1 k j h)
theorem Keep.up {k j : Nat} {v : Int32} (hs : scr k j = true) (h : Keep σ τ) : Keep σ (fb_up τ k j v) := fun a b hab => by
  rw [up_ne]
  · exact h a b hab
  · rintro ⟨rfl, rfl⟩
    rw [hs] at hab
    cases hab
theorem Rl_keep (h : Keep σ τ) (hR : Rl σ) : Rl τ := by
  obtain ⟨a1, a2, a3, a4, a5, a6, a7, a8⟩ := hR
  refine ⟨R1_c (fun k j hd => h k j ?_) a1, R2_c (fun k j hd => h k j ?_) a2, R3_c (fun k j hd => h k j ?_) a3, R4_c (fun k j hd => h k j ?_) a4, R5_c (fun k j hd => h k j ?_) a5, R6_c (fun k j hd => h k j ?_) a6, R7_c (fun k j hd => h k j ?_) a7, R8_c (fun k j hd => h k j ?_) a8⟩
  · simp only [d1, scr, Bool.or_eq_true, Bool.and_eq_true, beq_iff_eq, Bool.or_eq_false_iff, Bool.and_eq_false_iff, beq_eq_false_iff_ne, bne_iff_ne, ne_eq, bne_eq_false_iff_eq] at hd ⊢; omega
  · simp only [d2, scr, Bool.or_eq_true, Bool.and_eq_true, beq_iff_eq, Bool.or_eq_false_iff, Bool.and_eq_false_iff, beq_eq_false_iff_ne, bne_iff_ne, ne_eq, bne_eq_false_iff_eq] at hd ⊢; omega
  · simp only [d3, scr, Bool.or_eq_true, Bool.and_eq_true, beq_iff_eq, Bool.or_eq_false_iff, Bool.and_eq_false_iff, beq_eq_false_iff_ne, bne_iff_ne, ne_eq, bne_eq_false_iff_eq] at hd ⊢; omega
  · simp only [d4, scr, Bool.or_eq_true, Bool.and_eq_true, beq_iff_eq, Bool.or_eq_false_iff, Bool.and_eq_false_iff, beq_eq_false_iff_ne, bne_iff_ne, ne_eq, bne_eq_false_iff_eq] at hd ⊢; omega
  · simp only [d5, scr, Bool.or_eq_true, Bool.and_eq_true, beq_iff_eq, Bool.or_eq_false_iff, Bool.and_eq_false_iff, beq_eq_false_iff_ne, bne_iff_ne, ne_eq, bne_eq_false_iff_eq] at hd ⊢; omega
  · simp only [d6, scr, Bool.or_eq_true, Bool.and_eq_true, beq_iff_eq, Bool.or_eq_false_iff, Bool.and_eq_false_iff, beq_eq_false_iff_ne, bne_iff_ne, ne_eq, bne_eq_false_iff_eq] at hd ⊢; omega
  · simp only [d7, scr, Bool.or_eq_true, Bool.and_eq_true, beq_iff_eq, Bool.or_eq_false_iff, Bool.and_eq_false_iff, beq_eq_false_iff_ne, bne_iff_ne, ne_eq, bne_eq_false_iff_eq] at hd ⊢; omega
  · simp only [d8, scr, Bool.or_eq_true, Bool.and_eq_true, beq_iff_eq, Bool.or_eq_false_iff, Bool.and_eq_false_iff, beq_eq_false_iff_ne, bne_iff_ne, ne_eq, bne_eq_false_iff_eq] at hd ⊢; omega
end C
