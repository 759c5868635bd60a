/-! bits of a long -/
def lb (x : Int64) (d : Nat) : Bool := x.toBitVec.getLsbD d
theorem lb_0 (d : Nat) : lb 0 d = false := BitVec.getLsbD_zero
theorem lb_or (x y : Int64) (d : Nat) : lb (x ||| y) d = (lb x d || lb y d) := by unfold lb; rw [Int64.toBitVec_or, BitVec.getLsbD_or]
theorem lb_and (x y : Int64) (d : Nat) : lb (x &&& y) d = (lb x d && lb y d) := by unfold lb; rw [Int64.toBitVec_and, BitVec.getLsbD_and]
theorem lb_ext {x y : Int64} (h : ∀ d, d < 64 → lb x d = lb y d) : x = y := Int64.toBitVec_inj.mp (BitVec.eq_of_getLsbD_eq (fun d hd => h d hd))
theorem lb_tp : ∀ n, n < 64 → ((1 : Int64) <<< ((nI n).toInt64 &&& 63)).toBitVec = BitVec.twoPow 64 n := by decide +kernel
theorem lb_sh {n : Nat} (hn : n < 64) (d : Nat) : lb ((1 : Int64) <<< ((nI n).toInt64 &&& 63)) d = decide (n = d) := by
  unfold lb
  rw [lb_tp n hn, BitVec.getLsbD_twoPow]
  simp [hn]
theorem lb_set {n : Nat} (hn : n < 64) (x : Int64) (d : Nat) : lb (x ||| ((1 : Int64) <<< ((nI n).toInt64 &&& 63))) d = (lb x d || decide (n = d)) := by rw [lb_or, lb_sh hn]
theorem lb_get {n : Nat} (hn : n < 64) (x : Int64) : x &&& ((1 : Int64) <<< ((nI n).toInt64 &&& 63)) = 0 ↔ lb x n = false := by
  constructor
  · intro h
    have t := congrArg (fun z => lb z n) h
    simp only [lb_and, lb_sh hn, lb_0] at t
    simpa using t
  · intro h
    refine lb_ext (fun d _ => ?_)
    rw [lb_and, lb_sh hn, lb_0]
    by_cases e : n = d
    · subst e; rw [h]; rfl
    · simp [e]
theorem lb_sl : ∀ n, n < 64 → (((nI n).toInt64 &&& 63).toBitVec.smod 64).toNat = n := by decide +kernel
theorem lb_sr {n : Nat} (hn : n < 64) (x : Int64) : lb (x >>> ((nI n).toInt64 &&& 63)) 0 = lb x n := by
  unfold lb
  rw [Int64.toBitVec_shiftRight]
  show (x.toBitVec.sshiftRight (((nI n).toInt64 &&& 63).toBitVec.smod 64).toNat).getLsbD 0 = _
  rw [lb_sl n hn, BitVec.getLsbD_sshiftRight]
  simp [hn]
theorem lb_1 : ∀ d, d < 64 → lb 1 d = decide (d = 0) := by decide +kernel
theorem lb_a1 (x : Int64) : x &&& 1 = 1 ↔ lb x 0 = true := by
  constructor
  · intro h
    have t := congrArg (fun z => lb z 0) h
    simp only [lb_and, lb_1 0 (by decide)] at t
    simpa using t
  · intro h
    refine lb_ext (fun d hd => ?_)
    rw [lb_and, lb_1 d hd]
    by_cases e : d = 0
    · subst e; rw [h]; rfl
    · simp [e]
theorem lb_bit {n : Nat} (hn : n < 64) (x : Int64) : (x >>> ((nI n).toInt64 &&& 63)) &&& 1 = 1 ↔ lb x n = true := by rw [lb_a1, lb_sr hn]
/-! rows of longs in halves -/
theorem upH_at (σ : fb_S) (k j : Nat) (v : Int64) (a b : Nat) (h : ¬ (a = k ∧ (b = 2 * j ∨ b = 2 * j + 1))) : (fb_upH σ k j v).1 a b = σ.1 a b := by
  unfold fb_upH
  rw [up_ne _ _ (by omega), up_ne _ _ (by omega)]
theorem upH_ne (σ : fb_S) (k j : Nat) (v : Int64) {a : Nat} (b : Nat) (h : a ≠ k) : (fb_upH σ k j v).1 a b = σ.1 a b := upH_at σ k j v a b (fun q => h q.1)
theorem upH_2 (σ : fb_S) (k j : Nat) (v : Int64) : (fb_upH σ k j v).2 = σ.2 := rfl
theorem upH_h (σ : fb_S) (k j : Nat) (v : Int64) (i : Nat) : hjf ((fb_upH σ k j v).1 k) i = if i = j then v else hjf (σ.1 k) i := by
  have e1 : (fb_upH σ k j v).1 k = upd (upd (σ.1 k) (2 * j) (hlo v)) (2 * j + 1) (hhi v) := by
    unfold fb_upH
    rw [fb_upS, fb_upS]
  rw [e1, hjf_up]
  rfl
theorem hjf_c {r q : Nat → Int32} (h : ∀ b, r b = q b) (i : Nat) : hjf r i = hjf q i := by rw [funext h]
