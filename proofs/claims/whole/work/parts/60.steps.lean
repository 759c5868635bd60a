def Rl (σ : fb_S) : Prop := sorry
def fb_z0 (σX σM : fb_S) : fb_S := (fun k => if k < 29 then σX.1 k else σM.1 k, σX.2)
theorem st_start (N : Nat) (hN : 40000 ≤ N) : ∃ σB σT σM, f_X0_makeAnew N 1 fb_zX0 = some σB ∧ f_X3_findFitting N fb_zX3 = some σT ∧ f_X6_init N fb_zX6 = some σM ∧ Rl (fb_z0 (fb_zX5 σB σT) σM) := by
  sorry
theorem st_span (N : Nat) (hN : 40000 ≤ N) (σ : fb_S) (hR : Rl σ) (a1 : Int32) : ∃ r σ1 σ2, f_X5_span N a1 σ = some (r, σ1) ∧ f_X6_span N a1 σ1 = some (r, σ2) ∧ Rl σ2 := by
  sorry
theorem st_weight (N : Nat) (hN : 40000 ≤ N) (σ : fb_S) (hR : Rl σ) (a1 : Int32) (a2 : Int32) : ∃ r σ1 σ2, f_X5_weight a1 a2 σ = some (r, σ1) ∧ f_X6_weight a1 a2 σ1 = some (r, σ2) ∧ Rl σ2 := by
  sorry
theorem st_spring (N : Nat) (hN : 40000 ≤ N) (σ : fb_S) (hR : Rl σ) (a1 : Int32) (a2 : Int32) : ∃ r σ1 σ2, f_X5_spring a1 a2 σ = some (r, σ1) ∧ f_X6_spring a1 a2 σ1 = some (r, σ2) ∧ Rl σ2 := by
  sorry
theorem st_below (N : Nat) (hN : 40000 ≤ N) (σ : fb_S) (hR : Rl σ) (a1 : Int32) : ∃ r σ1 σ2, f_X5_below N a1 σ = some (r, σ1) ∧ f_X6_below N a1 σ1 = some (r, σ2) ∧ Rl σ2 := by
  sorry
theorem st_tone (N : Nat) (hN : 40000 ≤ N) (σ : fb_S) (hR : Rl σ) (a1 : Int32) : ∃ r σ1 σ2, f_X5_tone N a1 σ = some (r, σ1) ∧ f_X6_tone N a1 σ1 = some (r, σ2) ∧ Rl σ2 := by
  sorry
theorem st_isTone (N : Nat) (hN : 40000 ≤ N) (σ : fb_S) (hR : Rl σ) (a1 : Int32) : ∃ r σ1 σ2, f_X5_isTone N a1 σ = some (r, σ1) ∧ f_X6_isTone N a1 σ1 = some (r, σ2) ∧ Rl σ2 := by
  sorry
theorem st_sort (N : Nat) (hN : 40000 ≤ N) (σ : fb_S) (hR : Rl σ) (a1 : Int32) (a2 : Int32) (a3 : Int32) (a4 : Int32) : ∃ r σ1 σ2, f_X5_sort a1 a2 a3 a4 σ = some (r, σ1) ∧ f_X6_sort a1 a2 a3 a4 σ1 = some (r, σ2) ∧ Rl σ2 := by
  sorry
theorem st_crowd (N : Nat) (hN : 40000 ≤ N) (σ : fb_S) (hR : Rl σ) (a1 : Int32) (a2 : Int32) : ∃ r σ1 σ2, f_X5_crowd a1 a2 σ = some (r, σ1) ∧ f_X6_crowd a1 a2 σ1 = some (r, σ2) ∧ Rl σ2 := by
  sorry
theorem st_rule (N : Nat) (hN : 40000 ≤ N) (σ : fb_S) (hR : Rl σ) (a1 : Int32) (a2 : Int32) : ∃ r σ1 σ2, f_X5_rule a1 a2 σ = some (r, σ1) ∧ f_X6_rule a1 a2 σ1 = some (r, σ2) ∧ Rl σ2 := by
  sorry
theorem st_net (N : Nat) (hN : 40000 ≤ N) (σ : fb_S) (hR : Rl σ) (a1 : Int32) : ∃ r σ2, f_X5_net N a1 σ = some r ∧ f_X6_net N a1 σ = some (r, σ2) ∧ Rl σ2 := by
  sorry
theorem st_beats (N : Nat) (hN : 40000 ≤ N) (σ : fb_S) (hR : Rl σ) (a1 : Int32) (a2 : Int32) : ∃ r σ2, f_X5_beats N a1 a2 σ = some r ∧ f_X6_beats N a1 a2 σ = some (r, σ2) ∧ Rl σ2 := by
  sorry
theorem st_settles (N : Nat) (hN : 40000 ≤ N) (σ : fb_S) (hR : Rl σ) (a1 : Int32) : ∃ r σ1 σ2, f_X5_settles N a1 σ = some (r, σ1) ∧ f_X6_settles N a1 σ1 = some (r, σ2) ∧ Rl σ2 := by
  sorry
theorem st_ring (N : Nat) (hN : 40000 ≤ N) (σ : fb_S) (hR : Rl σ) (a1 : Int32) (a2 : Int32) : ∃ r σ1 σ2, f_X5_ring N a1 a2 σ = some (r, σ1) ∧ f_X6_ring N a1 a2 σ1 = some (r, σ2) ∧ Rl σ2 := by
  sorry
theorem st_tooMany (N : Nat) (hN : 40000 ≤ N) (σ : fb_S) (hR : Rl σ) (a1 : Int32) : ∃ r σ1 σ2, f_X5_tooMany N a1 σ = some (r, σ1) ∧ f_X6_tooMany N a1 σ1 = some (r, σ2) ∧ Rl σ2 := by
  sorry
theorem st_inStep (N : Nat) (hN : 40000 ≤ N) (σ : fb_S) (hR : Rl σ) (a1 : Int32) : ∃ r σ2, f_X5_inStep N a1 σ = some r ∧ f_X6_inStep N a1 σ = some (r, σ2) ∧ Rl σ2 := by
  sorry
theorem st_damper (N : Nat) (hN : 40000 ≤ N) (σ : fb_S) (hR : Rl σ) (a1 : Int32) (a2 : Int32) (a3 : Int32) : ∃ r σ1 σ2, f_X5_damper a1 a2 a3 σ = some (r, σ1) ∧ f_X6_damper a1 a2 a3 σ1 = some (r, σ2) ∧ Rl σ2 := by
  sorry
theorem st_build (N : Nat) (hN : 40000 ≤ N) (σ : fb_S) (hR : Rl σ) (a1 : Int32) (a2 : Int32) (hb2 : a2 = 0 ∨ a2 = 1) : ∃ r σ1 σ2, f_X5_build a1 a2 σ = some (r, σ1) ∧ f_X6_build a1 a2 σ1 = some (r, σ2) ∧ Rl σ2 := by
  sorry
theorem st_cheapest (N : Nat) (hN : 40000 ≤ N) (σ : fb_S) (hR : Rl σ) : ∃ r σ1 σ2, f_X5_cheapest N σ = some (r, σ1) ∧ f_X6_cheapest N σ1 = some (r, σ2) ∧ Rl σ2 := by
  sorry
theorem st_bought (N : Nat) (hN : 40000 ≤ N) (σ : fb_S) (hR : Rl σ) (a1 : Int32) : ∃ r σ1 σ2, f_X5_bought N a1 σ = some (r, σ1) ∧ f_X6_bought N a1 σ1 = some (r, σ2) ∧ Rl σ2 := by
  sorry
theorem st_way (N : Nat) (hN : 40000 ≤ N) (σ : fb_S) (hR : Rl σ) (a1 : Int32) (a2 : Int32) : ∃ r σ1 σ2, f_X5_way a1 a2 σ = some (r, σ1) ∧ f_X6_way a1 a2 σ1 = some (r, σ2) ∧ Rl σ2 := by
  sorry
theorem st_arrive (N : Nat) (hN : 40000 ≤ N) (σ : fb_S) (hR : Rl σ) (a1 : Int32) (a2 : Int32) : ∃ r σ1 σ2, f_X5_arrive a1 a2 σ = some (r, σ1) ∧ f_X6_arrive a1 a2 σ1 = some (r, σ2) ∧ Rl σ2 := by
  sorry
theorem st_day (N : Nat) (hN : 40000 ≤ N) (σ : fb_S) (hR : Rl σ) (a1 : Int32) (a2 : Int32) : ∃ r σ1 σ2, f_X5_day N a1 a2 σ = some (r, σ1) ∧ f_X6_day N a1 a2 σ1 = some (r, σ2) ∧ Rl σ2 := by
  sorry
theorem st_on (N : Nat) (hN : 40000 ≤ N) (σ : fb_S) (hR : Rl σ) (a1 : Int32) (a2 : Int32) : ∃ r σ1 σ2, f_X5_on N a1 a2 σ = some (r, σ1) ∧ f_X6_on N a1 a2 σ1 = some (r, σ2) ∧ Rl σ2 := by
  sorry
theorem st_bestMark (N : Nat) (hN : 40000 ≤ N) (σ : fb_S) (hR : Rl σ) (a1 : Int32) : ∃ r σ1 σ2, f_X5_bestMark N a1 σ = some (r, σ1) ∧ f_X6_bestMark N a1 σ1 = some (r, σ2) ∧ Rl σ2 := by
  sorry
theorem st_test (N : Nat) (hN : 40000 ≤ N) (σ : fb_S) (hR : Rl σ) (a1 : Int32) (a2 : Int32) (a3 : Int32) (a4 : Int32) (a5 : Int32) : ∃ r σ1 σ2, f_X5_test N a1 a2 a3 a4 a5 σ = some (r, σ1) ∧ f_X6_test a1 a2 a3 a4 a5 σ1 = some (r, σ2) ∧ Rl σ2 := by
  sorry
theorem st_forget (N : Nat) (hN : 40000 ≤ N) (σ : fb_S) (hR : Rl σ) (a1 : Int32) : ∃ r σ1 σ2, f_X5_forget N a1 σ = some (r, σ1) ∧ f_X6_forget N a1 σ1 = some (r, σ2) ∧ Rl σ2 := by
  sorry
theorem st_laws (N : Nat) (hN : 40000 ≤ N) (σ : fb_S) (hR : Rl σ) : ∃ r σ2, f_X5_laws σ = some r ∧ f_X6_laws N σ = some (r, σ2) ∧ Rl σ2 := by
  sorry
theorem st_law (N : Nat) (hN : 40000 ≤ N) (σ : fb_S) (hR : Rl σ) (a1 : Int32) : ∃ r σ2, f_X5_law a1 σ = some r ∧ f_X6_law N a1 σ = some (r, σ2) ∧ Rl σ2 := by
  sorry
theorem st_among (N : Nat) (hN : 40000 ≤ N) (σ : fb_S) (hR : Rl σ) (a1 : Int32) (a2 : Int32) (hb1 : a1 = 0 ∨ a1 = 1) (hb2 : a2 = 0 ∨ a2 = 1) : ∃ r σ2, f_X5_among N a1 a2 σ = some r ∧ f_X6_among N a1 a2 σ = some (r, σ2) ∧ Rl σ2 := by
  sorry
theorem st_breaks (N : Nat) (hN : 40000 ≤ N) (σ : fb_S) (hR : Rl σ) (a1 : Int32) : ∃ r σ2, f_X5_breaks N a1 σ = some r ∧ f_X6_breaks N a1 σ = some (r, σ2) ∧ Rl σ2 := by
  sorry
theorem st_sure (N : Nat) (hN : 40000 ≤ N) (σ : fb_S) (hR : Rl σ) (a1 : Int32) : ∃ r σ2, f_X5_sure N a1 σ = some r ∧ f_X6_sure N a1 σ = some (r, σ2) ∧ Rl σ2 := by
  sorry
theorem st_safe (N : Nat) (hN : 40000 ≤ N) (σ : fb_S) (hR : Rl σ) : ∃ r σ2, f_X5_safe N σ = some r ∧ f_X6_safe N σ = some (r, σ2) ∧ Rl σ2 := by
  sorry
theorem st_next (N : Nat) (hN : 40000 ≤ N) (σ : fb_S) (hR : Rl σ) (a1 : Int32) : ∃ r σ1 σ2, f_X5_next N a1 σ = some (r, σ1) ∧ f_X6_next N a1 σ1 = some (r, σ2) ∧ Rl σ2 := by
  sorry
theorem st_count (N : Nat) (hN : 40000 ≤ N) (σ : fb_S) (hR : Rl σ) (a1 : Int32) : ∃ r σ2, f_X5_count N a1 σ = some r ∧ f_X6_count N a1 σ = some (r, σ2) ∧ Rl σ2 := by
  sorry
