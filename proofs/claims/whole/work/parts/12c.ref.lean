section MW
variable {p : Program} {l : Launch} {e : Env} {s : State} {m : MethodId} {args : Array Value} {below : List Frame} {meth : Method} {c : Code} {g : fb_G} {ks : List Nat}
def f_X6_after_L13 (N : Nat) : Nat → Int32 → Int32 → Int32 → Int32 → Option Int32
  | 0, _, _, _, _ => none
  | n + 1, v2, v4, v5, v6 => 
    if v2 ≤ v6 then (
      some v5
    ) else (
      (f_X6_moved v5 v4).bind fun q1 =>
      f_X6_after_L13 N n v2 v4 q1 (v6 + 1)
    )
def f_X6_after (N : Nat) (a1 : Int32) (a2 : Int32) (a3 : Int32) (a4 : Int32) : Option Int32 :=
  (f_X6_netBy a1 a4).bind fun q2 =>
  f_X6_after_L13 N N a3 q2 a2 (0 : Int32)
set_option maxHeartbeats 4000000 in
set_option maxRecDepth 100000 in
theorem w_X6_after_L13 (X : fb_X p m c cX6_after 7 s args RX6 g ks (fb_A g ks)) (hks : ∀ k ∈ ([] : List Nat), k ∈ ks) (hr : meth.sig.returnType = (some .int)) (hlk : meth.locks = false) (N : Nat) (σ : fb_S)  {res : Int32} : ∀ (n : Nat) (v2 : Int32) (v4 : Int32) (v5 : Int32) (v6 : Int32) (H : Heap) (locs : List Loc) (ls : Array Slot), fb_H g ks (fb_A g ks) s.heap σ H locs → lv_has ls 7 [(2, .int v2), (4, .int v4), (5, .int v5), (6, .int v6)] → f_X6_after_L13 N n v2 v4 v5 v6 = some res → W p l e (fb_R 2 45) s m args below meth c H locs 0 0 (MQ below (fb_Qi g ks res σ) args s 0 0 (fb_A g ks)) (F0 m 13 ls []) := by
  have hx := X.1.1
  have hb := X.1.2.1
  intro n
  induction n with
  | zero => intro v2 v4 v5 v6 H locs ls h hl hf; cases hf
  | succ n ih =>
    intro v2 v4 v5 v6 H locs ls h hl hf
    unfold f_X6_after_L13 at hf
    refine lv_iload hx hb dX6_after_13 (lv_at hl 3 rfl) ?_
    refine lv_iload_n hx hb dX6_after_15 rfl (lv_at hl 0 rfl) ?_
    refine lv_icmp_ge hx hb dX6_after_16 (tgt := 34) (by decide) (fun hc => ?_) (fun hc => ?_)
    · have hf := if_t hc hf
      refine lv_iload hx hb dX6_after_34 (lv_at hl 2 rfl) ?_
      have e9 := Option.some.inj hf
      subst e9
      exact fb_ir X h hr hlk dX6_after_36
    · have hf := if_f hc hf
      refine lv_iload hx hb dX6_after_19 (lv_at hl 2 rfl) ?_
      refine lv_iload hx hb dX6_after_21 (lv_at hl 1 rfl) ?_
      obtain ⟨q1, hq1, hf⟩ := bd_s hf
      refine fb_ci X h (fb_runS (As := [.int v5, .int v4]) (rest := []) X h (c_X6_moved l X.2.2.1 (fun k hk => absurd hk List.not_mem_nil) v5 v4 σ hq1) mf_yX6_moved lm_RX6_127 ⟨Nat.le_of_ble_eq_true rfl, Nat.le_of_ble_eq_true rfl⟩ ⟨Nat.le_refl _, Nat.le_refl _⟩ rfl hl.1 rfl (Nat.le_of_ble_eq_true rfl) dX6_after_23) (fun H locs h => ?_)
      refine lv_istore hx hb dX6_after_26 hl (by decide) (lv' := [(5, .int q1), (2, .int v2), (4, .int v4), (6, .int v6)]) rfl (fun ls hl => ?_)
      refine lv_iinc hx hb dX6_after_28 hl (k := 3) rfl (kinc_1 _) (by decide) (lv' := [(6, .int (v6 + 1)), (5, .int q1), (2, .int v2), (4, .int v4)]) rfl (fun ls hl => ?_)
      refine lv_goto hx hb dX6_after_31 (tgt := 13) (by decide) ?_
      exact ih v2 v4 q1 (v6 + 1) _ _ _ h (lv_sub hl [2, 3, 1, 0] rfl) hf
set_option maxHeartbeats 4000000 in
set_option maxRecDepth 100000 in
theorem c_X6_after (l : Launch) {g : fb_G} {ks : List Nat} (hI : fb_I g ks) (hks : ∀ k ∈ ([] : List Nat), k ∈ ks) (N : Nat) (a1 : Int32) (a2 : Int32) (a3 : Int32) (a4 : Int32) (σ : fb_S) {res : Int32} (hf : f_X6_after N a1 a2 a3 a4 = some res) : fb_M l yX6_after cX6_after 7 (some .int) 2 45 g ks [.int a1, .int a2, .int a3, .int a4] σ (fb_Qi g ks res σ) := by
  refine fb_met (by decide +kernel) hI (Nat.le_of_ble_eq_true rfl) (fun p e s m below meth c ls X h hr hlk hl => ?_)
  have X : fb_X p m c cX6_after 7 s _ RX6 g ks (fb_A g ks) := X
  have hl : lv_has ls 7 [(0, .int a1), (1, .int a2), (2, .int a3), (3, .int a4)] := hl
  have hx := X.1.1
  have hb := X.1.2.1
  unfold f_X6_after at hf
  refine lv_iload_n hx hb dX6_after_0 rfl (lv_at hl 0 rfl) ?_
  refine lv_iload_n hx hb dX6_after_1 rfl (lv_at hl 3 rfl) ?_
  obtain ⟨q2, hq2, hf⟩ := bd_s hf
  refine fb_ci X h (fb_runS (As := [.int a1, .int a4]) (rest := []) X h (c_X6_netBy l X.2.2.1 (fun k hk => absurd hk List.not_mem_nil) a1 a4 σ hq2) mf_yX6_netBy lm_RX6_196 ⟨Nat.le_of_ble_eq_true rfl, Nat.le_of_ble_eq_true rfl⟩ ⟨Nat.le_refl _, Nat.le_refl _⟩ rfl hl.1 rfl (Nat.le_of_ble_eq_true rfl) dX6_after_2) (fun H locs h => ?_)
  refine lv_istore hx hb dX6_after_5 hl (by decide) (lv' := [(4, .int q2), (0, .int a1), (1, .int a2), (2, .int a3), (3, .int a4)]) rfl (fun ls hl => ?_)
  refine lv_iload_n hx hb dX6_after_7 rfl (lv_at hl 2 rfl) ?_
  refine lv_istore hx hb dX6_after_8 hl (by decide) (lv' := [(5, .int a2), (4, .int q2), (0, .int a1), (1, .int a2), (2, .int a3), (3, .int a4)]) rfl (fun ls hl => ?_)
  refine lv_iconst hx hb dX6_after_10 ki_0 ?_
  refine lv_istore hx hb dX6_after_11 hl (by decide) (lv' := [(6, .int (0)), (5, .int a2), (4, .int q2), (0, .int a1), (1, .int a2), (2, .int a3), (3, .int a4)]) rfl (fun ls hl => ?_)
  exact w_X6_after_L13 X hks hr hlk N σ N a3 q2 a2 (0 : Int32) _ _ _ h (lv_sub hl [5, 2, 1, 0] rfl) hf
def f_X6_firstBreak_L2 (N : Nat) (σ : fb_S) : Nat → Int32 → Int32 → Option Int32
  | 0, _, _ => none
  | n + 1, v1, v2 => 
    if (σ.1 29 30) ≤ v2 then (
      some (-9 : Int32)
    ) else (
      nm_ ((5 : Int32) * v2) fun x1 =>
      ck_ (fb_in x1 100) <|
      ck_ (fb_in (x1 + (1 : Int32)) 100) <|
      ck_ (fb_in (x1 + (2 : Int32)) 100) <|
      (f_X6_after N (σ.1 47 x1.toNatClampNeg) (σ.1 47 (x1 + (1 : Int32)).toNatClampNeg) (σ.1 47 (x1 + (2 : Int32)).toNatClampNeg) v1).bind fun q2 =>
      ck_ (fb_in (x1 + (3 : Int32)) 100) <|
      ck_ (fb_in (x1 + (4 : Int32)) 100) <|
      (f_X6_in (q2.toInt64) ((σ.1 47 (x1 + (3 : Int32)).toNatClampNeg).toInt64) ((σ.1 47 (x1 + (4 : Int32)).toNatClampNeg).toInt64)).bind fun q3 =>
      if q3 = 0 then (
        some v2
      ) else (
        f_X6_firstBreak_L2 N σ n v1 (v2 + 1)
      )
    )
def f_X6_firstBreak (N : Nat) (a1 : Int32) (σ : fb_S) : Option Int32 :=
  f_X6_firstBreak_L2 N σ N a1 (0 : Int32)
set_option maxHeartbeats 4000000 in
set_option maxRecDepth 100000 in
theorem w_X6_firstBreak_L2 (X : fb_X p m c cX6_firstBreak 4 s args RX6 g ks (fb_A g ks)) (hks : ∀ k ∈ ([29, 47] : List Nat), k ∈ ks) (hr : meth.sig.returnType = (some .int)) (hlk : meth.locks = false) (N : Nat) (σ : fb_S)  {res : Int32} : ∀ (n : Nat) (v1 : Int32) (v2 : Int32) (H : Heap) (locs : List Loc) (ls : Array Slot), fb_H g ks (fb_A g ks) s.heap σ H locs → lv_has ls 4 [(0, .ref (g.1 29)), (1, .int v1), (2, .int v2)] → f_X6_firstBreak_L2 N σ n v1 v2 = some res → W p l e (fb_R 3 71) s m args below meth c H locs 0 0 (MQ below (fb_Qi g ks res σ) args s 0 0 (fb_A g ks)) (F0 m 2 ls []) := by
  have hx := X.1.1
  have hb := X.1.2.1
  intro n
  induction n with
  | zero => intro v1 v2 H locs ls h hl hf; cases hf
  | succ n ih =>
    intro v1 v2 H locs ls h hl hf
    unfold f_X6_firstBreak_L2 at hf
    refine lv_iload_n hx hb dX6_firstBreak_2 rfl (lv_at hl 2 rfl) ?_
    refine lv_aload_n hx hb dX6_firstBreak_3 rfl (lv_at hl 0 rfl) ?_
    refine gt_RX6_193 X h (hks 29 (by decide)) dX6_firstBreak_4 ?_
    refine lv_icmp_ge hx hb dX6_firstBreak_7 (tgt := 73) (by decide) (fun hc => ?_) (fun hc => ?_)
    · have hf := if_t hc hf
      refine lv_bipush hx hb dX6_firstBreak_73 kb_m9 ?_
      have e9 := Option.some.inj hf
      subst e9
      exact fb_ir X h hr hlk dX6_firstBreak_75
    · have hf := if_f hc hf
      refine lv_iconst hx hb dX6_firstBreak_10 ki_5 ?_
      refine lv_iload_n hx hb dX6_firstBreak_11 rfl (lv_at hl 2 rfl) ?_
      refine lv_imul hx hb dX6_firstBreak_12 ?_
      obtain ⟨x1, ex1, hf⟩ := nm_s hf
      refine fb_topi ex1 ?_
      refine lv_istore_n hx hb dX6_firstBreak_13 rfl hl (by decide) (lv' := [(3, .int x1), (0, .ref (g.1 29)), (1, .int v1), (2, .int v2)]) rfl (fun ls hl => ?_)
      refine lv_aload_n hx hb dX6_firstBreak_14 rfl (lv_at hl 1 rfl) ?_
      refine gt_RX6_66 X h (hks 29 (by decide)) dX6_firstBreak_15 ?_
      refine lv_iload_n hx hb dX6_firstBreak_18 rfl (lv_at hl 0 rfl) ?_
      obtain ⟨hi0, hf⟩ := ck_s hf
      refine fb_iald X h (hks 47 (by decide)) rfl hi0 dX6_firstBreak_19 ?_
      refine lv_aload_n hx hb dX6_firstBreak_20 rfl (lv_at hl 1 rfl) ?_
      refine gt_RX6_66 X h (hks 29 (by decide)) dX6_firstBreak_21 ?_
      refine lv_iload_n hx hb dX6_firstBreak_24 rfl (lv_at hl 0 rfl) ?_
      refine lv_iconst hx hb dX6_firstBreak_25 ki_1 ?_
      refine lv_iadd hx hb dX6_firstBreak_26 ?_
      obtain ⟨hi0, hf⟩ := ck_s hf
      refine fb_iald X h (hks 47 (by decide)) rfl hi0 dX6_firstBreak_27 ?_
      refine lv_aload_n hx hb dX6_firstBreak_28 rfl (lv_at hl 1 rfl) ?_
      refine gt_RX6_66 X h (hks 29 (by decide)) dX6_firstBreak_29 ?_
      refine lv_iload_n hx hb dX6_firstBreak_32 rfl (lv_at hl 0 rfl) ?_
      refine lv_iconst hx hb dX6_firstBreak_33 ki_2 ?_
      refine lv_iadd hx hb dX6_firstBreak_34 ?_
      obtain ⟨hi0, hf⟩ := ck_s hf
      refine fb_iald X h (hks 47 (by decide)) rfl hi0 dX6_firstBreak_35 ?_
      refine lv_iload_n hx hb dX6_firstBreak_36 rfl (lv_at hl 2 rfl) ?_
      obtain ⟨q2, hq2, hf⟩ := bd_s hf
      refine fb_ci X h (fb_runS (As := [.int (σ.1 47 x1.toNatClampNeg), .int (σ.1 47 (x1 + (1 : Int32)).toNatClampNeg), .int (σ.1 47 (x1 + (2 : Int32)).toNatClampNeg), .int v1]) (rest := []) X h (c_X6_after l X.2.2.1 (fun k hk => absurd hk List.not_mem_nil) N (σ.1 47 x1.toNatClampNeg) (σ.1 47 (x1 + (1 : Int32)).toNatClampNeg) (σ.1 47 (x1 + (2 : Int32)).toNatClampNeg) v1 σ hq2) mf_yX6_after lm_RX6_199 ⟨Nat.le_of_ble_eq_true rfl, Nat.le_of_ble_eq_true rfl⟩ ⟨Nat.le_refl _, Nat.le_refl _⟩ rfl hl.1 rfl (Nat.le_of_ble_eq_true rfl) dX6_firstBreak_37) (fun H locs h => ?_)
      refine lv_i2l hx hb dX6_firstBreak_40 (v := q2.toInt64) rfl ?_
      refine lv_aload_n hx hb dX6_firstBreak_41 rfl (lv_at hl 1 rfl) ?_
      refine gt_RX6_66 X h (hks 29 (by decide)) dX6_firstBreak_42 ?_
      refine lv_iload_n hx hb dX6_firstBreak_45 rfl (lv_at hl 0 rfl) ?_
      refine lv_iconst hx hb dX6_firstBreak_46 ki_3 ?_
      refine lv_iadd hx hb dX6_firstBreak_47 ?_
      obtain ⟨hi0, hf⟩ := ck_s hf
      refine fb_iald X h (hks 47 (by decide)) rfl hi0 dX6_firstBreak_48 ?_
      refine lv_i2l hx hb dX6_firstBreak_49 (v := (σ.1 47 (x1 + (3 : Int32)).toNatClampNeg).toInt64) rfl ?_
      refine lv_aload_n hx hb dX6_firstBreak_50 rfl (lv_at hl 1 rfl) ?_
      refine gt_RX6_66 X h (hks 29 (by decide)) dX6_firstBreak_51 ?_
      refine lv_iload_n hx hb dX6_firstBreak_54 rfl (lv_at hl 0 rfl) ?_
      refine lv_iconst hx hb dX6_firstBreak_55 ki_4 ?_
      refine lv_iadd hx hb dX6_firstBreak_56 ?_
      obtain ⟨hi0, hf⟩ := ck_s hf
      refine fb_iald X h (hks 47 (by decide)) rfl hi0 dX6_firstBreak_57 ?_
      refine lv_i2l hx hb dX6_firstBreak_58 (v := (σ.1 47 (x1 + (4 : Int32)).toNatClampNeg).toInt64) rfl ?_
      obtain ⟨q3, hq3, hf⟩ := bd_s hf
      refine fb_ci X h (fb_runS (As := [.long (q2.toInt64), .long ((σ.1 47 (x1 + (3 : Int32)).toNatClampNeg).toInt64), .long ((σ.1 47 (x1 + (4 : Int32)).toNatClampNeg).toInt64)]) (rest := []) X h (c_X6_in l X.2.2.1 (fun k hk => absurd hk List.not_mem_nil) (q2.toInt64) ((σ.1 47 (x1 + (3 : Int32)).toNatClampNeg).toInt64) ((σ.1 47 (x1 + (4 : Int32)).toNatClampNeg).toInt64) σ hq3) mf_yX6_in lm_RX6_80 ⟨Nat.le_of_ble_eq_true rfl, Nat.le_of_ble_eq_true rfl⟩ ⟨Nat.le_refl _, Nat.le_refl _⟩ rfl hl.1 rfl (Nat.le_of_ble_eq_true rfl) dX6_firstBreak_59) (fun H locs h => ?_)
      refine lv_if_ne hx hb dX6_firstBreak_62 (tgt := 67) (by decide) (fun hc => ?_) (fun hc => ?_)
      · have hf := if_f hc hf
        refine lv_iinc hx hb dX6_firstBreak_67 hl (k := 3) rfl (kinc_1 _) (by decide) (lv' := [(2, .int (v2 + 1)), (3, .int x1), (0, .ref (g.1 29)), (1, .int v1)]) rfl (fun ls hl => ?_)
        refine lv_goto hx hb dX6_firstBreak_70 (tgt := 2) (by decide) ?_
        exact ih v1 (v2 + 1) _ _ _ h (lv_sub hl [2, 3, 0] rfl) hf
      · have hf := if_t hc hf
        refine lv_iload_n hx hb dX6_firstBreak_65 rfl (lv_at hl 3 rfl) ?_
        have e9 := Option.some.inj hf
        subst e9
        exact fb_ir X h hr hlk dX6_firstBreak_66
set_option maxHeartbeats 4000000 in
set_option maxRecDepth 100000 in
theorem c_X6_firstBreak (l : Launch) {g : fb_G} {ks : List Nat} (hI : fb_I g ks) (hks : ∀ k ∈ ([29, 47] : List Nat), k ∈ ks) (N : Nat) (a1 : Int32) (σ : fb_S) {res : Int32} (hf : f_X6_firstBreak N a1 σ = some res) : fb_M l yX6_firstBreak cX6_firstBreak 4 (some .int) 3 71 g ks [.ref (g.1 29), .int a1] σ (fb_Qi g ks res σ) := by
  refine fb_met (by decide +kernel) hI (Nat.le_of_ble_eq_true rfl) (fun p e s m below meth c ls X h hr hlk hl => ?_)
  have X : fb_X p m c cX6_firstBreak 4 s _ RX6 g ks (fb_A g ks) := X
  have hl : lv_has ls 4 [(0, .ref (g.1 29)), (1, .int a1)] := hl
  have hx := X.1.1
  have hb := X.1.2.1
  unfold f_X6_firstBreak at hf
  refine lv_iconst hx hb dX6_firstBreak_0 ki_0 ?_
  refine lv_istore_n hx hb dX6_firstBreak_1 rfl hl (by decide) (lv' := [(2, .int (0)), (0, .ref (g.1 29)), (1, .int a1)]) rfl (fun ls hl => ?_)
  exact w_X6_firstBreak_L2 X hks hr hlk N σ N a1 (0 : Int32) _ _ _ h (lv_sub hl [1, 2, 0] rfl) hf
def f_X6_fit_L34 (N : Nat) (k7 : Int32 → fb_S → Option fb_S) (v1 : Int32) (s1 : Int32) (s2 : Int32) (σ : fb_S) : Option fb_S :=
  ck_ (fb_in s1 2500) <|
  nm_ (fb_up σ 48 (s1.toNatClampNeg) (fb_z s2)) fun t1 =>
  ck_ (fb_in v1 2500) <|
  if (t1.1 48 v1.toNatClampNeg) = 0 then (
    nm_ (fb_up t1 29 33 ((t1.1 29 33) + (0 : Int32))) fun t2 =>
    k7 (v1 + 1) t2
  ) else (
    nm_ (fb_up t1 29 33 ((t1.1 29 33) + (1 : Int32))) fun t3 =>
    k7 (v1 + 1) t3
  )
def f_X6_fit_L7 (N : Nat) : Nat → Int32 → fb_S → Option fb_S
  | 0, _, _ => none
  | n + 1, v1, σ => 
    if (2500 : Int32) ≤ v1 then (
      some σ
    ) else (
      (f_X6_firstBreak N v1 σ).bind fun q4 =>
      if q4 = (-9 : Int32) then (
        f_X6_fit_L34 N (f_X6_fit_L7 N n) v1 v1 (1 : Int32) σ
      ) else (
        f_X6_fit_L34 N (f_X6_fit_L7 N n) v1 v1 (0 : Int32) σ
      )
    )
def f_X6_fit (N : Nat)  (σ : fb_S) : Option fb_S :=
  nm_ (fb_up σ 29 33 (0 : Int32)) fun t5 =>
  f_X6_fit_L7 N N (0 : Int32) t5
set_option maxHeartbeats 4000000 in
set_option maxRecDepth 100000 in
theorem w_X6_fit_L34 (X : fb_X p m c cX6_fit 2 s args RX6 g ks (fb_A g ks)) (hks : ∀ k ∈ ([29, 47, 48] : List Nat), k ∈ ks) (hr : meth.sig.returnType = none) (hlk : meth.locks = false) (N : Nat) (k7 : Int32 → fb_S → Option fb_S)  {res : fb_S} (hk7 : ∀ (v1 : Int32) (σ : fb_S) (H : Heap) (locs : List Loc) (ls : Array Slot), fb_H g ks (fb_A g ks) s.heap σ H locs → lv_has ls 2 [(0, .ref (g.1 29)), (1, .int v1)] → k7 v1 σ = some res → W p l e (fb_R 4 94) s m args below meth c H locs 0 0 (MQ below (fb_Qv g ks res) args s 0 0 (fb_A g ks)) (F0 m 7 ls [])) : ∀ (v1 : Int32) (s1 : Int32) (s2 : Int32) (σ : fb_S) (H : Heap) (locs : List Loc) (ls : Array Slot), fb_H g ks (fb_A g ks) s.heap σ H locs → lv_has ls 2 [(0, .ref (g.1 29)), (1, .int v1)] → f_X6_fit_L34 N k7 v1 s1 s2 σ = some res → W p l e (fb_R 4 94) s m args below meth c H locs 0 0 (MQ below (fb_Qv g ks res) args s 0 0 (fb_A g ks)) (F0 m 34 ls [.int s2, .int s1, .ref (g.1 48)]) := by
  have hx := X.1.1
  have hb := X.1.2.1
  intro v1 s1 s2 σ H locs ls h hl hf
  unfold f_X6_fit_L34 at hf
  obtain ⟨hi0, hf⟩ := ck_s hf
  obtain ⟨t1, et1, hf⟩ := nm_s hf
  refine fb_zast X h (hks 48 (by decide)) (fun _ => rfl) hi0 dX6_fit_34 (fun H locs h => ?_)
  have h := fb_H.nm et1 h
  refine lv_aload_n hx hb dX6_fit_35 rfl (lv_at hl 0 rfl) ?_
  refine lv_dup hx hb dX6_fit_36 rfl ?_
  refine gt_RX6_203 X h (hks 29 (by decide)) dX6_fit_37 ?_
  refine lv_aload_n hx hb dX6_fit_40 rfl (lv_at hl 0 rfl) ?_
  refine gt_RX6_69 X h (hks 29 (by decide)) dX6_fit_41 ?_
  refine lv_iload_n hx hb dX6_fit_44 rfl (lv_at hl 1 rfl) ?_
  obtain ⟨hi0, hf⟩ := ck_s hf
  refine fb_zald X h (hks 48 (by decide)) rfl hi0 dX6_fit_45 ?_
  refine lv_if_eq hx hb dX6_fit_46 (tgt := 53) (by decide) (fun hc => ?_) (fun hc => ?_)
  · have hf := if_t hc hf
    refine lv_iconst hx hb dX6_fit_53 ki_0 ?_
    refine lv_iadd hx hb dX6_fit_54 ?_
    obtain ⟨t2, et2, hf⟩ := nm_s hf
    refine pt_RX6_203 X h (hks 29 (by decide)) dX6_fit_55 (fun H locs h => ?_)
    have h := fb_H.nm et2 h
    refine lv_iinc hx hb dX6_fit_58 hl (k := 1) rfl (kinc_1 _) (by decide) (lv' := [(1, .int (v1 + 1)), (0, .ref (g.1 29))]) rfl (fun ls hl => ?_)
    refine lv_goto hx hb dX6_fit_61 (tgt := 7) (by decide) ?_
    exact hk7 (v1 + 1) t2 _ _ _ h (lv_sub hl [1, 0] rfl) hf
  · have hf := if_f hc hf
    refine lv_iconst hx hb dX6_fit_49 ki_1 ?_
    refine lv_goto hx hb dX6_fit_50 (tgt := 54) (by decide) ?_
    refine lv_iadd hx hb dX6_fit_54 ?_
    obtain ⟨t3, et3, hf⟩ := nm_s hf
    refine pt_RX6_203 X h (hks 29 (by decide)) dX6_fit_55 (fun H locs h => ?_)
    have h := fb_H.nm et3 h
    refine lv_iinc hx hb dX6_fit_58 hl (k := 1) rfl (kinc_1 _) (by decide) (lv' := [(1, .int (v1 + 1)), (0, .ref (g.1 29))]) rfl (fun ls hl => ?_)
    refine lv_goto hx hb dX6_fit_61 (tgt := 7) (by decide) ?_
    exact hk7 (v1 + 1) t3 _ _ _ h (lv_sub hl [1, 0] rfl) hf
set_option maxHeartbeats 4000000 in
set_option maxRecDepth 100000 in
theorem w_X6_fit_L7 (X : fb_X p m c cX6_fit 2 s args RX6 g ks (fb_A g ks)) (hks : ∀ k ∈ ([29, 47, 48] : List Nat), k ∈ ks) (hr : meth.sig.returnType = none) (hlk : meth.locks = false) (N : Nat)  {res : fb_S} : ∀ (n : Nat) (v1 : Int32) (σ : fb_S) (H : Heap) (locs : List Loc) (ls : Array Slot), fb_H g ks (fb_A g ks) s.heap σ H locs → lv_has ls 2 [(0, .ref (g.1 29)), (1, .int v1)] → f_X6_fit_L7 N n v1 σ = some res → W p l e (fb_R 4 94) s m args below meth c H locs 0 0 (MQ below (fb_Qv g ks res) args s 0 0 (fb_A g ks)) (F0 m 7 ls []) := by
  have hx := X.1.1
  have hb := X.1.2.1
  intro n
  induction n with
  | zero => intro v1 σ H locs ls h hl hf; cases hf
  | succ n ih =>
    intro v1 σ H locs ls h hl hf
    unfold f_X6_fit_L7 at hf
    refine lv_iload_n hx hb dX6_fit_7 rfl (lv_at hl 1 rfl) ?_
    refine lv_sipush hx hb dX6_fit_8 ks_2500 ?_
    refine lv_icmp_ge hx hb dX6_fit_11 (tgt := 64) (by decide) (fun hc => ?_) (fun hc => ?_)
    · have hf := if_t hc hf
      have e9 := Option.some.inj hf
      subst e9
      exact fb_vr X h hr hlk dX6_fit_64
    · have hf := if_f hc hf
      refine lv_aload_n hx hb dX6_fit_14 rfl (lv_at hl 0 rfl) ?_
      refine gt_RX6_69 X h (hks 29 (by decide)) dX6_fit_15 ?_
      refine lv_iload_n hx hb dX6_fit_18 rfl (lv_at hl 1 rfl) ?_
      refine lv_aload_n hx hb dX6_fit_19 rfl (lv_at hl 0 rfl) ?_
      refine lv_iload_n hx hb dX6_fit_20 rfl (lv_at hl 1 rfl) ?_
      obtain ⟨q4, hq4, hf⟩ := bd_s hf
      refine fb_ci X h (fb_runV (As := [.int v1]) (rest := [.int v1, .ref (g.1 48)]) (k := 29) X h (c_X6_firstBreak l X.2.2.1 (fun k hk => hks k ((by decide : ∀ k ∈ ([29, 47] : List Nat), k ∈ ([29, 47, 48] : List Nat)) k hk)) N v1 σ hq4) mf_yX6_firstBreak lm_RX6_206 (hks 29 (by decide)) rfl rfl ⟨Nat.le_of_ble_eq_true rfl, Nat.le_of_ble_eq_true rfl⟩ ⟨Nat.le_refl _, Nat.le_refl _⟩ rfl hl.1 rfl (Nat.le_of_ble_eq_true rfl) dX6_fit_21) (fun H locs h => ?_)
      refine lv_bipush hx hb dX6_fit_24 kb_m9 ?_
      refine lv_icmp_ne hx hb dX6_fit_26 (tgt := 33) (by decide) (fun hc => ?_) (fun hc => ?_)
      · have hf := if_f hc hf
        refine lv_iconst hx hb dX6_fit_33 ki_0 ?_
        exact w_X6_fit_L34 X hks hr hlk N (f_X6_fit_L7 N n) ih v1 v1 (0 : Int32) σ _ _ _ h (lv_sub hl [0, 1] rfl) hf
      · have hf := if_t hc hf
        refine lv_iconst hx hb dX6_fit_29 ki_1 ?_
        refine lv_goto hx hb dX6_fit_30 (tgt := 34) (by decide) ?_
        exact w_X6_fit_L34 X hks hr hlk N (f_X6_fit_L7 N n) ih v1 v1 (1 : Int32) σ _ _ _ h (lv_sub hl [0, 1] rfl) hf
set_option maxHeartbeats 4000000 in
set_option maxRecDepth 100000 in
theorem c_X6_fit (l : Launch) {g : fb_G} {ks : List Nat} (hI : fb_I g ks) (hks : ∀ k ∈ ([29, 47, 48] : List Nat), k ∈ ks) (N : Nat) (σ : fb_S) {res : fb_S} (hf : f_X6_fit N σ = some res) : fb_M l yX6_fit cX6_fit 2 none 4 94 g ks [.ref (g.1 29)] σ (fb_Qv g ks res) := by
  refine fb_met (by decide +kernel) hI (Nat.le_of_ble_eq_true rfl) (fun p e s m below meth c ls X h hr hlk hl => ?_)
  have X : fb_X p m c cX6_fit 2 s _ RX6 g ks (fb_A g ks) := X
  have hl : lv_has ls 2 [(0, .ref (g.1 29))] := hl
  have hx := X.1.1
  have hb := X.1.2.1
  unfold f_X6_fit at hf
  refine lv_aload_n hx hb dX6_fit_0 rfl (lv_at hl 0 rfl) ?_
  refine lv_iconst hx hb dX6_fit_1 ki_0 ?_
  obtain ⟨t5, et5, hf⟩ := nm_s hf
  refine pt_RX6_203 X h (hks 29 (by decide)) dX6_fit_2 (fun H locs h => ?_)
  have h := fb_H.nm et5 h
  refine lv_iconst hx hb dX6_fit_5 ki_0 ?_
  refine lv_istore_n hx hb dX6_fit_6 rfl hl (by decide) (lv' := [(1, .int (0)), (0, .ref (g.1 29))]) rfl (fun ls hl => ?_)
  exact w_X6_fit_L7 X hks hr hlk N N (0 : Int32) t5 _ _ _ h (lv_sub hl [1, 0] rfl) hf
def f_X6_laws (N : Nat)  (σ : fb_S) : Option (Int32 × fb_S) :=
  nm_ (fb_up σ 29 0 (0 : Int32)) fun t1 =>
  (f_X6_fit N t1).bind fun q2 =>
  some (q2.1 29 33, q2)
set_option maxHeartbeats 4000000 in
set_option maxRecDepth 100000 in
theorem c_X6_laws (l : Launch) {g : fb_G} {ks : List Nat} (hI : fb_I g ks) (hks : ∀ k ∈ ([29, 47, 48] : List Nat), k ∈ ks) (N : Nat) (σ : fb_S) {res : (Int32 × fb_S)} (hf : f_X6_laws N σ = some res) : fb_M l yX6_laws cX6_laws 1 (some .int) 5 115 g ks [.ref (g.1 29)] σ (fb_Qi g ks res.1 res.2) := by
  refine fb_met (by decide +kernel) hI (Nat.le_of_ble_eq_true rfl) (fun p e s m below meth c ls X h hr hlk hl => ?_)
  have X : fb_X p m c cX6_laws 1 s _ RX6 g ks (fb_A g ks) := X
  have hl : lv_has ls 1 [(0, .ref (g.1 29))] := hl
  have hx := X.1.1
  have hb := X.1.2.1
  unfold f_X6_laws at hf
  refine lv_aload_n hx hb dX6_laws_0 rfl (lv_at hl 0 rfl) ?_
  refine lv_iconst hx hb dX6_laws_1 ki_0 ?_
  obtain ⟨t1, et1, hf⟩ := nm_s hf
  refine pt_RX6_75 X h (hks 29 (by decide)) dX6_laws_2 (fun H locs h => ?_)
  have h := fb_H.nm et1 h
  refine lv_aload_n hx hb dX6_laws_5 rfl (lv_at hl 0 rfl) ?_
  obtain ⟨q2, hq2, hf⟩ := bd_s hf
  refine fb_cv X h (fb_runV (As := []) (rest := []) (k := 29) X h (c_X6_fit l X.2.2.1 (fun k hk => hks k ((by decide : ∀ k ∈ ([29, 47, 48] : List Nat), k ∈ ([29, 47, 48] : List Nat)) k hk)) N t1 hq2) mf_yX6_fit lm_RX6_209 (hks 29 (by decide)) rfl rfl ⟨Nat.le_of_ble_eq_true rfl, Nat.le_of_ble_eq_true rfl⟩ ⟨Nat.le_refl _, Nat.le_refl _⟩ rfl hl.1 rfl (Nat.le_of_ble_eq_true rfl) dX6_laws_6) (fun H locs h => ?_)
  refine lv_aload_n hx hb dX6_laws_9 rfl (lv_at hl 0 rfl) ?_
  refine gt_RX6_203 X h (hks 29 (by decide)) dX6_laws_10 ?_
  have e9 := Option.some.inj hf
  subst e9
  exact fb_ir X h hr hlk dX6_laws_13
def f_X6_law_L13 (N : Nat) : Nat → Int32 → Int32 → Int32 → fb_S → Option (Int32 × fb_S)
  | 0, _, _, _, _ => none
  | n + 1, v1, v2, v3, σ => 
    if (2500 : Int32) ≤ v3 then (
      some ((-9 : Int32), σ)
    ) else (
      ck_ (fb_in v3 2500) <|
      if (σ.1 48 v3.toNatClampNeg) = 0 then (
        f_X6_law_L13 N n v1 v2 (v3 + 1) σ
      ) else (
        if v2 = v1 then (
          some ((((100 : Int32) * (v3 / (50 : Int32))) + (v3 - v3 / (50 : Int32) * (50 : Int32))) + (1 : Int32), σ)
        ) else (
          f_X6_law_L13 N n v1 (v2 + 1) (v3 + 1) σ
        )
      )
    )
def f_X6_law (N : Nat) (a1 : Int32) (σ : fb_S) : Option (Int32 × fb_S) :=
  nm_ (fb_up σ 29 0 (0 : Int32)) fun t1 =>
  (f_X6_fit N t1).bind fun q2 =>
  f_X6_law_L13 N N a1 (0 : Int32) (0 : Int32) q2
set_option maxHeartbeats 4000000 in
set_option maxRecDepth 100000 in
theorem w_X6_law_L13 (X : fb_X p m c cX6_law 4 s args RX6 g ks (fb_A g ks)) (hks : ∀ k ∈ ([29, 47, 48] : List Nat), k ∈ ks) (hr : meth.sig.returnType = (some .int)) (hlk : meth.locks = false) (N : Nat)  {res : (Int32 × fb_S)} : ∀ (n : Nat) (v1 : Int32) (v2 : Int32) (v3 : Int32) (σ : fb_S) (H : Heap) (locs : List Loc) (ls : Array Slot), fb_H g ks (fb_A g ks) s.heap σ H locs → lv_has ls 4 [(0, .ref (g.1 29)), (1, .int v1), (2, .int v2), (3, .int v3)] → f_X6_law_L13 N n v1 v2 v3 σ = some res → W p l e (fb_R 5 115) s m args below meth c H locs 0 0 (MQ below (fb_Qi g ks res.1 res.2) args s 0 0 (fb_A g ks)) (F0 m 13 ls []) := by
  have hx := X.1.1
  have hb := X.1.2.1
  intro n
  induction n with
  | zero => intro v1 v2 v3 σ H locs ls h hl hf; cases hf
  | succ n ih =>
    intro v1 v2 v3 σ H locs ls h hl hf
    unfold f_X6_law_L13 at hf
    refine lv_iload_n hx hb dX6_law_13 rfl (lv_at hl 3 rfl) ?_
    refine lv_sipush hx hb dX6_law_14 ks_2500 ?_
    refine lv_icmp_ge hx hb dX6_law_17 (tgt := 58) (by decide) (fun hc => ?_) (fun hc => ?_)
    · have hf := if_t hc hf
      refine lv_bipush hx hb dX6_law_58 kb_m9 ?_
      have e9 := Option.some.inj hf
      subst e9
      exact fb_ir X h hr hlk dX6_law_60
    · have hf := if_f hc hf
      refine lv_aload_n hx hb dX6_law_20 rfl (lv_at hl 0 rfl) ?_
      refine gt_RX6_69 X h (hks 29 (by decide)) dX6_law_21 ?_
      refine lv_iload_n hx hb dX6_law_24 rfl (lv_at hl 3 rfl) ?_
      obtain ⟨hi0, hf⟩ := ck_s hf
      refine fb_zald X h (hks 48 (by decide)) rfl hi0 dX6_law_25 ?_
      refine lv_if_eq hx hb dX6_law_26 (tgt := 52) (by decide) (fun hc => ?_) (fun hc => ?_)
      · have hf := if_t hc hf
        refine lv_iinc hx hb dX6_law_52 hl (k := 3) rfl (kinc_1 _) (by decide) (lv' := [(3, .int (v3 + 1)), (0, .ref (g.1 29)), (1, .int v1), (2, .int v2)]) rfl (fun ls hl => ?_)
        refine lv_goto hx hb dX6_law_55 (tgt := 13) (by decide) ?_
        exact ih v1 v2 (v3 + 1) σ _ _ _ h (lv_sub hl [1, 2, 3, 0] rfl) hf
      · have hf := if_f hc hf
        refine lv_iload_n hx hb dX6_law_29 rfl (lv_at hl 2 rfl) ?_
        refine lv_iload_n hx hb dX6_law_30 rfl (lv_at hl 1 rfl) ?_
        refine lv_icmp_ne hx hb dX6_law_31 (tgt := 49) (by decide) (fun hc => ?_) (fun hc => ?_)
        · have hf := if_f hc hf
          refine lv_iinc hx hb dX6_law_49 hl (k := 2) rfl (kinc_1 _) (by decide) (lv' := [(2, .int (v2 + 1)), (0, .ref (g.1 29)), (1, .int v1), (3, .int v3)]) rfl (fun ls hl => ?_)
          refine lv_iinc hx hb dX6_law_52 hl (k := 3) rfl (kinc_1 _) (by decide) (lv' := [(3, .int (v3 + 1)), (2, .int (v2 + 1)), (0, .ref (g.1 29)), (1, .int v1)]) rfl (fun ls hl => ?_)
          refine lv_goto hx hb dX6_law_55 (tgt := 13) (by decide) ?_
          exact ih v1 (v2 + 1) (v3 + 1) σ _ _ _ h (lv_sub hl [2, 3, 1, 0] rfl) hf
        · have hf := if_t hc hf
          refine lv_bipush hx hb dX6_law_34 kb_100 ?_
          refine lv_iload_n hx hb dX6_law_36 rfl (lv_at hl 3 rfl) ?_
          refine lv_bipush hx hb dX6_law_37 kb_50 ?_
          refine lv_idiv hx hb dX6_law_39 (by decide) ?_
          refine lv_imul hx hb dX6_law_40 ?_
          refine lv_iload_n hx hb dX6_law_41 rfl (lv_at hl 3 rfl) ?_
          refine lv_bipush hx hb dX6_law_42 kb_50 ?_
          refine lv_irem hx hb dX6_law_44 (by decide) ?_
          refine lv_iadd hx hb dX6_law_45 ?_
          refine lv_iconst hx hb dX6_law_46 ki_1 ?_
          refine lv_iadd hx hb dX6_law_47 ?_
          have e9 := Option.some.inj hf
          subst e9
          exact fb_ir X h hr hlk dX6_law_48
set_option maxHeartbeats 4000000 in
set_option maxRecDepth 100000 in
theorem c_X6_law (l : Launch) {g : fb_G} {ks : List Nat} (hI : fb_I g ks) (hks : ∀ k ∈ ([29, 47, 48] : List Nat), k ∈ ks) (N : Nat) (a1 : Int32) (σ : fb_S) {res : (Int32 × fb_S)} (hf : f_X6_law N a1 σ = some res) : fb_M l yX6_law cX6_law 4 (some .int) 5 115 g ks [.ref (g.1 29), .int a1] σ (fb_Qi g ks res.1 res.2) := by
  refine fb_met (by decide +kernel) hI (Nat.le_of_ble_eq_true rfl) (fun p e s m below meth c ls X h hr hlk hl => ?_)
  have X : fb_X p m c cX6_law 4 s _ RX6 g ks (fb_A g ks) := X
  have hl : lv_has ls 4 [(0, .ref (g.1 29)), (1, .int a1)] := hl
  have hx := X.1.1
  have hb := X.1.2.1
  unfold f_X6_law at hf
  refine lv_aload_n hx hb dX6_law_0 rfl (lv_at hl 0 rfl) ?_
  refine lv_iconst hx hb dX6_law_1 ki_0 ?_
  obtain ⟨t1, et1, hf⟩ := nm_s hf
  refine pt_RX6_75 X h (hks 29 (by decide)) dX6_law_2 (fun H locs h => ?_)
  have h := fb_H.nm et1 h
  refine lv_aload_n hx hb dX6_law_5 rfl (lv_at hl 0 rfl) ?_
  obtain ⟨q2, hq2, hf⟩ := bd_s hf
  refine fb_cv X h (fb_runV (As := []) (rest := []) (k := 29) X h (c_X6_fit l X.2.2.1 (fun k hk => hks k ((by decide : ∀ k ∈ ([29, 47, 48] : List Nat), k ∈ ([29, 47, 48] : List Nat)) k hk)) N t1 hq2) mf_yX6_fit lm_RX6_209 (hks 29 (by decide)) rfl rfl ⟨Nat.le_of_ble_eq_true rfl, Nat.le_of_ble_eq_true rfl⟩ ⟨Nat.le_refl _, Nat.le_refl _⟩ rfl hl.1 rfl (Nat.le_of_ble_eq_true rfl) dX6_law_6) (fun H locs h => ?_)
  refine lv_iconst hx hb dX6_law_9 ki_0 ?_
  refine lv_istore_n hx hb dX6_law_10 rfl hl (by decide) (lv' := [(2, .int (0)), (0, .ref (g.1 29)), (1, .int a1)]) rfl (fun ls hl => ?_)
  refine lv_iconst hx hb dX6_law_11 ki_0 ?_
  refine lv_istore_n hx hb dX6_law_12 rfl hl (by decide) (lv' := [(3, .int (0)), (2, .int (0)), (0, .ref (g.1 29)), (1, .int a1)]) rfl (fun ls hl => ?_)
  exact w_X6_law_L13 X hks hr hlk N N a1 (0 : Int32) (0 : Int32) q2 _ _ _ h (lv_sub hl [2, 3, 1, 0] rfl) hf
def f_X6_among_L74 (N : Nat) (k15 : Int32 → Int32 → Int32 → Int32 → fb_S → Option (Int32 × fb_S)) (v1 : Int32) (v2 : Int32) (v3 : Int32) (v4 : Int32) (v5 : Int32) (s0 : Int32) (σ : fb_S) : Option (Int32 × fb_S) :=
  ck_ (fb_in v4 2500) <|
  if (σ.1 48 v4.toNatClampNeg) = 0 then (
    k15 v1 v2 v3 (v4 + 1) σ
  ) else (
    if s0 = 0 then (
      k15 v1 v2 v3 (v4 + 1) σ
    ) else (
      k15 v1 v2 v5 (v4 + 1) σ
    )
  )
def f_X6_among_L69 (N : Nat) (k15 : Int32 → Int32 → Int32 → Int32 → fb_S → Option (Int32 × fb_S)) (v1 : Int32) (v2 : Int32) (v3 : Int32) (v4 : Int32) (v5 : Int32) (σ : fb_S) : Option (Int32 × fb_S) :=
  f_X6_among_L74 N k15 v1 v2 v3 v4 v5 (1 : Int32) σ
def f_X6_among_L73 (N : Nat) (k15 : Int32 → Int32 → Int32 → Int32 → fb_S → Option (Int32 × fb_S)) (v1 : Int32) (v2 : Int32) (v3 : Int32) (v4 : Int32) (v5 : Int32) (σ : fb_S) : Option (Int32 × fb_S) :=
  f_X6_among_L74 N k15 v1 v2 v3 v4 v5 (0 : Int32) σ
def f_X6_among_L42 (N : Nat) (k15 : Int32 → Int32 → Int32 → Int32 → fb_S → Option (Int32 × fb_S)) (v1 : Int32) (v2 : Int32) (v3 : Int32) (v4 : Int32) (s0 : Int32) (σ : fb_S) : Option (Int32 × fb_S) :=
  if v3 = (-9 : Int32) then (
    f_X6_among_L69 N k15 v1 v2 v3 v4 s0 σ
  ) else (
    if v2 = 0 then (
      if v3 ≤ s0 then (
        f_X6_among_L73 N k15 v1 v2 v3 v4 s0 σ
      ) else (
        f_X6_among_L69 N k15 v1 v2 v3 v4 s0 σ
      )
    ) else (
      if s0 ≤ v3 then (
        f_X6_among_L73 N k15 v1 v2 v3 v4 s0 σ
      ) else (
        f_X6_among_L69 N k15 v1 v2 v3 v4 s0 σ
      )
    )
  )
def f_X6_among_L15 (N : Nat) : Nat → Int32 → Int32 → Int32 → Int32 → fb_S → Option (Int32 × fb_S)
  | 0, _, _, _, _, _ => none
  | n + 1, v1, v2, v3, v4, σ => 
    if (2500 : Int32) ≤ v4 then (
      some (v3, σ)
    ) else (
      if v1 = 0 then (
        f_X6_among_L42 N (f_X6_among_L15 N n) v1 v2 v3 v4 ((v4 - v4 / (50 : Int32) * (50 : Int32)) + (1 : Int32)) σ
      ) else (
        f_X6_among_L42 N (f_X6_among_L15 N n) v1 v2 v3 v4 (v4 / (50 : Int32)) σ
      )
    )
def f_X6_among (N : Nat) (a1 : Int32) (a2 : Int32) (σ : fb_S) : Option (Int32 × fb_S) :=
  nm_ (fb_up σ 29 0 (0 : Int32)) fun t1 =>
  (f_X6_fit N t1).bind fun q2 =>
  f_X6_among_L15 N N a1 a2 (-9 : Int32) (0 : Int32) q2
set_option maxHeartbeats 4000000 in
set_option maxRecDepth 100000 in
theorem w_X6_among_L74 (X : fb_X p m c cX6_among 7 s args RX6 g ks (fb_A g ks)) (hks : ∀ k ∈ ([29, 47, 48] : List Nat), k ∈ ks) (hr : meth.sig.returnType = (some .int)) (hlk : meth.locks = false) (N : Nat) (k15 : Int32 → Int32 → Int32 → Int32 → fb_S → Option (Int32 × fb_S))  {res : (Int32 × fb_S)} (hk15 : ∀ (v1 : Int32) (v2 : Int32) (v3 : Int32) (v4 : Int32) (σ : fb_S) (H : Heap) (locs : List Loc) (ls : Array Slot), fb_H g ks (fb_A g ks) s.heap σ H locs → lv_has ls 7 [(0, .ref (g.1 29)), (1, .int v1), (2, .int v2), (3, .int v3), (4, .int v4)] → k15 v1 v2 v3 v4 σ = some res → W p l e (fb_R 5 115) s m args below meth c H locs 0 0 (MQ below (fb_Qi g ks res.1 res.2) args s 0 0 (fb_A g ks)) (F0 m 15 ls [])) : ∀ (v1 : Int32) (v2 : Int32) (v3 : Int32) (v4 : Int32) (v5 : Int32) (s0 : Int32) (σ : fb_S) (H : Heap) (locs : List Loc) (ls : Array Slot), fb_H g ks (fb_A g ks) s.heap σ H locs → lv_has ls 7 [(0, .ref (g.1 29)), (1, .int v1), (2, .int v2), (3, .int v3), (4, .int v4), (5, .int v5)] → f_X6_among_L74 N k15 v1 v2 v3 v4 v5 s0 σ = some res → W p l e (fb_R 5 115) s m args below meth c H locs 0 0 (MQ below (fb_Qi g ks res.1 res.2) args s 0 0 (fb_A g ks)) (F0 m 74 ls [.int s0]) := by
  have hx := X.1.1
  have hb := X.1.2.1
  intro v1 v2 v3 v4 v5 s0 σ H locs ls h hl hf
  unfold f_X6_among_L74 at hf
  refine lv_istore hx hb dX6_among_74 hl (by decide) (lv' := [(6, .int s0), (0, .ref (g.1 29)), (1, .int v1), (2, .int v2), (3, .int v3), (4, .int v4), (5, .int v5)]) rfl (fun ls hl => ?_)
  refine lv_aload_n hx hb dX6_among_76 rfl (lv_at hl 1 rfl) ?_
  refine gt_RX6_69 X h (hks 29 (by decide)) dX6_among_77 ?_
  refine lv_iload hx hb dX6_among_80 (lv_at hl 5 rfl) ?_
  obtain ⟨hi0, hf⟩ := ck_s hf
  refine fb_zald X h (hks 48 (by decide)) rfl hi0 dX6_among_82 ?_
  refine lv_if_eq hx hb dX6_among_83 (tgt := 96) (by decide) (fun hc => ?_) (fun hc => ?_)
  · have hf := if_t hc hf
    refine lv_iload_n hx hb dX6_among_96 rfl (lv_at hl 4 rfl) ?_
    refine lv_istore_n hx hb dX6_among_97 rfl hl (by decide) (lv' := [(3, .int v3), (6, .int s0), (0, .ref (g.1 29)), (1, .int v1), (2, .int v2), (4, .int v4), (5, .int v5)]) rfl (fun ls hl => ?_)
    refine lv_iinc hx hb dX6_among_98 hl (k := 5) rfl (kinc_1 _) (by decide) (lv' := [(4, .int (v4 + 1)), (3, .int v3), (6, .int s0), (0, .ref (g.1 29)), (1, .int v1), (2, .int v2), (5, .int v5)]) rfl (fun ls hl => ?_)
    refine lv_goto hx hb dX6_among_101 (tgt := 15) (by decide) ?_
    exact hk15 v1 v2 v3 (v4 + 1) σ _ _ _ h (lv_sub hl [3, 4, 5, 1, 0] rfl) hf
  · have hf := if_f hc hf
    refine lv_iload hx hb dX6_among_86 (lv_at hl 0 rfl) ?_
    refine lv_if_eq hx hb dX6_among_88 (tgt := 96) (by decide) (fun hc => ?_) (fun hc => ?_)
    · have hf := if_t hc hf
      refine lv_iload_n hx hb dX6_among_96 rfl (lv_at hl 4 rfl) ?_
      refine lv_istore_n hx hb dX6_among_97 rfl hl (by decide) (lv' := [(3, .int v3), (6, .int s0), (0, .ref (g.1 29)), (1, .int v1), (2, .int v2), (4, .int v4), (5, .int v5)]) rfl (fun ls hl => ?_)
      refine lv_iinc hx hb dX6_among_98 hl (k := 5) rfl (kinc_1 _) (by decide) (lv' := [(4, .int (v4 + 1)), (3, .int v3), (6, .int s0), (0, .ref (g.1 29)), (1, .int v1), (2, .int v2), (5, .int v5)]) rfl (fun ls hl => ?_)
      refine lv_goto hx hb dX6_among_101 (tgt := 15) (by decide) ?_
      exact hk15 v1 v2 v3 (v4 + 1) σ _ _ _ h (lv_sub hl [3, 4, 5, 1, 0] rfl) hf
    · have hf := if_f hc hf
      refine lv_iload hx hb dX6_among_91 (lv_at hl 6 rfl) ?_
      refine lv_goto hx hb dX6_among_93 (tgt := 97) (by decide) ?_
      refine lv_istore_n hx hb dX6_among_97 rfl hl (by decide) (lv' := [(3, .int v5), (6, .int s0), (0, .ref (g.1 29)), (1, .int v1), (2, .int v2), (4, .int v4), (5, .int v5)]) rfl (fun ls hl => ?_)
      refine lv_iinc hx hb dX6_among_98 hl (k := 5) rfl (kinc_1 _) (by decide) (lv' := [(4, .int (v4 + 1)), (3, .int v5), (6, .int s0), (0, .ref (g.1 29)), (1, .int v1), (2, .int v2), (5, .int v5)]) rfl (fun ls hl => ?_)
      refine lv_goto hx hb dX6_among_101 (tgt := 15) (by decide) ?_
      exact hk15 v1 v2 v5 (v4 + 1) σ _ _ _ h (lv_sub hl [3, 4, 5, 1, 0] rfl) hf
set_option maxHeartbeats 4000000 in
set_option maxRecDepth 100000 in
theorem w_X6_among_L69 (X : fb_X p m c cX6_among 7 s args RX6 g ks (fb_A g ks)) (hks : ∀ k ∈ ([29, 47, 48] : List Nat), k ∈ ks) (hr : meth.sig.returnType = (some .int)) (hlk : meth.locks = false) (N : Nat) (k15 : Int32 → Int32 → Int32 → Int32 → fb_S → Option (Int32 × fb_S))  {res : (Int32 × fb_S)} (hk15 : ∀ (v1 : Int32) (v2 : Int32) (v3 : Int32) (v4 : Int32) (σ : fb_S) (H : Heap) (locs : List Loc) (ls : Array Slot), fb_H g ks (fb_A g ks) s.heap σ H locs → lv_has ls 7 [(0, .ref (g.1 29)), (1, .int v1), (2, .int v2), (3, .int v3), (4, .int v4)] → k15 v1 v2 v3 v4 σ = some res → W p l e (fb_R 5 115) s m args below meth c H locs 0 0 (MQ below (fb_Qi g ks res.1 res.2) args s 0 0 (fb_A g ks)) (F0 m 15 ls [])) : ∀ (v1 : Int32) (v2 : Int32) (v3 : Int32) (v4 : Int32) (v5 : Int32) (σ : fb_S) (H : Heap) (locs : List Loc) (ls : Array Slot), fb_H g ks (fb_A g ks) s.heap σ H locs → lv_has ls 7 [(0, .ref (g.1 29)), (1, .int v1), (2, .int v2), (3, .int v3), (4, .int v4), (5, .int v5)] → f_X6_among_L69 N k15 v1 v2 v3 v4 v5 σ = some res → W p l e (fb_R 5 115) s m args below meth c H locs 0 0 (MQ below (fb_Qi g ks res.1 res.2) args s 0 0 (fb_A g ks)) (F0 m 69 ls []) := by
  have hx := X.1.1
  have hb := X.1.2.1
  intro v1 v2 v3 v4 v5 σ H locs ls h hl hf
  unfold f_X6_among_L69 at hf
  refine lv_iconst hx hb dX6_among_69 ki_1 ?_
  refine lv_goto hx hb dX6_among_70 (tgt := 74) (by decide) ?_
  exact w_X6_among_L74 X hks hr hlk N k15 hk15 v1 v2 v3 v4 v5 (1 : Int32) σ _ _ _ h (lv_sub hl [0, 1, 2, 3, 4, 5] rfl) hf
set_option maxHeartbeats 4000000 in
set_option maxRecDepth 100000 in
theorem w_X6_among_L73 (X : fb_X p m c cX6_among 7 s args RX6 g ks (fb_A g ks)) (hks : ∀ k ∈ ([29, 47, 48] : List Nat), k ∈ ks) (hr : meth.sig.returnType = (some .int)) (hlk : meth.locks = false) (N : Nat) (k15 : Int32 → Int32 → Int32 → Int32 → fb_S → Option (Int32 × fb_S))  {res : (Int32 × fb_S)} (hk15 : ∀ (v1 : Int32) (v2 : Int32) (v3 : Int32) (v4 : Int32) (σ : fb_S) (H : Heap) (locs : List Loc) (ls : Array Slot), fb_H g ks (fb_A g ks) s.heap σ H locs → lv_has ls 7 [(0, .ref (g.1 29)), (1, .int v1), (2, .int v2), (3, .int v3), (4, .int v4)] → k15 v1 v2 v3 v4 σ = some res → W p l e (fb_R 5 115) s m args below meth c H locs 0 0 (MQ below (fb_Qi g ks res.1 res.2) args s 0 0 (fb_A g ks)) (F0 m 15 ls [])) : ∀ (v1 : Int32) (v2 : Int32) (v3 : Int32) (v4 : Int32) (v5 : Int32) (σ : fb_S) (H : Heap) (locs : List Loc) (ls : Array Slot), fb_H g ks (fb_A g ks) s.heap σ H locs → lv_has ls 7 [(0, .ref (g.1 29)), (1, .int v1), (2, .int v2), (3, .int v3), (4, .int v4), (5, .int v5)] → f_X6_among_L73 N k15 v1 v2 v3 v4 v5 σ = some res → W p l e (fb_R 5 115) s m args below meth c H locs 0 0 (MQ below (fb_Qi g ks res.1 res.2) args s 0 0 (fb_A g ks)) (F0 m 73 ls []) := by
  have hx := X.1.1
  have hb := X.1.2.1
  intro v1 v2 v3 v4 v5 σ H locs ls h hl hf
  unfold f_X6_among_L73 at hf
  refine lv_iconst hx hb dX6_among_73 ki_0 ?_
  exact w_X6_among_L74 X hks hr hlk N k15 hk15 v1 v2 v3 v4 v5 (0 : Int32) σ _ _ _ h (lv_sub hl [0, 1, 2, 3, 4, 5] rfl) hf
set_option maxHeartbeats 4000000 in
set_option maxRecDepth 100000 in
theorem w_X6_among_L42 (X : fb_X p m c cX6_among 7 s args RX6 g ks (fb_A g ks)) (hks : ∀ k ∈ ([29, 47, 48] : List Nat), k ∈ ks) (hr : meth.sig.returnType = (some .int)) (hlk : meth.locks = false) (N : Nat) (k15 : Int32 → Int32 → Int32 → Int32 → fb_S → Option (Int32 × fb_S))  {res : (Int32 × fb_S)} (hk15 : ∀ (v1 : Int32) (v2 : Int32) (v3 : Int32) (v4 : Int32) (σ : fb_S) (H : Heap) (locs : List Loc) (ls : Array Slot), fb_H g ks (fb_A g ks) s.heap σ H locs → lv_has ls 7 [(0, .ref (g.1 29)), (1, .int v1), (2, .int v2), (3, .int v3), (4, .int v4)] → k15 v1 v2 v3 v4 σ = some res → W p l e (fb_R 5 115) s m args below meth c H locs 0 0 (MQ below (fb_Qi g ks res.1 res.2) args s 0 0 (fb_A g ks)) (F0 m 15 ls [])) : ∀ (v1 : Int32) (v2 : Int32) (v3 : Int32) (v4 : Int32) (s0 : Int32) (σ : fb_S) (H : Heap) (locs : List Loc) (ls : Array Slot), fb_H g ks (fb_A g ks) s.heap σ H locs → lv_has ls 7 [(0, .ref (g.1 29)), (1, .int v1), (2, .int v2), (3, .int v3), (4, .int v4)] → f_X6_among_L42 N k15 v1 v2 v3 v4 s0 σ = some res → W p l e (fb_R 5 115) s m args below meth c H locs 0 0 (MQ below (fb_Qi g ks res.1 res.2) args s 0 0 (fb_A g ks)) (F0 m 42 ls [.int s0]) := by
  have hx := X.1.1
  have hb := X.1.2.1
  intro v1 v2 v3 v4 s0 σ H locs ls h hl hf
  unfold f_X6_among_L42 at hf
  refine lv_istore hx hb dX6_among_42 hl (by decide) (lv' := [(5, .int s0), (0, .ref (g.1 29)), (1, .int v1), (2, .int v2), (3, .int v3), (4, .int v4)]) rfl (fun ls hl => ?_)
  refine lv_iload_n hx hb dX6_among_44 rfl (lv_at hl 4 rfl) ?_
  refine lv_bipush hx hb dX6_among_45 kb_m9 ?_
  refine lv_icmp_eq hx hb dX6_among_47 (tgt := 69) (by decide) (fun hc => ?_) (fun hc => ?_)
  · have hf := if_t hc hf
    exact w_X6_among_L69 X hks hr hlk N k15 hk15 v1 v2 v3 v4 s0 σ _ _ _ h (lv_sub hl [1, 2, 3, 4, 5, 0] rfl) hf
  · have hf := if_f hc hf
    refine lv_iload_n hx hb dX6_among_50 rfl (lv_at hl 3 rfl) ?_
    refine lv_if_eq hx hb dX6_among_51 (tgt := 63) (by decide) (fun hc => ?_) (fun hc => ?_)
    · have hf := if_t hc hf
      refine lv_iload hx hb dX6_among_63 (lv_at hl 0 rfl) ?_
      refine lv_iload_n hx hb dX6_among_65 rfl (lv_at hl 4 rfl) ?_
      refine lv_icmp_ge hx hb dX6_among_66 (tgt := 73) (by decide) (fun hc => ?_) (fun hc => ?_)
      · have hf := if_t hc hf
        exact w_X6_among_L73 X hks hr hlk N k15 hk15 v1 v2 v3 v4 s0 σ _ _ _ h (lv_sub hl [1, 2, 3, 4, 5, 0] rfl) hf
      · have hf := if_f hc hf
        exact w_X6_among_L69 X hks hr hlk N k15 hk15 v1 v2 v3 v4 s0 σ _ _ _ h (lv_sub hl [1, 2, 3, 4, 5, 0] rfl) hf
    · have hf := if_f hc hf
      refine lv_iload hx hb dX6_among_54 (lv_at hl 0 rfl) ?_
      refine lv_iload_n hx hb dX6_among_56 rfl (lv_at hl 4 rfl) ?_
      refine lv_icmp_le hx hb dX6_among_57 (tgt := 73) (by decide) (fun hc => ?_) (fun hc => ?_)
      · have hf := if_t hc hf
        exact w_X6_among_L73 X hks hr hlk N k15 hk15 v1 v2 v3 v4 s0 σ _ _ _ h (lv_sub hl [1, 2, 3, 4, 5, 0] rfl) hf
      · have hf := if_f hc hf
        refine lv_goto hx hb dX6_among_60 (tgt := 69) (by decide) ?_
        exact w_X6_among_L69 X hks hr hlk N k15 hk15 v1 v2 v3 v4 s0 σ _ _ _ h (lv_sub hl [1, 2, 3, 4, 5, 0] rfl) hf
set_option maxHeartbeats 4000000 in
set_option maxRecDepth 100000 in
theorem w_X6_among_L15 (X : fb_X p m c cX6_among 7 s args RX6 g ks (fb_A g ks)) (hks : ∀ k ∈ ([29, 47, 48] : List Nat), k ∈ ks) (hr : meth.sig.returnType = (some .int)) (hlk : meth.locks = false) (N : Nat)  {res : (Int32 × fb_S)} : ∀ (n : Nat) (v1 : Int32) (v2 : Int32) (v3 : Int32) (v4 : Int32) (σ : fb_S) (H : Heap) (locs : List Loc) (ls : Array Slot), fb_H g ks (fb_A g ks) s.heap σ H locs → lv_has ls 7 [(0, .ref (g.1 29)), (1, .int v1), (2, .int v2), (3, .int v3), (4, .int v4)] → f_X6_among_L15 N n v1 v2 v3 v4 σ = some res → W p l e (fb_R 5 115) s m args below meth c H locs 0 0 (MQ below (fb_Qi g ks res.1 res.2) args s 0 0 (fb_A g ks)) (F0 m 15 ls []) := by
  have hx := X.1.1
  have hb := X.1.2.1
  intro n
  induction n with
  | zero => intro v1 v2 v3 v4 σ H locs ls h hl hf; cases hf
  | succ n ih =>
    intro v1 v2 v3 v4 σ H locs ls h hl hf
    unfold f_X6_among_L15 at hf
    refine lv_iload hx hb dX6_among_15 (lv_at hl 4 rfl) ?_
    refine lv_sipush hx hb dX6_among_17 ks_2500 ?_
    refine lv_icmp_ge hx hb dX6_among_20 (tgt := 104) (by decide) (fun hc => ?_) (fun hc => ?_)
    · have hf := if_t hc hf
      refine lv_iload_n hx hb dX6_among_104 rfl (lv_at hl 3 rfl) ?_
      have e9 := Option.some.inj hf
      subst e9
      exact fb_ir X h hr hlk dX6_among_105
    · have hf := if_f hc hf
      refine lv_iload_n hx hb dX6_among_23 rfl (lv_at hl 1 rfl) ?_
      refine lv_if_eq hx hb dX6_among_24 (tgt := 35) (by decide) (fun hc => ?_) (fun hc => ?_)
      · have hf := if_t hc hf
        refine lv_iload hx hb dX6_among_35 (lv_at hl 4 rfl) ?_
        refine lv_bipush hx hb dX6_among_37 kb_50 ?_
        refine lv_irem hx hb dX6_among_39 (by decide) ?_
        refine lv_iconst hx hb dX6_among_40 ki_1 ?_
        refine lv_iadd hx hb dX6_among_41 ?_
        exact w_X6_among_L42 X hks hr hlk N (f_X6_among_L15 N n) ih v1 v2 v3 v4 ((v4 - v4 / (50 : Int32) * (50 : Int32)) + (1 : Int32)) σ _ _ _ h (lv_sub hl [0, 1, 2, 3, 4] rfl) hf
      · have hf := if_f hc hf
        refine lv_iload hx hb dX6_among_27 (lv_at hl 4 rfl) ?_
        refine lv_bipush hx hb dX6_among_29 kb_50 ?_
        refine lv_idiv hx hb dX6_among_31 (by decide) ?_
        refine lv_goto hx hb dX6_among_32 (tgt := 42) (by decide) ?_
        exact w_X6_among_L42 X hks hr hlk N (f_X6_among_L15 N n) ih v1 v2 v3 v4 (v4 / (50 : Int32)) σ _ _ _ h (lv_sub hl [0, 1, 2, 3, 4] rfl) hf
set_option maxHeartbeats 4000000 in
set_option maxRecDepth 100000 in
theorem c_X6_among (l : Launch) {g : fb_G} {ks : List Nat} (hI : fb_I g ks) (hks : ∀ k ∈ ([29, 47, 48] : List Nat), k ∈ ks) (N : Nat) (a1 : Int32) (a2 : Int32) (σ : fb_S) {res : (Int32 × fb_S)} (hf : f_X6_among N a1 a2 σ = some res) : fb_M l yX6_among cX6_among 7 (some .int) 5 115 g ks [.ref (g.1 29), .int a1, .int a2] σ (fb_Qi g ks res.1 res.2) := by
  refine fb_met (by decide +kernel) hI (Nat.le_of_ble_eq_true rfl) (fun p e s m below meth c ls X h hr hlk hl => ?_)
  have X : fb_X p m c cX6_among 7 s _ RX6 g ks (fb_A g ks) := X
  have hl : lv_has ls 7 [(0, .ref (g.1 29)), (1, .int a1), (2, .int a2)] := hl
  have hx := X.1.1
  have hb := X.1.2.1
  unfold f_X6_among at hf
  refine lv_aload_n hx hb dX6_among_0 rfl (lv_at hl 0 rfl) ?_
  refine lv_iconst hx hb dX6_among_1 ki_0 ?_
  obtain ⟨t1, et1, hf⟩ := nm_s hf
  refine pt_RX6_75 X h (hks 29 (by decide)) dX6_among_2 (fun H locs h => ?_)
  have h := fb_H.nm et1 h
  refine lv_aload_n hx hb dX6_among_5 rfl (lv_at hl 0 rfl) ?_
  obtain ⟨q2, hq2, hf⟩ := bd_s hf
  refine fb_cv X h (fb_runV (As := []) (rest := []) (k := 29) X h (c_X6_fit l X.2.2.1 (fun k hk => hks k ((by decide : ∀ k ∈ ([29, 47, 48] : List Nat), k ∈ ([29, 47, 48] : List Nat)) k hk)) N t1 hq2) mf_yX6_fit lm_RX6_209 (hks 29 (by decide)) rfl rfl ⟨Nat.le_of_ble_eq_true rfl, Nat.le_of_ble_eq_true rfl⟩ ⟨Nat.le_refl _, Nat.le_refl _⟩ rfl hl.1 rfl (Nat.le_of_ble_eq_true rfl) dX6_among_6) (fun H locs h => ?_)
  refine lv_bipush hx hb dX6_among_9 kb_m9 ?_
  refine lv_istore_n hx hb dX6_among_11 rfl hl (by decide) (lv' := [(3, .int (-9)), (0, .ref (g.1 29)), (1, .int a1), (2, .int a2)]) rfl (fun ls hl => ?_)
  refine lv_iconst hx hb dX6_among_12 ki_0 ?_
  refine lv_istore hx hb dX6_among_13 hl (by decide) (lv' := [(4, .int (0)), (3, .int (-9)), (0, .ref (g.1 29)), (1, .int a1), (2, .int a2)]) rfl (fun ls hl => ?_)
  exact w_X6_among_L15 X hks hr hlk N N a1 a2 (-9 : Int32) (0 : Int32) q2 _ _ _ h (lv_sub hl [2, 3, 4, 1, 0] rfl) hf
def f_X6_breaks (N : Nat) (a1 : Int32) (σ : fb_S) : Option (Int32 × fb_S) :=
  nm_ (fb_up σ 29 0 (0 : Int32)) fun t1 =>
  (f_X6_in (a1.toInt64) (0 : Int64) (4999 : Int64)).bind fun q2 =>
  if q2 = 0 then (
    some ((-2 : Int32), t1)
  ) else (
    (f_X6_in ((a1 - a1 / (100 : Int32) * (100 : Int32)).toInt64) (1 : Int64) (50 : Int64)).bind fun q3 =>
    if q3 = 0 then (
      some ((-2 : Int32), t1)
    ) else (
      (f_X6_firstBreak N ((((50 : Int32) * (a1 / (100 : Int32))) + (a1 - a1 / (100 : Int32) * (100 : Int32))) - (1 : Int32)) t1).bind fun q4 =>
      some (q4, t1)
    )
  )
set_option maxHeartbeats 4000000 in
set_option maxRecDepth 100000 in
theorem c_X6_breaks (l : Launch) {g : fb_G} {ks : List Nat} (hI : fb_I g ks) (hks : ∀ k ∈ ([29, 47] : List Nat), k ∈ ks) (N : Nat) (a1 : Int32) (σ : fb_S) {res : (Int32 × fb_S)} (hf : f_X6_breaks N a1 σ = some res) : fb_M l yX6_breaks cX6_breaks 2 (some .int) 4 94 g ks [.ref (g.1 29), .int a1] σ (fb_Qi g ks res.1 res.2) := by
  refine fb_met (by decide +kernel) hI (Nat.le_of_ble_eq_true rfl) (fun p e s m below meth c ls X h hr hlk hl => ?_)
  have X : fb_X p m c cX6_breaks 2 s _ RX6 g ks (fb_A g ks) := X
  have hl : lv_has ls 2 [(0, .ref (g.1 29)), (1, .int a1)] := hl
  have hx := X.1.1
  have hb := X.1.2.1
  unfold f_X6_breaks at hf
  refine lv_aload_n hx hb dX6_breaks_0 rfl (lv_at hl 0 rfl) ?_
  refine lv_iconst hx hb dX6_breaks_1 ki_0 ?_
  obtain ⟨t1, et1, hf⟩ := nm_s hf
  refine pt_RX6_75 X h (hks 29 (by decide)) dX6_breaks_2 (fun H locs h => ?_)
  have h := fb_H.nm et1 h
  refine lv_iload_n hx hb dX6_breaks_5 rfl (lv_at hl 1 rfl) ?_
  refine lv_i2l hx hb dX6_breaks_6 (v := a1.toInt64) rfl ?_
  refine lv_lconst hx hb dX6_breaks_7 kl_0 ?_
  refine lv_ldc2 hx hb X.1.2.2.2.1 (X.1.2.2.2.2 _ lc_RX6_212) dX6_breaks_8 ?_
  obtain ⟨q2, hq2, hf⟩ := bd_s hf
  refine fb_ci X h (fb_runS (As := [.long (a1.toInt64), .long (0), .long (4999)]) (rest := []) X h (c_X6_in l X.2.2.1 (fun k hk => absurd hk List.not_mem_nil) (a1.toInt64) (0 : Int64) (4999 : Int64) t1 hq2) mf_yX6_in lm_RX6_80 ⟨Nat.le_of_ble_eq_true rfl, Nat.le_of_ble_eq_true rfl⟩ ⟨Nat.le_refl _, Nat.le_refl _⟩ rfl hl.1 rfl (Nat.le_of_ble_eq_true rfl) dX6_breaks_11) (fun H locs h => ?_)
  refine lv_if_eq hx hb dX6_breaks_14 (tgt := 32) (by decide) (fun hc => ?_) (fun hc => ?_)
  · have hf := if_t hc hf
    refine lv_bipush hx hb dX6_breaks_32 kb_m2 ?_
    have e9 := Option.some.inj hf
    subst e9
    exact fb_ir X h hr hlk dX6_breaks_34
  · have hf := if_f hc hf
    refine lv_iload_n hx hb dX6_breaks_17 rfl (lv_at hl 1 rfl) ?_
    refine lv_bipush hx hb dX6_breaks_18 kb_100 ?_
    refine lv_irem hx hb dX6_breaks_20 (by decide) ?_
    refine lv_i2l hx hb dX6_breaks_21 (v := (a1 - a1 / (100 : Int32) * (100 : Int32)).toInt64) rfl ?_
    refine lv_lconst hx hb dX6_breaks_22 kl_1 ?_
    refine lv_ldc2 hx hb X.1.2.2.2.1 (X.1.2.2.2.2 _ lc_RX6_214) dX6_breaks_23 ?_
    obtain ⟨q3, hq3, hf⟩ := bd_s hf
    refine fb_ci X h (fb_runS (As := [.long ((a1 - a1 / (100 : Int32) * (100 : Int32)).toInt64), .long (1), .long (50)]) (rest := []) X h (c_X6_in l X.2.2.1 (fun k hk => absurd hk List.not_mem_nil) ((a1 - a1 / (100 : Int32) * (100 : Int32)).toInt64) (1 : Int64) (50 : Int64) t1 hq3) mf_yX6_in lm_RX6_80 ⟨Nat.le_of_ble_eq_true rfl, Nat.le_of_ble_eq_true rfl⟩ ⟨Nat.le_refl _, Nat.le_refl _⟩ rfl hl.1 rfl (Nat.le_of_ble_eq_true rfl) dX6_breaks_26) (fun H locs h => ?_)
    refine lv_if_ne hx hb dX6_breaks_29 (tgt := 35) (by decide) (fun hc => ?_) (fun hc => ?_)
    · have hf := if_f hc hf
      refine lv_aload_n hx hb dX6_breaks_35 rfl (lv_at hl 0 rfl) ?_
      refine lv_bipush hx hb dX6_breaks_36 kb_50 ?_
      refine lv_iload_n hx hb dX6_breaks_38 rfl (lv_at hl 1 rfl) ?_
      refine lv_bipush hx hb dX6_breaks_39 kb_100 ?_
      refine lv_idiv hx hb dX6_breaks_41 (by decide) ?_
      refine lv_imul hx hb dX6_breaks_42 ?_
      refine lv_iload_n hx hb dX6_breaks_43 rfl (lv_at hl 1 rfl) ?_
      refine lv_bipush hx hb dX6_breaks_44 kb_100 ?_
      refine lv_irem hx hb dX6_breaks_46 (by decide) ?_
      refine lv_iadd hx hb dX6_breaks_47 ?_
      refine lv_iconst hx hb dX6_breaks_48 ki_1 ?_
      refine lv_isub hx hb dX6_breaks_49 ?_
      obtain ⟨q4, hq4, hf⟩ := bd_s hf
      refine fb_ci X h (fb_runV (As := [.int ((((50 : Int32) * (a1 / (100 : Int32))) + (a1 - a1 / (100 : Int32) * (100 : Int32))) - (1 : Int32))]) (rest := []) (k := 29) X h (c_X6_firstBreak l X.2.2.1 (fun k hk => hks k ((by decide : ∀ k ∈ ([29, 47] : List Nat), k ∈ ([29, 47] : List Nat)) k hk)) N ((((50 : Int32) * (a1 / (100 : Int32))) + (a1 - a1 / (100 : Int32) * (100 : Int32))) - (1 : Int32)) t1 hq4) mf_yX6_firstBreak lm_RX6_206 (hks 29 (by decide)) rfl rfl ⟨Nat.le_of_ble_eq_true rfl, Nat.le_of_ble_eq_true rfl⟩ ⟨Nat.le_refl _, Nat.le_refl _⟩ rfl hl.1 rfl (Nat.le_of_ble_eq_true rfl) dX6_breaks_50) (fun H locs h => ?_)
      have e9 := Option.some.inj hf
      subst e9
      exact fb_ir X h hr hlk dX6_breaks_53
    · have hf := if_t hc hf
      refine lv_bipush hx hb dX6_breaks_32 kb_m2 ?_
      have e9 := Option.some.inj hf
      subst e9
      exact fb_ir X h hr hlk dX6_breaks_34
def f_X6_surely_L4 (N : Nat) (σ : fb_S) : Nat → Int32 → Int32 → Int32 → Option Int32
  | 0, _, _, _ => none
  | n + 1, v1, v2, v3 => 
    if (2500 : Int32) ≤ v3 then (
      if v2 = 0 then (
        some (0 : Int32)
      ) else (
        if v2 = (σ.1 29 33) then (
          some (2 : Int32)
        ) else (
          some (1 : Int32)
        )
      )
    ) else (
      ck_ (fb_in v3 2500) <|
      if (σ.1 48 v3.toNatClampNeg) = 0 then (
        nm_ (v2 + (0 : Int32)) fun x1 =>
        f_X6_surely_L4 N σ n v1 x1 (v3 + 1)
      ) else (
        (f_X6_netBy v1 v3).bind fun q2 =>
        if 0 ≤ q2 then (
          nm_ (v2 + (0 : Int32)) fun x3 =>
          f_X6_surely_L4 N σ n v1 x3 (v3 + 1)
        ) else (
          nm_ (v2 + (1 : Int32)) fun x4 =>
          f_X6_surely_L4 N σ n v1 x4 (v3 + 1)
        )
      )
    )
def f_X6_surely (N : Nat) (a1 : Int32) (σ : fb_S) : Option Int32 :=
  f_X6_surely_L4 N σ N a1 (0 : Int32) (0 : Int32)
set_option maxHeartbeats 4000000 in
set_option maxRecDepth 100000 in
theorem w_X6_surely_L4 (X : fb_X p m c cX6_surely 4 s args RX6 g ks (fb_A g ks)) (hks : ∀ k ∈ ([29, 48] : List Nat), k ∈ ks) (hr : meth.sig.returnType = (some .int)) (hlk : meth.locks = false) (N : Nat) (σ : fb_S)  {res : Int32} : ∀ (n : Nat) (v1 : Int32) (v2 : Int32) (v3 : Int32) (H : Heap) (locs : List Loc) (ls : Array Slot), fb_H g ks (fb_A g ks) s.heap σ H locs → lv_has ls 4 [(0, .ref (g.1 29)), (1, .int v1), (2, .int v2), (3, .int v3)] → f_X6_surely_L4 N σ n v1 v2 v3 = some res → W p l e (fb_R 1 21) s m args below meth c H locs 0 0 (MQ below (fb_Qi g ks res σ) args s 0 0 (fb_A g ks)) (F0 m 4 ls []) := by
  have hx := X.1.1
  have hb := X.1.2.1
  intro n
  induction n with
  | zero => intro v1 v2 v3 H locs ls h hl hf; cases hf
  | succ n ih =>
    intro v1 v2 v3 H locs ls h hl hf
    unfold f_X6_surely_L4 at hf
    refine lv_iload_n hx hb dX6_surely_4 rfl (lv_at hl 3 rfl) ?_
    refine lv_sipush hx hb dX6_surely_5 ks_2500 ?_
    refine lv_icmp_ge hx hb dX6_surely_8 (tgt := 42) (by decide) (fun hc => ?_) (fun hc => ?_)
    · have hf := if_t hc hf
      refine lv_iload_n hx hb dX6_surely_42 rfl (lv_at hl 2 rfl) ?_
      refine lv_if_ne hx hb dX6_surely_43 (tgt := 50) (by decide) (fun hc => ?_) (fun hc => ?_)
      · have hf := if_f hc hf
        refine lv_iload_n hx hb dX6_surely_50 rfl (lv_at hl 2 rfl) ?_
        refine lv_aload_n hx hb dX6_surely_51 rfl (lv_at hl 0 rfl) ?_
        refine gt_RX6_203 X h (hks 29 (by decide)) dX6_surely_52 ?_
        refine lv_icmp_ne hx hb dX6_surely_55 (tgt := 62) (by decide) (fun hc => ?_) (fun hc => ?_)
        · have hf := if_f hc hf
          refine lv_iconst hx hb dX6_surely_62 ki_1 ?_
          have e9 := Option.some.inj hf
          subst e9
          exact fb_ir X h hr hlk dX6_surely_63
        · have hf := if_t hc hf
          refine lv_iconst hx hb dX6_surely_58 ki_2 ?_
          refine lv_goto hx hb dX6_surely_59 (tgt := 63) (by decide) ?_
          have e9 := Option.some.inj hf
          subst e9
          exact fb_ir X h hr hlk dX6_surely_63
      · have hf := if_t hc hf
        refine lv_iconst hx hb dX6_surely_46 ki_0 ?_
        refine lv_goto hx hb dX6_surely_47 (tgt := 63) (by decide) ?_
        have e9 := Option.some.inj hf
        subst e9
        exact fb_ir X h hr hlk dX6_surely_63
    · have hf := if_f hc hf
      refine lv_iload_n hx hb dX6_surely_11 rfl (lv_at hl 2 rfl) ?_
      refine lv_aload_n hx hb dX6_surely_12 rfl (lv_at hl 0 rfl) ?_
      refine gt_RX6_69 X h (hks 29 (by decide)) dX6_surely_13 ?_
      refine lv_iload_n hx hb dX6_surely_16 rfl (lv_at hl 3 rfl) ?_
      obtain ⟨hi0, hf⟩ := ck_s hf
      refine fb_zald X h (hks 48 (by decide)) rfl hi0 dX6_surely_17 ?_
      refine lv_if_eq hx hb dX6_surely_18 (tgt := 33) (by decide) (fun hc => ?_) (fun hc => ?_)
      · have hf := if_t hc hf
        refine lv_iconst hx hb dX6_surely_33 ki_0 ?_
        refine lv_iadd hx hb dX6_surely_34 ?_
        obtain ⟨x1, ex1, hf⟩ := nm_s hf
        refine fb_topi ex1 ?_
        refine lv_istore_n hx hb dX6_surely_35 rfl hl (by decide) (lv' := [(2, .int x1), (0, .ref (g.1 29)), (1, .int v1), (3, .int v3)]) rfl (fun ls hl => ?_)
        refine lv_iinc hx hb dX6_surely_36 hl (k := 3) rfl (kinc_1 _) (by decide) (lv' := [(3, .int (v3 + 1)), (2, .int x1), (0, .ref (g.1 29)), (1, .int v1)]) rfl (fun ls hl => ?_)
        refine lv_goto hx hb dX6_surely_39 (tgt := 4) (by decide) ?_
        exact ih v1 x1 (v3 + 1) _ _ _ h (lv_sub hl [2, 3, 1, 0] rfl) hf
      · have hf := if_f hc hf
        refine lv_iload_n hx hb dX6_surely_21 rfl (lv_at hl 1 rfl) ?_
        refine lv_iload_n hx hb dX6_surely_22 rfl (lv_at hl 3 rfl) ?_
        obtain ⟨q2, hq2, hf⟩ := bd_s hf
        refine fb_ci X h (fb_runS (As := [.int v1, .int v3]) (rest := [.int v2]) X h (c_X6_netBy l X.2.2.1 (fun k hk => absurd hk List.not_mem_nil) v1 v3 σ hq2) mf_yX6_netBy lm_RX6_196 ⟨Nat.le_of_ble_eq_true rfl, Nat.le_of_ble_eq_true rfl⟩ ⟨Nat.le_refl _, Nat.le_refl _⟩ rfl hl.1 rfl (Nat.le_of_ble_eq_true rfl) dX6_surely_23) (fun H locs h => ?_)
        refine lv_if_ge hx hb dX6_surely_26 (tgt := 33) (by decide) (fun hc => ?_) (fun hc => ?_)
        · have hf := if_t hc hf
          refine lv_iconst hx hb dX6_surely_33 ki_0 ?_
          refine lv_iadd hx hb dX6_surely_34 ?_
          obtain ⟨x3, ex3, hf⟩ := nm_s hf
          refine fb_topi ex3 ?_
          refine lv_istore_n hx hb dX6_surely_35 rfl hl (by decide) (lv' := [(2, .int x3), (0, .ref (g.1 29)), (1, .int v1), (3, .int v3)]) rfl (fun ls hl => ?_)
          refine lv_iinc hx hb dX6_surely_36 hl (k := 3) rfl (kinc_1 _) (by decide) (lv' := [(3, .int (v3 + 1)), (2, .int x3), (0, .ref (g.1 29)), (1, .int v1)]) rfl (fun ls hl => ?_)
          refine lv_goto hx hb dX6_surely_39 (tgt := 4) (by decide) ?_
          exact ih v1 x3 (v3 + 1) _ _ _ h (lv_sub hl [2, 3, 1, 0] rfl) hf
        · have hf := if_f hc hf
          refine lv_iconst hx hb dX6_surely_29 ki_1 ?_
          refine lv_goto hx hb dX6_surely_30 (tgt := 34) (by decide) ?_
          refine lv_iadd hx hb dX6_surely_34 ?_
          obtain ⟨x4, ex4, hf⟩ := nm_s hf
          refine fb_topi ex4 ?_
          refine lv_istore_n hx hb dX6_surely_35 rfl hl (by decide) (lv' := [(2, .int x4), (0, .ref (g.1 29)), (1, .int v1), (3, .int v3)]) rfl (fun ls hl => ?_)
          refine lv_iinc hx hb dX6_surely_36 hl (k := 3) rfl (kinc_1 _) (by decide) (lv' := [(3, .int (v3 + 1)), (2, .int x4), (0, .ref (g.1 29)), (1, .int v1)]) rfl (fun ls hl => ?_)
          refine lv_goto hx hb dX6_surely_39 (tgt := 4) (by decide) ?_
          exact ih v1 x4 (v3 + 1) _ _ _ h (lv_sub hl [2, 3, 1, 0] rfl) hf
set_option maxHeartbeats 4000000 in
set_option maxRecDepth 100000 in
theorem c_X6_surely (l : Launch) {g : fb_G} {ks : List Nat} (hI : fb_I g ks) (hks : ∀ k ∈ ([29, 48] : List Nat), k ∈ ks) (N : Nat) (a1 : Int32) (σ : fb_S) {res : Int32} (hf : f_X6_surely N a1 σ = some res) : fb_M l yX6_surely cX6_surely 4 (some .int) 1 21 g ks [.ref (g.1 29), .int a1] σ (fb_Qi g ks res σ) := by
  refine fb_met (by decide +kernel) hI (Nat.le_of_ble_eq_true rfl) (fun p e s m below meth c ls X h hr hlk hl => ?_)
  have X : fb_X p m c cX6_surely 4 s _ RX6 g ks (fb_A g ks) := X
  have hl : lv_has ls 4 [(0, .ref (g.1 29)), (1, .int a1)] := hl
  have hx := X.1.1
  have hb := X.1.2.1
  unfold f_X6_surely at hf
  refine lv_iconst hx hb dX6_surely_0 ki_0 ?_
  refine lv_istore_n hx hb dX6_surely_1 rfl hl (by decide) (lv' := [(2, .int (0)), (0, .ref (g.1 29)), (1, .int a1)]) rfl (fun ls hl => ?_)
  refine lv_iconst hx hb dX6_surely_2 ki_0 ?_
  refine lv_istore_n hx hb dX6_surely_3 rfl hl (by decide) (lv' := [(3, .int (0)), (2, .int (0)), (0, .ref (g.1 29)), (1, .int a1)]) rfl (fun ls hl => ?_)
  exact w_X6_surely_L4 X hks hr hlk N σ N a1 (0 : Int32) (0 : Int32) _ _ _ h (lv_sub hl [2, 3, 1, 0] rfl) hf
def f_X6_sure (N : Nat) (a1 : Int32) (σ : fb_S) : Option (Int32 × fb_S) :=
  nm_ (fb_up σ 29 0 (0 : Int32)) fun t1 =>
  (f_X6_in (a1.toInt64) (0 : Int64) (999 : Int64)).bind fun q2 =>
  if q2 = 0 then (
    some ((-2 : Int32), t1)
  ) else (
    (f_X6_fit N t1).bind fun q3 =>
    (f_X6_surely N a1 q3).bind fun q4 =>
    some (q4, q3)
  )
set_option maxHeartbeats 4000000 in
set_option maxRecDepth 100000 in
theorem c_X6_sure (l : Launch) {g : fb_G} {ks : List Nat} (hI : fb_I g ks) (hks : ∀ k ∈ ([29, 47, 48] : List Nat), k ∈ ks) (N : Nat) (a1 : Int32) (σ : fb_S) {res : (Int32 × fb_S)} (hf : f_X6_sure N a1 σ = some res) : fb_M l yX6_sure cX6_sure 2 (some .int) 5 115 g ks [.ref (g.1 29), .int a1] σ (fb_Qi g ks res.1 res.2) := by
  refine fb_met (by decide +kernel) hI (Nat.le_of_ble_eq_true rfl) (fun p e s m below meth c ls X h hr hlk hl => ?_)
  have X : fb_X p m c cX6_sure 2 s _ RX6 g ks (fb_A g ks) := X
  have hl : lv_has ls 2 [(0, .ref (g.1 29)), (1, .int a1)] := hl
  have hx := X.1.1
  have hb := X.1.2.1
  unfold f_X6_sure at hf
  refine lv_aload_n hx hb dX6_sure_0 rfl (lv_at hl 0 rfl) ?_
  refine lv_iconst hx hb dX6_sure_1 ki_0 ?_
  obtain ⟨t1, et1, hf⟩ := nm_s hf
  refine pt_RX6_75 X h (hks 29 (by decide)) dX6_sure_2 (fun H locs h => ?_)
  have h := fb_H.nm et1 h
  refine lv_iload_n hx hb dX6_sure_5 rfl (lv_at hl 1 rfl) ?_
  refine lv_i2l hx hb dX6_sure_6 (v := a1.toInt64) rfl ?_
  refine lv_lconst hx hb dX6_sure_7 kl_0 ?_
  refine lv_ldc2 hx hb X.1.2.2.2.1 (X.1.2.2.2.2 _ lc_RX6_107) dX6_sure_8 ?_
  obtain ⟨q2, hq2, hf⟩ := bd_s hf
  refine fb_ci X h (fb_runS (As := [.long (a1.toInt64), .long (0), .long (999)]) (rest := []) X h (c_X6_in l X.2.2.1 (fun k hk => absurd hk List.not_mem_nil) (a1.toInt64) (0 : Int64) (999 : Int64) t1 hq2) mf_yX6_in lm_RX6_80 ⟨Nat.le_of_ble_eq_true rfl, Nat.le_of_ble_eq_true rfl⟩ ⟨Nat.le_refl _, Nat.le_refl _⟩ rfl hl.1 rfl (Nat.le_of_ble_eq_true rfl) dX6_sure_11) (fun H locs h => ?_)
  refine lv_if_ne hx hb dX6_sure_14 (tgt := 20) (by decide) (fun hc => ?_) (fun hc => ?_)
  · have hf := if_f hc hf
    refine lv_aload_n hx hb dX6_sure_20 rfl (lv_at hl 0 rfl) ?_
    obtain ⟨q3, hq3, hf⟩ := bd_s hf
    refine fb_cv X h (fb_runV (As := []) (rest := []) (k := 29) X h (c_X6_fit l X.2.2.1 (fun k hk => hks k ((by decide : ∀ k ∈ ([29, 47, 48] : List Nat), k ∈ ([29, 47, 48] : List Nat)) k hk)) N t1 hq3) mf_yX6_fit lm_RX6_209 (hks 29 (by decide)) rfl rfl ⟨Nat.le_of_ble_eq_true rfl, Nat.le_of_ble_eq_true rfl⟩ ⟨Nat.le_refl _, Nat.le_refl _⟩ rfl hl.1 rfl (Nat.le_of_ble_eq_true rfl) dX6_sure_21) (fun H locs h => ?_)
    refine lv_aload_n hx hb dX6_sure_24 rfl (lv_at hl 0 rfl) ?_
    refine lv_iload_n hx hb dX6_sure_25 rfl (lv_at hl 1 rfl) ?_
    obtain ⟨q4, hq4, hf⟩ := bd_s hf
    refine fb_ci X h (fb_runV (As := [.int a1]) (rest := []) (k := 29) X h (c_X6_surely l X.2.2.1 (fun k hk => hks k ((by decide : ∀ k ∈ ([29, 48] : List Nat), k ∈ ([29, 47, 48] : List Nat)) k hk)) N a1 q3 hq4) mf_yX6_surely lm_RX6_216 (hks 29 (by decide)) rfl rfl ⟨Nat.le_of_ble_eq_true rfl, Nat.le_of_ble_eq_true rfl⟩ ⟨Nat.le_refl _, Nat.le_refl _⟩ rfl hl.1 rfl (Nat.le_of_ble_eq_true rfl) dX6_sure_26) (fun H locs h => ?_)
    have e9 := Option.some.inj hf
    subst e9
    exact fb_ir X h hr hlk dX6_sure_29
  · have hf := if_t hc hf
    refine lv_bipush hx hb dX6_sure_17 kb_m2 ?_
    have e9 := Option.some.inj hf
    subst e9
    exact fb_ir X h hr hlk dX6_sure_19
def f_X6_safe_L33 (N : Nat) (v1 : Int32) (σ : fb_S) : Option (Int32 × fb_S) :=
  if v1 = 0 then (
    some ((-9 : Int32), σ)
  ) else (
    some (v1 - (1 : Int32), σ)
  )
def f_X6_safe_L11 (N : Nat) : Nat → Int32 → fb_S → Option (Int32 × fb_S)
  | 0, _, _ => none
  | n + 1, v1, σ => 
    if (1000 : Int32) ≤ v1 then (
      f_X6_safe_L33 N v1 σ
    ) else (
      (f_X6_surely N v1 σ).bind fun q1 =>
      if q1 = (2 : Int32) then (
        f_X6_safe_L11 N n (v1 + 1) σ
      ) else (
        f_X6_safe_L33 N v1 σ
      )
    )
def f_X6_safe (N : Nat)  (σ : fb_S) : Option (Int32 × fb_S) :=
  nm_ (fb_up σ 29 0 (0 : Int32)) fun t2 =>
  (f_X6_fit N t2).bind fun q3 =>
  f_X6_safe_L11 N N (0 : Int32) q3
set_option maxHeartbeats 4000000 in
set_option maxRecDepth 100000 in
theorem w_X6_safe_L33 (X : fb_X p m c cX6_safe 2 s args RX6 g ks (fb_A g ks)) (hks : ∀ k ∈ ([29, 47, 48] : List Nat), k ∈ ks) (hr : meth.sig.returnType = (some .int)) (hlk : meth.locks = false) (N : Nat)  {res : (Int32 × fb_S)} : ∀ (v1 : Int32) (σ : fb_S) (H : Heap) (locs : List Loc) (ls : Array Slot), fb_H g ks (fb_A g ks) s.heap σ H locs → lv_has ls 2 [(1, .int v1)] → f_X6_safe_L33 N v1 σ = some res → W p l e (fb_R 5 115) s m args below meth c H locs 0 0 (MQ below (fb_Qi g ks res.1 res.2) args s 0 0 (fb_A g ks)) (F0 m 33 ls []) := by
  have hx := X.1.1
  have hb := X.1.2.1
  intro v1 σ H locs ls h hl hf
  unfold f_X6_safe_L33 at hf
  refine lv_iload_n hx hb dX6_safe_33 rfl (lv_at hl 0 rfl) ?_
  refine lv_if_ne hx hb dX6_safe_34 (tgt := 42) (by decide) (fun hc => ?_) (fun hc => ?_)
  · have hf := if_f hc hf
    refine lv_iload_n hx hb dX6_safe_42 rfl (lv_at hl 0 rfl) ?_
    refine lv_iconst hx hb dX6_safe_43 ki_1 ?_
    refine lv_isub hx hb dX6_safe_44 ?_
    have e9 := Option.some.inj hf
    subst e9
    exact fb_ir X h hr hlk dX6_safe_45
  · have hf := if_t hc hf
    refine lv_bipush hx hb dX6_safe_37 kb_m9 ?_
    refine lv_goto hx hb dX6_safe_39 (tgt := 45) (by decide) ?_
    have e9 := Option.some.inj hf
    subst e9
    exact fb_ir X h hr hlk dX6_safe_45
set_option maxHeartbeats 4000000 in
set_option maxRecDepth 100000 in
theorem w_X6_safe_L11 (X : fb_X p m c cX6_safe 2 s args RX6 g ks (fb_A g ks)) (hks : ∀ k ∈ ([29, 47, 48] : List Nat), k ∈ ks) (hr : meth.sig.returnType = (some .int)) (hlk : meth.locks = false) (N : Nat)  {res : (Int32 × fb_S)} : ∀ (n : Nat) (v1 : Int32) (σ : fb_S) (H : Heap) (locs : List Loc) (ls : Array Slot), fb_H g ks (fb_A g ks) s.heap σ H locs → lv_has ls 2 [(0, .ref (g.1 29)), (1, .int v1)] → f_X6_safe_L11 N n v1 σ = some res → W p l e (fb_R 5 115) s m args below meth c H locs 0 0 (MQ below (fb_Qi g ks res.1 res.2) args s 0 0 (fb_A g ks)) (F0 m 11 ls []) := by
  have hx := X.1.1
  have hb := X.1.2.1
  intro n
  induction n with
  | zero => intro v1 σ H locs ls h hl hf; cases hf
  | succ n ih =>
    intro v1 σ H locs ls h hl hf
    unfold f_X6_safe_L11 at hf
    refine lv_iload_n hx hb dX6_safe_11 rfl (lv_at hl 1 rfl) ?_
    refine lv_sipush hx hb dX6_safe_12 ks_1000 ?_
    refine lv_icmp_ge hx hb dX6_safe_15 (tgt := 33) (by decide) (fun hc => ?_) (fun hc => ?_)
    · have hf := if_t hc hf
      exact w_X6_safe_L33 X hks hr hlk N v1 σ _ _ _ h (lv_sub hl [1] rfl) hf
    · have hf := if_f hc hf
      refine lv_aload_n hx hb dX6_safe_18 rfl (lv_at hl 0 rfl) ?_
      refine lv_iload_n hx hb dX6_safe_19 rfl (lv_at hl 1 rfl) ?_
      obtain ⟨q1, hq1, hf⟩ := bd_s hf
      refine fb_ci X h (fb_runV (As := [.int v1]) (rest := []) (k := 29) X h (c_X6_surely l X.2.2.1 (fun k hk => hks k ((by decide : ∀ k ∈ ([29, 48] : List Nat), k ∈ ([29, 47, 48] : List Nat)) k hk)) N v1 σ hq1) mf_yX6_surely lm_RX6_216 (hks 29 (by decide)) rfl rfl ⟨Nat.le_of_ble_eq_true rfl, Nat.le_of_ble_eq_true rfl⟩ ⟨Nat.le_refl _, Nat.le_refl _⟩ rfl hl.1 rfl (Nat.le_of_ble_eq_true rfl) dX6_safe_20) (fun H locs h => ?_)
      refine lv_iconst hx hb dX6_safe_23 ki_2 ?_
      refine lv_icmp_ne hx hb dX6_safe_24 (tgt := 33) (by decide) (fun hc => ?_) (fun hc => ?_)
      · have hf := if_f hc hf
        exact w_X6_safe_L33 X hks hr hlk N v1 σ _ _ _ h (lv_sub hl [1] rfl) hf
      · have hf := if_t hc hf
        refine lv_iinc hx hb dX6_safe_27 hl (k := 1) rfl (kinc_1 _) (by decide) (lv' := [(1, .int (v1 + 1)), (0, .ref (g.1 29))]) rfl (fun ls hl => ?_)
        refine lv_goto hx hb dX6_safe_30 (tgt := 11) (by decide) ?_
        exact ih (v1 + 1) σ _ _ _ h (lv_sub hl [1, 0] rfl) hf
set_option maxHeartbeats 4000000 in
set_option maxRecDepth 100000 in
theorem c_X6_safe (l : Launch) {g : fb_G} {ks : List Nat} (hI : fb_I g ks) (hks : ∀ k ∈ ([29, 47, 48] : List Nat), k ∈ ks) (N : Nat) (σ : fb_S) {res : (Int32 × fb_S)} (hf : f_X6_safe N σ = some res) : fb_M l yX6_safe cX6_safe 2 (some .int) 5 115 g ks [.ref (g.1 29)] σ (fb_Qi g ks res.1 res.2) := by
  refine fb_met (by decide +kernel) hI (Nat.le_of_ble_eq_true rfl) (fun p e s m below meth c ls X h hr hlk hl => ?_)
  have X : fb_X p m c cX6_safe 2 s _ RX6 g ks (fb_A g ks) := X
  have hl : lv_has ls 2 [(0, .ref (g.1 29))] := hl
  have hx := X.1.1
  have hb := X.1.2.1
  unfold f_X6_safe at hf
  refine lv_aload_n hx hb dX6_safe_0 rfl (lv_at hl 0 rfl) ?_
  refine lv_iconst hx hb dX6_safe_1 ki_0 ?_
  obtain ⟨t2, et2, hf⟩ := nm_s hf
  refine pt_RX6_75 X h (hks 29 (by decide)) dX6_safe_2 (fun H locs h => ?_)
  have h := fb_H.nm et2 h
  refine lv_aload_n hx hb dX6_safe_5 rfl (lv_at hl 0 rfl) ?_
  obtain ⟨q3, hq3, hf⟩ := bd_s hf
  refine fb_cv X h (fb_runV (As := []) (rest := []) (k := 29) X h (c_X6_fit l X.2.2.1 (fun k hk => hks k ((by decide : ∀ k ∈ ([29, 47, 48] : List Nat), k ∈ ([29, 47, 48] : List Nat)) k hk)) N t2 hq3) mf_yX6_fit lm_RX6_209 (hks 29 (by decide)) rfl rfl ⟨Nat.le_of_ble_eq_true rfl, Nat.le_of_ble_eq_true rfl⟩ ⟨Nat.le_refl _, Nat.le_refl _⟩ rfl hl.1 rfl (Nat.le_of_ble_eq_true rfl) dX6_safe_6) (fun H locs h => ?_)
  refine lv_iconst hx hb dX6_safe_9 ki_0 ?_
  refine lv_istore_n hx hb dX6_safe_10 rfl hl (by decide) (lv' := [(1, .int (0)), (0, .ref (g.1 29))]) rfl (fun ls hl => ?_)
  exact w_X6_safe_L11 X hks hr hlk N N (0 : Int32) q3 _ _ _ h (lv_sub hl [1, 0] rfl) hf
def f_X6_next_L86 (N : Nat) (k48 : Int32 → Int32 → Int32 → Int32 → fb_S → Option (Int32 × fb_S)) : Nat → Int32 → Int32 → Int32 → Int32 → Int32 → Int32 → fb_S → Option (Int32 × fb_S)
  | 0, _, _, _, _, _, _, _ => none
  | n + 1, v1, v2, v3, v4, v5, v6, σ => 
    if (2500 : Int32) ≤ v6 then (
      if v3 ≤ v5 then (
        k48 v1 v2 v3 (v4 + 1) σ
      ) else (
        k48 v1 v4 v5 (v4 + 1) σ
      )
    ) else (
      ck_ (fb_in v6 2500) <|
      if (σ.1 48 v6.toNatClampNeg) = 0 then (
        f_X6_next_L86 N k48 n v1 v2 v3 v4 v5 (v6 + 1) σ
      ) else (
        (f_X6_after N v4 (σ.1 37 1) v1 v6).bind fun q1 =>
        ck_ (fb_in q1 10000) <|
        ck_ (fb_in q1 10000) <|
        nm_ (fb_up σ 49 (q1.toNatClampNeg) ((σ.1 49 q1.toNatClampNeg) + (1 : Int32))) fun t2 =>
        ck_ (fb_in q1 10000) <|
        if (t2.1 49 q1.toNatClampNeg) ≤ v5 then (
          f_X6_next_L86 N k48 n v1 v2 v3 v4 v5 (v6 + 1) t2
        ) else (
          ck_ (fb_in q1 10000) <|
          nm_ (t2.1 49 q1.toNatClampNeg) fun x3 =>
          f_X6_next_L86 N k48 n v1 v2 v3 v4 x3 (v6 + 1) t2
        )
      )
    )
def f_X6_next_L58 (N : Nat) (k48 : Int32 → Int32 → Int32 → Int32 → fb_S → Option (Int32 × fb_S)) : Nat → Int32 → Int32 → Int32 → Int32 → Int32 → fb_S → Option (Int32 × fb_S)
  | 0, _, _, _, _, _, _ => none
  | n + 1, v1, v2, v3, v4, v5, σ => 
    if (10000 : Int32) ≤ v5 then (
      f_X6_next_L86 N k48 N v1 v2 v3 v4 (0 : Int32) (0 : Int32) σ
    ) else (
      ck_ (fb_in v5 10000) <|
      nm_ (fb_up σ 49 (v5.toNatClampNeg) (0 : Int32)) fun t4 =>
      f_X6_next_L58 N k48 n v1 v2 v3 v4 (v5 + 1) t4
    )
def f_X6_next_L48 (N : Nat) : Nat → Int32 → Int32 → Int32 → Int32 → fb_S → Option (Int32 × fb_S)
  | 0, _, _, _, _, _ => none
  | n + 1, v1, v2, v3, v4, σ => 
    if (100 : Int32) ≤ v4 then (
      some (v2, σ)
    ) else (
      f_X6_next_L58 N (f_X6_next_L48 N n) N v1 v2 v3 v4 (0 : Int32) σ
    )
def f_X6_next (N : Nat) (a1 : Int32) (σ : fb_S) : Option (Int32 × fb_S) :=
  nm_ (fb_up σ 29 0 (0 : Int32)) fun t5 =>
  (f_X6_in (a1.toInt64) (1 : Int64) (30 : Int64)).bind fun q6 =>
  if q6 = 0 then (
    some ((-2 : Int32), t5)
  ) else (
    (f_X6_fit N t5).bind fun q7 =>
    if (2 : Int32) ≤ (q7.1 29 33) then (
      nm_ ((q7.1 29 33) + (1 : Int32)) fun x8 =>
      f_X6_next_L48 N N a1 (-9 : Int32) x8 (0 : Int32) q7
    ) else (
      some ((-9 : Int32), q7)
    )
  )
set_option maxHeartbeats 4000000 in
set_option maxRecDepth 100000 in
theorem w_X6_next_L86 (X : fb_X p m c cX6_next 8 s args RX6 g ks (fb_A g ks)) (hks : ∀ k ∈ ([29, 37, 47, 48, 49] : List Nat), k ∈ ks) (hr : meth.sig.returnType = (some .int)) (hlk : meth.locks = false) (N : Nat) (k48 : Int32 → Int32 → Int32 → Int32 → fb_S → Option (Int32 × fb_S))  {res : (Int32 × fb_S)} (hk48 : ∀ (v1 : Int32) (v2 : Int32) (v3 : Int32) (v4 : Int32) (σ : fb_S) (H : Heap) (locs : List Loc) (ls : Array Slot), fb_H g ks (fb_A g ks) s.heap σ H locs → lv_has ls 8 [(0, .ref (g.1 29)), (1, .int v1), (2, .int v2), (3, .int v3), (4, .int v4)] → k48 v1 v2 v3 v4 σ = some res → W p l e (fb_R 5 115) s m args below meth c H locs 0 0 (MQ below (fb_Qi g ks res.1 res.2) args s 0 0 (fb_A g ks)) (F0 m 48 ls [])) : ∀ (n : Nat) (v1 : Int32) (v2 : Int32) (v3 : Int32) (v4 : Int32) (v5 : Int32) (v6 : Int32) (σ : fb_S) (H : Heap) (locs : List Loc) (ls : Array Slot), fb_H g ks (fb_A g ks) s.heap σ H locs → lv_has ls 8 [(0, .ref (g.1 29)), (1, .int v1), (2, .int v2), (3, .int v3), (4, .int v4), (5, .int v5), (6, .int v6)] → f_X6_next_L86 N k48 n v1 v2 v3 v4 v5 v6 σ = some res → W p l e (fb_R 5 115) s m args below meth c H locs 0 0 (MQ below (fb_Qi g ks res.1 res.2) args s 0 0 (fb_A g ks)) (F0 m 86 ls []) := by
  have hx := X.1.1
  have hb := X.1.2.1
  intro n
  induction n with
  | zero => intro v1 v2 v3 v4 v5 v6 σ H locs ls h hl hf; cases hf
  | succ n ih =>
    intro v1 v2 v3 v4 v5 v6 σ H locs ls h hl hf
    unfold f_X6_next_L86 at hf
    refine lv_iload hx hb dX6_next_86 (lv_at hl 6 rfl) ?_
    refine lv_sipush hx hb dX6_next_88 ks_2500 ?_
    refine lv_icmp_ge hx hb dX6_next_91 (tgt := 163) (by decide) (fun hc => ?_) (fun hc => ?_)
    · have hf := if_t hc hf
      refine lv_iload hx hb dX6_next_163 (lv_at hl 5 rfl) ?_
      refine lv_iload_n hx hb dX6_next_165 rfl (lv_at hl 3 rfl) ?_
      refine lv_icmp_ge hx hb dX6_next_166 (tgt := 175) (by decide) (fun hc => ?_) (fun hc => ?_)
      · have hf := if_t hc hf
        refine lv_iinc hx hb dX6_next_175 hl (k := 4) rfl (kinc_1 _) (by decide) (lv' := [(4, .int (v4 + 1)), (0, .ref (g.1 29)), (1, .int v1), (2, .int v2), (3, .int v3), (5, .int v5), (6, .int v6)]) rfl (fun ls hl => ?_)
        refine lv_goto hx hb dX6_next_178 (tgt := 48) (by decide) ?_
        exact hk48 v1 v2 v3 (v4 + 1) σ _ _ _ h (lv_sub hl [1, 2, 3, 4, 0] rfl) hf
      · have hf := if_f hc hf
        refine lv_iload hx hb dX6_next_169 (lv_at hl 5 rfl) ?_
        refine lv_istore_n hx hb dX6_next_171 rfl hl (by decide) (lv' := [(3, .int v5), (0, .ref (g.1 29)), (1, .int v1), (2, .int v2), (4, .int v4), (5, .int v5), (6, .int v6)]) rfl (fun ls hl => ?_)
        refine lv_iload hx hb dX6_next_172 (lv_at hl 4 rfl) ?_
        refine lv_istore_n hx hb dX6_next_174 rfl hl (by decide) (lv' := [(2, .int v4), (3, .int v5), (0, .ref (g.1 29)), (1, .int v1), (4, .int v4), (5, .int v5), (6, .int v6)]) rfl (fun ls hl => ?_)
        refine lv_iinc hx hb dX6_next_175 hl (k := 4) rfl (kinc_1 _) (by decide) (lv' := [(4, .int (v4 + 1)), (2, .int v4), (3, .int v5), (0, .ref (g.1 29)), (1, .int v1), (5, .int v5), (6, .int v6)]) rfl (fun ls hl => ?_)
        refine lv_goto hx hb dX6_next_178 (tgt := 48) (by decide) ?_
        exact hk48 v1 v4 v5 (v4 + 1) σ _ _ _ h (lv_sub hl [3, 4, 1, 2, 0] rfl) hf
    · have hf := if_f hc hf
      refine lv_aload_n hx hb dX6_next_94 rfl (lv_at hl 0 rfl) ?_
      refine gt_RX6_69 X h (hks 29 (by decide)) dX6_next_95 ?_
      refine lv_iload hx hb dX6_next_98 (lv_at hl 6 rfl) ?_
      obtain ⟨hi0, hf⟩ := ck_s hf
      refine fb_zald X h (hks 48 (by decide)) rfl hi0 dX6_next_100 ?_
      refine lv_if_eq hx hb dX6_next_101 (tgt := 157) (by decide) (fun hc => ?_) (fun hc => ?_)
      · have hf := if_t hc hf
        refine lv_iinc hx hb dX6_next_157 hl (k := 6) rfl (kinc_1 _) (by decide) (lv' := [(6, .int (v6 + 1)), (0, .ref (g.1 29)), (1, .int v1), (2, .int v2), (3, .int v3), (4, .int v4), (5, .int v5)]) rfl (fun ls hl => ?_)
        refine lv_goto hx hb dX6_next_160 (tgt := 86) (by decide) ?_
        exact ih v1 v2 v3 v4 v5 (v6 + 1) σ _ _ _ h (lv_sub hl [1, 2, 3, 4, 5, 6, 0] rfl) hf
      · have hf := if_f hc hf
        refine lv_iload hx hb dX6_next_104 (lv_at hl 4 rfl) ?_
        refine lv_aload_n hx hb dX6_next_106 rfl (lv_at hl 0 rfl) ?_
        refine gt_RX6_35 X h (hks 29 (by decide)) dX6_next_107 ?_
        refine lv_iconst hx hb dX6_next_110 ki_1 ?_
        refine fb_ialdL X h (hks 37 (by decide)) rfl (by decide) kn_1 dX6_next_111 ?_
        refine lv_iload_n hx hb dX6_next_112 rfl (lv_at hl 1 rfl) ?_
        refine lv_iload hx hb dX6_next_113 (lv_at hl 6 rfl) ?_
        obtain ⟨q1, hq1, hf⟩ := bd_s hf
        refine fb_ci X h (fb_runS (As := [.int v4, .int (σ.1 37 1), .int v1, .int v6]) (rest := []) X h (c_X6_after l X.2.2.1 (fun k hk => absurd hk List.not_mem_nil) N v4 (σ.1 37 1) v1 v6 σ hq1) mf_yX6_after lm_RX6_199 ⟨Nat.le_of_ble_eq_true rfl, Nat.le_of_ble_eq_true rfl⟩ ⟨Nat.le_refl _, Nat.le_refl _⟩ rfl hl.1 rfl (Nat.le_of_ble_eq_true rfl) dX6_next_115) (fun H locs h => ?_)
        refine lv_istore hx hb dX6_next_118 hl (by decide) (lv' := [(7, .int q1), (0, .ref (g.1 29)), (1, .int v1), (2, .int v2), (3, .int v3), (4, .int v4), (5, .int v5), (6, .int v6)]) rfl (fun ls hl => ?_)
        refine lv_aload_n hx hb dX6_next_120 rfl (lv_at hl 1 rfl) ?_
        refine gt_RX6_72 X h (hks 29 (by decide)) dX6_next_121 ?_
        refine lv_iload hx hb dX6_next_124 (lv_at hl 0 rfl) ?_
        refine lv_dup2_11 hx hb dX6_next_126 rfl rfl ?_
        obtain ⟨hi0, hf⟩ := ck_s hf
        refine fb_iald X h (hks 49 (by decide)) rfl hi0 dX6_next_127 ?_
        refine lv_iconst hx hb dX6_next_128 ki_1 ?_
        refine lv_iadd hx hb dX6_next_129 ?_
        obtain ⟨hi0, hf⟩ := ck_s hf
        obtain ⟨t2, et2, hf⟩ := nm_s hf
        refine fb_iast X h (hks 49 (by decide)) (fun _ => rfl) hi0 dX6_next_130 (fun H locs h => ?_)
        have h := fb_H.nm et2 h
        refine lv_aload_n hx hb dX6_next_131 rfl (lv_at hl 1 rfl) ?_
        refine gt_RX6_72 X h (hks 29 (by decide)) dX6_next_132 ?_
        refine lv_iload hx hb dX6_next_135 (lv_at hl 0 rfl) ?_
        obtain ⟨hi0, hf⟩ := ck_s hf
        refine fb_iald X h (hks 49 (by decide)) rfl hi0 dX6_next_137 ?_
        refine lv_iload hx hb dX6_next_138 (lv_at hl 6 rfl) ?_
        refine lv_icmp_le hx hb dX6_next_140 (tgt := 153) (by decide) (fun hc => ?_) (fun hc => ?_)
        · have hf := if_t hc hf
          refine lv_iload hx hb dX6_next_153 (lv_at hl 6 rfl) ?_
          refine lv_istore hx hb dX6_next_155 hl (by decide) (lv' := [(5, .int v5), (7, .int q1), (0, .ref (g.1 29)), (1, .int v1), (2, .int v2), (3, .int v3), (4, .int v4), (6, .int v6)]) rfl (fun ls hl => ?_)
          refine lv_iinc hx hb dX6_next_157 hl (k := 7) rfl (kinc_1 _) (by decide) (lv' := [(6, .int (v6 + 1)), (5, .int v5), (7, .int q1), (0, .ref (g.1 29)), (1, .int v1), (2, .int v2), (3, .int v3), (4, .int v4)]) rfl (fun ls hl => ?_)
          refine lv_goto hx hb dX6_next_160 (tgt := 86) (by decide) ?_
          exact ih v1 v2 v3 v4 v5 (v6 + 1) t2 _ _ _ h (lv_sub hl [3, 4, 5, 6, 7, 1, 0] rfl) hf
        · have hf := if_f hc hf
          refine lv_aload_n hx hb dX6_next_143 rfl (lv_at hl 1 rfl) ?_
          refine gt_RX6_72 X h (hks 29 (by decide)) dX6_next_144 ?_
          refine lv_iload hx hb dX6_next_147 (lv_at hl 0 rfl) ?_
          obtain ⟨hi0, hf⟩ := ck_s hf
          refine fb_iald X h (hks 49 (by decide)) rfl hi0 dX6_next_149 ?_
          refine lv_goto hx hb dX6_next_150 (tgt := 155) (by decide) ?_
          obtain ⟨x3, ex3, hf⟩ := nm_s hf
          refine fb_topi ex3 ?_
          refine lv_istore hx hb dX6_next_155 hl (by decide) (lv' := [(5, .int x3), (7, .int q1), (0, .ref (g.1 29)), (1, .int v1), (2, .int v2), (3, .int v3), (4, .int v4), (6, .int v6)]) rfl (fun ls hl => ?_)
          refine lv_iinc hx hb dX6_next_157 hl (k := 7) rfl (kinc_1 _) (by decide) (lv' := [(6, .int (v6 + 1)), (5, .int x3), (7, .int q1), (0, .ref (g.1 29)), (1, .int v1), (2, .int v2), (3, .int v3), (4, .int v4)]) rfl (fun ls hl => ?_)
          refine lv_goto hx hb dX6_next_160 (tgt := 86) (by decide) ?_
          exact ih v1 v2 v3 v4 x3 (v6 + 1) t2 _ _ _ h (lv_sub hl [3, 4, 5, 6, 7, 1, 0] rfl) hf
set_option maxHeartbeats 4000000 in
set_option maxRecDepth 100000 in
theorem w_X6_next_L58 (X : fb_X p m c cX6_next 8 s args RX6 g ks (fb_A g ks)) (hks : ∀ k ∈ ([29, 37, 47, 48, 49] : List Nat), k ∈ ks) (hr : meth.sig.returnType = (some .int)) (hlk : meth.locks = false) (N : Nat) (k48 : Int32 → Int32 → Int32 → Int32 → fb_S → Option (Int32 × fb_S))  {res : (Int32 × fb_S)} (hk48 : ∀ (v1 : Int32) (v2 : Int32) (v3 : Int32) (v4 : Int32) (σ : fb_S) (H : Heap) (locs : List Loc) (ls : Array Slot), fb_H g ks (fb_A g ks) s.heap σ H locs → lv_has ls 8 [(0, .ref (g.1 29)), (1, .int v1), (2, .int v2), (3, .int v3), (4, .int v4)] → k48 v1 v2 v3 v4 σ = some res → W p l e (fb_R 5 115) s m args below meth c H locs 0 0 (MQ below (fb_Qi g ks res.1 res.2) args s 0 0 (fb_A g ks)) (F0 m 48 ls [])) : ∀ (n : Nat) (v1 : Int32) (v2 : Int32) (v3 : Int32) (v4 : Int32) (v5 : Int32) (σ : fb_S) (H : Heap) (locs : List Loc) (ls : Array Slot), fb_H g ks (fb_A g ks) s.heap σ H locs → lv_has ls 8 [(0, .ref (g.1 29)), (1, .int v1), (2, .int v2), (3, .int v3), (4, .int v4), (5, .int v5)] → f_X6_next_L58 N k48 n v1 v2 v3 v4 v5 σ = some res → W p l e (fb_R 5 115) s m args below meth c H locs 0 0 (MQ below (fb_Qi g ks res.1 res.2) args s 0 0 (fb_A g ks)) (F0 m 58 ls []) := by
  have hx := X.1.1
  have hb := X.1.2.1
  intro n
  induction n with
  | zero => intro v1 v2 v3 v4 v5 σ H locs ls h hl hf; cases hf
  | succ n ih =>
    intro v1 v2 v3 v4 v5 σ H locs ls h hl hf
    unfold f_X6_next_L58 at hf
    refine lv_iload hx hb dX6_next_58 (lv_at hl 5 rfl) ?_
    refine lv_sipush hx hb dX6_next_60 ks_10000 ?_
    refine lv_icmp_ge hx hb dX6_next_63 (tgt := 80) (by decide) (fun hc => ?_) (fun hc => ?_)
    · have hf := if_t hc hf
      refine lv_iconst hx hb dX6_next_80 ki_0 ?_
      refine lv_istore hx hb dX6_next_81 hl (by decide) (lv' := [(5, .int (0)), (0, .ref (g.1 29)), (1, .int v1), (2, .int v2), (3, .int v3), (4, .int v4)]) rfl (fun ls hl => ?_)
      refine lv_iconst hx hb dX6_next_83 ki_0 ?_
      refine lv_istore hx hb dX6_next_84 hl (by decide) (lv' := [(6, .int (0)), (5, .int (0)), (0, .ref (g.1 29)), (1, .int v1), (2, .int v2), (3, .int v3), (4, .int v4)]) rfl (fun ls hl => ?_)
      exact w_X6_next_L86 X hks hr hlk N k48 hk48 N v1 v2 v3 v4 (0 : Int32) (0 : Int32) σ _ _ _ h (lv_sub hl [2, 3, 4, 5, 6, 1, 0] rfl) hf
    · have hf := if_f hc hf
      refine lv_aload_n hx hb dX6_next_66 rfl (lv_at hl 0 rfl) ?_
      refine gt_RX6_72 X h (hks 29 (by decide)) dX6_next_67 ?_
      refine lv_iload hx hb dX6_next_70 (lv_at hl 5 rfl) ?_
      refine lv_iconst hx hb dX6_next_72 ki_0 ?_
      obtain ⟨hi0, hf⟩ := ck_s hf
      obtain ⟨t4, et4, hf⟩ := nm_s hf
      refine fb_iast X h (hks 49 (by decide)) (fun _ => rfl) hi0 dX6_next_73 (fun H locs h => ?_)
      have h := fb_H.nm et4 h
      refine lv_iinc hx hb dX6_next_74 hl (k := 5) rfl (kinc_1 _) (by decide) (lv' := [(5, .int (v5 + 1)), (0, .ref (g.1 29)), (1, .int v1), (2, .int v2), (3, .int v3), (4, .int v4)]) rfl (fun ls hl => ?_)
      refine lv_goto hx hb dX6_next_77 (tgt := 58) (by decide) ?_
      exact ih v1 v2 v3 v4 (v5 + 1) t4 _ _ _ h (lv_sub hl [1, 2, 3, 4, 5, 0] rfl) hf
set_option maxHeartbeats 4000000 in
set_option maxRecDepth 100000 in
theorem w_X6_next_L48 (X : fb_X p m c cX6_next 8 s args RX6 g ks (fb_A g ks)) (hks : ∀ k ∈ ([29, 37, 47, 48, 49] : List Nat), k ∈ ks) (hr : meth.sig.returnType = (some .int)) (hlk : meth.locks = false) (N : Nat)  {res : (Int32 × fb_S)} : ∀ (n : Nat) (v1 : Int32) (v2 : Int32) (v3 : Int32) (v4 : Int32) (σ : fb_S) (H : Heap) (locs : List Loc) (ls : Array Slot), fb_H g ks (fb_A g ks) s.heap σ H locs → lv_has ls 8 [(0, .ref (g.1 29)), (1, .int v1), (2, .int v2), (3, .int v3), (4, .int v4)] → f_X6_next_L48 N n v1 v2 v3 v4 σ = some res → W p l e (fb_R 5 115) s m args below meth c H locs 0 0 (MQ below (fb_Qi g ks res.1 res.2) args s 0 0 (fb_A g ks)) (F0 m 48 ls []) := by
  have hx := X.1.1
  have hb := X.1.2.1
  intro n
  induction n with
  | zero => intro v1 v2 v3 v4 σ H locs ls h hl hf; cases hf
  | succ n ih =>
    intro v1 v2 v3 v4 σ H locs ls h hl hf
    unfold f_X6_next_L48 at hf
    refine lv_iload hx hb dX6_next_48 (lv_at hl 4 rfl) ?_
    refine lv_bipush hx hb dX6_next_50 kb_100 ?_
    refine lv_icmp_ge hx hb dX6_next_52 (tgt := 181) (by decide) (fun hc => ?_) (fun hc => ?_)
    · have hf := if_t hc hf
      refine lv_iload_n hx hb dX6_next_181 rfl (lv_at hl 2 rfl) ?_
      have e9 := Option.some.inj hf
      subst e9
      exact fb_ir X h hr hlk dX6_next_182
    · have hf := if_f hc hf
      refine lv_iconst hx hb dX6_next_55 ki_0 ?_
      refine lv_istore hx hb dX6_next_56 hl (by decide) (lv' := [(5, .int (0)), (0, .ref (g.1 29)), (1, .int v1), (2, .int v2), (3, .int v3), (4, .int v4)]) rfl (fun ls hl => ?_)
      exact w_X6_next_L58 X hks hr hlk N (f_X6_next_L48 N n) ih N v1 v2 v3 v4 (0 : Int32) σ _ _ _ h (lv_sub hl [1, 2, 3, 4, 5, 0] rfl) hf
set_option maxHeartbeats 4000000 in
set_option maxRecDepth 100000 in
theorem c_X6_next (l : Launch) {g : fb_G} {ks : List Nat} (hI : fb_I g ks) (hks : ∀ k ∈ ([29, 37, 47, 48, 49] : List Nat), k ∈ ks) (N : Nat) (a1 : Int32) (σ : fb_S) {res : (Int32 × fb_S)} (hf : f_X6_next N a1 σ = some res) : fb_M l yX6_next cX6_next 8 (some .int) 5 115 g ks [.ref (g.1 29), .int a1] σ (fb_Qi g ks res.1 res.2) := by
  refine fb_met (by decide +kernel) hI (Nat.le_of_ble_eq_true rfl) (fun p e s m below meth c ls X h hr hlk hl => ?_)
  have X : fb_X p m c cX6_next 8 s _ RX6 g ks (fb_A g ks) := X
  have hl : lv_has ls 8 [(0, .ref (g.1 29)), (1, .int a1)] := hl
  have hx := X.1.1
  have hb := X.1.2.1
  unfold f_X6_next at hf
  refine lv_aload_n hx hb dX6_next_0 rfl (lv_at hl 0 rfl) ?_
  refine lv_iconst hx hb dX6_next_1 ki_0 ?_
  obtain ⟨t5, et5, hf⟩ := nm_s hf
  refine pt_RX6_75 X h (hks 29 (by decide)) dX6_next_2 (fun H locs h => ?_)
  have h := fb_H.nm et5 h
  refine lv_iload_n hx hb dX6_next_5 rfl (lv_at hl 1 rfl) ?_
  refine lv_i2l hx hb dX6_next_6 (v := a1.toInt64) rfl ?_
  refine lv_lconst hx hb dX6_next_7 kl_1 ?_
  refine lv_ldc2 hx hb X.1.2.2.2.1 (X.1.2.2.2.2 _ lc_RX6_191) dX6_next_8 ?_
  obtain ⟨q6, hq6, hf⟩ := bd_s hf
  refine fb_ci X h (fb_runS (As := [.long (a1.toInt64), .long (1), .long (30)]) (rest := []) X h (c_X6_in l X.2.2.1 (fun k hk => absurd hk List.not_mem_nil) (a1.toInt64) (1 : Int64) (30 : Int64) t5 hq6) mf_yX6_in lm_RX6_80 ⟨Nat.le_of_ble_eq_true rfl, Nat.le_of_ble_eq_true rfl⟩ ⟨Nat.le_refl _, Nat.le_refl _⟩ rfl hl.1 rfl (Nat.le_of_ble_eq_true rfl) dX6_next_11) (fun H locs h => ?_)
  refine lv_if_ne hx hb dX6_next_14 (tgt := 20) (by decide) (fun hc => ?_) (fun hc => ?_)
  · have hf := if_f hc hf
    refine lv_aload_n hx hb dX6_next_20 rfl (lv_at hl 0 rfl) ?_
    obtain ⟨q7, hq7, hf⟩ := bd_s hf
    refine fb_cv X h (fb_runV (As := []) (rest := []) (k := 29) X h (c_X6_fit l X.2.2.1 (fun k hk => hks k ((by decide : ∀ k ∈ ([29, 47, 48] : List Nat), k ∈ ([29, 37, 47, 48, 49] : List Nat)) k hk)) N t5 hq7) mf_yX6_fit lm_RX6_209 (hks 29 (by decide)) rfl rfl ⟨Nat.le_of_ble_eq_true rfl, Nat.le_of_ble_eq_true rfl⟩ ⟨Nat.le_refl _, Nat.le_refl _⟩ rfl hl.1 rfl (Nat.le_of_ble_eq_true rfl) dX6_next_21) (fun H locs h => ?_)
    refine lv_aload_n hx hb dX6_next_24 rfl (lv_at hl 0 rfl) ?_
    refine gt_RX6_203 X h (hks 29 (by decide)) dX6_next_25 ?_
    refine lv_iconst hx hb dX6_next_28 ki_2 ?_
    refine lv_icmp_ge hx hb dX6_next_29 (tgt := 35) (by decide) (fun hc => ?_) (fun hc => ?_)
    · have hf := if_t hc hf
      refine lv_bipush hx hb dX6_next_35 kb_m9 ?_
      refine lv_istore_n hx hb dX6_next_37 rfl hl (by decide) (lv' := [(2, .int (-9)), (0, .ref (g.1 29)), (1, .int a1)]) rfl (fun ls hl => ?_)
      refine lv_aload_n hx hb dX6_next_38 rfl (lv_at hl 1 rfl) ?_
      refine gt_RX6_203 X h (hks 29 (by decide)) dX6_next_39 ?_
      refine lv_iconst hx hb dX6_next_42 ki_1 ?_
      refine lv_iadd hx hb dX6_next_43 ?_
      obtain ⟨x8, ex8, hf⟩ := nm_s hf
      refine fb_topi ex8 ?_
      refine lv_istore_n hx hb dX6_next_44 rfl hl (by decide) (lv' := [(3, .int x8), (2, .int (-9)), (0, .ref (g.1 29)), (1, .int a1)]) rfl (fun ls hl => ?_)
      refine lv_iconst hx hb dX6_next_45 ki_0 ?_
      refine lv_istore hx hb dX6_next_46 hl (by decide) (lv' := [(4, .int (0)), (3, .int x8), (2, .int (-9)), (0, .ref (g.1 29)), (1, .int a1)]) rfl (fun ls hl => ?_)
      exact w_X6_next_L48 X hks hr hlk N N a1 (-9 : Int32) x8 (0 : Int32) q7 _ _ _ h (lv_sub hl [3, 4, 2, 1, 0] rfl) hf
    · have hf := if_f hc hf
      refine lv_bipush hx hb dX6_next_32 kb_m9 ?_
      have e9 := Option.some.inj hf
      subst e9
      exact fb_ir X h hr hlk dX6_next_34
  · have hf := if_t hc hf
    refine lv_bipush hx hb dX6_next_17 kb_m2 ?_
    have e9 := Option.some.inj hf
    subst e9
    exact fb_ir X h hr hlk dX6_next_19
def f_X6_count_L76 (N : Nat) : Nat → Int32 → Int32 → Int32 → Int32 → Int32 → fb_S → Option (Int32 × fb_S)
  | 0, _, _, _, _, _, _ => none
  | n + 1, v1, v2, v3, v4, v5, σ => 
    if (60 : Int32) ≤ v5 then (
      if v1 = 0 then (
        some (σ.1 29 1, σ)
      ) else (
        if v1 = 1 then (
          some (σ.1 29 11, σ)
        ) else (
          if v1 = 2 then (
            some (v2, σ)
          ) else (
            if v1 = 3 then (
              some (σ.1 29 30, σ)
            ) else (
              if v1 = 4 then (
                some (v3, σ)
              ) else (
                if v1 = 5 then (
                  some (v4, σ)
                ) else (
                  some ((-2 : Int32), σ)
      ))))))
    ) else (
      ck_ (fb_in v5 60) <|
      nm_ (v4 + (σ.1 44 v5.toNatClampNeg)) fun x1 =>
      f_X6_count_L76 N n v1 v2 v3 x1 (v5 + 1) σ
    )
def f_X6_count_L51 (N : Nat) : Nat → Int32 → Int32 → Int32 → Int32 → Int32 → fb_S → Option (Int32 × fb_S)
  | 0, _, _, _, _, _, _ => none
  | n + 1, v1, v2, v3, v4, v5, σ => 
    if (4 : Int32) ≤ v5 then (
      f_X6_count_L76 N N v1 v2 v3 v4 (0 : Int32) σ
    ) else (
      ck_ (fb_in v5 4) <|
      nm_ (v3 + (σ.1 35 v5.toNatClampNeg)) fun x2 =>
      f_X6_count_L51 N n v1 v2 x2 v4 (v5 + 1) σ
    )
def f_X6_count_L15 (N : Nat) : Nat → Int32 → Int32 → Int32 → Int32 → Int32 → fb_S → Option (Int32 × fb_S)
  | 0, _, _, _, _, _, _ => none
  | n + 1, v1, v2, v3, v4, v5, σ => 
    if (σ.1 29 11) ≤ v5 then (
      f_X6_count_L51 N N v1 v2 v3 v4 (0 : Int32) σ
    ) else (
      ck_ (fb_in v5 10) <|
      if (σ.1 41 v5.toNatClampNeg) = 0 then (
        nm_ (v2 + (0 : Int32)) fun x3 =>
        f_X6_count_L15 N n v1 x3 v3 v4 (v5 + 1) σ
      ) else (
        nm_ (v2 + (1 : Int32)) fun x4 =>
        f_X6_count_L15 N n v1 x4 v3 v4 (v5 + 1) σ
      )
    )
def f_X6_count (N : Nat) (a1 : Int32) (σ : fb_S) : Option (Int32 × fb_S) :=
  nm_ (fb_up σ 29 0 (0 : Int32)) fun t5 =>
  f_X6_count_L15 N N a1 (0 : Int32) (0 : Int32) (0 : Int32) (0 : Int32) t5
set_option maxHeartbeats 4000000 in
set_option maxRecDepth 100000 in
theorem w_X6_count_L76 (X : fb_X p m c cX6_count 6 s args RX6 g ks (fb_A g ks)) (hks : ∀ k ∈ ([29, 35, 41, 44] : List Nat), k ∈ ks) (hr : meth.sig.returnType = (some .int)) (hlk : meth.locks = false) (N : Nat)  {res : (Int32 × fb_S)} : ∀ (n : Nat) (v1 : Int32) (v2 : Int32) (v3 : Int32) (v4 : Int32) (v5 : Int32) (σ : fb_S) (H : Heap) (locs : List Loc) (ls : Array Slot), fb_H g ks (fb_A g ks) s.heap σ H locs → lv_has ls 6 [(0, .ref (g.1 29)), (1, .int v1), (2, .int v2), (3, .int v3), (4, .int v4), (5, .int v5)] → f_X6_count_L76 N n v1 v2 v3 v4 v5 σ = some res → W p l e (fb_R 0 0) s m args below meth c H locs 0 0 (MQ below (fb_Qi g ks res.1 res.2) args s 0 0 (fb_A g ks)) (F0 m 76 ls []) := by
  have hx := X.1.1
  have hb := X.1.2.1
  intro n
  induction n with
  | zero => intro v1 v2 v3 v4 v5 σ H locs ls h hl hf; cases hf
  | succ n ih =>
    intro v1 v2 v3 v4 v5 σ H locs ls h hl hf
    unfold f_X6_count_L76 at hf
    refine lv_iload hx hb dX6_count_76 (lv_at hl 5 rfl) ?_
    refine lv_bipush hx hb dX6_count_78 kb_60 ?_
    refine lv_icmp_ge hx hb dX6_count_80 (tgt := 101) (by decide) (fun hc => ?_) (fun hc => ?_)
    · have hf := if_t hc hf
      refine lv_iload_n hx hb dX6_count_101 rfl (lv_at hl 1 rfl) ?_
      by_cases hc0 : v1 = 0
      · have hf := if_t hc0 hf
        refine lv_tableIn hx hb dX6_count_102 (off := 38) (tgt := 140) (by rw [hc0]; decide) (by rw [hc0]; decide) (by rw [hc0]; decide) (by decide) ?_
        refine lv_aload_n hx hb dX6_count_140 rfl (lv_at hl 0 rfl) ?_
        refine gt_RX6_7 X h (hks 29 (by decide)) dX6_count_141 ?_
        have e9 := Option.some.inj hf
        subst e9
        exact fb_ir X h hr hlk dX6_count_144
      have hf := if_f hc0 hf
      by_cases hc1 : v1 = 1
      · have hf := if_t hc1 hf
        refine lv_tableIn hx hb dX6_count_102 (off := 43) (tgt := 145) (by rw [hc1]; decide) (by rw [hc1]; decide) (by rw [hc1]; decide) (by decide) ?_
        refine lv_aload_n hx hb dX6_count_145 rfl (lv_at hl 0 rfl) ?_
        refine gt_RX6_112 X h (hks 29 (by decide)) dX6_count_146 ?_
        have e9 := Option.some.inj hf
        subst e9
        exact fb_ir X h hr hlk dX6_count_149
      have hf := if_f hc1 hf
      by_cases hc2 : v1 = 2
      · have hf := if_t hc2 hf
        refine lv_tableIn hx hb dX6_count_102 (off := 48) (tgt := 150) (by rw [hc2]; decide) (by rw [hc2]; decide) (by rw [hc2]; decide) (by decide) ?_
        refine lv_iload_n hx hb dX6_count_150 rfl (lv_at hl 2 rfl) ?_
        have e9 := Option.some.inj hf
        subst e9
        exact fb_ir X h hr hlk dX6_count_151
      have hf := if_f hc2 hf
      by_cases hc3 : v1 = 3
      · have hf := if_t hc3 hf
        refine lv_tableIn hx hb dX6_count_102 (off := 50) (tgt := 152) (by rw [hc3]; decide) (by rw [hc3]; decide) (by rw [hc3]; decide) (by decide) ?_
        refine lv_aload_n hx hb dX6_count_152 rfl (lv_at hl 0 rfl) ?_
        refine gt_RX6_193 X h (hks 29 (by decide)) dX6_count_153 ?_
        have e9 := Option.some.inj hf
        subst e9
        exact fb_ir X h hr hlk dX6_count_156
      have hf := if_f hc3 hf
      by_cases hc4 : v1 = 4
      · have hf := if_t hc4 hf
        refine lv_tableIn hx hb dX6_count_102 (off := 55) (tgt := 157) (by rw [hc4]; decide) (by rw [hc4]; decide) (by rw [hc4]; decide) (by decide) ?_
        refine lv_iload_n hx hb dX6_count_157 rfl (lv_at hl 3 rfl) ?_
        have e9 := Option.some.inj hf
        subst e9
        exact fb_ir X h hr hlk dX6_count_158
      have hf := if_f hc4 hf
      by_cases hc5 : v1 = 5
      · have hf := if_t hc5 hf
        refine lv_tableIn hx hb dX6_count_102 (off := 57) (tgt := 159) (by rw [hc5]; decide) (by rw [hc5]; decide) (by rw [hc5]; decide) (by decide) ?_
        refine lv_iload hx hb dX6_count_159 (lv_at hl 4 rfl) ?_
        have e9 := Option.some.inj hf
        subst e9
        exact fb_ir X h hr hlk dX6_count_161
      have hf := if_f hc5 hf
      refine lv_tableOut hx hb dX6_count_102 (tgt := 162) (by have h9 := fb_swn (x := v1) 6 (by decide) (fun j hj => match j, hj with | 0, _ => hc0 | 1, _ => hc1 | 2, _ => hc2 | 3, _ => hc3 | 4, _ => hc4 | 5, _ => hc5); omega) (by decide) ?_
      refine lv_bipush hx hb dX6_count_162 kb_m2 ?_
      have e9 := Option.some.inj hf
      subst e9
      exact fb_ir X h hr hlk dX6_count_164
    · have hf := if_f hc hf
      refine lv_iload hx hb dX6_count_83 (lv_at hl 4 rfl) ?_
      refine lv_aload_n hx hb dX6_count_85 rfl (lv_at hl 0 rfl) ?_
      refine gt_RX6_57 X h (hks 29 (by decide)) dX6_count_86 ?_
      refine lv_iload hx hb dX6_count_89 (lv_at hl 5 rfl) ?_
      obtain ⟨hi0, hf⟩ := ck_s hf
      refine fb_iald X h (hks 44 (by decide)) rfl hi0 dX6_count_91 ?_
      refine lv_iadd hx hb dX6_count_92 ?_
      obtain ⟨x1, ex1, hf⟩ := nm_s hf
      refine fb_topi ex1 ?_
      refine lv_istore hx hb dX6_count_93 hl (by decide) (lv' := [(4, .int x1), (0, .ref (g.1 29)), (1, .int v1), (2, .int v2), (3, .int v3), (5, .int v5)]) rfl (fun ls hl => ?_)
      refine lv_iinc hx hb dX6_count_95 hl (k := 5) rfl (kinc_1 _) (by decide) (lv' := [(5, .int (v5 + 1)), (4, .int x1), (0, .ref (g.1 29)), (1, .int v1), (2, .int v2), (3, .int v3)]) rfl (fun ls hl => ?_)
      refine lv_goto hx hb dX6_count_98 (tgt := 76) (by decide) ?_
      exact ih v1 v2 v3 x1 (v5 + 1) σ _ _ _ h (lv_sub hl [2, 3, 4, 5, 1, 0] rfl) hf
set_option maxHeartbeats 4000000 in
set_option maxRecDepth 100000 in
theorem w_X6_count_L51 (X : fb_X p m c cX6_count 6 s args RX6 g ks (fb_A g ks)) (hks : ∀ k ∈ ([29, 35, 41, 44] : List Nat), k ∈ ks) (hr : meth.sig.returnType = (some .int)) (hlk : meth.locks = false) (N : Nat)  {res : (Int32 × fb_S)} : ∀ (n : Nat) (v1 : Int32) (v2 : Int32) (v3 : Int32) (v4 : Int32) (v5 : Int32) (σ : fb_S) (H : Heap) (locs : List Loc) (ls : Array Slot), fb_H g ks (fb_A g ks) s.heap σ H locs → lv_has ls 6 [(0, .ref (g.1 29)), (1, .int v1), (2, .int v2), (3, .int v3), (4, .int v4), (5, .int v5)] → f_X6_count_L51 N n v1 v2 v3 v4 v5 σ = some res → W p l e (fb_R 0 0) s m args below meth c H locs 0 0 (MQ below (fb_Qi g ks res.1 res.2) args s 0 0 (fb_A g ks)) (F0 m 51 ls []) := by
  have hx := X.1.1
  have hb := X.1.2.1
  intro n
  induction n with
  | zero => intro v1 v2 v3 v4 v5 σ H locs ls h hl hf; cases hf
  | succ n ih =>
    intro v1 v2 v3 v4 v5 σ H locs ls h hl hf
    unfold f_X6_count_L51 at hf
    refine lv_iload hx hb dX6_count_51 (lv_at hl 5 rfl) ?_
    refine lv_iconst hx hb dX6_count_53 ki_4 ?_
    refine lv_icmp_ge hx hb dX6_count_54 (tgt := 73) (by decide) (fun hc => ?_) (fun hc => ?_)
    · have hf := if_t hc hf
      refine lv_iconst hx hb dX6_count_73 ki_0 ?_
      refine lv_istore hx hb dX6_count_74 hl (by decide) (lv' := [(5, .int (0)), (0, .ref (g.1 29)), (1, .int v1), (2, .int v2), (3, .int v3), (4, .int v4)]) rfl (fun ls hl => ?_)
      exact w_X6_count_L76 X hks hr hlk N N v1 v2 v3 v4 (0 : Int32) σ _ _ _ h (lv_sub hl [1, 2, 3, 4, 5, 0] rfl) hf
    · have hf := if_f hc hf
      refine lv_iload_n hx hb dX6_count_57 rfl (lv_at hl 3 rfl) ?_
      refine lv_aload_n hx hb dX6_count_58 rfl (lv_at hl 0 rfl) ?_
      refine gt_RX6_29 X h (hks 29 (by decide)) dX6_count_59 ?_
      refine lv_iload hx hb dX6_count_62 (lv_at hl 5 rfl) ?_
      obtain ⟨hi0, hf⟩ := ck_s hf
      refine fb_iald X h (hks 35 (by decide)) rfl hi0 dX6_count_64 ?_
      refine lv_iadd hx hb dX6_count_65 ?_
      obtain ⟨x2, ex2, hf⟩ := nm_s hf
      refine fb_topi ex2 ?_
      refine lv_istore_n hx hb dX6_count_66 rfl hl (by decide) (lv' := [(3, .int x2), (0, .ref (g.1 29)), (1, .int v1), (2, .int v2), (4, .int v4), (5, .int v5)]) rfl (fun ls hl => ?_)
      refine lv_iinc hx hb dX6_count_67 hl (k := 5) rfl (kinc_1 _) (by decide) (lv' := [(5, .int (v5 + 1)), (3, .int x2), (0, .ref (g.1 29)), (1, .int v1), (2, .int v2), (4, .int v4)]) rfl (fun ls hl => ?_)
      refine lv_goto hx hb dX6_count_70 (tgt := 51) (by decide) ?_
      exact ih v1 v2 x2 v4 (v5 + 1) σ _ _ _ h (lv_sub hl [2, 3, 4, 1, 5, 0] rfl) hf
set_option maxHeartbeats 4000000 in
set_option maxRecDepth 100000 in
theorem w_X6_count_L15 (X : fb_X p m c cX6_count 6 s args RX6 g ks (fb_A g ks)) (hks : ∀ k ∈ ([29, 35, 41, 44] : List Nat), k ∈ ks) (hr : meth.sig.returnType = (some .int)) (hlk : meth.locks = false) (N : Nat)  {res : (Int32 × fb_S)} : ∀ (n : Nat) (v1 : Int32) (v2 : Int32) (v3 : Int32) (v4 : Int32) (v5 : Int32) (σ : fb_S) (H : Heap) (locs : List Loc) (ls : Array Slot), fb_H g ks (fb_A g ks) s.heap σ H locs → lv_has ls 6 [(0, .ref (g.1 29)), (1, .int v1), (2, .int v2), (3, .int v3), (4, .int v4), (5, .int v5)] → f_X6_count_L15 N n v1 v2 v3 v4 v5 σ = some res → W p l e (fb_R 0 0) s m args below meth c H locs 0 0 (MQ below (fb_Qi g ks res.1 res.2) args s 0 0 (fb_A g ks)) (F0 m 15 ls []) := by
  have hx := X.1.1
  have hb := X.1.2.1
  intro n
  induction n with
  | zero => intro v1 v2 v3 v4 v5 σ H locs ls h hl hf; cases hf
  | succ n ih =>
    intro v1 v2 v3 v4 v5 σ H locs ls h hl hf
    unfold f_X6_count_L15 at hf
    refine lv_iload hx hb dX6_count_15 (lv_at hl 5 rfl) ?_
    refine lv_aload_n hx hb dX6_count_17 rfl (lv_at hl 0 rfl) ?_
    refine gt_RX6_112 X h (hks 29 (by decide)) dX6_count_18 ?_
    refine lv_icmp_ge hx hb dX6_count_21 (tgt := 48) (by decide) (fun hc => ?_) (fun hc => ?_)
    · have hf := if_t hc hf
      refine lv_iconst hx hb dX6_count_48 ki_0 ?_
      refine lv_istore hx hb dX6_count_49 hl (by decide) (lv' := [(5, .int (0)), (0, .ref (g.1 29)), (1, .int v1), (2, .int v2), (3, .int v3), (4, .int v4)]) rfl (fun ls hl => ?_)
      exact w_X6_count_L51 X hks hr hlk N N v1 v2 v3 v4 (0 : Int32) σ _ _ _ h (lv_sub hl [1, 2, 3, 4, 5, 0] rfl) hf
    · have hf := if_f hc hf
      refine lv_iload_n hx hb dX6_count_24 rfl (lv_at hl 2 rfl) ?_
      refine lv_aload_n hx hb dX6_count_25 rfl (lv_at hl 0 rfl) ?_
      refine gt_RX6_47 X h (hks 29 (by decide)) dX6_count_26 ?_
      refine lv_iload hx hb dX6_count_29 (lv_at hl 5 rfl) ?_
      obtain ⟨hi0, hf⟩ := ck_s hf
      refine fb_zald X h (hks 41 (by decide)) rfl hi0 dX6_count_31 ?_
      refine lv_if_eq hx hb dX6_count_32 (tgt := 39) (by decide) (fun hc => ?_) (fun hc => ?_)
      · have hf := if_t hc hf
        refine lv_iconst hx hb dX6_count_39 ki_0 ?_
        refine lv_iadd hx hb dX6_count_40 ?_
        obtain ⟨x3, ex3, hf⟩ := nm_s hf
        refine fb_topi ex3 ?_
        refine lv_istore_n hx hb dX6_count_41 rfl hl (by decide) (lv' := [(2, .int x3), (0, .ref (g.1 29)), (1, .int v1), (3, .int v3), (4, .int v4), (5, .int v5)]) rfl (fun ls hl => ?_)
        refine lv_iinc hx hb dX6_count_42 hl (k := 5) rfl (kinc_1 _) (by decide) (lv' := [(5, .int (v5 + 1)), (2, .int x3), (0, .ref (g.1 29)), (1, .int v1), (3, .int v3), (4, .int v4)]) rfl (fun ls hl => ?_)
        refine lv_goto hx hb dX6_count_45 (tgt := 15) (by decide) ?_
        exact ih v1 x3 v3 v4 (v5 + 1) σ _ _ _ h (lv_sub hl [2, 3, 1, 4, 5, 0] rfl) hf
      · have hf := if_f hc hf
        refine lv_iconst hx hb dX6_count_35 ki_1 ?_
        refine lv_goto hx hb dX6_count_36 (tgt := 40) (by decide) ?_
        refine lv_iadd hx hb dX6_count_40 ?_
        obtain ⟨x4, ex4, hf⟩ := nm_s hf
        refine fb_topi ex4 ?_
        refine lv_istore_n hx hb dX6_count_41 rfl hl (by decide) (lv' := [(2, .int x4), (0, .ref (g.1 29)), (1, .int v1), (3, .int v3), (4, .int v4), (5, .int v5)]) rfl (fun ls hl => ?_)
        refine lv_iinc hx hb dX6_count_42 hl (k := 5) rfl (kinc_1 _) (by decide) (lv' := [(5, .int (v5 + 1)), (2, .int x4), (0, .ref (g.1 29)), (1, .int v1), (3, .int v3), (4, .int v4)]) rfl (fun ls hl => ?_)
        refine lv_goto hx hb dX6_count_45 (tgt := 15) (by decide) ?_
        exact ih v1 x4 v3 v4 (v5 + 1) σ _ _ _ h (lv_sub hl [2, 3, 1, 4, 5, 0] rfl) hf
set_option maxHeartbeats 4000000 in
set_option maxRecDepth 100000 in
theorem c_X6_count (l : Launch) {g : fb_G} {ks : List Nat} (hI : fb_I g ks) (hks : ∀ k ∈ ([29, 35, 41, 44] : List Nat), k ∈ ks) (N : Nat) (a1 : Int32) (σ : fb_S) {res : (Int32 × fb_S)} (hf : f_X6_count N a1 σ = some res) : fb_M l yX6_count cX6_count 6 (some .int) 0 0 g ks [.ref (g.1 29), .int a1] σ (fb_Qi g ks res.1 res.2) := by
  refine fb_met (by decide +kernel) hI (Nat.le_of_ble_eq_true rfl) (fun p e s m below meth c ls X h hr hlk hl => ?_)
  have X : fb_X p m c cX6_count 6 s _ RX6 g ks (fb_A g ks) := X
  have hl : lv_has ls 6 [(0, .ref (g.1 29)), (1, .int a1)] := hl
  have hx := X.1.1
  have hb := X.1.2.1
  unfold f_X6_count at hf
  refine lv_aload_n hx hb dX6_count_0 rfl (lv_at hl 0 rfl) ?_
  refine lv_iconst hx hb dX6_count_1 ki_0 ?_
  obtain ⟨t5, et5, hf⟩ := nm_s hf
  refine pt_RX6_75 X h (hks 29 (by decide)) dX6_count_2 (fun H locs h => ?_)
  have h := fb_H.nm et5 h
  refine lv_iconst hx hb dX6_count_5 ki_0 ?_
  refine lv_istore_n hx hb dX6_count_6 rfl hl (by decide) (lv' := [(2, .int (0)), (0, .ref (g.1 29)), (1, .int a1)]) rfl (fun ls hl => ?_)
  refine lv_iconst hx hb dX6_count_7 ki_0 ?_
  refine lv_istore_n hx hb dX6_count_8 rfl hl (by decide) (lv' := [(3, .int (0)), (2, .int (0)), (0, .ref (g.1 29)), (1, .int a1)]) rfl (fun ls hl => ?_)
  refine lv_iconst hx hb dX6_count_9 ki_0 ?_
  refine lv_istore hx hb dX6_count_10 hl (by decide) (lv' := [(4, .int (0)), (3, .int (0)), (2, .int (0)), (0, .ref (g.1 29)), (1, .int a1)]) rfl (fun ls hl => ?_)
  refine lv_iconst hx hb dX6_count_12 ki_0 ?_
  refine lv_istore hx hb dX6_count_13 hl (by decide) (lv' := [(5, .int (0)), (4, .int (0)), (3, .int (0)), (2, .int (0)), (0, .ref (g.1 29)), (1, .int a1)]) rfl (fun ls hl => ?_)
  exact w_X6_count_L15 X hks hr hlk N N a1 (0 : Int32) (0 : Int32) (0 : Int32) (0 : Int32) t5 _ _ _ h (lv_sub hl [4, 5, 3, 2, 1, 0] rfl) hf
end MW
