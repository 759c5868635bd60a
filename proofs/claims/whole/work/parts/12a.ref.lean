section MW
variable {p : Program} {l : Launch} {e : Env} {s : State} {m : MethodId} {args : Array Value} {below : List Frame} {meth : Method} {c : Code} {g : fb_G} {ks : List Nat}
def f_X6_in (a1 : Int64) (a2 : Int64) (a3 : Int64) : Option Int32 :=
  if (lg_cmp a1 a2) < 0 then (
    some (0 : Int32)
  ) else (
    if 0 < (lg_cmp a1 a3) then (
      some (0 : Int32)
    ) else (
      some (1 : Int32)
    )
  )
set_option maxHeartbeats 4000000 in
set_option maxRecDepth 100000 in
theorem c_X6_in (l : Launch) {g : fb_G} {ks : List Nat} (hI : fb_I g ks) (hks : ∀ k ∈ ([] : List Nat), k ∈ ks) (a1 : Int64) (a2 : Int64) (a3 : Int64) (σ : fb_S) {res : Int32} (hf : f_X6_in a1 a2 a3 = some res) : fb_M l yX6_in cX6_in 6 (some .boolean) 0 0 g ks [.long a1, .long a2, .long a3] σ (fb_Qi g ks res σ) := by
  refine fb_met (by decide +kernel) hI (Nat.le_of_ble_eq_true rfl) (fun p e s m below meth c ls X h hr hlk hl => ?_)
  have X : fb_X p m c cX6_in 6 s _ RX6 g ks (fb_A g ks) := X
  have hl : lv_has ls 6 [(0, .long a1), (2, .long a2), (4, .long a3)] := hl
  have hx := X.1.1
  have hb := X.1.2.1
  unfold f_X6_in at hf
  refine lv_lload_n hx hb dX6_in_0 rfl (lv_at hl 0 rfl) ?_
  refine lv_lload_n hx hb dX6_in_1 rfl (lv_at hl 1 rfl) ?_
  refine W.lcmp hx hb dX6_in_2 ?_
  refine lv_if_lt hx hb dX6_in_3 (tgt := 17) (by decide) (fun hc => ?_) (fun hc => ?_)
  · have hf := if_t hc hf
    refine lv_iconst hx hb dX6_in_17 ki_0 ?_
    have e9 := Option.some.inj hf
    subst e9
    exact fb_zr (r := (0 : Int32)) X h hr rfl hlk dX6_in_18
  · have hf := if_f hc hf
    refine lv_lload_n hx hb dX6_in_6 rfl (lv_at hl 0 rfl) ?_
    refine lv_lload hx hb dX6_in_7 (lv_at hl 2 rfl) ?_
    refine W.lcmp hx hb dX6_in_9 ?_
    refine lv_if_gt hx hb dX6_in_10 (tgt := 17) (by decide) (fun hc => ?_) (fun hc => ?_)
    · have hf := if_t hc hf
      refine lv_iconst hx hb dX6_in_17 ki_0 ?_
      have e9 := Option.some.inj hf
      subst e9
      exact fb_zr (r := (0 : Int32)) X h hr rfl hlk dX6_in_18
    · have hf := if_f hc hf
      refine lv_iconst hx hb dX6_in_13 ki_1 ?_
      refine lv_goto hx hb dX6_in_14 (tgt := 18) (by decide) ?_
      have e9 := Option.some.inj hf
      subst e9
      exact fb_zr (r := (1 : Int32)) X h hr rfl hlk dX6_in_18
def f_X6_span_L52 (N : Nat) : Nat → Int32 → Int32 → fb_S → Option (Int32 × fb_S)
  | 0, _, _, _ => none
  | n + 1, v2, v3, σ => 
    if (6 : Int32) ≤ v3 then (
      some (v2, σ)
    ) else (
      ck_ (fb_in v3 6) <|
      nm_ (fb_up σ 31 (v3.toNatClampNeg) (1 : Int32)) fun t1 =>
      f_X6_span_L52 N n v2 (v3 + 1) t1
    )
def f_X6_span_L32 (N : Nat) : Nat → Int32 → Int32 → fb_S → Option (Int32 × fb_S)
  | 0, _, _, _ => none
  | n + 1, v2, v3, σ => 
    if (5 : Int32) ≤ v3 then (
      f_X6_span_L52 N N v2 (0 : Int32) σ
    ) else (
      ck_ (fb_in v3 5) <|
      nm_ (fb_up σ 30 (v3.toNatClampNeg) (1 : Int32)) fun t2 =>
      f_X6_span_L32 N n v2 (v3 + 1) t2
    )
def f_X6_span (N : Nat) (a1 : Int32) (σ : fb_S) : Option (Int32 × fb_S) :=
  nm_ (fb_up σ 29 0 (0 : Int32)) fun t3 =>
  (f_X6_in (a1.toInt64) (1 : Int64) (5 : Int64)).bind fun q4 =>
  if q4 = 0 then (
    some ((-2 : Int32), t3)
  ) else (
    nm_ (t3.1 29 1) fun x5 =>
    nm_ (fb_up t3 29 1 a1) fun t6 =>
    f_X6_span_L32 N N x5 (0 : Int32) t6
  )
set_option maxHeartbeats 4000000 in
set_option maxRecDepth 100000 in
theorem w_X6_span_L52 (X : fb_X p m c cX6_span 4 s args RX6 g ks (fb_A g ks)) (hks : ∀ k ∈ ([29, 30, 31] : List Nat), k ∈ ks) (hr : meth.sig.returnType = (some .int)) (hlk : meth.locks = false) (N : Nat)  {res : (Int32 × fb_S)} : ∀ (n : Nat) (v2 : Int32) (v3 : Int32) (σ : fb_S) (H : Heap) (locs : List Loc) (ls : Array Slot), fb_H g ks (fb_A g ks) s.heap σ H locs → lv_has ls 4 [(0, .ref (g.1 29)), (2, .int v2), (3, .int v3)] → f_X6_span_L52 N n v2 v3 σ = some res → W p l e (fb_R 1 25) s m args below meth c H locs 0 0 (MQ below (fb_Qi g ks res.1 res.2) args s 0 0 (fb_A g ks)) (F0 m 52 ls []) := by
  have hx := X.1.1
  have hb := X.1.2.1
  intro n
  induction n with
  | zero => intro v2 v3 σ H locs ls h hl hf; cases hf
  | succ n ih =>
    intro v2 v3 σ H locs ls h hl hf
    unfold f_X6_span_L52 at hf
    refine lv_iload_n hx hb dX6_span_52 rfl (lv_at hl 2 rfl) ?_
    refine lv_bipush hx hb dX6_span_53 kb_6 ?_
    refine lv_icmp_ge hx hb dX6_span_55 (tgt := 71) (by decide) (fun hc => ?_) (fun hc => ?_)
    · have hf := if_t hc hf
      refine lv_iload_n hx hb dX6_span_71 rfl (lv_at hl 1 rfl) ?_
      have e9 := Option.some.inj hf
      subst e9
      exact fb_ir X h hr hlk dX6_span_72
    · have hf := if_f hc hf
      refine lv_aload_n hx hb dX6_span_58 rfl (lv_at hl 0 rfl) ?_
      refine gt_RX6_17 X h (hks 29 (by decide)) dX6_span_59 ?_
      refine lv_iload_n hx hb dX6_span_62 rfl (lv_at hl 2 rfl) ?_
      refine lv_iconst hx hb dX6_span_63 ki_1 ?_
      obtain ⟨hi0, hf⟩ := ck_s hf
      obtain ⟨t1, et1, hf⟩ := nm_s hf
      refine fb_iast X h (hks 31 (by decide)) (fun _ => rfl) hi0 dX6_span_64 (fun H locs h => ?_)
      have h := fb_H.nm et1 h
      refine lv_iinc hx hb dX6_span_65 hl (k := 2) rfl (kinc_1 _) (by decide) (lv' := [(3, .int (v3 + 1)), (0, .ref (g.1 29)), (2, .int v2)]) rfl (fun ls hl => ?_)
      refine lv_goto hx hb dX6_span_68 (tgt := 52) (by decide) ?_
      exact ih v2 (v3 + 1) t1 _ _ _ h (lv_sub hl [1, 2, 0] rfl) hf
set_option maxHeartbeats 4000000 in
set_option maxRecDepth 100000 in
theorem w_X6_span_L32 (X : fb_X p m c cX6_span 4 s args RX6 g ks (fb_A g ks)) (hks : ∀ k ∈ ([29, 30, 31] : List Nat), k ∈ ks) (hr : meth.sig.returnType = (some .int)) (hlk : meth.locks = false) (N : Nat)  {res : (Int32 × fb_S)} : ∀ (n : Nat) (v2 : Int32) (v3 : Int32) (σ : fb_S) (H : Heap) (locs : List Loc) (ls : Array Slot), fb_H g ks (fb_A g ks) s.heap σ H locs → lv_has ls 4 [(0, .ref (g.1 29)), (2, .int v2), (3, .int v3)] → f_X6_span_L32 N n v2 v3 σ = some res → W p l e (fb_R 1 25) s m args below meth c H locs 0 0 (MQ below (fb_Qi g ks res.1 res.2) args s 0 0 (fb_A g ks)) (F0 m 32 ls []) := by
  have hx := X.1.1
  have hb := X.1.2.1
  intro n
  induction n with
  | zero => intro v2 v3 σ H locs ls h hl hf; cases hf
  | succ n ih =>
    intro v2 v3 σ H locs ls h hl hf
    unfold f_X6_span_L32 at hf
    refine lv_iload_n hx hb dX6_span_32 rfl (lv_at hl 2 rfl) ?_
    refine lv_iconst hx hb dX6_span_33 ki_5 ?_
    refine lv_icmp_ge hx hb dX6_span_34 (tgt := 50) (by decide) (fun hc => ?_) (fun hc => ?_)
    · have hf := if_t hc hf
      refine lv_iconst hx hb dX6_span_50 ki_0 ?_
      refine lv_istore_n hx hb dX6_span_51 rfl hl (by decide) (lv' := [(3, .int (0)), (0, .ref (g.1 29)), (2, .int v2)]) rfl (fun ls hl => ?_)
      exact w_X6_span_L52 X hks hr hlk N N v2 (0 : Int32) σ _ _ _ h (lv_sub hl [1, 2, 0] rfl) hf
    · have hf := if_f hc hf
      refine lv_aload_n hx hb dX6_span_37 rfl (lv_at hl 0 rfl) ?_
      refine gt_RX6_13 X h (hks 29 (by decide)) dX6_span_38 ?_
      refine lv_iload_n hx hb dX6_span_41 rfl (lv_at hl 2 rfl) ?_
      refine lv_iconst hx hb dX6_span_42 ki_1 ?_
      obtain ⟨hi0, hf⟩ := ck_s hf
      obtain ⟨t2, et2, hf⟩ := nm_s hf
      refine fb_iast X h (hks 30 (by decide)) (fun _ => rfl) hi0 dX6_span_43 (fun H locs h => ?_)
      have h := fb_H.nm et2 h
      refine lv_iinc hx hb dX6_span_44 hl (k := 2) rfl (kinc_1 _) (by decide) (lv' := [(3, .int (v3 + 1)), (0, .ref (g.1 29)), (2, .int v2)]) rfl (fun ls hl => ?_)
      refine lv_goto hx hb dX6_span_47 (tgt := 32) (by decide) ?_
      exact ih v2 (v3 + 1) t2 _ _ _ h (lv_sub hl [1, 2, 0] rfl) hf
set_option maxHeartbeats 4000000 in
set_option maxRecDepth 100000 in
theorem c_X6_span (l : Launch) {g : fb_G} {ks : List Nat} (hI : fb_I g ks) (hks : ∀ k ∈ ([29, 30, 31] : List Nat), k ∈ ks) (N : Nat) (a1 : Int32) (σ : fb_S) {res : (Int32 × fb_S)} (hf : f_X6_span N a1 σ = some res) : fb_M l yX6_span cX6_span 4 (some .int) 1 25 g ks [.ref (g.1 29), .int a1] σ (fb_Qi g ks res.1 res.2) := by
  refine fb_met (by decide +kernel) hI (Nat.le_of_ble_eq_true rfl) (fun p e s m below meth c ls X h hr hlk hl => ?_)
  have X : fb_X p m c cX6_span 4 s _ RX6 g ks (fb_A g ks) := X
  have hl : lv_has ls 4 [(0, .ref (g.1 29)), (1, .int a1)] := hl
  have hx := X.1.1
  have hb := X.1.2.1
  unfold f_X6_span at hf
  refine lv_aload_n hx hb dX6_span_0 rfl (lv_at hl 0 rfl) ?_
  refine lv_iconst hx hb dX6_span_1 ki_0 ?_
  obtain ⟨t3, et3, hf⟩ := nm_s hf
  refine pt_RX6_75 X h (hks 29 (by decide)) dX6_span_2 (fun H locs h => ?_)
  have h := fb_H.nm et3 h
  refine lv_iload_n hx hb dX6_span_5 rfl (lv_at hl 1 rfl) ?_
  refine lv_i2l hx hb dX6_span_6 (v := a1.toInt64) rfl ?_
  refine lv_lconst hx hb dX6_span_7 kl_1 ?_
  refine lv_ldc2 hx hb X.1.2.2.2.1 (X.1.2.2.2.2 _ lc_RX6_78) dX6_span_8 ?_
  obtain ⟨q4, hq4, hf⟩ := bd_s hf
  refine fb_ci X h (fb_runS (As := [.long (a1.toInt64), .long (1), .long (5)]) (rest := []) X h (c_X6_in l X.2.2.1 (fun k hk => absurd hk List.not_mem_nil) (a1.toInt64) (1 : Int64) (5 : Int64) t3 hq4) mf_yX6_in lm_RX6_80 ⟨Nat.le_of_ble_eq_true rfl, Nat.le_of_ble_eq_true rfl⟩ ⟨Nat.le_refl _, Nat.le_refl _⟩ rfl hl.1 rfl (Nat.le_of_ble_eq_true rfl) dX6_span_11) (fun H locs h => ?_)
  refine lv_if_ne hx hb dX6_span_14 (tgt := 20) (by decide) (fun hc => ?_) (fun hc => ?_)
  · have hf := if_f hc hf
    refine lv_aload_n hx hb dX6_span_20 rfl (lv_at hl 0 rfl) ?_
    refine gt_RX6_7 X h (hks 29 (by decide)) dX6_span_21 ?_
    obtain ⟨x5, ex5, hf⟩ := nm_s hf
    refine fb_topi ex5 ?_
    refine lv_istore_n hx hb dX6_span_24 rfl hl (by decide) (lv' := [(2, .int x5), (0, .ref (g.1 29)), (1, .int a1)]) rfl (fun ls hl => ?_)
    refine lv_aload_n hx hb dX6_span_25 rfl (lv_at hl 1 rfl) ?_
    refine lv_iload_n hx hb dX6_span_26 rfl (lv_at hl 2 rfl) ?_
    obtain ⟨t6, et6, hf⟩ := nm_s hf
    refine pt_RX6_7 X h (hks 29 (by decide)) dX6_span_27 (fun H locs h => ?_)
    have h := fb_H.nm et6 h
    refine lv_iconst hx hb dX6_span_30 ki_0 ?_
    refine lv_istore_n hx hb dX6_span_31 rfl hl (by decide) (lv' := [(3, .int (0)), (2, .int x5), (0, .ref (g.1 29)), (1, .int a1)]) rfl (fun ls hl => ?_)
    exact w_X6_span_L32 X hks hr hlk N N x5 (0 : Int32) t6 _ _ _ h (lv_sub hl [2, 1, 0] rfl) hf
  · have hf := if_t hc hf
    refine lv_bipush hx hb dX6_span_17 kb_m2 ?_
    have e9 := Option.some.inj hf
    subst e9
    exact fb_ir X h hr hlk dX6_span_19
def f_X6_weight (a1 : Int32) (a2 : Int32) (σ : fb_S) : Option (Int32 × fb_S) :=
  nm_ (fb_up σ 29 0 (0 : Int32)) fun t1 =>
  (f_X6_in (a1.toInt64) (0 : Int64) (((t1.1 29 1) - (1 : Int32)).toInt64)).bind fun q2 =>
  if q2 = 0 then (
    some ((-1 : Int32), t1)
  ) else (
    (f_X6_in (a2.toInt64) (1 : Int64) (9 : Int64)).bind fun q3 =>
    if q3 = 0 then (
      some ((-2 : Int32), t1)
    ) else (
      ck_ (fb_in a1 5) <|
      nm_ (t1.1 30 a1.toNatClampNeg) fun x4 =>
      ck_ (fb_in a1 5) <|
      nm_ (fb_up t1 30 (a1.toNatClampNeg) a2) fun t5 =>
      some (x4, t5)
    )
  )
set_option maxHeartbeats 4000000 in
set_option maxRecDepth 100000 in
theorem c_X6_weight (l : Launch) {g : fb_G} {ks : List Nat} (hI : fb_I g ks) (hks : ∀ k ∈ ([29, 30] : List Nat), k ∈ ks) (a1 : Int32) (a2 : Int32) (σ : fb_S) {res : (Int32 × fb_S)} (hf : f_X6_weight a1 a2 σ = some res) : fb_M l yX6_weight cX6_weight 4 (some .int) 1 25 g ks [.ref (g.1 29), .int a1, .int a2] σ (fb_Qi g ks res.1 res.2) := by
  refine fb_met (by decide +kernel) hI (Nat.le_of_ble_eq_true rfl) (fun p e s m below meth c ls X h hr hlk hl => ?_)
  have X : fb_X p m c cX6_weight 4 s _ RX6 g ks (fb_A g ks) := X
  have hl : lv_has ls 4 [(0, .ref (g.1 29)), (1, .int a1), (2, .int a2)] := hl
  have hx := X.1.1
  have hb := X.1.2.1
  unfold f_X6_weight at hf
  refine lv_aload_n hx hb dX6_weight_0 rfl (lv_at hl 0 rfl) ?_
  refine lv_iconst hx hb dX6_weight_1 ki_0 ?_
  obtain ⟨t1, et1, hf⟩ := nm_s hf
  refine pt_RX6_75 X h (hks 29 (by decide)) dX6_weight_2 (fun H locs h => ?_)
  have h := fb_H.nm et1 h
  refine lv_iload_n hx hb dX6_weight_5 rfl (lv_at hl 1 rfl) ?_
  refine lv_i2l hx hb dX6_weight_6 (v := a1.toInt64) rfl ?_
  refine lv_lconst hx hb dX6_weight_7 kl_0 ?_
  refine lv_aload_n hx hb dX6_weight_8 rfl (lv_at hl 0 rfl) ?_
  refine gt_RX6_7 X h (hks 29 (by decide)) dX6_weight_9 ?_
  refine lv_iconst hx hb dX6_weight_12 ki_1 ?_
  refine lv_isub hx hb dX6_weight_13 ?_
  refine lv_i2l hx hb dX6_weight_14 (v := ((t1.1 29 1) - (1 : Int32)).toInt64) rfl ?_
  obtain ⟨q2, hq2, hf⟩ := bd_s hf
  refine fb_ci X h (fb_runS (As := [.long (a1.toInt64), .long (0), .long (((t1.1 29 1) - (1 : Int32)).toInt64)]) (rest := []) X h (c_X6_in l X.2.2.1 (fun k hk => absurd hk List.not_mem_nil) (a1.toInt64) (0 : Int64) (((t1.1 29 1) - (1 : Int32)).toInt64) t1 hq2) mf_yX6_in lm_RX6_80 ⟨Nat.le_of_ble_eq_true rfl, Nat.le_of_ble_eq_true rfl⟩ ⟨Nat.le_refl _, Nat.le_refl _⟩ rfl hl.1 rfl (Nat.le_of_ble_eq_true rfl) dX6_weight_15) (fun H locs h => ?_)
  refine lv_if_ne hx hb dX6_weight_18 (tgt := 23) (by decide) (fun hc => ?_) (fun hc => ?_)
  · have hf := if_f hc hf
    refine lv_iload_n hx hb dX6_weight_23 rfl (lv_at hl 2 rfl) ?_
    refine lv_i2l hx hb dX6_weight_24 (v := a2.toInt64) rfl ?_
    refine lv_lconst hx hb dX6_weight_25 kl_1 ?_
    refine lv_ldc2 hx hb X.1.2.2.2.1 (X.1.2.2.2.2 _ lc_RX6_84) dX6_weight_26 ?_
    obtain ⟨q3, hq3, hf⟩ := bd_s hf
    refine fb_ci X h (fb_runS (As := [.long (a2.toInt64), .long (1), .long (9)]) (rest := []) X h (c_X6_in l X.2.2.1 (fun k hk => absurd hk List.not_mem_nil) (a2.toInt64) (1 : Int64) (9 : Int64) t1 hq3) mf_yX6_in lm_RX6_80 ⟨Nat.le_of_ble_eq_true rfl, Nat.le_of_ble_eq_true rfl⟩ ⟨Nat.le_refl _, Nat.le_refl _⟩ rfl hl.1 rfl (Nat.le_of_ble_eq_true rfl) dX6_weight_29) (fun H locs h => ?_)
    refine lv_if_ne hx hb dX6_weight_32 (tgt := 38) (by decide) (fun hc => ?_) (fun hc => ?_)
    · have hf := if_f hc hf
      refine lv_aload_n hx hb dX6_weight_38 rfl (lv_at hl 0 rfl) ?_
      refine gt_RX6_13 X h (hks 29 (by decide)) dX6_weight_39 ?_
      refine lv_iload_n hx hb dX6_weight_42 rfl (lv_at hl 1 rfl) ?_
      obtain ⟨hi0, hf⟩ := ck_s hf
      refine fb_iald X h (hks 30 (by decide)) rfl hi0 dX6_weight_43 ?_
      obtain ⟨x4, ex4, hf⟩ := nm_s hf
      refine fb_topi ex4 ?_
      refine lv_istore_n hx hb dX6_weight_44 rfl hl (by decide) (lv' := [(3, .int x4), (0, .ref (g.1 29)), (1, .int a1), (2, .int a2)]) rfl (fun ls hl => ?_)
      refine lv_aload_n hx hb dX6_weight_45 rfl (lv_at hl 1 rfl) ?_
      refine gt_RX6_13 X h (hks 29 (by decide)) dX6_weight_46 ?_
      refine lv_iload_n hx hb dX6_weight_49 rfl (lv_at hl 2 rfl) ?_
      refine lv_iload_n hx hb dX6_weight_50 rfl (lv_at hl 3 rfl) ?_
      obtain ⟨hi0, hf⟩ := ck_s hf
      obtain ⟨t5, et5, hf⟩ := nm_s hf
      refine fb_iast X h (hks 30 (by decide)) (fun _ => rfl) hi0 dX6_weight_51 (fun H locs h => ?_)
      have h := fb_H.nm et5 h
      refine lv_iload_n hx hb dX6_weight_52 rfl (lv_at hl 0 rfl) ?_
      have e9 := Option.some.inj hf
      subst e9
      exact fb_ir X h hr hlk dX6_weight_53
    · have hf := if_t hc hf
      refine lv_bipush hx hb dX6_weight_35 kb_m2 ?_
      have e9 := Option.some.inj hf
      subst e9
      exact fb_ir X h hr hlk dX6_weight_37
  · have hf := if_t hc hf
    refine lv_iconst hx hb dX6_weight_21 ki_m1 ?_
    have e9 := Option.some.inj hf
    subst e9
    exact fb_ir X h hr hlk dX6_weight_22
def f_X6_spring_L40 (v1 : Int32) (v2 : Int32) (s0 : Int64) (s1 : Int64) (σ : fb_S) : Option (Int32 × fb_S) :=
  (f_X6_in s0 s1 (99 : Int64)).bind fun q1 =>
  if q1 = 0 then (
    some ((-2 : Int32), σ)
  ) else (
    ck_ (fb_in v1 6) <|
    nm_ (σ.1 31 v1.toNatClampNeg) fun x2 =>
    ck_ (fb_in v1 6) <|
    nm_ (fb_up σ 31 (v1.toNatClampNeg) v2) fun t3 =>
    some (x2, t3)
  )
def f_X6_spring_L35 (v1 : Int32) (v2 : Int32) (s0 : Int64) (σ : fb_S) : Option (Int32 × fb_S) :=
  f_X6_spring_L40 v1 v2 s0 (0 : Int64) σ
def f_X6_spring (a1 : Int32) (a2 : Int32) (σ : fb_S) : Option (Int32 × fb_S) :=
  nm_ (fb_up σ 29 0 (0 : Int32)) fun t4 =>
  (f_X6_in (a1.toInt64) (0 : Int64) ((t4.1 29 1).toInt64)).bind fun q5 =>
  if q5 = 0 then (
    some ((-1 : Int32), t4)
  ) else (
    if a1 = 0 then (
      f_X6_spring_L35 a1 a2 (a2.toInt64) t4
    ) else (
      if a1 = (t4.1 29 1) then (
        f_X6_spring_L35 a1 a2 (a2.toInt64) t4
      ) else (
        f_X6_spring_L40 a1 a2 (a2.toInt64) (1 : Int64) t4
      )
    )
  )
set_option maxHeartbeats 4000000 in
set_option maxRecDepth 100000 in
theorem w_X6_spring_L40 (X : fb_X p m c cX6_spring 4 s args RX6 g ks (fb_A g ks)) (hks : ∀ k ∈ ([29, 31] : List Nat), k ∈ ks) (hr : meth.sig.returnType = (some .int)) (hlk : meth.locks = false)  {res : (Int32 × fb_S)} : ∀ (v1 : Int32) (v2 : Int32) (s0 : Int64) (s1 : Int64) (σ : fb_S) (H : Heap) (locs : List Loc) (ls : Array Slot), fb_H g ks (fb_A g ks) s.heap σ H locs → lv_has ls 4 [(0, .ref (g.1 29)), (1, .int v1), (2, .int v2)] → f_X6_spring_L40 v1 v2 s0 s1 σ = some res → W p l e (fb_R 1 25) s m args below meth c H locs 0 0 (MQ below (fb_Qi g ks res.1 res.2) args s 0 0 (fb_A g ks)) (F0 m 40 ls [.long s1, .long s0]) := by
  have hx := X.1.1
  have hb := X.1.2.1
  intro v1 v2 s0 s1 σ H locs ls h hl hf
  unfold f_X6_spring_L40 at hf
  refine lv_ldc2 hx hb X.1.2.2.2.1 (X.1.2.2.2.2 _ lc_RX6_86) dX6_spring_40 ?_
  obtain ⟨q1, hq1, hf⟩ := bd_s hf
  refine fb_ci X h (fb_runS (As := [.long s0, .long s1, .long (99)]) (rest := []) X h (c_X6_in l X.2.2.1 (fun k hk => absurd hk List.not_mem_nil) s0 s1 (99 : Int64) σ hq1) mf_yX6_in lm_RX6_80 ⟨Nat.le_of_ble_eq_true rfl, Nat.le_of_ble_eq_true rfl⟩ ⟨Nat.le_refl _, Nat.le_refl _⟩ rfl hl.1 rfl (Nat.le_of_ble_eq_true rfl) dX6_spring_43) (fun H locs h => ?_)
  refine lv_if_ne hx hb dX6_spring_46 (tgt := 52) (by decide) (fun hc => ?_) (fun hc => ?_)
  · have hf := if_f hc hf
    refine lv_aload_n hx hb dX6_spring_52 rfl (lv_at hl 0 rfl) ?_
    refine gt_RX6_17 X h (hks 29 (by decide)) dX6_spring_53 ?_
    refine lv_iload_n hx hb dX6_spring_56 rfl (lv_at hl 1 rfl) ?_
    obtain ⟨hi0, hf⟩ := ck_s hf
    refine fb_iald X h (hks 31 (by decide)) rfl hi0 dX6_spring_57 ?_
    obtain ⟨x2, ex2, hf⟩ := nm_s hf
    refine fb_topi ex2 ?_
    refine lv_istore_n hx hb dX6_spring_58 rfl hl (by decide) (lv' := [(3, .int x2), (0, .ref (g.1 29)), (1, .int v1), (2, .int v2)]) rfl (fun ls hl => ?_)
    refine lv_aload_n hx hb dX6_spring_59 rfl (lv_at hl 1 rfl) ?_
    refine gt_RX6_17 X h (hks 29 (by decide)) dX6_spring_60 ?_
    refine lv_iload_n hx hb dX6_spring_63 rfl (lv_at hl 2 rfl) ?_
    refine lv_iload_n hx hb dX6_spring_64 rfl (lv_at hl 3 rfl) ?_
    obtain ⟨hi0, hf⟩ := ck_s hf
    obtain ⟨t3, et3, hf⟩ := nm_s hf
    refine fb_iast X h (hks 31 (by decide)) (fun _ => rfl) hi0 dX6_spring_65 (fun H locs h => ?_)
    have h := fb_H.nm et3 h
    refine lv_iload_n hx hb dX6_spring_66 rfl (lv_at hl 0 rfl) ?_
    have e9 := Option.some.inj hf
    subst e9
    exact fb_ir X h hr hlk dX6_spring_67
  · have hf := if_t hc hf
    refine lv_bipush hx hb dX6_spring_49 kb_m2 ?_
    have e9 := Option.some.inj hf
    subst e9
    exact fb_ir X h hr hlk dX6_spring_51
set_option maxHeartbeats 4000000 in
set_option maxRecDepth 100000 in
theorem w_X6_spring_L35 (X : fb_X p m c cX6_spring 4 s args RX6 g ks (fb_A g ks)) (hks : ∀ k ∈ ([29, 31] : List Nat), k ∈ ks) (hr : meth.sig.returnType = (some .int)) (hlk : meth.locks = false)  {res : (Int32 × fb_S)} : ∀ (v1 : Int32) (v2 : Int32) (s0 : Int64) (σ : fb_S) (H : Heap) (locs : List Loc) (ls : Array Slot), fb_H g ks (fb_A g ks) s.heap σ H locs → lv_has ls 4 [(0, .ref (g.1 29)), (1, .int v1), (2, .int v2)] → f_X6_spring_L35 v1 v2 s0 σ = some res → W p l e (fb_R 1 25) s m args below meth c H locs 0 0 (MQ below (fb_Qi g ks res.1 res.2) args s 0 0 (fb_A g ks)) (F0 m 35 ls [.long s0]) := by
  have hx := X.1.1
  have hb := X.1.2.1
  intro v1 v2 s0 σ H locs ls h hl hf
  unfold f_X6_spring_L35 at hf
  refine lv_lconst hx hb dX6_spring_35 kl_0 ?_
  refine lv_goto hx hb dX6_spring_36 (tgt := 40) (by decide) ?_
  exact w_X6_spring_L40 X hks hr hlk  v1 v2 s0 (0 : Int64) σ _ _ _ h (lv_sub hl [0, 1, 2] rfl) hf
set_option maxHeartbeats 4000000 in
set_option maxRecDepth 100000 in
theorem c_X6_spring (l : Launch) {g : fb_G} {ks : List Nat} (hI : fb_I g ks) (hks : ∀ k ∈ ([29, 31] : List Nat), k ∈ ks) (a1 : Int32) (a2 : Int32) (σ : fb_S) {res : (Int32 × fb_S)} (hf : f_X6_spring a1 a2 σ = some res) : fb_M l yX6_spring cX6_spring 4 (some .int) 1 25 g ks [.ref (g.1 29), .int a1, .int a2] σ (fb_Qi g ks res.1 res.2) := by
  refine fb_met (by decide +kernel) hI (Nat.le_of_ble_eq_true rfl) (fun p e s m below meth c ls X h hr hlk hl => ?_)
  have X : fb_X p m c cX6_spring 4 s _ RX6 g ks (fb_A g ks) := X
  have hl : lv_has ls 4 [(0, .ref (g.1 29)), (1, .int a1), (2, .int a2)] := hl
  have hx := X.1.1
  have hb := X.1.2.1
  unfold f_X6_spring at hf
  refine lv_aload_n hx hb dX6_spring_0 rfl (lv_at hl 0 rfl) ?_
  refine lv_iconst hx hb dX6_spring_1 ki_0 ?_
  obtain ⟨t4, et4, hf⟩ := nm_s hf
  refine pt_RX6_75 X h (hks 29 (by decide)) dX6_spring_2 (fun H locs h => ?_)
  have h := fb_H.nm et4 h
  refine lv_iload_n hx hb dX6_spring_5 rfl (lv_at hl 1 rfl) ?_
  refine lv_i2l hx hb dX6_spring_6 (v := a1.toInt64) rfl ?_
  refine lv_lconst hx hb dX6_spring_7 kl_0 ?_
  refine lv_aload_n hx hb dX6_spring_8 rfl (lv_at hl 0 rfl) ?_
  refine gt_RX6_7 X h (hks 29 (by decide)) dX6_spring_9 ?_
  refine lv_i2l hx hb dX6_spring_12 (v := (t4.1 29 1).toInt64) rfl ?_
  obtain ⟨q5, hq5, hf⟩ := bd_s hf
  refine fb_ci X h (fb_runS (As := [.long (a1.toInt64), .long (0), .long ((t4.1 29 1).toInt64)]) (rest := []) X h (c_X6_in l X.2.2.1 (fun k hk => absurd hk List.not_mem_nil) (a1.toInt64) (0 : Int64) ((t4.1 29 1).toInt64) t4 hq5) mf_yX6_in lm_RX6_80 ⟨Nat.le_of_ble_eq_true rfl, Nat.le_of_ble_eq_true rfl⟩ ⟨Nat.le_refl _, Nat.le_refl _⟩ rfl hl.1 rfl (Nat.le_of_ble_eq_true rfl) dX6_spring_13) (fun H locs h => ?_)
  refine lv_if_ne hx hb dX6_spring_16 (tgt := 21) (by decide) (fun hc => ?_) (fun hc => ?_)
  · have hf := if_f hc hf
    refine lv_iload_n hx hb dX6_spring_21 rfl (lv_at hl 2 rfl) ?_
    refine lv_i2l hx hb dX6_spring_22 (v := a2.toInt64) rfl ?_
    refine lv_iload_n hx hb dX6_spring_23 rfl (lv_at hl 1 rfl) ?_
    refine lv_if_eq hx hb dX6_spring_24 (tgt := 35) (by decide) (fun hc => ?_) (fun hc => ?_)
    · have hf := if_t hc hf
      exact w_X6_spring_L35 X hks hr hlk  a1 a2 (a2.toInt64) t4 _ _ _ h (lv_sub hl [0, 1, 2] rfl) hf
    · have hf := if_f hc hf
      refine lv_iload_n hx hb dX6_spring_27 rfl (lv_at hl 1 rfl) ?_
      refine lv_aload_n hx hb dX6_spring_28 rfl (lv_at hl 0 rfl) ?_
      refine gt_RX6_7 X h (hks 29 (by decide)) dX6_spring_29 ?_
      refine lv_icmp_ne hx hb dX6_spring_32 (tgt := 39) (by decide) (fun hc => ?_) (fun hc => ?_)
      · have hf := if_f hc hf
        refine lv_lconst hx hb dX6_spring_39 kl_1 ?_
        exact w_X6_spring_L40 X hks hr hlk  a1 a2 (a2.toInt64) (1 : Int64) t4 _ _ _ h (lv_sub hl [0, 1, 2] rfl) hf
      · have hf := if_t hc hf
        exact w_X6_spring_L35 X hks hr hlk  a1 a2 (a2.toInt64) t4 _ _ _ h (lv_sub hl [0, 1, 2] rfl) hf
  · have hf := if_t hc hf
    refine lv_iconst hx hb dX6_spring_19 ki_m1 ?_
    have e9 := Option.some.inj hf
    subst e9
    exact fb_ir X h hr hlk dX6_spring_20
def f_X6_row_L135 (N : Nat) (σ : fb_S) (k14 : Int32 → Int32 → Int64 → Int64 → Int64 → Int64 → Int32 → Option Int64) (v1 : Int32) (v2 : Int32) (v3 : Int64) (v5 : Int64) (v11 : Int32) (v16 : Int64) (s0 : Int64) (s1 : Int64) : Option Int64 :=
  nm_ (s0 + s1) fun x1 =>
  k14 v1 v2 v3 v5 x1 v16 (v11 + 1)
def f_X6_row_L118 (N : Nat) (σ : fb_S) (k14 : Int32 → Int32 → Int64 → Int64 → Int64 → Int64 → Int32 → Option Int64) (v1 : Int32) (v2 : Int32) (v3 : Int64) (v5 : Int64) (v7 : Int64) (v9 : Int64) (v11 : Int32) (s0 : Int64) : Option Int64 :=
  if (lg_cmp s0 v9) = 0 then (
    f_X6_row_L135 N σ k14 v1 v2 v3 v5 v11 s0 v7 (0 : Int64)
  ) else (
    f_X6_row_L135 N σ k14 v1 v2 v3 v5 v11 s0 v7 (1 : Int64)
  )
def f_X6_row_L40 (N : Nat) (σ : fb_S) (k14 : Int32 → Int32 → Int64 → Int64 → Int64 → Int64 → Int32 → Option Int64) (v1 : Int32) (v2 : Int32) (v3 : Int64) (v5 : Int64) (v7 : Int64) (v9 : Int64) (v11 : Int32) (s0 : Int64) : Option Int64 :=
  ck_ (fb_in v11 6) <|
  ck_ (fb_in (v11 + (1 : Int32)) 6) <|
  ck_ (fb_in v11 5) <|
  nm_ ((((((σ.1 31 v11.toNatClampNeg) + (σ.1 31 (v11 + (1 : Int32)).toNatClampNeg)).toInt64) - ((v1.toInt64) * ((σ.1 30 v11.toNatClampNeg).toInt64))) * v5) - ((s0 * s0) * v3)) fun x2 =>
  if (lg_cmp x2 (0 : Int64)) ≤ 0 then (
    if 0 ≤ (lg_cmp x2 (0 : Int64)) then (
      f_X6_row_L118 N σ k14 v1 v2 v5 x2 v7 v9 v11 v9
    ) else (
      f_X6_row_L118 N σ k14 v1 v2 v5 x2 v7 v9 v11 (-1 : Int64)
    )
  ) else (
    f_X6_row_L118 N σ k14 v1 v2 v5 x2 v7 v9 v11 (1 : Int64)
  )
def f_X6_row_L14 (N : Nat) (σ : fb_S) : Nat → Int32 → Int32 → Int64 → Int64 → Int64 → Int64 → Int32 → Option Int64
  | 0, _, _, _, _, _, _, _ => none
  | n + 1, v1, v2, v3, v5, v7, v9, v11 => 
    if (σ.1 29 1) ≤ v11 then (
      if v2 = 0 then (
        some v7
      ) else (
        some v5
      )
    ) else (
      if v11 = 0 then (
        f_X6_row_L40 N σ (f_X6_row_L14 N σ n) v1 v2 v3 v5 v7 v9 v11 (0 : Int64)
      ) else (
        ck_ (fb_in v11 6) <|
        f_X6_row_L40 N σ (f_X6_row_L14 N σ n) v1 v2 v3 v5 v7 v9 v11 ((σ.1 31 v11.toNatClampNeg).toInt64)
      )
    )
def f_X6_row (N : Nat) (a1 : Int32) (a2 : Int32) (σ : fb_S) : Option Int64 :=
  f_X6_row_L14 N σ N a1 a2 (0 : Int64) (1 : Int64) (0 : Int64) (1 : Int64) (0 : Int32)
set_option maxHeartbeats 4000000 in
set_option maxRecDepth 100000 in
theorem w_X6_row_L135 (X : fb_X p m c cX6_row 18 s args RX6 g ks (fb_A g ks)) (hks : ∀ k ∈ ([29, 30, 31] : List Nat), k ∈ ks) (hr : meth.sig.returnType = (some .long)) (hlk : meth.locks = false) (N : Nat) (σ : fb_S) (k14 : Int32 → Int32 → Int64 → Int64 → Int64 → Int64 → Int32 → Option Int64)  {res : Int64} (hk14 : ∀ (v1 : Int32) (v2 : Int32) (v3 : Int64) (v5 : Int64) (v7 : Int64) (v9 : Int64) (v11 : Int32) (H : Heap) (locs : List Loc) (ls : Array Slot), fb_H g ks (fb_A g ks) s.heap σ H locs → lv_has ls 18 [(0, .ref (g.1 29)), (1, .int v1), (2, .int v2), (3, .long v3), (5, .long v5), (7, .long v7), (9, .long v9), (11, .int v11)] → k14 v1 v2 v3 v5 v7 v9 v11 = some res → W p l e (fb_R 0 0) s m args below meth c H locs 0 0 (MQ below (fb_Ql g ks res σ) args s 0 0 (fb_A g ks)) (F0 m 14 ls [])) : ∀ (v1 : Int32) (v2 : Int32) (v3 : Int64) (v5 : Int64) (v11 : Int32) (v16 : Int64) (s0 : Int64) (s1 : Int64) (H : Heap) (locs : List Loc) (ls : Array Slot), fb_H g ks (fb_A g ks) s.heap σ H locs → lv_has ls 18 [(0, .ref (g.1 29)), (1, .int v1), (2, .int v2), (3, .long v3), (5, .long v5), (11, .int v11), (16, .long v16)] → f_X6_row_L135 N σ k14 v1 v2 v3 v5 v11 v16 s0 s1 = some res → W p l e (fb_R 0 0) s m args below meth c H locs 0 0 (MQ below (fb_Ql g ks res σ) args s 0 0 (fb_A g ks)) (F0 m 135 ls [.long s1, .long s0]) := by
  have hx := X.1.1
  have hb := X.1.2.1
  intro v1 v2 v3 v5 v11 v16 s0 s1 H locs ls h hl hf
  unfold f_X6_row_L135 at hf
  refine lv_ladd hx hb dX6_row_135 ?_
  obtain ⟨x1, ex1, hf⟩ := nm_s hf
  refine fb_topl ex1 ?_
  refine lv_lstore hx hb dX6_row_136 hl (by decide) (lv' := [(7, .long x1), (0, .ref (g.1 29)), (1, .int v1), (2, .int v2), (3, .long v3), (5, .long v5), (11, .int v11), (16, .long v16)]) rfl (fun ls hl => ?_)
  refine lv_lload hx hb dX6_row_138 (lv_at hl 7 rfl) ?_
  refine lv_lstore hx hb dX6_row_140 hl (by decide) (lv' := [(9, .long v16), (7, .long x1), (0, .ref (g.1 29)), (1, .int v1), (2, .int v2), (3, .long v3), (5, .long v5), (11, .int v11), (16, .long v16)]) rfl (fun ls hl => ?_)
  refine lv_iinc hx hb dX6_row_142 hl (k := 7) rfl (kinc_1 _) (by decide) (lv' := [(11, .int (v11 + 1)), (9, .long v16), (7, .long x1), (0, .ref (g.1 29)), (1, .int v1), (2, .int v2), (3, .long v3), (5, .long v5), (16, .long v16)]) rfl (fun ls hl => ?_)
  refine lv_goto hx hb dX6_row_145 (tgt := 14) (by decide) ?_
  exact hk14 v1 v2 v3 v5 x1 v16 (v11 + 1) _ _ _ h (lv_sub hl [3, 4, 5, 6, 7, 2, 1, 0] rfl) hf
set_option maxHeartbeats 4000000 in
set_option maxRecDepth 100000 in
theorem w_X6_row_L118 (X : fb_X p m c cX6_row 18 s args RX6 g ks (fb_A g ks)) (hks : ∀ k ∈ ([29, 30, 31] : List Nat), k ∈ ks) (hr : meth.sig.returnType = (some .long)) (hlk : meth.locks = false) (N : Nat) (σ : fb_S) (k14 : Int32 → Int32 → Int64 → Int64 → Int64 → Int64 → Int32 → Option Int64)  {res : Int64} (hk14 : ∀ (v1 : Int32) (v2 : Int32) (v3 : Int64) (v5 : Int64) (v7 : Int64) (v9 : Int64) (v11 : Int32) (H : Heap) (locs : List Loc) (ls : Array Slot), fb_H g ks (fb_A g ks) s.heap σ H locs → lv_has ls 18 [(0, .ref (g.1 29)), (1, .int v1), (2, .int v2), (3, .long v3), (5, .long v5), (7, .long v7), (9, .long v9), (11, .int v11)] → k14 v1 v2 v3 v5 v7 v9 v11 = some res → W p l e (fb_R 0 0) s m args below meth c H locs 0 0 (MQ below (fb_Ql g ks res σ) args s 0 0 (fb_A g ks)) (F0 m 14 ls [])) : ∀ (v1 : Int32) (v2 : Int32) (v3 : Int64) (v5 : Int64) (v7 : Int64) (v9 : Int64) (v11 : Int32) (s0 : Int64) (H : Heap) (locs : List Loc) (ls : Array Slot), fb_H g ks (fb_A g ks) s.heap σ H locs → lv_has ls 18 [(0, .ref (g.1 29)), (1, .int v1), (2, .int v2), (3, .long v3), (5, .long v5), (7, .long v7), (9, .long v9), (11, .int v11)] → f_X6_row_L118 N σ k14 v1 v2 v3 v5 v7 v9 v11 s0 = some res → W p l e (fb_R 0 0) s m args below meth c H locs 0 0 (MQ below (fb_Ql g ks res σ) args s 0 0 (fb_A g ks)) (F0 m 118 ls [.long s0]) := by
  have hx := X.1.1
  have hb := X.1.2.1
  intro v1 v2 v3 v5 v7 v9 v11 s0 H locs ls h hl hf
  unfold f_X6_row_L118 at hf
  refine lv_lstore hx hb dX6_row_118 hl (by decide) (lv' := [(16, .long s0), (0, .ref (g.1 29)), (1, .int v1), (2, .int v2), (3, .long v3), (5, .long v5), (7, .long v7), (9, .long v9), (11, .int v11)]) rfl (fun ls hl => ?_)
  refine lv_lload hx hb dX6_row_120 (lv_at hl 6 rfl) ?_
  refine lv_lload hx hb dX6_row_122 (lv_at hl 0 rfl) ?_
  refine lv_lload hx hb dX6_row_124 (lv_at hl 7 rfl) ?_
  refine W.lcmp hx hb dX6_row_126 ?_
  refine lv_if_ne hx hb dX6_row_127 (tgt := 134) (by decide) (fun hc => ?_) (fun hc => ?_)
  · have hf := if_f hc hf
    refine lv_lconst hx hb dX6_row_134 kl_1 ?_
    exact w_X6_row_L135 X hks hr hlk N σ k14 hk14 v1 v2 v3 v5 v11 s0 v7 (1 : Int64) _ _ _ h (lv_sub hl [1, 2, 3, 4, 5, 8, 0] rfl) hf
  · have hf := if_t hc hf
    refine lv_lconst hx hb dX6_row_130 kl_0 ?_
    refine lv_goto hx hb dX6_row_131 (tgt := 135) (by decide) ?_
    exact w_X6_row_L135 X hks hr hlk N σ k14 hk14 v1 v2 v3 v5 v11 s0 v7 (0 : Int64) _ _ _ h (lv_sub hl [1, 2, 3, 4, 5, 8, 0] rfl) hf
set_option maxHeartbeats 4000000 in
set_option maxRecDepth 100000 in
theorem w_X6_row_L40 (X : fb_X p m c cX6_row 18 s args RX6 g ks (fb_A g ks)) (hks : ∀ k ∈ ([29, 30, 31] : List Nat), k ∈ ks) (hr : meth.sig.returnType = (some .long)) (hlk : meth.locks = false) (N : Nat) (σ : fb_S) (k14 : Int32 → Int32 → Int64 → Int64 → Int64 → Int64 → Int32 → Option Int64)  {res : Int64} (hk14 : ∀ (v1 : Int32) (v2 : Int32) (v3 : Int64) (v5 : Int64) (v7 : Int64) (v9 : Int64) (v11 : Int32) (H : Heap) (locs : List Loc) (ls : Array Slot), fb_H g ks (fb_A g ks) s.heap σ H locs → lv_has ls 18 [(0, .ref (g.1 29)), (1, .int v1), (2, .int v2), (3, .long v3), (5, .long v5), (7, .long v7), (9, .long v9), (11, .int v11)] → k14 v1 v2 v3 v5 v7 v9 v11 = some res → W p l e (fb_R 0 0) s m args below meth c H locs 0 0 (MQ below (fb_Ql g ks res σ) args s 0 0 (fb_A g ks)) (F0 m 14 ls [])) : ∀ (v1 : Int32) (v2 : Int32) (v3 : Int64) (v5 : Int64) (v7 : Int64) (v9 : Int64) (v11 : Int32) (s0 : Int64) (H : Heap) (locs : List Loc) (ls : Array Slot), fb_H g ks (fb_A g ks) s.heap σ H locs → lv_has ls 18 [(0, .ref (g.1 29)), (1, .int v1), (2, .int v2), (3, .long v3), (5, .long v5), (7, .long v7), (9, .long v9), (11, .int v11)] → f_X6_row_L40 N σ k14 v1 v2 v3 v5 v7 v9 v11 s0 = some res → W p l e (fb_R 0 0) s m args below meth c H locs 0 0 (MQ below (fb_Ql g ks res σ) args s 0 0 (fb_A g ks)) (F0 m 40 ls [.long s0]) := by
  have hx := X.1.1
  have hb := X.1.2.1
  intro v1 v2 v3 v5 v7 v9 v11 s0 H locs ls h hl hf
  unfold f_X6_row_L40 at hf
  refine lv_lstore hx hb dX6_row_40 hl (by decide) (lv' := [(12, .long s0), (0, .ref (g.1 29)), (1, .int v1), (2, .int v2), (3, .long v3), (5, .long v5), (7, .long v7), (9, .long v9), (11, .int v11)]) rfl (fun ls hl => ?_)
  refine lv_aload_n hx hb dX6_row_42 rfl (lv_at hl 1 rfl) ?_
  refine gt_RX6_17 X h (hks 29 (by decide)) dX6_row_43 ?_
  refine lv_iload hx hb dX6_row_46 (lv_at hl 8 rfl) ?_
  obtain ⟨hi0, hf⟩ := ck_s hf
  refine fb_iald X h (hks 31 (by decide)) rfl hi0 dX6_row_48 ?_
  refine lv_aload_n hx hb dX6_row_49 rfl (lv_at hl 1 rfl) ?_
  refine gt_RX6_17 X h (hks 29 (by decide)) dX6_row_50 ?_
  refine lv_iload hx hb dX6_row_53 (lv_at hl 8 rfl) ?_
  refine lv_iconst hx hb dX6_row_55 ki_1 ?_
  refine lv_iadd hx hb dX6_row_56 ?_
  obtain ⟨hi0, hf⟩ := ck_s hf
  refine fb_iald X h (hks 31 (by decide)) rfl hi0 dX6_row_57 ?_
  refine lv_iadd hx hb dX6_row_58 ?_
  refine lv_i2l hx hb dX6_row_59 (v := ((σ.1 31 v11.toNatClampNeg) + (σ.1 31 (v11 + (1 : Int32)).toNatClampNeg)).toInt64) rfl ?_
  refine lv_iload_n hx hb dX6_row_60 rfl (lv_at hl 2 rfl) ?_
  refine lv_i2l hx hb dX6_row_61 (v := v1.toInt64) rfl ?_
  refine lv_aload_n hx hb dX6_row_62 rfl (lv_at hl 1 rfl) ?_
  refine gt_RX6_13 X h (hks 29 (by decide)) dX6_row_63 ?_
  refine lv_iload hx hb dX6_row_66 (lv_at hl 8 rfl) ?_
  obtain ⟨hi0, hf⟩ := ck_s hf
  refine fb_iald X h (hks 30 (by decide)) rfl hi0 dX6_row_68 ?_
  refine lv_i2l hx hb dX6_row_69 (v := (σ.1 30 v11.toNatClampNeg).toInt64) rfl ?_
  refine lv_lmul hx hb dX6_row_70 ?_
  refine lv_lsub hx hb dX6_row_71 ?_
  refine lv_lload hx hb dX6_row_72 (lv_at hl 5 rfl) ?_
  refine lv_lmul hx hb dX6_row_74 ?_
  refine lv_lload hx hb dX6_row_75 (lv_at hl 0 rfl) ?_
  refine lv_lload hx hb dX6_row_77 (lv_at hl 0 rfl) ?_
  refine lv_lmul hx hb dX6_row_79 ?_
  refine lv_lload_n hx hb dX6_row_80 rfl (lv_at hl 4 rfl) ?_
  refine lv_lmul hx hb dX6_row_81 ?_
  refine lv_lsub hx hb dX6_row_82 ?_
  obtain ⟨x2, ex2, hf⟩ := nm_s hf
  refine fb_topl ex2 ?_
  refine lv_lstore hx hb dX6_row_83 hl (by decide) (lv' := [(14, .long x2), (12, .long s0), (0, .ref (g.1 29)), (1, .int v1), (2, .int v2), (3, .long v3), (5, .long v5), (7, .long v7), (9, .long v9), (11, .int v11)]) rfl (fun ls hl => ?_)
  refine lv_lload hx hb dX6_row_85 (lv_at hl 6 rfl) ?_
  refine lv_lstore_n hx hb dX6_row_87 rfl hl (by decide) (lv' := [(3, .long v5), (14, .long x2), (12, .long s0), (0, .ref (g.1 29)), (1, .int v1), (2, .int v2), (5, .long v5), (7, .long v7), (9, .long v9), (11, .int v11)]) rfl (fun ls hl => ?_)
  refine lv_lload hx hb dX6_row_88 (lv_at hl 1 rfl) ?_
  refine lv_lstore hx hb dX6_row_90 hl (by decide) (lv' := [(5, .long x2), (3, .long v5), (14, .long x2), (12, .long s0), (0, .ref (g.1 29)), (1, .int v1), (2, .int v2), (7, .long v7), (9, .long v9), (11, .int v11)]) rfl (fun ls hl => ?_)
  refine lv_lload hx hb dX6_row_92 (lv_at hl 0 rfl) ?_
  refine lv_lconst hx hb dX6_row_94 kl_0 ?_
  refine W.lcmp hx hb dX6_row_95 ?_
  refine lv_if_le hx hb dX6_row_96 (tgt := 103) (by decide) (fun hc => ?_) (fun hc => ?_)
  · have hf := if_t hc hf
    refine lv_lload hx hb dX6_row_103 (lv_at hl 0 rfl) ?_
    refine lv_lconst hx hb dX6_row_105 kl_0 ?_
    refine W.lcmp hx hb dX6_row_106 ?_
    refine lv_if_ge hx hb dX6_row_107 (tgt := 116) (by decide) (fun hc => ?_) (fun hc => ?_)
    · have hf := if_t hc hf
      refine lv_lload hx hb dX6_row_116 (lv_at hl 8 rfl) ?_
      exact w_X6_row_L118 X hks hr hlk N σ k14 hk14 v1 v2 v5 x2 v7 v9 v11 v9 _ _ _ h (lv_sub hl [4, 5, 6, 1, 0, 7, 8, 9] rfl) hf
    · have hf := if_f hc hf
      refine lv_ldc2 hx hb X.1.2.2.2.1 (X.1.2.2.2.2 _ lc_RX6_88) dX6_row_110 ?_
      refine lv_goto hx hb dX6_row_113 (tgt := 118) (by decide) ?_
      exact w_X6_row_L118 X hks hr hlk N σ k14 hk14 v1 v2 v5 x2 v7 v9 v11 (-1 : Int64) _ _ _ h (lv_sub hl [4, 5, 6, 1, 0, 7, 8, 9] rfl) hf
  · have hf := if_f hc hf
    refine lv_lconst hx hb dX6_row_99 kl_1 ?_
    refine lv_goto hx hb dX6_row_100 (tgt := 118) (by decide) ?_
    exact w_X6_row_L118 X hks hr hlk N σ k14 hk14 v1 v2 v5 x2 v7 v9 v11 (1 : Int64) _ _ _ h (lv_sub hl [4, 5, 6, 1, 0, 7, 8, 9] rfl) hf
set_option maxHeartbeats 4000000 in
set_option maxRecDepth 100000 in
theorem w_X6_row_L14 (X : fb_X p m c cX6_row 18 s args RX6 g ks (fb_A g ks)) (hks : ∀ k ∈ ([29, 30, 31] : List Nat), k ∈ ks) (hr : meth.sig.returnType = (some .long)) (hlk : meth.locks = false) (N : Nat) (σ : fb_S)  {res : Int64} : ∀ (n : Nat) (v1 : Int32) (v2 : Int32) (v3 : Int64) (v5 : Int64) (v7 : Int64) (v9 : Int64) (v11 : Int32) (H : Heap) (locs : List Loc) (ls : Array Slot), fb_H g ks (fb_A g ks) s.heap σ H locs → lv_has ls 18 [(0, .ref (g.1 29)), (1, .int v1), (2, .int v2), (3, .long v3), (5, .long v5), (7, .long v7), (9, .long v9), (11, .int v11)] → f_X6_row_L14 N σ n v1 v2 v3 v5 v7 v9 v11 = some res → W p l e (fb_R 0 0) s m args below meth c H locs 0 0 (MQ below (fb_Ql g ks res σ) args s 0 0 (fb_A g ks)) (F0 m 14 ls []) := by
  have hx := X.1.1
  have hb := X.1.2.1
  intro n
  induction n with
  | zero => intro v1 v2 v3 v5 v7 v9 v11 H locs ls h hl hf; cases hf
  | succ n ih =>
    intro v1 v2 v3 v5 v7 v9 v11 H locs ls h hl hf
    unfold f_X6_row_L14 at hf
    refine lv_iload hx hb dX6_row_14 (lv_at hl 7 rfl) ?_
    refine lv_aload_n hx hb dX6_row_16 rfl (lv_at hl 0 rfl) ?_
    refine gt_RX6_7 X h (hks 29 (by decide)) dX6_row_17 ?_
    refine lv_icmp_ge hx hb dX6_row_20 (tgt := 148) (by decide) (fun hc => ?_) (fun hc => ?_)
    · have hf := if_t hc hf
      refine lv_iload_n hx hb dX6_row_148 rfl (lv_at hl 2 rfl) ?_
      refine lv_if_eq hx hb dX6_row_149 (tgt := 157) (by decide) (fun hc => ?_) (fun hc => ?_)
      · have hf := if_t hc hf
        refine lv_lload hx hb dX6_row_157 (lv_at hl 5 rfl) ?_
        have e9 := Option.some.inj hf
        subst e9
        exact fb_lr X h hr hlk dX6_row_159
      · have hf := if_f hc hf
        refine lv_lload hx hb dX6_row_152 (lv_at hl 4 rfl) ?_
        refine lv_goto hx hb dX6_row_154 (tgt := 159) (by decide) ?_
        have e9 := Option.some.inj hf
        subst e9
        exact fb_lr X h hr hlk dX6_row_159
    · have hf := if_f hc hf
      refine lv_iload hx hb dX6_row_23 (lv_at hl 7 rfl) ?_
      refine lv_if_ne hx hb dX6_row_25 (tgt := 32) (by decide) (fun hc => ?_) (fun hc => ?_)
      · have hf := if_f hc hf
        refine lv_aload_n hx hb dX6_row_32 rfl (lv_at hl 0 rfl) ?_
        refine gt_RX6_17 X h (hks 29 (by decide)) dX6_row_33 ?_
        refine lv_iload hx hb dX6_row_36 (lv_at hl 7 rfl) ?_
        obtain ⟨hi0, hf⟩ := ck_s hf
        refine fb_iald X h (hks 31 (by decide)) rfl hi0 dX6_row_38 ?_
        refine lv_i2l hx hb dX6_row_39 (v := (σ.1 31 v11.toNatClampNeg).toInt64) rfl ?_
        exact w_X6_row_L40 X hks hr hlk N σ (f_X6_row_L14 N σ n) ih v1 v2 v3 v5 v7 v9 v11 ((σ.1 31 v11.toNatClampNeg).toInt64) _ _ _ h (lv_sub hl [0, 1, 2, 3, 4, 5, 6, 7] rfl) hf
      · have hf := if_t hc hf
        refine lv_lconst hx hb dX6_row_28 kl_0 ?_
        refine lv_goto hx hb dX6_row_29 (tgt := 40) (by decide) ?_
        exact w_X6_row_L40 X hks hr hlk N σ (f_X6_row_L14 N σ n) ih v1 v2 v3 v5 v7 v9 v11 (0 : Int64) _ _ _ h (lv_sub hl [0, 1, 2, 3, 4, 5, 6, 7] rfl) hf
set_option maxHeartbeats 4000000 in
set_option maxRecDepth 100000 in
theorem c_X6_row (l : Launch) {g : fb_G} {ks : List Nat} (hI : fb_I g ks) (hks : ∀ k ∈ ([29, 30, 31] : List Nat), k ∈ ks) (N : Nat) (a1 : Int32) (a2 : Int32) (σ : fb_S) {res : Int64} (hf : f_X6_row N a1 a2 σ = some res) : fb_M l yX6_row cX6_row 18 (some .long) 0 0 g ks [.ref (g.1 29), .int a1, .int a2] σ (fb_Ql g ks res σ) := by
  refine fb_met (by decide +kernel) hI (Nat.le_of_ble_eq_true rfl) (fun p e s m below meth c ls X h hr hlk hl => ?_)
  have X : fb_X p m c cX6_row 18 s _ RX6 g ks (fb_A g ks) := X
  have hl : lv_has ls 18 [(0, .ref (g.1 29)), (1, .int a1), (2, .int a2)] := hl
  have hx := X.1.1
  have hb := X.1.2.1
  unfold f_X6_row at hf
  refine lv_lconst hx hb dX6_row_0 kl_0 ?_
  refine lv_lstore_n hx hb dX6_row_1 rfl hl (by decide) (lv' := [(3, .long (0)), (0, .ref (g.1 29)), (1, .int a1), (2, .int a2)]) rfl (fun ls hl => ?_)
  refine lv_lconst hx hb dX6_row_2 kl_1 ?_
  refine lv_lstore hx hb dX6_row_3 hl (by decide) (lv' := [(5, .long (1)), (3, .long (0)), (0, .ref (g.1 29)), (1, .int a1), (2, .int a2)]) rfl (fun ls hl => ?_)
  refine lv_lconst hx hb dX6_row_5 kl_0 ?_
  refine lv_lstore hx hb dX6_row_6 hl (by decide) (lv' := [(7, .long (0)), (5, .long (1)), (3, .long (0)), (0, .ref (g.1 29)), (1, .int a1), (2, .int a2)]) rfl (fun ls hl => ?_)
  refine lv_lconst hx hb dX6_row_8 kl_1 ?_
  refine lv_lstore hx hb dX6_row_9 hl (by decide) (lv' := [(9, .long (1)), (7, .long (0)), (5, .long (1)), (3, .long (0)), (0, .ref (g.1 29)), (1, .int a1), (2, .int a2)]) rfl (fun ls hl => ?_)
  refine lv_iconst hx hb dX6_row_11 ki_0 ?_
  refine lv_istore hx hb dX6_row_12 hl (by decide) (lv' := [(11, .int (0)), (9, .long (1)), (7, .long (0)), (5, .long (1)), (3, .long (0)), (0, .ref (g.1 29)), (1, .int a1), (2, .int a2)]) rfl (fun ls hl => ?_)
  exact w_X6_row_L14 X hks hr hlk N σ N a1 a2 (0 : Int64) (1 : Int64) (0 : Int64) (1 : Int64) (0 : Int32) _ _ _ h (lv_sub hl [5, 6, 7, 4, 3, 2, 1, 0] rfl) hf
def f_X6_below (N : Nat) (a1 : Int32) (σ : fb_S) : Option (Int32 × fb_S) :=
  nm_ (fb_up σ 29 0 (0 : Int32)) fun t1 =>
  (f_X6_in (a1.toInt64) (0 : Int64) (400 : Int64)).bind fun q2 =>
  if q2 = 0 then (
    some ((-2 : Int32), t1)
  ) else (
    (f_X6_row N a1 (0 : Int32) t1).bind fun q3 =>
    some (q3.toInt32, t1)
  )
set_option maxHeartbeats 4000000 in
set_option maxRecDepth 100000 in
theorem c_X6_below (l : Launch) {g : fb_G} {ks : List Nat} (hI : fb_I g ks) (hks : ∀ k ∈ ([29, 30, 31] : List Nat), k ∈ ks) (N : Nat) (a1 : Int32) (σ : fb_S) {res : (Int32 × fb_S)} (hf : f_X6_below N a1 σ = some res) : fb_M l yX6_below cX6_below 2 (some .int) 1 37 g ks [.ref (g.1 29), .int a1] σ (fb_Qi g ks res.1 res.2) := by
  refine fb_met (by decide +kernel) hI (Nat.le_of_ble_eq_true rfl) (fun p e s m below meth c ls X h hr hlk hl => ?_)
  have X : fb_X p m c cX6_below 2 s _ RX6 g ks (fb_A g ks) := X
  have hl : lv_has ls 2 [(0, .ref (g.1 29)), (1, .int a1)] := hl
  have hx := X.1.1
  have hb := X.1.2.1
  unfold f_X6_below at hf
  refine lv_aload_n hx hb dX6_below_0 rfl (lv_at hl 0 rfl) ?_
  refine lv_iconst hx hb dX6_below_1 ki_0 ?_
  obtain ⟨t1, et1, hf⟩ := nm_s hf
  refine pt_RX6_75 X h (hks 29 (by decide)) dX6_below_2 (fun H locs h => ?_)
  have h := fb_H.nm et1 h
  refine lv_iload_n hx hb dX6_below_5 rfl (lv_at hl 1 rfl) ?_
  refine lv_i2l hx hb dX6_below_6 (v := a1.toInt64) rfl ?_
  refine lv_lconst hx hb dX6_below_7 kl_0 ?_
  refine lv_ldc2 hx hb X.1.2.2.2.1 (X.1.2.2.2.2 _ lc_RX6_90) dX6_below_8 ?_
  obtain ⟨q2, hq2, hf⟩ := bd_s hf
  refine fb_ci X h (fb_runS (As := [.long (a1.toInt64), .long (0), .long (400)]) (rest := []) X h (c_X6_in l X.2.2.1 (fun k hk => absurd hk List.not_mem_nil) (a1.toInt64) (0 : Int64) (400 : Int64) t1 hq2) mf_yX6_in lm_RX6_80 ⟨Nat.le_of_ble_eq_true rfl, Nat.le_of_ble_eq_true rfl⟩ ⟨Nat.le_refl _, Nat.le_refl _⟩ rfl hl.1 rfl (Nat.le_of_ble_eq_true rfl) dX6_below_11) (fun H locs h => ?_)
  refine lv_if_eq hx hb dX6_below_14 (tgt := 27) (by decide) (fun hc => ?_) (fun hc => ?_)
  · have hf := if_t hc hf
    refine lv_bipush hx hb dX6_below_27 kb_m2 ?_
    have e9 := Option.some.inj hf
    subst e9
    exact fb_ir X h hr hlk dX6_below_29
  · have hf := if_f hc hf
    refine lv_aload_n hx hb dX6_below_17 rfl (lv_at hl 0 rfl) ?_
    refine lv_iload_n hx hb dX6_below_18 rfl (lv_at hl 1 rfl) ?_
    refine lv_iconst hx hb dX6_below_19 ki_0 ?_
    obtain ⟨q3, hq3, hf⟩ := bd_s hf
    refine fb_cl' X h (fb_runV (As := [.int a1, .int (0)]) (rest := []) (k := 29) X h (c_X6_row l X.2.2.1 (fun k hk => hks k ((by decide : ∀ k ∈ ([29, 30, 31] : List Nat), k ∈ ([29, 30, 31] : List Nat)) k hk)) N a1 (0 : Int32) t1 hq3) mf_yX6_row lm_RX6_92 (hks 29 (by decide)) rfl rfl ⟨Nat.le_of_ble_eq_true rfl, Nat.le_of_ble_eq_true rfl⟩ ⟨Nat.le_refl _, Nat.le_refl _⟩ rfl hl.1 rfl (Nat.le_of_ble_eq_true rfl) dX6_below_20) (fun H locs h => ?_)
    refine lv_l2i hx hb dX6_below_23 (v := q3.toInt32) rfl ?_
    refine lv_goto hx hb dX6_below_24 (tgt := 29) (by decide) ?_
    have e9 := Option.some.inj hf
    subst e9
    exact fb_ir X h hr hlk dX6_below_29
def f_X6_tone_L25 (N : Nat) : Nat → Int32 → Int32 → fb_S → Option (Int32 × fb_S)
  | 0, _, _, _ => none
  | n + 1, v1, v2, σ => 
    if (400 : Int32) ≤ v2 then (
      some (v2, σ)
    ) else (
      (f_X6_row N (v2 + (1 : Int32)) (0 : Int32) σ).bind fun q1 =>
      if 0 < (lg_cmp q1 (v1.toInt64)) then (
        some (v2, σ)
      ) else (
        f_X6_tone_L25 N n v1 (v2 + 1) σ
      )
    )
def f_X6_tone (N : Nat) (a1 : Int32) (σ : fb_S) : Option (Int32 × fb_S) :=
  nm_ (fb_up σ 29 0 (0 : Int32)) fun t2 =>
  (f_X6_in (a1.toInt64) (0 : Int64) (((t2.1 29 1) - (1 : Int32)).toInt64)).bind fun q3 =>
  if q3 = 0 then (
    some ((-1 : Int32), t2)
  ) else (
    f_X6_tone_L25 N N a1 (0 : Int32) t2
  )
set_option maxHeartbeats 4000000 in
set_option maxRecDepth 100000 in
theorem w_X6_tone_L25 (X : fb_X p m c cX6_tone 3 s args RX6 g ks (fb_A g ks)) (hks : ∀ k ∈ ([29, 30, 31] : List Nat), k ∈ ks) (hr : meth.sig.returnType = (some .int)) (hlk : meth.locks = false) (N : Nat)  {res : (Int32 × fb_S)} : ∀ (n : Nat) (v1 : Int32) (v2 : Int32) (σ : fb_S) (H : Heap) (locs : List Loc) (ls : Array Slot), fb_H g ks (fb_A g ks) s.heap σ H locs → lv_has ls 3 [(0, .ref (g.1 29)), (1, .int v1), (2, .int v2)] → f_X6_tone_L25 N n v1 v2 σ = some res → W p l e (fb_R 1 37) s m args below meth c H locs 0 0 (MQ below (fb_Qi g ks res.1 res.2) args s 0 0 (fb_A g ks)) (F0 m 25 ls []) := by
  have hx := X.1.1
  have hb := X.1.2.1
  intro n
  induction n with
  | zero => intro v1 v2 σ H locs ls h hl hf; cases hf
  | succ n ih =>
    intro v1 v2 σ H locs ls h hl hf
    unfold f_X6_tone_L25 at hf
    refine lv_iload_n hx hb dX6_tone_25 rfl (lv_at hl 2 rfl) ?_
    refine lv_sipush hx hb dX6_tone_26 ks_400 ?_
    refine lv_icmp_ge hx hb dX6_tone_29 (tgt := 52) (by decide) (fun hc => ?_) (fun hc => ?_)
    · have hf := if_t hc hf
      refine lv_iload_n hx hb dX6_tone_52 rfl (lv_at hl 2 rfl) ?_
      have e9 := Option.some.inj hf
      subst e9
      exact fb_ir X h hr hlk dX6_tone_53
    · have hf := if_f hc hf
      refine lv_aload_n hx hb dX6_tone_32 rfl (lv_at hl 0 rfl) ?_
      refine lv_iload_n hx hb dX6_tone_33 rfl (lv_at hl 2 rfl) ?_
      refine lv_iconst hx hb dX6_tone_34 ki_1 ?_
      refine lv_iadd hx hb dX6_tone_35 ?_
      refine lv_iconst hx hb dX6_tone_36 ki_0 ?_
      obtain ⟨q1, hq1, hf⟩ := bd_s hf
      refine fb_cl' X h (fb_runV (As := [.int (v2 + (1 : Int32)), .int (0)]) (rest := []) (k := 29) X h (c_X6_row l X.2.2.1 (fun k hk => hks k ((by decide : ∀ k ∈ ([29, 30, 31] : List Nat), k ∈ ([29, 30, 31] : List Nat)) k hk)) N (v2 + (1 : Int32)) (0 : Int32) σ hq1) mf_yX6_row lm_RX6_92 (hks 29 (by decide)) rfl rfl ⟨Nat.le_of_ble_eq_true rfl, Nat.le_of_ble_eq_true rfl⟩ ⟨Nat.le_refl _, Nat.le_refl _⟩ rfl hl.1 rfl (Nat.le_of_ble_eq_true rfl) dX6_tone_37) (fun H locs h => ?_)
      refine lv_iload_n hx hb dX6_tone_40 rfl (lv_at hl 1 rfl) ?_
      refine lv_i2l hx hb dX6_tone_41 (v := v1.toInt64) rfl ?_
      refine W.lcmp hx hb dX6_tone_42 ?_
      refine lv_if_gt hx hb dX6_tone_43 (tgt := 52) (by decide) (fun hc => ?_) (fun hc => ?_)
      · have hf := if_t hc hf
        refine lv_iload_n hx hb dX6_tone_52 rfl (lv_at hl 2 rfl) ?_
        have e9 := Option.some.inj hf
        subst e9
        exact fb_ir X h hr hlk dX6_tone_53
      · have hf := if_f hc hf
        refine lv_iinc hx hb dX6_tone_46 hl (k := 2) rfl (kinc_1 _) (by decide) (lv' := [(2, .int (v2 + 1)), (0, .ref (g.1 29)), (1, .int v1)]) rfl (fun ls hl => ?_)
        refine lv_goto hx hb dX6_tone_49 (tgt := 25) (by decide) ?_
        exact ih v1 (v2 + 1) σ _ _ _ h (lv_sub hl [1, 2, 0] rfl) hf
set_option maxHeartbeats 4000000 in
set_option maxRecDepth 100000 in
theorem c_X6_tone (l : Launch) {g : fb_G} {ks : List Nat} (hI : fb_I g ks) (hks : ∀ k ∈ ([29, 30, 31] : List Nat), k ∈ ks) (N : Nat) (a1 : Int32) (σ : fb_S) {res : (Int32 × fb_S)} (hf : f_X6_tone N a1 σ = some res) : fb_M l yX6_tone cX6_tone 3 (some .int) 1 37 g ks [.ref (g.1 29), .int a1] σ (fb_Qi g ks res.1 res.2) := by
  refine fb_met (by decide +kernel) hI (Nat.le_of_ble_eq_true rfl) (fun p e s m below meth c ls X h hr hlk hl => ?_)
  have X : fb_X p m c cX6_tone 3 s _ RX6 g ks (fb_A g ks) := X
  have hl : lv_has ls 3 [(0, .ref (g.1 29)), (1, .int a1)] := hl
  have hx := X.1.1
  have hb := X.1.2.1
  unfold f_X6_tone at hf
  refine lv_aload_n hx hb dX6_tone_0 rfl (lv_at hl 0 rfl) ?_
  refine lv_iconst hx hb dX6_tone_1 ki_0 ?_
  obtain ⟨t2, et2, hf⟩ := nm_s hf
  refine pt_RX6_75 X h (hks 29 (by decide)) dX6_tone_2 (fun H locs h => ?_)
  have h := fb_H.nm et2 h
  refine lv_iload_n hx hb dX6_tone_5 rfl (lv_at hl 1 rfl) ?_
  refine lv_i2l hx hb dX6_tone_6 (v := a1.toInt64) rfl ?_
  refine lv_lconst hx hb dX6_tone_7 kl_0 ?_
  refine lv_aload_n hx hb dX6_tone_8 rfl (lv_at hl 0 rfl) ?_
  refine gt_RX6_7 X h (hks 29 (by decide)) dX6_tone_9 ?_
  refine lv_iconst hx hb dX6_tone_12 ki_1 ?_
  refine lv_isub hx hb dX6_tone_13 ?_
  refine lv_i2l hx hb dX6_tone_14 (v := ((t2.1 29 1) - (1 : Int32)).toInt64) rfl ?_
  obtain ⟨q3, hq3, hf⟩ := bd_s hf
  refine fb_ci X h (fb_runS (As := [.long (a1.toInt64), .long (0), .long (((t2.1 29 1) - (1 : Int32)).toInt64)]) (rest := []) X h (c_X6_in l X.2.2.1 (fun k hk => absurd hk List.not_mem_nil) (a1.toInt64) (0 : Int64) (((t2.1 29 1) - (1 : Int32)).toInt64) t2 hq3) mf_yX6_in lm_RX6_80 ⟨Nat.le_of_ble_eq_true rfl, Nat.le_of_ble_eq_true rfl⟩ ⟨Nat.le_refl _, Nat.le_refl _⟩ rfl hl.1 rfl (Nat.le_of_ble_eq_true rfl) dX6_tone_15) (fun H locs h => ?_)
  refine lv_if_ne hx hb dX6_tone_18 (tgt := 23) (by decide) (fun hc => ?_) (fun hc => ?_)
  · have hf := if_f hc hf
    refine lv_iconst hx hb dX6_tone_23 ki_0 ?_
    refine lv_istore_n hx hb dX6_tone_24 rfl hl (by decide) (lv' := [(2, .int (0)), (0, .ref (g.1 29)), (1, .int a1)]) rfl (fun ls hl => ?_)
    exact w_X6_tone_L25 X hks hr hlk N N a1 (0 : Int32) t2 _ _ _ h (lv_sub hl [1, 2, 0] rfl) hf
  · have hf := if_t hc hf
    refine lv_iconst hx hb dX6_tone_21 ki_m1 ?_
    have e9 := Option.some.inj hf
    subst e9
    exact fb_ir X h hr hlk dX6_tone_22
def f_X6_isTone (N : Nat) (a1 : Int32) (σ : fb_S) : Option (Int32 × fb_S) :=
  nm_ (fb_up σ 29 0 (0 : Int32)) fun t1 =>
  (f_X6_in (a1.toInt64) (0 : Int64) (400 : Int64)).bind fun q2 =>
  if q2 = 0 then (
    some ((-2 : Int32), t1)
  ) else (
    (f_X6_row N a1 (1 : Int32) t1).bind fun q3 =>
    if (lg_cmp q3 (0 : Int64)) = 0 then (
      some ((1 : Int32), t1)
    ) else (
      some ((0 : Int32), t1)
    )
  )
set_option maxHeartbeats 4000000 in
set_option maxRecDepth 100000 in
theorem c_X6_isTone (l : Launch) {g : fb_G} {ks : List Nat} (hI : fb_I g ks) (hks : ∀ k ∈ ([29, 30, 31] : List Nat), k ∈ ks) (N : Nat) (a1 : Int32) (σ : fb_S) {res : (Int32 × fb_S)} (hf : f_X6_isTone N a1 σ = some res) : fb_M l yX6_isTone cX6_isTone 2 (some .int) 1 37 g ks [.ref (g.1 29), .int a1] σ (fb_Qi g ks res.1 res.2) := by
  refine fb_met (by decide +kernel) hI (Nat.le_of_ble_eq_true rfl) (fun p e s m below meth c ls X h hr hlk hl => ?_)
  have X : fb_X p m c cX6_isTone 2 s _ RX6 g ks (fb_A g ks) := X
  have hl : lv_has ls 2 [(0, .ref (g.1 29)), (1, .int a1)] := hl
  have hx := X.1.1
  have hb := X.1.2.1
  unfold f_X6_isTone at hf
  refine lv_aload_n hx hb dX6_isTone_0 rfl (lv_at hl 0 rfl) ?_
  refine lv_iconst hx hb dX6_isTone_1 ki_0 ?_
  obtain ⟨t1, et1, hf⟩ := nm_s hf
  refine pt_RX6_75 X h (hks 29 (by decide)) dX6_isTone_2 (fun H locs h => ?_)
  have h := fb_H.nm et1 h
  refine lv_iload_n hx hb dX6_isTone_5 rfl (lv_at hl 1 rfl) ?_
  refine lv_i2l hx hb dX6_isTone_6 (v := a1.toInt64) rfl ?_
  refine lv_lconst hx hb dX6_isTone_7 kl_0 ?_
  refine lv_ldc2 hx hb X.1.2.2.2.1 (X.1.2.2.2.2 _ lc_RX6_90) dX6_isTone_8 ?_
  obtain ⟨q2, hq2, hf⟩ := bd_s hf
  refine fb_ci X h (fb_runS (As := [.long (a1.toInt64), .long (0), .long (400)]) (rest := []) X h (c_X6_in l X.2.2.1 (fun k hk => absurd hk List.not_mem_nil) (a1.toInt64) (0 : Int64) (400 : Int64) t1 hq2) mf_yX6_in lm_RX6_80 ⟨Nat.le_of_ble_eq_true rfl, Nat.le_of_ble_eq_true rfl⟩ ⟨Nat.le_refl _, Nat.le_refl _⟩ rfl hl.1 rfl (Nat.le_of_ble_eq_true rfl) dX6_isTone_11) (fun H locs h => ?_)
  refine lv_if_ne hx hb dX6_isTone_14 (tgt := 22) (by decide) (fun hc => ?_) (fun hc => ?_)
  · have hf := if_f hc hf
    refine lv_aload_n hx hb dX6_isTone_22 rfl (lv_at hl 0 rfl) ?_
    refine lv_iload_n hx hb dX6_isTone_23 rfl (lv_at hl 1 rfl) ?_
    refine lv_iconst hx hb dX6_isTone_24 ki_1 ?_
    obtain ⟨q3, hq3, hf⟩ := bd_s hf
    refine fb_cl' X h (fb_runV (As := [.int a1, .int (1)]) (rest := []) (k := 29) X h (c_X6_row l X.2.2.1 (fun k hk => hks k ((by decide : ∀ k ∈ ([29, 30, 31] : List Nat), k ∈ ([29, 30, 31] : List Nat)) k hk)) N a1 (1 : Int32) t1 hq3) mf_yX6_row lm_RX6_92 (hks 29 (by decide)) rfl rfl ⟨Nat.le_of_ble_eq_true rfl, Nat.le_of_ble_eq_true rfl⟩ ⟨Nat.le_refl _, Nat.le_refl _⟩ rfl hl.1 rfl (Nat.le_of_ble_eq_true rfl) dX6_isTone_25) (fun H locs h => ?_)
    refine lv_lconst hx hb dX6_isTone_28 kl_0 ?_
    refine W.lcmp hx hb dX6_isTone_29 ?_
    refine lv_if_ne hx hb dX6_isTone_30 (tgt := 37) (by decide) (fun hc => ?_) (fun hc => ?_)
    · have hf := if_f hc hf
      refine lv_iconst hx hb dX6_isTone_37 ki_0 ?_
      have e9 := Option.some.inj hf
      subst e9
      exact fb_ir X h hr hlk dX6_isTone_38
    · have hf := if_t hc hf
      refine lv_iconst hx hb dX6_isTone_33 ki_1 ?_
      refine lv_goto hx hb dX6_isTone_34 (tgt := 38) (by decide) ?_
      have e9 := Option.some.inj hf
      subst e9
      exact fb_ir X h hr hlk dX6_isTone_38
  · have hf := if_t hc hf
    refine lv_bipush hx hb dX6_isTone_17 kb_m2 ?_
    refine lv_goto hx hb dX6_isTone_19 (tgt := 38) (by decide) ?_
    have e9 := Option.some.inj hf
    subst e9
    exact fb_ir X h hr hlk dX6_isTone_38
def f_X6_noSort (a1 : Int32) : Option Int32 :=
  (f_X6_in (a1.toInt64) (0 : Int64) (3 : Int64)).bind fun q1 =>
  if q1 = 0 then (
    some (1 : Int32)
  ) else (
    some (0 : Int32)
  )
set_option maxHeartbeats 4000000 in
set_option maxRecDepth 100000 in
theorem c_X6_noSort (l : Launch) {g : fb_G} {ks : List Nat} (hI : fb_I g ks) (hks : ∀ k ∈ ([] : List Nat), k ∈ ks) (a1 : Int32) (σ : fb_S) {res : Int32} (hf : f_X6_noSort a1 = some res) : fb_M l yX6_noSort cX6_noSort 1 (some .boolean) 1 25 g ks [.int a1] σ (fb_Qi g ks res σ) := by
  refine fb_met (by decide +kernel) hI (Nat.le_of_ble_eq_true rfl) (fun p e s m below meth c ls X h hr hlk hl => ?_)
  have X : fb_X p m c cX6_noSort 1 s _ RX6 g ks (fb_A g ks) := X
  have hl : lv_has ls 1 [(0, .int a1)] := hl
  have hx := X.1.1
  have hb := X.1.2.1
  unfold f_X6_noSort at hf
  refine lv_iload_n hx hb dX6_noSort_0 rfl (lv_at hl 0 rfl) ?_
  refine lv_i2l hx hb dX6_noSort_1 (v := a1.toInt64) rfl ?_
  refine lv_lconst hx hb dX6_noSort_2 kl_0 ?_
  refine lv_ldc2 hx hb X.1.2.2.2.1 (X.1.2.2.2.2 _ lc_RX6_96) dX6_noSort_3 ?_
  obtain ⟨q1, hq1, hf⟩ := bd_s hf
  refine fb_ci X h (fb_runS (As := [.long (a1.toInt64), .long (0), .long (3)]) (rest := []) X h (c_X6_in l X.2.2.1 (fun k hk => absurd hk List.not_mem_nil) (a1.toInt64) (0 : Int64) (3 : Int64) σ hq1) mf_yX6_in lm_RX6_80 ⟨Nat.le_of_ble_eq_true rfl, Nat.le_of_ble_eq_true rfl⟩ ⟨Nat.le_refl _, Nat.le_refl _⟩ rfl hl.1 rfl (Nat.le_of_ble_eq_true rfl) dX6_noSort_6) (fun H locs h => ?_)
  refine lv_if_ne hx hb dX6_noSort_9 (tgt := 16) (by decide) (fun hc => ?_) (fun hc => ?_)
  · have hf := if_f hc hf
    refine lv_iconst hx hb dX6_noSort_16 ki_0 ?_
    have e9 := Option.some.inj hf
    subst e9
    exact fb_zr (r := (0 : Int32)) X h hr rfl hlk dX6_noSort_17
  · have hf := if_t hc hf
    refine lv_iconst hx hb dX6_noSort_12 ki_1 ?_
    refine lv_goto hx hb dX6_noSort_13 (tgt := 17) (by decide) ?_
    have e9 := Option.some.inj hf
    subst e9
    exact fb_zr (r := (1 : Int32)) X h hr rfl hlk dX6_noSort_17
def f_X6_noSway (a1 : Int32) : Option Int32 :=
  (f_X6_in (a1.toInt64) (0 : Int64) (9999 : Int64)).bind fun q1 =>
  if q1 = 0 then (
    some (1 : Int32)
  ) else (
    some (0 : Int32)
  )
set_option maxHeartbeats 4000000 in
set_option maxRecDepth 100000 in
theorem c_X6_noSway (l : Launch) {g : fb_G} {ks : List Nat} (hI : fb_I g ks) (hks : ∀ k ∈ ([] : List Nat), k ∈ ks) (a1 : Int32) (σ : fb_S) {res : Int32} (hf : f_X6_noSway a1 = some res) : fb_M l yX6_noSway cX6_noSway 1 (some .boolean) 1 25 g ks [.int a1] σ (fb_Qi g ks res σ) := by
  refine fb_met (by decide +kernel) hI (Nat.le_of_ble_eq_true rfl) (fun p e s m below meth c ls X h hr hlk hl => ?_)
  have X : fb_X p m c cX6_noSway 1 s _ RX6 g ks (fb_A g ks) := X
  have hl : lv_has ls 1 [(0, .int a1)] := hl
  have hx := X.1.1
  have hb := X.1.2.1
  unfold f_X6_noSway at hf
  refine lv_iload_n hx hb dX6_noSway_0 rfl (lv_at hl 0 rfl) ?_
  refine lv_i2l hx hb dX6_noSway_1 (v := a1.toInt64) rfl ?_
  refine lv_lconst hx hb dX6_noSway_2 kl_0 ?_
  refine lv_ldc2 hx hb X.1.2.2.2.1 (X.1.2.2.2.2 _ lc_RX6_98) dX6_noSway_3 ?_
  obtain ⟨q1, hq1, hf⟩ := bd_s hf
  refine fb_ci X h (fb_runS (As := [.long (a1.toInt64), .long (0), .long (9999)]) (rest := []) X h (c_X6_in l X.2.2.1 (fun k hk => absurd hk List.not_mem_nil) (a1.toInt64) (0 : Int64) (9999 : Int64) σ hq1) mf_yX6_in lm_RX6_80 ⟨Nat.le_of_ble_eq_true rfl, Nat.le_of_ble_eq_true rfl⟩ ⟨Nat.le_refl _, Nat.le_refl _⟩ rfl hl.1 rfl (Nat.le_of_ble_eq_true rfl) dX6_noSway_6) (fun H locs h => ?_)
  refine lv_if_ne hx hb dX6_noSway_9 (tgt := 16) (by decide) (fun hc => ?_) (fun hc => ?_)
  · have hf := if_f hc hf
    refine lv_iconst hx hb dX6_noSway_16 ki_0 ?_
    have e9 := Option.some.inj hf
    subst e9
    exact fb_zr (r := (0 : Int32)) X h hr rfl hlk dX6_noSway_17
  · have hf := if_t hc hf
    refine lv_iconst hx hb dX6_noSway_12 ki_1 ?_
    refine lv_goto hx hb dX6_noSway_13 (tgt := 17) (by decide) ?_
    have e9 := Option.some.inj hf
    subst e9
    exact fb_zr (r := (1 : Int32)) X h hr rfl hlk dX6_noSway_17
def f_X6_sort (a1 : Int32) (a2 : Int32) (a3 : Int32) (a4 : Int32) (σ : fb_S) : Option (Int32 × fb_S) :=
  nm_ (fb_up σ 29 0 (0 : Int32)) fun t1 =>
  (f_X6_noSort a1).bind fun q2 =>
  if q2 = 0 then (
    (f_X6_in (a2.toInt64) (0 : Int64) (99 : Int64)).bind fun q3 =>
    if q3 = 0 then (
      some ((-2 : Int32), t1)
    ) else (
      (f_X6_noSway a3).bind fun q4 =>
      if q4 = 0 then (
        (f_X6_noSway a4).bind fun q5 =>
        if q5 = 0 then (
          ck_ (fb_in a1 4) <|
          nm_ (t1.1 32 a1.toNatClampNeg) fun x6 =>
          ck_ (fb_in a1 4) <|
          nm_ (fb_up t1 32 (a1.toNatClampNeg) a2) fun t7 =>
          ck_ (fb_in a1 4) <|
          nm_ (fb_up t7 33 (a1.toNatClampNeg) a3) fun t8 =>
          ck_ (fb_in a1 4) <|
          nm_ (fb_up t8 34 (a1.toNatClampNeg) a4) fun t9 =>
          some (x6, t9)
        ) else (
          some ((-2 : Int32), t1)
        )
      ) else (
        some ((-2 : Int32), t1)
      )
    )
  ) else (
    some ((-1 : Int32), t1)
  )
set_option maxHeartbeats 4000000 in
set_option maxRecDepth 100000 in
theorem c_X6_sort (l : Launch) {g : fb_G} {ks : List Nat} (hI : fb_I g ks) (hks : ∀ k ∈ ([29, 32, 33, 34] : List Nat), k ∈ ks) (a1 : Int32) (a2 : Int32) (a3 : Int32) (a4 : Int32) (σ : fb_S) {res : (Int32 × fb_S)} (hf : f_X6_sort a1 a2 a3 a4 σ = some res) : fb_M l yX6_sort cX6_sort 6 (some .int) 2 45 g ks [.ref (g.1 29), .int a1, .int a2, .int a3, .int a4] σ (fb_Qi g ks res.1 res.2) := by
  refine fb_met (by decide +kernel) hI (Nat.le_of_ble_eq_true rfl) (fun p e s m below meth c ls X h hr hlk hl => ?_)
  have X : fb_X p m c cX6_sort 6 s _ RX6 g ks (fb_A g ks) := X
  have hl : lv_has ls 6 [(0, .ref (g.1 29)), (1, .int a1), (2, .int a2), (3, .int a3), (4, .int a4)] := hl
  have hx := X.1.1
  have hb := X.1.2.1
  unfold f_X6_sort at hf
  refine lv_aload_n hx hb dX6_sort_0 rfl (lv_at hl 0 rfl) ?_
  refine lv_iconst hx hb dX6_sort_1 ki_0 ?_
  obtain ⟨t1, et1, hf⟩ := nm_s hf
  refine pt_RX6_75 X h (hks 29 (by decide)) dX6_sort_2 (fun H locs h => ?_)
  have h := fb_H.nm et1 h
  refine lv_iload_n hx hb dX6_sort_5 rfl (lv_at hl 1 rfl) ?_
  obtain ⟨q2, hq2, hf⟩ := bd_s hf
  refine fb_ci X h (fb_runS (As := [.int a1]) (rest := []) X h (c_X6_noSort l X.2.2.1 (fun k hk => absurd hk List.not_mem_nil) a1 t1 hq2) mf_yX6_noSort lm_RX6_100 ⟨Nat.le_of_ble_eq_true rfl, Nat.le_of_ble_eq_true rfl⟩ ⟨Nat.le_refl _, Nat.le_refl _⟩ rfl hl.1 rfl (Nat.le_of_ble_eq_true rfl) dX6_sort_6) (fun H locs h => ?_)
  refine lv_if_eq hx hb dX6_sort_9 (tgt := 14) (by decide) (fun hc => ?_) (fun hc => ?_)
  · have hf := if_t hc hf
    refine lv_iload_n hx hb dX6_sort_14 rfl (lv_at hl 2 rfl) ?_
    refine lv_i2l hx hb dX6_sort_15 (v := a2.toInt64) rfl ?_
    refine lv_lconst hx hb dX6_sort_16 kl_0 ?_
    refine lv_ldc2 hx hb X.1.2.2.2.1 (X.1.2.2.2.2 _ lc_RX6_86) dX6_sort_17 ?_
    obtain ⟨q3, hq3, hf⟩ := bd_s hf
    refine fb_ci X h (fb_runS (As := [.long (a2.toInt64), .long (0), .long (99)]) (rest := []) X h (c_X6_in l X.2.2.1 (fun k hk => absurd hk List.not_mem_nil) (a2.toInt64) (0 : Int64) (99 : Int64) t1 hq3) mf_yX6_in lm_RX6_80 ⟨Nat.le_of_ble_eq_true rfl, Nat.le_of_ble_eq_true rfl⟩ ⟨Nat.le_refl _, Nat.le_refl _⟩ rfl hl.1 rfl (Nat.le_of_ble_eq_true rfl) dX6_sort_20) (fun H locs h => ?_)
    refine lv_if_eq hx hb dX6_sort_23 (tgt := 41) (by decide) (fun hc => ?_) (fun hc => ?_)
    · have hf := if_t hc hf
      refine lv_bipush hx hb dX6_sort_41 kb_m2 ?_
      have e9 := Option.some.inj hf
      subst e9
      exact fb_ir X h hr hlk dX6_sort_43
    · have hf := if_f hc hf
      refine lv_iload_n hx hb dX6_sort_26 rfl (lv_at hl 3 rfl) ?_
      obtain ⟨q4, hq4, hf⟩ := bd_s hf
      refine fb_ci X h (fb_runS (As := [.int a3]) (rest := []) X h (c_X6_noSway l X.2.2.1 (fun k hk => absurd hk List.not_mem_nil) a3 t1 hq4) mf_yX6_noSway lm_RX6_104 ⟨Nat.le_of_ble_eq_true rfl, Nat.le_of_ble_eq_true rfl⟩ ⟨Nat.le_refl _, Nat.le_refl _⟩ rfl hl.1 rfl (Nat.le_of_ble_eq_true rfl) dX6_sort_27) (fun H locs h => ?_)
      refine lv_if_ne hx hb dX6_sort_30 (tgt := 41) (by decide) (fun hc => ?_) (fun hc => ?_)
      · have hf := if_f hc hf
        refine lv_bipush hx hb dX6_sort_41 kb_m2 ?_
        have e9 := Option.some.inj hf
        subst e9
        exact fb_ir X h hr hlk dX6_sort_43
      · have hf := if_t hc hf
        refine lv_iload hx hb dX6_sort_33 (lv_at hl 4 rfl) ?_
        obtain ⟨q5, hq5, hf⟩ := bd_s hf
        refine fb_ci X h (fb_runS (As := [.int a4]) (rest := []) X h (c_X6_noSway l X.2.2.1 (fun k hk => absurd hk List.not_mem_nil) a4 t1 hq5) mf_yX6_noSway lm_RX6_104 ⟨Nat.le_of_ble_eq_true rfl, Nat.le_of_ble_eq_true rfl⟩ ⟨Nat.le_refl _, Nat.le_refl _⟩ rfl hl.1 rfl (Nat.le_of_ble_eq_true rfl) dX6_sort_35) (fun H locs h => ?_)
        refine lv_if_eq hx hb dX6_sort_38 (tgt := 44) (by decide) (fun hc => ?_) (fun hc => ?_)
        · have hf := if_t hc hf
          refine lv_aload_n hx hb dX6_sort_44 rfl (lv_at hl 0 rfl) ?_
          refine gt_RX6_20 X h (hks 29 (by decide)) dX6_sort_45 ?_
          refine lv_iload_n hx hb dX6_sort_48 rfl (lv_at hl 1 rfl) ?_
          obtain ⟨hi0, hf⟩ := ck_s hf
          refine fb_iald X h (hks 32 (by decide)) rfl hi0 dX6_sort_49 ?_
          obtain ⟨x6, ex6, hf⟩ := nm_s hf
          refine fb_topi ex6 ?_
          refine lv_istore hx hb dX6_sort_50 hl (by decide) (lv' := [(5, .int x6), (0, .ref (g.1 29)), (1, .int a1), (2, .int a2), (3, .int a3), (4, .int a4)]) rfl (fun ls hl => ?_)
          refine lv_aload_n hx hb dX6_sort_52 rfl (lv_at hl 1 rfl) ?_
          refine gt_RX6_20 X h (hks 29 (by decide)) dX6_sort_53 ?_
          refine lv_iload_n hx hb dX6_sort_56 rfl (lv_at hl 2 rfl) ?_
          refine lv_iload_n hx hb dX6_sort_57 rfl (lv_at hl 3 rfl) ?_
          obtain ⟨hi0, hf⟩ := ck_s hf
          obtain ⟨t7, et7, hf⟩ := nm_s hf
          refine fb_iast X h (hks 32 (by decide)) (fun _ => rfl) hi0 dX6_sort_58 (fun H locs h => ?_)
          have h := fb_H.nm et7 h
          refine lv_aload_n hx hb dX6_sort_59 rfl (lv_at hl 1 rfl) ?_
          refine gt_RX6_23 X h (hks 29 (by decide)) dX6_sort_60 ?_
          refine lv_iload_n hx hb dX6_sort_63 rfl (lv_at hl 2 rfl) ?_
          refine lv_iload_n hx hb dX6_sort_64 rfl (lv_at hl 4 rfl) ?_
          obtain ⟨hi0, hf⟩ := ck_s hf
          obtain ⟨t8, et8, hf⟩ := nm_s hf
          refine fb_iast X h (hks 33 (by decide)) (fun _ => rfl) hi0 dX6_sort_65 (fun H locs h => ?_)
          have h := fb_H.nm et8 h
          refine lv_aload_n hx hb dX6_sort_66 rfl (lv_at hl 1 rfl) ?_
          refine gt_RX6_26 X h (hks 29 (by decide)) dX6_sort_67 ?_
          refine lv_iload_n hx hb dX6_sort_70 rfl (lv_at hl 2 rfl) ?_
          refine lv_iload hx hb dX6_sort_71 (lv_at hl 5 rfl) ?_
          obtain ⟨hi0, hf⟩ := ck_s hf
          obtain ⟨t9, et9, hf⟩ := nm_s hf
          refine fb_iast X h (hks 34 (by decide)) (fun _ => rfl) hi0 dX6_sort_73 (fun H locs h => ?_)
          have h := fb_H.nm et9 h
          refine lv_iload hx hb dX6_sort_74 (lv_at hl 0 rfl) ?_
          have e9 := Option.some.inj hf
          subst e9
          exact fb_ir X h hr hlk dX6_sort_76
        · have hf := if_f hc hf
          refine lv_bipush hx hb dX6_sort_41 kb_m2 ?_
          have e9 := Option.some.inj hf
          subst e9
          exact fb_ir X h hr hlk dX6_sort_43
  · have hf := if_f hc hf
    refine lv_iconst hx hb dX6_sort_12 ki_m1 ?_
    have e9 := Option.some.inj hf
    subst e9
    exact fb_ir X h hr hlk dX6_sort_13
def f_X6_crowd (a1 : Int32) (a2 : Int32) (σ : fb_S) : Option (Int32 × fb_S) :=
  nm_ (fb_up σ 29 0 (0 : Int32)) fun t1 =>
  (f_X6_noSort a1).bind fun q2 =>
  if q2 = 0 then (
    (f_X6_in (a2.toInt64) (0 : Int64) (999 : Int64)).bind fun q3 =>
    if q3 = 0 then (
      some ((-2 : Int32), t1)
    ) else (
      ck_ (fb_in a1 4) <|
      nm_ (t1.1 35 a1.toNatClampNeg) fun x4 =>
      ck_ (fb_in a1 4) <|
      nm_ (fb_up t1 35 (a1.toNatClampNeg) a2) fun t5 =>
      some (x4, t5)
    )
  ) else (
    some ((-1 : Int32), t1)
  )
set_option maxHeartbeats 4000000 in
set_option maxRecDepth 100000 in
theorem c_X6_crowd (l : Launch) {g : fb_G} {ks : List Nat} (hI : fb_I g ks) (hks : ∀ k ∈ ([29, 35] : List Nat), k ∈ ks) (a1 : Int32) (a2 : Int32) (σ : fb_S) {res : (Int32 × fb_S)} (hf : f_X6_crowd a1 a2 σ = some res) : fb_M l yX6_crowd cX6_crowd 4 (some .int) 2 45 g ks [.ref (g.1 29), .int a1, .int a2] σ (fb_Qi g ks res.1 res.2) := by
  refine fb_met (by decide +kernel) hI (Nat.le_of_ble_eq_true rfl) (fun p e s m below meth c ls X h hr hlk hl => ?_)
  have X : fb_X p m c cX6_crowd 4 s _ RX6 g ks (fb_A g ks) := X
  have hl : lv_has ls 4 [(0, .ref (g.1 29)), (1, .int a1), (2, .int a2)] := hl
  have hx := X.1.1
  have hb := X.1.2.1
  unfold f_X6_crowd at hf
  refine lv_aload_n hx hb dX6_crowd_0 rfl (lv_at hl 0 rfl) ?_
  refine lv_iconst hx hb dX6_crowd_1 ki_0 ?_
  obtain ⟨t1, et1, hf⟩ := nm_s hf
  refine pt_RX6_75 X h (hks 29 (by decide)) dX6_crowd_2 (fun H locs h => ?_)
  have h := fb_H.nm et1 h
  refine lv_iload_n hx hb dX6_crowd_5 rfl (lv_at hl 1 rfl) ?_
  obtain ⟨q2, hq2, hf⟩ := bd_s hf
  refine fb_ci X h (fb_runS (As := [.int a1]) (rest := []) X h (c_X6_noSort l X.2.2.1 (fun k hk => absurd hk List.not_mem_nil) a1 t1 hq2) mf_yX6_noSort lm_RX6_100 ⟨Nat.le_of_ble_eq_true rfl, Nat.le_of_ble_eq_true rfl⟩ ⟨Nat.le_refl _, Nat.le_refl _⟩ rfl hl.1 rfl (Nat.le_of_ble_eq_true rfl) dX6_crowd_6) (fun H locs h => ?_)
  refine lv_if_eq hx hb dX6_crowd_9 (tgt := 14) (by decide) (fun hc => ?_) (fun hc => ?_)
  · have hf := if_t hc hf
    refine lv_iload_n hx hb dX6_crowd_14 rfl (lv_at hl 2 rfl) ?_
    refine lv_i2l hx hb dX6_crowd_15 (v := a2.toInt64) rfl ?_
    refine lv_lconst hx hb dX6_crowd_16 kl_0 ?_
    refine lv_ldc2 hx hb X.1.2.2.2.1 (X.1.2.2.2.2 _ lc_RX6_107) dX6_crowd_17 ?_
    obtain ⟨q3, hq3, hf⟩ := bd_s hf
    refine fb_ci X h (fb_runS (As := [.long (a2.toInt64), .long (0), .long (999)]) (rest := []) X h (c_X6_in l X.2.2.1 (fun k hk => absurd hk List.not_mem_nil) (a2.toInt64) (0 : Int64) (999 : Int64) t1 hq3) mf_yX6_in lm_RX6_80 ⟨Nat.le_of_ble_eq_true rfl, Nat.le_of_ble_eq_true rfl⟩ ⟨Nat.le_refl _, Nat.le_refl _⟩ rfl hl.1 rfl (Nat.le_of_ble_eq_true rfl) dX6_crowd_20) (fun H locs h => ?_)
    refine lv_if_ne hx hb dX6_crowd_23 (tgt := 29) (by decide) (fun hc => ?_) (fun hc => ?_)
    · have hf := if_f hc hf
      refine lv_aload_n hx hb dX6_crowd_29 rfl (lv_at hl 0 rfl) ?_
      refine gt_RX6_29 X h (hks 29 (by decide)) dX6_crowd_30 ?_
      refine lv_iload_n hx hb dX6_crowd_33 rfl (lv_at hl 1 rfl) ?_
      obtain ⟨hi0, hf⟩ := ck_s hf
      refine fb_iald X h (hks 35 (by decide)) rfl hi0 dX6_crowd_34 ?_
      obtain ⟨x4, ex4, hf⟩ := nm_s hf
      refine fb_topi ex4 ?_
      refine lv_istore_n hx hb dX6_crowd_35 rfl hl (by decide) (lv' := [(3, .int x4), (0, .ref (g.1 29)), (1, .int a1), (2, .int a2)]) rfl (fun ls hl => ?_)
      refine lv_aload_n hx hb dX6_crowd_36 rfl (lv_at hl 1 rfl) ?_
      refine gt_RX6_29 X h (hks 29 (by decide)) dX6_crowd_37 ?_
      refine lv_iload_n hx hb dX6_crowd_40 rfl (lv_at hl 2 rfl) ?_
      refine lv_iload_n hx hb dX6_crowd_41 rfl (lv_at hl 3 rfl) ?_
      obtain ⟨hi0, hf⟩ := ck_s hf
      obtain ⟨t5, et5, hf⟩ := nm_s hf
      refine fb_iast X h (hks 35 (by decide)) (fun _ => rfl) hi0 dX6_crowd_42 (fun H locs h => ?_)
      have h := fb_H.nm et5 h
      refine lv_iload_n hx hb dX6_crowd_43 rfl (lv_at hl 0 rfl) ?_
      have e9 := Option.some.inj hf
      subst e9
      exact fb_ir X h hr hlk dX6_crowd_44
    · have hf := if_t hc hf
      refine lv_bipush hx hb dX6_crowd_26 kb_m2 ?_
      have e9 := Option.some.inj hf
      subst e9
      exact fb_ir X h hr hlk dX6_crowd_28
  · have hf := if_f hc hf
    refine lv_iconst hx hb dX6_crowd_12 ki_m1 ?_
    have e9 := Option.some.inj hf
    subst e9
    exact fb_ir X h hr hlk dX6_crowd_13
def f_X6_rule_L54 (v1 : Int32) (v2 : Int32) (v3 : Int32) (s0 : Int64) (s1 : Int64) (σ : fb_S) : Option (Int32 × fb_S) :=
  (f_X6_in s0 s1 (v3.toInt64)).bind fun q1 =>
  if q1 = 0 then (
    some ((-2 : Int32), σ)
  ) else (
    ck_ (fb_in v1 4) <|
    nm_ (σ.1 37 v1.toNatClampNeg) fun x2 =>
    ck_ (fb_in v1 4) <|
    nm_ (fb_up σ 37 (v1.toNatClampNeg) v2) fun t3 =>
    some (x2, t3)
  )
def f_X6_rule_L29 (v1 : Int32) (v2 : Int32) (s0 : Int32) (σ : fb_S) : Option (Int32 × fb_S) :=
  (f_X6_in (v1.toInt64) (0 : Int64) (3 : Int64)).bind fun q4 =>
  if q4 = 0 then (
    some ((-2 : Int32), σ)
  ) else (
    if (2 : Int32) ≤ v1 then (
      f_X6_rule_L54 v1 v2 s0 (v2.toInt64) (0 : Int64) σ
    ) else (
      f_X6_rule_L54 v1 v2 s0 (v2.toInt64) (1 : Int64) σ
    )
  )
def f_X6_rule (a1 : Int32) (a2 : Int32) (σ : fb_S) : Option (Int32 × fb_S) :=
  nm_ (fb_up σ 29 0 (0 : Int32)) fun t5 =>
  if a1 = 0 then (
    f_X6_rule_L29 a1 a2 (500 : Int32) t5
  ) else (
    if a1 = (2 : Int32) then (
      f_X6_rule_L29 a1 a2 (999 : Int32) t5
    ) else (
      f_X6_rule_L29 a1 a2 (9999 : Int32) t5
    )
  )
set_option maxHeartbeats 4000000 in
set_option maxRecDepth 100000 in
theorem w_X6_rule_L54 (X : fb_X p m c cX6_rule 5 s args RX6 g ks (fb_A g ks)) (hks : ∀ k ∈ ([29, 37] : List Nat), k ∈ ks) (hr : meth.sig.returnType = (some .int)) (hlk : meth.locks = false)  {res : (Int32 × fb_S)} : ∀ (v1 : Int32) (v2 : Int32) (v3 : Int32) (s0 : Int64) (s1 : Int64) (σ : fb_S) (H : Heap) (locs : List Loc) (ls : Array Slot), fb_H g ks (fb_A g ks) s.heap σ H locs → lv_has ls 5 [(0, .ref (g.1 29)), (1, .int v1), (2, .int v2), (3, .int v3)] → f_X6_rule_L54 v1 v2 v3 s0 s1 σ = some res → W p l e (fb_R 1 25) s m args below meth c H locs 0 0 (MQ below (fb_Qi g ks res.1 res.2) args s 0 0 (fb_A g ks)) (F0 m 54 ls [.long s1, .long s0]) := by
  have hx := X.1.1
  have hb := X.1.2.1
  intro v1 v2 v3 s0 s1 σ H locs ls h hl hf
  unfold f_X6_rule_L54 at hf
  refine lv_iload_n hx hb dX6_rule_54 rfl (lv_at hl 3 rfl) ?_
  refine lv_i2l hx hb dX6_rule_55 (v := v3.toInt64) rfl ?_
  obtain ⟨q1, hq1, hf⟩ := bd_s hf
  refine fb_ci X h (fb_runS (As := [.long s0, .long s1, .long (v3.toInt64)]) (rest := []) X h (c_X6_in l X.2.2.1 (fun k hk => absurd hk List.not_mem_nil) s0 s1 (v3.toInt64) σ hq1) mf_yX6_in lm_RX6_80 ⟨Nat.le_of_ble_eq_true rfl, Nat.le_of_ble_eq_true rfl⟩ ⟨Nat.le_refl _, Nat.le_refl _⟩ rfl hl.1 rfl (Nat.le_of_ble_eq_true rfl) dX6_rule_56) (fun H locs h => ?_)
  refine lv_if_ne hx hb dX6_rule_59 (tgt := 65) (by decide) (fun hc => ?_) (fun hc => ?_)
  · have hf := if_f hc hf
    refine lv_aload_n hx hb dX6_rule_65 rfl (lv_at hl 0 rfl) ?_
    refine gt_RX6_35 X h (hks 29 (by decide)) dX6_rule_66 ?_
    refine lv_iload_n hx hb dX6_rule_69 rfl (lv_at hl 1 rfl) ?_
    obtain ⟨hi0, hf⟩ := ck_s hf
    refine fb_iald X h (hks 37 (by decide)) rfl hi0 dX6_rule_70 ?_
    obtain ⟨x2, ex2, hf⟩ := nm_s hf
    refine fb_topi ex2 ?_
    refine lv_istore hx hb dX6_rule_71 hl (by decide) (lv' := [(4, .int x2), (0, .ref (g.1 29)), (1, .int v1), (2, .int v2), (3, .int v3)]) rfl (fun ls hl => ?_)
    refine lv_aload_n hx hb dX6_rule_73 rfl (lv_at hl 1 rfl) ?_
    refine gt_RX6_35 X h (hks 29 (by decide)) dX6_rule_74 ?_
    refine lv_iload_n hx hb dX6_rule_77 rfl (lv_at hl 2 rfl) ?_
    refine lv_iload_n hx hb dX6_rule_78 rfl (lv_at hl 3 rfl) ?_
    obtain ⟨hi0, hf⟩ := ck_s hf
    obtain ⟨t3, et3, hf⟩ := nm_s hf
    refine fb_iast X h (hks 37 (by decide)) (fun _ => rfl) hi0 dX6_rule_79 (fun H locs h => ?_)
    have h := fb_H.nm et3 h
    refine lv_iload hx hb dX6_rule_80 (lv_at hl 0 rfl) ?_
    have e9 := Option.some.inj hf
    subst e9
    exact fb_ir X h hr hlk dX6_rule_82
  · have hf := if_t hc hf
    refine lv_bipush hx hb dX6_rule_62 kb_m2 ?_
    have e9 := Option.some.inj hf
    subst e9
    exact fb_ir X h hr hlk dX6_rule_64
set_option maxHeartbeats 4000000 in
set_option maxRecDepth 100000 in
theorem w_X6_rule_L29 (X : fb_X p m c cX6_rule 5 s args RX6 g ks (fb_A g ks)) (hks : ∀ k ∈ ([29, 37] : List Nat), k ∈ ks) (hr : meth.sig.returnType = (some .int)) (hlk : meth.locks = false)  {res : (Int32 × fb_S)} : ∀ (v1 : Int32) (v2 : Int32) (s0 : Int32) (σ : fb_S) (H : Heap) (locs : List Loc) (ls : Array Slot), fb_H g ks (fb_A g ks) s.heap σ H locs → lv_has ls 5 [(0, .ref (g.1 29)), (1, .int v1), (2, .int v2)] → f_X6_rule_L29 v1 v2 s0 σ = some res → W p l e (fb_R 1 25) s m args below meth c H locs 0 0 (MQ below (fb_Qi g ks res.1 res.2) args s 0 0 (fb_A g ks)) (F0 m 29 ls [.int s0]) := by
  have hx := X.1.1
  have hb := X.1.2.1
  intro v1 v2 s0 σ H locs ls h hl hf
  unfold f_X6_rule_L29 at hf
  refine lv_istore_n hx hb dX6_rule_29 rfl hl (by decide) (lv' := [(3, .int s0), (0, .ref (g.1 29)), (1, .int v1), (2, .int v2)]) rfl (fun ls hl => ?_)
  refine lv_iload_n hx hb dX6_rule_30 rfl (lv_at hl 2 rfl) ?_
  refine lv_i2l hx hb dX6_rule_31 (v := v1.toInt64) rfl ?_
  refine lv_lconst hx hb dX6_rule_32 kl_0 ?_
  refine lv_ldc2 hx hb X.1.2.2.2.1 (X.1.2.2.2.2 _ lc_RX6_96) dX6_rule_33 ?_
  obtain ⟨q4, hq4, hf⟩ := bd_s hf
  refine fb_ci X h (fb_runS (As := [.long (v1.toInt64), .long (0), .long (3)]) (rest := []) X h (c_X6_in l X.2.2.1 (fun k hk => absurd hk List.not_mem_nil) (v1.toInt64) (0 : Int64) (3 : Int64) σ hq4) mf_yX6_in lm_RX6_80 ⟨Nat.le_of_ble_eq_true rfl, Nat.le_of_ble_eq_true rfl⟩ ⟨Nat.le_refl _, Nat.le_refl _⟩ rfl hl.1 rfl (Nat.le_of_ble_eq_true rfl) dX6_rule_36) (fun H locs h => ?_)
  refine lv_if_eq hx hb dX6_rule_39 (tgt := 62) (by decide) (fun hc => ?_) (fun hc => ?_)
  · have hf := if_t hc hf
    refine lv_bipush hx hb dX6_rule_62 kb_m2 ?_
    have e9 := Option.some.inj hf
    subst e9
    exact fb_ir X h hr hlk dX6_rule_64
  · have hf := if_f hc hf
    refine lv_iload_n hx hb dX6_rule_42 rfl (lv_at hl 3 rfl) ?_
    refine lv_i2l hx hb dX6_rule_43 (v := v2.toInt64) rfl ?_
    refine lv_iload_n hx hb dX6_rule_44 rfl (lv_at hl 2 rfl) ?_
    refine lv_iconst hx hb dX6_rule_45 ki_2 ?_
    refine lv_icmp_ge hx hb dX6_rule_46 (tgt := 53) (by decide) (fun hc => ?_) (fun hc => ?_)
    · have hf := if_t hc hf
      refine lv_lconst hx hb dX6_rule_53 kl_0 ?_
      exact w_X6_rule_L54 X hks hr hlk  v1 v2 s0 (v2.toInt64) (0 : Int64) σ _ _ _ h (lv_sub hl [1, 2, 3, 0] rfl) hf
    · have hf := if_f hc hf
      refine lv_lconst hx hb dX6_rule_49 kl_1 ?_
      refine lv_goto hx hb dX6_rule_50 (tgt := 54) (by decide) ?_
      exact w_X6_rule_L54 X hks hr hlk  v1 v2 s0 (v2.toInt64) (1 : Int64) σ _ _ _ h (lv_sub hl [1, 2, 3, 0] rfl) hf
set_option maxHeartbeats 4000000 in
set_option maxRecDepth 100000 in
theorem c_X6_rule (l : Launch) {g : fb_G} {ks : List Nat} (hI : fb_I g ks) (hks : ∀ k ∈ ([29, 37] : List Nat), k ∈ ks) (a1 : Int32) (a2 : Int32) (σ : fb_S) {res : (Int32 × fb_S)} (hf : f_X6_rule a1 a2 σ = some res) : fb_M l yX6_rule cX6_rule 5 (some .int) 1 25 g ks [.ref (g.1 29), .int a1, .int a2] σ (fb_Qi g ks res.1 res.2) := by
  refine fb_met (by decide +kernel) hI (Nat.le_of_ble_eq_true rfl) (fun p e s m below meth c ls X h hr hlk hl => ?_)
  have X : fb_X p m c cX6_rule 5 s _ RX6 g ks (fb_A g ks) := X
  have hl : lv_has ls 5 [(0, .ref (g.1 29)), (1, .int a1), (2, .int a2)] := hl
  have hx := X.1.1
  have hb := X.1.2.1
  unfold f_X6_rule at hf
  refine lv_aload_n hx hb dX6_rule_0 rfl (lv_at hl 0 rfl) ?_
  refine lv_iconst hx hb dX6_rule_1 ki_0 ?_
  obtain ⟨t5, et5, hf⟩ := nm_s hf
  refine pt_RX6_75 X h (hks 29 (by decide)) dX6_rule_2 (fun H locs h => ?_)
  have h := fb_H.nm et5 h
  refine lv_iload_n hx hb dX6_rule_5 rfl (lv_at hl 1 rfl) ?_
  refine lv_if_ne hx hb dX6_rule_6 (tgt := 15) (by decide) (fun hc => ?_) (fun hc => ?_)
  · have hf := if_f hc hf
    refine lv_iload_n hx hb dX6_rule_15 rfl (lv_at hl 1 rfl) ?_
    refine lv_iconst hx hb dX6_rule_16 ki_2 ?_
    refine lv_icmp_ne hx hb dX6_rule_17 (tgt := 26) (by decide) (fun hc => ?_) (fun hc => ?_)
    · have hf := if_f hc hf
      refine lv_sipush hx hb dX6_rule_26 ks_9999 ?_
      exact w_X6_rule_L29 X hks hr hlk  a1 a2 (9999 : Int32) t5 _ _ _ h (lv_sub hl [0, 1, 2] rfl) hf
    · have hf := if_t hc hf
      refine lv_sipush hx hb dX6_rule_20 ks_999 ?_
      refine lv_goto hx hb dX6_rule_23 (tgt := 29) (by decide) ?_
      exact w_X6_rule_L29 X hks hr hlk  a1 a2 (999 : Int32) t5 _ _ _ h (lv_sub hl [0, 1, 2] rfl) hf
  · have hf := if_t hc hf
    refine lv_sipush hx hb dX6_rule_9 ks_500 ?_
    refine lv_goto hx hb dX6_rule_12 (tgt := 29) (by decide) ?_
    exact w_X6_rule_L29 X hks hr hlk  a1 a2 (500 : Int32) t5 _ _ _ h (lv_sub hl [0, 1, 2] rfl) hf
def f_X6_asIs_L32 (N : Nat) : Nat → Int32 → fb_S → Option fb_S
  | 0, _, _ => none
  | n + 1, v1, σ => 
    if (σ.1 29 11) ≤ v1 then (
      some σ
    ) else (
      ck_ (fb_in v1 10) <|
      if (σ.1 41 v1.toNatClampNeg) = 0 then (
        nm_ (fb_up σ 29 9 ((σ.1 29 9) + (0 : Int32))) fun t1 =>
        f_X6_asIs_L32 N n (v1 + 1) t1
      ) else (
        ck_ (fb_in v1 10) <|
        nm_ (fb_up σ 29 9 ((σ.1 29 9) + (σ.1 38 v1.toNatClampNeg))) fun t2 =>
        f_X6_asIs_L32 N n (v1 + 1) t2
      )
    )
def f_X6_asIs_L2 (N : Nat) : Nat → Int32 → fb_S → Option fb_S
  | 0, _, _ => none
  | n + 1, v1, σ => 
    if (4 : Int32) ≤ v1 then (
      nm_ (fb_up σ 29 9 (0 : Int32)) fun t3 =>
      f_X6_asIs_L32 N N (0 : Int32) t3
    ) else (
      ck_ (fb_in v1 4) <|
      ck_ (fb_in v1 4) <|
      nm_ (fb_up σ 36 (v1.toNatClampNeg) (σ.1 35 v1.toNatClampNeg)) fun t4 =>
      f_X6_asIs_L2 N n (v1 + 1) t4
    )
def f_X6_asIs (N : Nat)  (σ : fb_S) : Option fb_S :=
  f_X6_asIs_L2 N N (0 : Int32) σ
set_option maxHeartbeats 4000000 in
set_option maxRecDepth 100000 in
theorem w_X6_asIs_L32 (X : fb_X p m c cX6_asIs 2 s args RX6 g ks (fb_A g ks)) (hks : ∀ k ∈ ([29, 35, 36, 38, 41] : List Nat), k ∈ ks) (hr : meth.sig.returnType = none) (hlk : meth.locks = false) (N : Nat)  {res : fb_S} : ∀ (n : Nat) (v1 : Int32) (σ : fb_S) (H : Heap) (locs : List Loc) (ls : Array Slot), fb_H g ks (fb_A g ks) s.heap σ H locs → lv_has ls 2 [(0, .ref (g.1 29)), (1, .int v1)] → f_X6_asIs_L32 N n v1 σ = some res → W p l e (fb_R 0 0) s m args below meth c H locs 0 0 (MQ below (fb_Qv g ks res) args s 0 0 (fb_A g ks)) (F0 m 32 ls []) := by
  have hx := X.1.1
  have hb := X.1.2.1
  intro n
  induction n with
  | zero => intro v1 σ H locs ls h hl hf; cases hf
  | succ n ih =>
    intro v1 σ H locs ls h hl hf
    unfold f_X6_asIs_L32 at hf
    refine lv_iload_n hx hb dX6_asIs_32 rfl (lv_at hl 1 rfl) ?_
    refine lv_aload_n hx hb dX6_asIs_33 rfl (lv_at hl 0 rfl) ?_
    refine gt_RX6_112 X h (hks 29 (by decide)) dX6_asIs_34 ?_
    refine lv_icmp_ge hx hb dX6_asIs_37 (tgt := 74) (by decide) (fun hc => ?_) (fun hc => ?_)
    · have hf := if_t hc hf
      have e9 := Option.some.inj hf
      subst e9
      exact fb_vr X h hr hlk dX6_asIs_74
    · have hf := if_f hc hf
      refine lv_aload_n hx hb dX6_asIs_40 rfl (lv_at hl 0 rfl) ?_
      refine lv_dup hx hb dX6_asIs_41 rfl ?_
      refine gt_RX6_109 X h (hks 29 (by decide)) dX6_asIs_42 ?_
      refine lv_aload_n hx hb dX6_asIs_45 rfl (lv_at hl 0 rfl) ?_
      refine gt_RX6_47 X h (hks 29 (by decide)) dX6_asIs_46 ?_
      refine lv_iload_n hx hb dX6_asIs_49 rfl (lv_at hl 1 rfl) ?_
      obtain ⟨hi0, hf⟩ := ck_s hf
      refine fb_zald X h (hks 41 (by decide)) rfl hi0 dX6_asIs_50 ?_
      refine lv_if_eq hx hb dX6_asIs_51 (tgt := 63) (by decide) (fun hc => ?_) (fun hc => ?_)
      · have hf := if_t hc hf
        refine lv_iconst hx hb dX6_asIs_63 ki_0 ?_
        refine lv_iadd hx hb dX6_asIs_64 ?_
        obtain ⟨t1, et1, hf⟩ := nm_s hf
        refine pt_RX6_109 X h (hks 29 (by decide)) dX6_asIs_65 (fun H locs h => ?_)
        have h := fb_H.nm et1 h
        refine lv_iinc hx hb dX6_asIs_68 hl (k := 1) rfl (kinc_1 _) (by decide) (lv' := [(1, .int (v1 + 1)), (0, .ref (g.1 29))]) rfl (fun ls hl => ?_)
        refine lv_goto hx hb dX6_asIs_71 (tgt := 32) (by decide) ?_
        exact ih (v1 + 1) t1 _ _ _ h (lv_sub hl [1, 0] rfl) hf
      · have hf := if_f hc hf
        refine lv_aload_n hx hb dX6_asIs_54 rfl (lv_at hl 0 rfl) ?_
        refine gt_RX6_38 X h (hks 29 (by decide)) dX6_asIs_55 ?_
        refine lv_iload_n hx hb dX6_asIs_58 rfl (lv_at hl 1 rfl) ?_
        obtain ⟨hi0, hf⟩ := ck_s hf
        refine fb_iald X h (hks 38 (by decide)) rfl hi0 dX6_asIs_59 ?_
        refine lv_goto hx hb dX6_asIs_60 (tgt := 64) (by decide) ?_
        refine lv_iadd hx hb dX6_asIs_64 ?_
        obtain ⟨t2, et2, hf⟩ := nm_s hf
        refine pt_RX6_109 X h (hks 29 (by decide)) dX6_asIs_65 (fun H locs h => ?_)
        have h := fb_H.nm et2 h
        refine lv_iinc hx hb dX6_asIs_68 hl (k := 1) rfl (kinc_1 _) (by decide) (lv' := [(1, .int (v1 + 1)), (0, .ref (g.1 29))]) rfl (fun ls hl => ?_)
        refine lv_goto hx hb dX6_asIs_71 (tgt := 32) (by decide) ?_
        exact ih (v1 + 1) t2 _ _ _ h (lv_sub hl [1, 0] rfl) hf
set_option maxHeartbeats 4000000 in
set_option maxRecDepth 100000 in
theorem w_X6_asIs_L2 (X : fb_X p m c cX6_asIs 2 s args RX6 g ks (fb_A g ks)) (hks : ∀ k ∈ ([29, 35, 36, 38, 41] : List Nat), k ∈ ks) (hr : meth.sig.returnType = none) (hlk : meth.locks = false) (N : Nat)  {res : fb_S} : ∀ (n : Nat) (v1 : Int32) (σ : fb_S) (H : Heap) (locs : List Loc) (ls : Array Slot), fb_H g ks (fb_A g ks) s.heap σ H locs → lv_has ls 2 [(0, .ref (g.1 29)), (1, .int v1)] → f_X6_asIs_L2 N n v1 σ = some res → W p l e (fb_R 0 0) s m args below meth c H locs 0 0 (MQ below (fb_Qv g ks res) args s 0 0 (fb_A g ks)) (F0 m 2 ls []) := by
  have hx := X.1.1
  have hb := X.1.2.1
  intro n
  induction n with
  | zero => intro v1 σ H locs ls h hl hf; cases hf
  | succ n ih =>
    intro v1 σ H locs ls h hl hf
    unfold f_X6_asIs_L2 at hf
    refine lv_iload_n hx hb dX6_asIs_2 rfl (lv_at hl 1 rfl) ?_
    refine lv_iconst hx hb dX6_asIs_3 ki_4 ?_
    refine lv_icmp_ge hx hb dX6_asIs_4 (tgt := 25) (by decide) (fun hc => ?_) (fun hc => ?_)
    · have hf := if_t hc hf
      refine lv_aload_n hx hb dX6_asIs_25 rfl (lv_at hl 0 rfl) ?_
      refine lv_iconst hx hb dX6_asIs_26 ki_0 ?_
      obtain ⟨t3, et3, hf⟩ := nm_s hf
      refine pt_RX6_109 X h (hks 29 (by decide)) dX6_asIs_27 (fun H locs h => ?_)
      have h := fb_H.nm et3 h
      refine lv_iconst hx hb dX6_asIs_30 ki_0 ?_
      refine lv_istore_n hx hb dX6_asIs_31 rfl hl (by decide) (lv' := [(1, .int (0)), (0, .ref (g.1 29))]) rfl (fun ls hl => ?_)
      exact w_X6_asIs_L32 X hks hr hlk N N (0 : Int32) t3 _ _ _ h (lv_sub hl [1, 0] rfl) hf
    · have hf := if_f hc hf
      refine lv_aload_n hx hb dX6_asIs_7 rfl (lv_at hl 0 rfl) ?_
      refine gt_RX6_32 X h (hks 29 (by decide)) dX6_asIs_8 ?_
      refine lv_iload_n hx hb dX6_asIs_11 rfl (lv_at hl 1 rfl) ?_
      refine lv_aload_n hx hb dX6_asIs_12 rfl (lv_at hl 0 rfl) ?_
      refine gt_RX6_29 X h (hks 29 (by decide)) dX6_asIs_13 ?_
      refine lv_iload_n hx hb dX6_asIs_16 rfl (lv_at hl 1 rfl) ?_
      obtain ⟨hi0, hf⟩ := ck_s hf
      refine fb_iald X h (hks 35 (by decide)) rfl hi0 dX6_asIs_17 ?_
      obtain ⟨hi0, hf⟩ := ck_s hf
      obtain ⟨t4, et4, hf⟩ := nm_s hf
      refine fb_iast X h (hks 36 (by decide)) (fun _ => rfl) hi0 dX6_asIs_18 (fun H locs h => ?_)
      have h := fb_H.nm et4 h
      refine lv_iinc hx hb dX6_asIs_19 hl (k := 1) rfl (kinc_1 _) (by decide) (lv' := [(1, .int (v1 + 1)), (0, .ref (g.1 29))]) rfl (fun ls hl => ?_)
      refine lv_goto hx hb dX6_asIs_22 (tgt := 2) (by decide) ?_
      exact ih (v1 + 1) t4 _ _ _ h (lv_sub hl [1, 0] rfl) hf
set_option maxHeartbeats 4000000 in
set_option maxRecDepth 100000 in
theorem c_X6_asIs (l : Launch) {g : fb_G} {ks : List Nat} (hI : fb_I g ks) (hks : ∀ k ∈ ([29, 35, 36, 38, 41] : List Nat), k ∈ ks) (N : Nat) (σ : fb_S) {res : fb_S} (hf : f_X6_asIs N σ = some res) : fb_M l yX6_asIs cX6_asIs 2 none 0 0 g ks [.ref (g.1 29)] σ (fb_Qv g ks res) := by
  refine fb_met (by decide +kernel) hI (Nat.le_of_ble_eq_true rfl) (fun p e s m below meth c ls X h hr hlk hl => ?_)
  have X : fb_X p m c cX6_asIs 2 s _ RX6 g ks (fb_A g ks) := X
  have hl : lv_has ls 2 [(0, .ref (g.1 29))] := hl
  have hx := X.1.1
  have hb := X.1.2.1
  unfold f_X6_asIs at hf
  refine lv_iconst hx hb dX6_asIs_0 ki_0 ?_
  refine lv_istore_n hx hb dX6_asIs_1 rfl hl (by decide) (lv' := [(1, .int (0)), (0, .ref (g.1 29))]) rfl (fun ls hl => ?_)
  exact w_X6_asIs_L2 X hks hr hlk N N (0 : Int32) σ _ _ _ h (lv_sub hl [1, 0] rfl) hf
def f_X6_inStepOf (a1 : Int32) (a2 : Int32) (σ : fb_S) : Option Int32 :=
  ck_ (fb_in a1 4) <|
  if a2 < (σ.1 33 a1.toNatClampNeg) then (
    some (0 : Int32)
  ) else (
    ck_ (fb_in a1 4) <|
    if (σ.1 34 a1.toNatClampNeg) < a2 then (
      some (0 : Int32)
    ) else (
      some (1 : Int32)
    )
  )
set_option maxHeartbeats 4000000 in
set_option maxRecDepth 100000 in
theorem c_X6_inStepOf (l : Launch) {g : fb_G} {ks : List Nat} (hI : fb_I g ks) (hks : ∀ k ∈ ([29, 33, 34] : List Nat), k ∈ ks) (a1 : Int32) (a2 : Int32) (σ : fb_S) {res : Int32} (hf : f_X6_inStepOf a1 a2 σ = some res) : fb_M l yX6_inStepOf cX6_inStepOf 3 (some .boolean) 0 0 g ks [.ref (g.1 29), .int a1, .int a2] σ (fb_Qi g ks res σ) := by
  refine fb_met (by decide +kernel) hI (Nat.le_of_ble_eq_true rfl) (fun p e s m below meth c ls X h hr hlk hl => ?_)
  have X : fb_X p m c cX6_inStepOf 3 s _ RX6 g ks (fb_A g ks) := X
  have hl : lv_has ls 3 [(0, .ref (g.1 29)), (1, .int a1), (2, .int a2)] := hl
  have hx := X.1.1
  have hb := X.1.2.1
  unfold f_X6_inStepOf at hf
  refine lv_aload_n hx hb dX6_inStepOf_0 rfl (lv_at hl 0 rfl) ?_
  refine gt_RX6_23 X h (hks 29 (by decide)) dX6_inStepOf_1 ?_
  refine lv_iload_n hx hb dX6_inStepOf_4 rfl (lv_at hl 1 rfl) ?_
  obtain ⟨hi0, hf⟩ := ck_s hf
  refine fb_iald X h (hks 33 (by decide)) rfl hi0 dX6_inStepOf_5 ?_
  refine lv_iload_n hx hb dX6_inStepOf_6 rfl (lv_at hl 2 rfl) ?_
  refine lv_icmp_gt hx hb dX6_inStepOf_7 (tgt := 24) (by decide) (fun hc => ?_) (fun hc => ?_)
  · have hf := if_t hc hf
    refine lv_iconst hx hb dX6_inStepOf_24 ki_0 ?_
    have e9 := Option.some.inj hf
    subst e9
    exact fb_zr (r := (0 : Int32)) X h hr rfl hlk dX6_inStepOf_25
  · have hf := if_f hc hf
    refine lv_iload_n hx hb dX6_inStepOf_10 rfl (lv_at hl 2 rfl) ?_
    refine lv_aload_n hx hb dX6_inStepOf_11 rfl (lv_at hl 0 rfl) ?_
    refine gt_RX6_26 X h (hks 29 (by decide)) dX6_inStepOf_12 ?_
    refine lv_iload_n hx hb dX6_inStepOf_15 rfl (lv_at hl 1 rfl) ?_
    obtain ⟨hi0, hf⟩ := ck_s hf
    refine fb_iald X h (hks 34 (by decide)) rfl hi0 dX6_inStepOf_16 ?_
    refine lv_icmp_gt hx hb dX6_inStepOf_17 (tgt := 24) (by decide) (fun hc => ?_) (fun hc => ?_)
    · have hf := if_t hc hf
      refine lv_iconst hx hb dX6_inStepOf_24 ki_0 ?_
      have e9 := Option.some.inj hf
      subst e9
      exact fb_zr (r := (0 : Int32)) X h hr rfl hlk dX6_inStepOf_25
    · have hf := if_f hc hf
      refine lv_iconst hx hb dX6_inStepOf_20 ki_1 ?_
      refine lv_goto hx hb dX6_inStepOf_21 (tgt := 25) (by decide) ?_
      have e9 := Option.some.inj hf
      subst e9
      exact fb_zr (r := (1 : Int32)) X h hr rfl hlk dX6_inStepOf_25
def f_X6_netAt_L4 (N : Nat) (σ : fb_S) : Nat → Int32 → Int32 → Int32 → Option Int32
  | 0, _, _, _ => none
  | n + 1, v1, v2, v3 => 
    if (4 : Int32) ≤ v3 then (
      some (((v2 / (100 : Int32)) - (σ.1 37 0)) - (σ.1 29 9))
    ) else (
      (f_X6_inStepOf v3 v1 σ).bind fun q1 =>
      if q1 = 0 then (
        nm_ (v2 + (0 : Int32)) fun x2 =>
        f_X6_netAt_L4 N σ n v1 x2 (v3 + 1)
      ) else (
        ck_ (fb_in v3 4) <|
        ck_ (fb_in v3 4) <|
        nm_ (v2 + ((σ.1 36 v3.toNatClampNeg) * (σ.1 32 v3.toNatClampNeg))) fun x3 =>
        f_X6_netAt_L4 N σ n v1 x3 (v3 + 1)
      )
    )
def f_X6_netAt (N : Nat) (a1 : Int32) (σ : fb_S) : Option Int32 :=
  f_X6_netAt_L4 N σ N a1 (0 : Int32) (0 : Int32)
set_option maxHeartbeats 4000000 in
set_option maxRecDepth 100000 in
theorem w_X6_netAt_L4 (X : fb_X p m c cX6_netAt 4 s args RX6 g ks (fb_A g ks)) (hks : ∀ k ∈ ([29, 32, 33, 34, 36, 37] : List Nat), k ∈ ks) (hr : meth.sig.returnType = (some .int)) (hlk : meth.locks = false) (N : Nat) (σ : fb_S)  {res : Int32} : ∀ (n : Nat) (v1 : Int32) (v2 : Int32) (v3 : Int32) (H : Heap) (locs : List Loc) (ls : Array Slot), fb_H g ks (fb_A g ks) s.heap σ H locs → lv_has ls 4 [(0, .ref (g.1 29)), (1, .int v1), (2, .int v2), (3, .int v3)] → f_X6_netAt_L4 N σ n v1 v2 v3 = some res → W p l e (fb_R 1 22) s m args below meth c H locs 0 0 (MQ below (fb_Qi g ks res σ) args s 0 0 (fb_A g ks)) (F0 m 4 ls []) := by
  have hx := X.1.1
  have hb := X.1.2.1
  intro n
  induction n with
  | zero => intro v1 v2 v3 H locs ls h hl hf; cases hf
  | succ n ih =>
    intro v1 v2 v3 H locs ls h hl hf
    unfold f_X6_netAt_L4 at hf
    refine lv_iload_n hx hb dX6_netAt_4 rfl (lv_at hl 3 rfl) ?_
    refine lv_iconst hx hb dX6_netAt_5 ki_4 ?_
    refine lv_icmp_ge hx hb dX6_netAt_6 (tgt := 44) (by decide) (fun hc => ?_) (fun hc => ?_)
    · have hf := if_t hc hf
      refine lv_iload_n hx hb dX6_netAt_44 rfl (lv_at hl 2 rfl) ?_
      refine lv_bipush hx hb dX6_netAt_45 kb_100 ?_
      refine lv_idiv hx hb dX6_netAt_47 (by decide) ?_
      refine lv_aload_n hx hb dX6_netAt_48 rfl (lv_at hl 0 rfl) ?_
      refine gt_RX6_35 X h (hks 29 (by decide)) dX6_netAt_49 ?_
      refine lv_iconst hx hb dX6_netAt_52 ki_0 ?_
      refine fb_ialdL X h (hks 37 (by decide)) rfl (by decide) kn_0 dX6_netAt_53 ?_
      refine lv_isub hx hb dX6_netAt_54 ?_
      refine lv_aload_n hx hb dX6_netAt_55 rfl (lv_at hl 0 rfl) ?_
      refine gt_RX6_109 X h (hks 29 (by decide)) dX6_netAt_56 ?_
      refine lv_isub hx hb dX6_netAt_59 ?_
      have e9 := Option.some.inj hf
      subst e9
      exact fb_ir X h hr hlk dX6_netAt_60
    · have hf := if_f hc hf
      refine lv_iload_n hx hb dX6_netAt_9 rfl (lv_at hl 2 rfl) ?_
      refine lv_aload_n hx hb dX6_netAt_10 rfl (lv_at hl 0 rfl) ?_
      refine lv_iload_n hx hb dX6_netAt_11 rfl (lv_at hl 3 rfl) ?_
      refine lv_iload_n hx hb dX6_netAt_12 rfl (lv_at hl 1 rfl) ?_
      obtain ⟨q1, hq1, hf⟩ := bd_s hf
      refine fb_ci X h (fb_runV (As := [.int v3, .int v1]) (rest := [.int v2]) (k := 29) X h (c_X6_inStepOf l X.2.2.1 (fun k hk => hks k ((by decide : ∀ k ∈ ([29, 33, 34] : List Nat), k ∈ ([29, 32, 33, 34, 36, 37] : List Nat)) k hk)) v3 v1 σ hq1) mf_yX6_inStepOf lm_RX6_115 (hks 29 (by decide)) rfl rfl ⟨Nat.le_of_ble_eq_true rfl, Nat.le_of_ble_eq_true rfl⟩ ⟨Nat.le_refl _, Nat.le_refl _⟩ rfl hl.1 rfl (Nat.le_of_ble_eq_true rfl) dX6_netAt_13) (fun H locs h => ?_)
      refine lv_if_eq hx hb dX6_netAt_16 (tgt := 35) (by decide) (fun hc => ?_) (fun hc => ?_)
      · have hf := if_t hc hf
        refine lv_iconst hx hb dX6_netAt_35 ki_0 ?_
        refine lv_iadd hx hb dX6_netAt_36 ?_
        obtain ⟨x2, ex2, hf⟩ := nm_s hf
        refine fb_topi ex2 ?_
        refine lv_istore_n hx hb dX6_netAt_37 rfl hl (by decide) (lv' := [(2, .int x2), (0, .ref (g.1 29)), (1, .int v1), (3, .int v3)]) rfl (fun ls hl => ?_)
        refine lv_iinc hx hb dX6_netAt_38 hl (k := 3) rfl (kinc_1 _) (by decide) (lv' := [(3, .int (v3 + 1)), (2, .int x2), (0, .ref (g.1 29)), (1, .int v1)]) rfl (fun ls hl => ?_)
        refine lv_goto hx hb dX6_netAt_41 (tgt := 4) (by decide) ?_
        exact ih v1 x2 (v3 + 1) _ _ _ h (lv_sub hl [2, 3, 1, 0] rfl) hf
      · have hf := if_f hc hf
        refine lv_aload_n hx hb dX6_netAt_19 rfl (lv_at hl 0 rfl) ?_
        refine gt_RX6_32 X h (hks 29 (by decide)) dX6_netAt_20 ?_
        refine lv_iload_n hx hb dX6_netAt_23 rfl (lv_at hl 3 rfl) ?_
        obtain ⟨hi0, hf⟩ := ck_s hf
        refine fb_iald X h (hks 36 (by decide)) rfl hi0 dX6_netAt_24 ?_
        refine lv_aload_n hx hb dX6_netAt_25 rfl (lv_at hl 0 rfl) ?_
        refine gt_RX6_20 X h (hks 29 (by decide)) dX6_netAt_26 ?_
        refine lv_iload_n hx hb dX6_netAt_29 rfl (lv_at hl 3 rfl) ?_
        obtain ⟨hi0, hf⟩ := ck_s hf
        refine fb_iald X h (hks 32 (by decide)) rfl hi0 dX6_netAt_30 ?_
        refine lv_imul hx hb dX6_netAt_31 ?_
        refine lv_goto hx hb dX6_netAt_32 (tgt := 36) (by decide) ?_
        refine lv_iadd hx hb dX6_netAt_36 ?_
        obtain ⟨x3, ex3, hf⟩ := nm_s hf
        refine fb_topi ex3 ?_
        refine lv_istore_n hx hb dX6_netAt_37 rfl hl (by decide) (lv' := [(2, .int x3), (0, .ref (g.1 29)), (1, .int v1), (3, .int v3)]) rfl (fun ls hl => ?_)
        refine lv_iinc hx hb dX6_netAt_38 hl (k := 3) rfl (kinc_1 _) (by decide) (lv' := [(3, .int (v3 + 1)), (2, .int x3), (0, .ref (g.1 29)), (1, .int v1)]) rfl (fun ls hl => ?_)
        refine lv_goto hx hb dX6_netAt_41 (tgt := 4) (by decide) ?_
        exact ih v1 x3 (v3 + 1) _ _ _ h (lv_sub hl [2, 3, 1, 0] rfl) hf
set_option maxHeartbeats 4000000 in
set_option maxRecDepth 100000 in
theorem c_X6_netAt (l : Launch) {g : fb_G} {ks : List Nat} (hI : fb_I g ks) (hks : ∀ k ∈ ([29, 32, 33, 34, 36, 37] : List Nat), k ∈ ks) (N : Nat) (a1 : Int32) (σ : fb_S) {res : Int32} (hf : f_X6_netAt N a1 σ = some res) : fb_M l yX6_netAt cX6_netAt 4 (some .int) 1 22 g ks [.ref (g.1 29), .int a1] σ (fb_Qi g ks res σ) := by
  refine fb_met (by decide +kernel) hI (Nat.le_of_ble_eq_true rfl) (fun p e s m below meth c ls X h hr hlk hl => ?_)
  have X : fb_X p m c cX6_netAt 4 s _ RX6 g ks (fb_A g ks) := X
  have hl : lv_has ls 4 [(0, .ref (g.1 29)), (1, .int a1)] := hl
  have hx := X.1.1
  have hb := X.1.2.1
  unfold f_X6_netAt at hf
  refine lv_iconst hx hb dX6_netAt_0 ki_0 ?_
  refine lv_istore_n hx hb dX6_netAt_1 rfl hl (by decide) (lv' := [(2, .int (0)), (0, .ref (g.1 29)), (1, .int a1)]) rfl (fun ls hl => ?_)
  refine lv_iconst hx hb dX6_netAt_2 ki_0 ?_
  refine lv_istore_n hx hb dX6_netAt_3 rfl hl (by decide) (lv' := [(3, .int (0)), (2, .int (0)), (0, .ref (g.1 29)), (1, .int a1)]) rfl (fun ls hl => ?_)
  exact w_X6_netAt_L4 X hks hr hlk N σ N a1 (0 : Int32) (0 : Int32) _ _ _ h (lv_sub hl [2, 3, 1, 0] rfl) hf
def f_X6_net (N : Nat) (a1 : Int32) (σ : fb_S) : Option (Int32 × fb_S) :=
  nm_ (fb_up σ 29 0 (0 : Int32)) fun t1 =>
  (f_X6_noSway a1).bind fun q2 =>
  if q2 = 0 then (
    (f_X6_asIs N t1).bind fun q3 =>
    (f_X6_netAt N a1 q3).bind fun q4 =>
    some (q4 + (100000 : Int32), q3)
  ) else (
    some ((-2 : Int32), t1)
  )
set_option maxHeartbeats 4000000 in
set_option maxRecDepth 100000 in
theorem c_X6_net (l : Launch) {g : fb_G} {ks : List Nat} (hI : fb_I g ks) (hks : ∀ k ∈ ([29, 32, 33, 34, 35, 36, 37, 38, 41] : List Nat), k ∈ ks) (N : Nat) (a1 : Int32) (σ : fb_S) {res : (Int32 × fb_S)} (hf : f_X6_net N a1 σ = some res) : fb_M l yX6_net cX6_net 2 (some .int) 2 45 g ks [.ref (g.1 29), .int a1] σ (fb_Qi g ks res.1 res.2) := by
  refine fb_met (by decide +kernel) hI (Nat.le_of_ble_eq_true rfl) (fun p e s m below meth c ls X h hr hlk hl => ?_)
  have X : fb_X p m c cX6_net 2 s _ RX6 g ks (fb_A g ks) := X
  have hl : lv_has ls 2 [(0, .ref (g.1 29)), (1, .int a1)] := hl
  have hx := X.1.1
  have hb := X.1.2.1
  unfold f_X6_net at hf
  refine lv_aload_n hx hb dX6_net_0 rfl (lv_at hl 0 rfl) ?_
  refine lv_iconst hx hb dX6_net_1 ki_0 ?_
  obtain ⟨t1, et1, hf⟩ := nm_s hf
  refine pt_RX6_75 X h (hks 29 (by decide)) dX6_net_2 (fun H locs h => ?_)
  have h := fb_H.nm et1 h
  refine lv_iload_n hx hb dX6_net_5 rfl (lv_at hl 1 rfl) ?_
  obtain ⟨q2, hq2, hf⟩ := bd_s hf
  refine fb_ci X h (fb_runS (As := [.int a1]) (rest := []) X h (c_X6_noSway l X.2.2.1 (fun k hk => absurd hk List.not_mem_nil) a1 t1 hq2) mf_yX6_noSway lm_RX6_104 ⟨Nat.le_of_ble_eq_true rfl, Nat.le_of_ble_eq_true rfl⟩ ⟨Nat.le_refl _, Nat.le_refl _⟩ rfl hl.1 rfl (Nat.le_of_ble_eq_true rfl) dX6_net_6) (fun H locs h => ?_)
  refine lv_if_eq hx hb dX6_net_9 (tgt := 15) (by decide) (fun hc => ?_) (fun hc => ?_)
  · have hf := if_t hc hf
    refine lv_aload_n hx hb dX6_net_15 rfl (lv_at hl 0 rfl) ?_
    obtain ⟨q3, hq3, hf⟩ := bd_s hf
    refine fb_cv X h (fb_runV (As := []) (rest := []) (k := 29) X h (c_X6_asIs l X.2.2.1 (fun k hk => hks k ((by decide : ∀ k ∈ ([29, 35, 36, 38, 41] : List Nat), k ∈ ([29, 32, 33, 34, 35, 36, 37, 38, 41] : List Nat)) k hk)) N t1 hq3) mf_yX6_asIs lm_RX6_130 (hks 29 (by decide)) rfl rfl ⟨Nat.le_of_ble_eq_true rfl, Nat.le_of_ble_eq_true rfl⟩ ⟨Nat.le_refl _, Nat.le_refl _⟩ rfl hl.1 rfl (Nat.le_of_ble_eq_true rfl) dX6_net_16) (fun H locs h => ?_)
    refine lv_aload_n hx hb dX6_net_19 rfl (lv_at hl 0 rfl) ?_
    refine lv_iload_n hx hb dX6_net_20 rfl (lv_at hl 1 rfl) ?_
    obtain ⟨q4, hq4, hf⟩ := bd_s hf
    refine fb_ci X h (fb_runV (As := [.int a1]) (rest := []) (k := 29) X h (c_X6_netAt l X.2.2.1 (fun k hk => hks k ((by decide : ∀ k ∈ ([29, 32, 33, 34, 36, 37] : List Nat), k ∈ ([29, 32, 33, 34, 35, 36, 37, 38, 41] : List Nat)) k hk)) N a1 q3 hq4) mf_yX6_netAt lm_RX6_123 (hks 29 (by decide)) rfl rfl ⟨Nat.le_of_ble_eq_true rfl, Nat.le_of_ble_eq_true rfl⟩ ⟨Nat.le_refl _, Nat.le_refl _⟩ rfl hl.1 rfl (Nat.le_of_ble_eq_true rfl) dX6_net_21) (fun H locs h => ?_)
    refine lv_ldc hx hb X.1.2.2.2.1 (X.1.2.2.2.2 _ lc_RX6_133) dX6_net_24 ?_
    refine lv_iadd hx hb dX6_net_26 ?_
    have e9 := Option.some.inj hf
    subst e9
    exact fb_ir X h hr hlk dX6_net_27
  · have hf := if_f hc hf
    refine lv_bipush hx hb dX6_net_12 kb_m2 ?_
    have e9 := Option.some.inj hf
    subst e9
    exact fb_ir X h hr hlk dX6_net_14
def f_X6_lesser (a1 : Int32) (a2 : Int32) : Option Int32 :=
  if a2 ≤ a1 then (
    some a2
  ) else (
    some a1
  )
set_option maxHeartbeats 4000000 in
set_option maxRecDepth 100000 in
theorem c_X6_lesser (l : Launch) {g : fb_G} {ks : List Nat} (hI : fb_I g ks) (hks : ∀ k ∈ ([] : List Nat), k ∈ ks) (a1 : Int32) (a2 : Int32) (σ : fb_S) {res : Int32} (hf : f_X6_lesser a1 a2 = some res) : fb_M l yX6_lesser cX6_lesser 2 (some .int) 0 0 g ks [.int a1, .int a2] σ (fb_Qi g ks res σ) := by
  refine fb_met (by decide +kernel) hI (Nat.le_of_ble_eq_true rfl) (fun p e s m below meth c ls X h hr hlk hl => ?_)
  have X : fb_X p m c cX6_lesser 2 s _ RX6 g ks (fb_A g ks) := X
  have hl : lv_has ls 2 [(0, .int a1), (1, .int a2)] := hl
  have hx := X.1.1
  have hb := X.1.2.1
  unfold f_X6_lesser at hf
  refine lv_iload_n hx hb dX6_lesser_0 rfl (lv_at hl 0 rfl) ?_
  refine lv_iload_n hx hb dX6_lesser_1 rfl (lv_at hl 1 rfl) ?_
  refine lv_icmp_ge hx hb dX6_lesser_2 (tgt := 9) (by decide) (fun hc => ?_) (fun hc => ?_)
  · have hf := if_t hc hf
    refine lv_iload_n hx hb dX6_lesser_9 rfl (lv_at hl 1 rfl) ?_
    have e9 := Option.some.inj hf
    subst e9
    exact fb_ir X h hr hlk dX6_lesser_10
  · have hf := if_f hc hf
    refine lv_iload_n hx hb dX6_lesser_5 rfl (lv_at hl 0 rfl) ?_
    refine lv_goto hx hb dX6_lesser_6 (tgt := 10) (by decide) ?_
    have e9 := Option.some.inj hf
    subst e9
    exact fb_ir X h hr hlk dX6_lesser_10
def f_X6_moved_L26 (v0 : Int32) (s0 : Int32) : Option Int32 :=
  nm_ (v0 + s0) fun x1 =>
  if 0 ≤ x1 then (
    (f_X6_lesser x1 (9999 : Int32)).bind fun q2 =>
    some q2
  ) else (
    some (0 : Int32)
  )
def f_X6_moved (a1 : Int32) (a2 : Int32) : Option Int32 :=
  nm_ (a1 * a2) fun x3 =>
  if x3 < 0 then (
    f_X6_moved_L26 a1 (-(((999 : Int32) - x3) / (1000 : Int32)))
  ) else (
    f_X6_moved_L26 a1 (x3 / (1000 : Int32))
  )
set_option maxHeartbeats 4000000 in
set_option maxRecDepth 100000 in
theorem w_X6_moved_L26 (X : fb_X p m c cX6_moved 5 s args RX6 g ks (fb_A g ks)) (hks : ∀ k ∈ ([] : List Nat), k ∈ ks) (hr : meth.sig.returnType = (some .int)) (hlk : meth.locks = false) (σ : fb_S)  {res : Int32} : ∀ (v0 : Int32) (s0 : Int32) (H : Heap) (locs : List Loc) (ls : Array Slot), fb_H g ks (fb_A g ks) s.heap σ H locs → lv_has ls 5 [(0, .int v0)] → f_X6_moved_L26 v0 s0 = some res → W p l e (fb_R 1 21) s m args below meth c H locs 0 0 (MQ below (fb_Qi g ks res σ) args s 0 0 (fb_A g ks)) (F0 m 26 ls [.int s0]) := by
  have hx := X.1.1
  have hb := X.1.2.1
  intro v0 s0 H locs ls h hl hf
  unfold f_X6_moved_L26 at hf
  refine lv_istore_n hx hb dX6_moved_26 rfl hl (by decide) (lv' := [(3, .int s0), (0, .int v0)]) rfl (fun ls hl => ?_)
  refine lv_iload_n hx hb dX6_moved_27 rfl (lv_at hl 1 rfl) ?_
  refine lv_iload_n hx hb dX6_moved_28 rfl (lv_at hl 0 rfl) ?_
  refine lv_iadd hx hb dX6_moved_29 ?_
  obtain ⟨x1, ex1, hf⟩ := nm_s hf
  refine fb_topi ex1 ?_
  refine lv_istore hx hb dX6_moved_30 hl (by decide) (lv' := [(4, .int x1), (3, .int s0), (0, .int v0)]) rfl (fun ls hl => ?_)
  refine lv_iload hx hb dX6_moved_32 (lv_at hl 0 rfl) ?_
  refine lv_if_ge hx hb dX6_moved_34 (tgt := 41) (by decide) (fun hc => ?_) (fun hc => ?_)
  · have hf := if_t hc hf
    refine lv_iload hx hb dX6_moved_41 (lv_at hl 0 rfl) ?_
    refine lv_sipush hx hb dX6_moved_43 ks_9999 ?_
    obtain ⟨q2, hq2, hf⟩ := bd_s hf
    refine fb_ci X h (fb_runS (As := [.int x1, .int (9999)]) (rest := []) X h (c_X6_lesser l X.2.2.1 (fun k hk => absurd hk List.not_mem_nil) x1 (9999 : Int32) σ hq2) mf_yX6_lesser lm_RX6_119 ⟨Nat.le_of_ble_eq_true rfl, Nat.le_of_ble_eq_true rfl⟩ ⟨Nat.le_refl _, Nat.le_refl _⟩ rfl hl.1 rfl (Nat.le_of_ble_eq_true rfl) dX6_moved_46) (fun H locs h => ?_)
    have e9 := Option.some.inj hf
    subst e9
    exact fb_ir X h hr hlk dX6_moved_49
  · have hf := if_f hc hf
    refine lv_iconst hx hb dX6_moved_37 ki_0 ?_
    refine lv_goto hx hb dX6_moved_38 (tgt := 49) (by decide) ?_
    have e9 := Option.some.inj hf
    subst e9
    exact fb_ir X h hr hlk dX6_moved_49
set_option maxHeartbeats 4000000 in
set_option maxRecDepth 100000 in
theorem c_X6_moved (l : Launch) {g : fb_G} {ks : List Nat} (hI : fb_I g ks) (hks : ∀ k ∈ ([] : List Nat), k ∈ ks) (a1 : Int32) (a2 : Int32) (σ : fb_S) {res : Int32} (hf : f_X6_moved a1 a2 = some res) : fb_M l yX6_moved cX6_moved 5 (some .int) 1 21 g ks [.int a1, .int a2] σ (fb_Qi g ks res σ) := by
  refine fb_met (by decide +kernel) hI (Nat.le_of_ble_eq_true rfl) (fun p e s m below meth c ls X h hr hlk hl => ?_)
  have X : fb_X p m c cX6_moved 5 s _ RX6 g ks (fb_A g ks) := X
  have hl : lv_has ls 5 [(0, .int a1), (1, .int a2)] := hl
  have hx := X.1.1
  have hb := X.1.2.1
  unfold f_X6_moved at hf
  refine lv_iload_n hx hb dX6_moved_0 rfl (lv_at hl 0 rfl) ?_
  refine lv_iload_n hx hb dX6_moved_1 rfl (lv_at hl 1 rfl) ?_
  refine lv_imul hx hb dX6_moved_2 ?_
  obtain ⟨x3, ex3, hf⟩ := nm_s hf
  refine fb_topi ex3 ?_
  refine lv_istore_n hx hb dX6_moved_3 rfl hl (by decide) (lv' := [(2, .int x3), (0, .int a1), (1, .int a2)]) rfl (fun ls hl => ?_)
  refine lv_iload_n hx hb dX6_moved_4 rfl (lv_at hl 0 rfl) ?_
  refine lv_if_lt hx hb dX6_moved_5 (tgt := 16) (by decide) (fun hc => ?_) (fun hc => ?_)
  · have hf := if_t hc hf
    refine lv_sipush hx hb dX6_moved_16 ks_999 ?_
    refine lv_iload_n hx hb dX6_moved_19 rfl (lv_at hl 0 rfl) ?_
    refine lv_isub hx hb dX6_moved_20 ?_
    refine lv_sipush hx hb dX6_moved_21 ks_1000 ?_
    refine lv_idiv hx hb dX6_moved_24 (by decide) ?_
    refine lv_ineg hx hb dX6_moved_25 ?_
    exact w_X6_moved_L26 X hks hr hlk σ a1 (-(((999 : Int32) - x3) / (1000 : Int32))) _ _ _ h (lv_sub hl [1] rfl) hf
  · have hf := if_f hc hf
    refine lv_iload_n hx hb dX6_moved_8 rfl (lv_at hl 0 rfl) ?_
    refine lv_sipush hx hb dX6_moved_9 ks_1000 ?_
    refine lv_idiv hx hb dX6_moved_12 (by decide) ?_
    refine lv_goto hx hb dX6_moved_13 (tgt := 26) (by decide) ?_
    exact w_X6_moved_L26 X hks hr hlk σ a1 (x3 / (1000 : Int32)) _ _ _ h (lv_sub hl [1] rfl) hf
def f_X6_beat (N : Nat) (a1 : Int32) (σ : fb_S) : Option Int32 :=
  (f_X6_netAt N a1 σ).bind fun q1 =>
  (f_X6_moved a1 q1).bind fun q2 =>
  some q2
set_option maxHeartbeats 4000000 in
set_option maxRecDepth 100000 in
theorem c_X6_beat (l : Launch) {g : fb_G} {ks : List Nat} (hI : fb_I g ks) (hks : ∀ k ∈ ([29, 32, 33, 34, 36, 37] : List Nat), k ∈ ks) (N : Nat) (a1 : Int32) (σ : fb_S) {res : Int32} (hf : f_X6_beat N a1 σ = some res) : fb_M l yX6_beat cX6_beat 2 (some .int) 2 45 g ks [.ref (g.1 29), .int a1] σ (fb_Qi g ks res σ) := by
  refine fb_met (by decide +kernel) hI (Nat.le_of_ble_eq_true rfl) (fun p e s m below meth c ls X h hr hlk hl => ?_)
  have X : fb_X p m c cX6_beat 2 s _ RX6 g ks (fb_A g ks) := X
  have hl : lv_has ls 2 [(0, .ref (g.1 29)), (1, .int a1)] := hl
  have hx := X.1.1
  have hb := X.1.2.1
  unfold f_X6_beat at hf
  refine lv_iload_n hx hb dX6_beat_0 rfl (lv_at hl 1 rfl) ?_
  refine lv_aload_n hx hb dX6_beat_1 rfl (lv_at hl 0 rfl) ?_
  refine lv_iload_n hx hb dX6_beat_2 rfl (lv_at hl 1 rfl) ?_
  obtain ⟨q1, hq1, hf⟩ := bd_s hf
  refine fb_ci X h (fb_runV (As := [.int a1]) (rest := [.int a1]) (k := 29) X h (c_X6_netAt l X.2.2.1 (fun k hk => hks k ((by decide : ∀ k ∈ ([29, 32, 33, 34, 36, 37] : List Nat), k ∈ ([29, 32, 33, 34, 36, 37] : List Nat)) k hk)) N a1 σ hq1) mf_yX6_netAt lm_RX6_123 (hks 29 (by decide)) rfl rfl ⟨Nat.le_of_ble_eq_true rfl, Nat.le_of_ble_eq_true rfl⟩ ⟨Nat.le_refl _, Nat.le_refl _⟩ rfl hl.1 rfl (Nat.le_of_ble_eq_true rfl) dX6_beat_3) (fun H locs h => ?_)
  obtain ⟨q2, hq2, hf⟩ := bd_s hf
  refine fb_ci X h (fb_runS (As := [.int a1, .int q1]) (rest := []) X h (c_X6_moved l X.2.2.1 (fun k hk => absurd hk List.not_mem_nil) a1 q1 σ hq2) mf_yX6_moved lm_RX6_127 ⟨Nat.le_of_ble_eq_true rfl, Nat.le_of_ble_eq_true rfl⟩ ⟨Nat.le_refl _, Nat.le_refl _⟩ rfl hl.1 rfl (Nat.le_of_ble_eq_true rfl) dX6_beat_6) (fun H locs h => ?_)
  have e9 := Option.some.inj hf
  subst e9
  exact fb_ir X h hr hlk dX6_beat_9
def f_X6_beats_L36 (N : Nat) : Nat → Int32 → Int32 → Int32 → fb_S → Option (Int32 × fb_S)
  | 0, _, _, _, _ => none
  | n + 1, v2, v3, v4, σ => 
    if v2 ≤ v4 then (
      some (v3, σ)
    ) else (
      (f_X6_beat N v3 σ).bind fun q1 =>
      f_X6_beats_L36 N n v2 q1 (v4 + 1) σ
    )
def f_X6_beats (N : Nat) (a1 : Int32) (a2 : Int32) (σ : fb_S) : Option (Int32 × fb_S) :=
  nm_ (fb_up σ 29 0 (0 : Int32)) fun t2 =>
  (f_X6_noSway a1).bind fun q3 =>
  if q3 = 0 then (
    (f_X6_in (a2.toInt64) (0 : Int64) (10000 : Int64)).bind fun q4 =>
    if q4 = 0 then (
      some ((-2 : Int32), t2)
    ) else (
      (f_X6_asIs N t2).bind fun q5 =>
      f_X6_beats_L36 N N a2 a1 (0 : Int32) q5
    )
  ) else (
    some ((-2 : Int32), t2)
  )
set_option maxHeartbeats 4000000 in
set_option maxRecDepth 100000 in
theorem w_X6_beats_L36 (X : fb_X p m c cX6_beats 5 s args RX6 g ks (fb_A g ks)) (hks : ∀ k ∈ ([29, 32, 33, 34, 35, 36, 37, 38, 41] : List Nat), k ∈ ks) (hr : meth.sig.returnType = (some .int)) (hlk : meth.locks = false) (N : Nat)  {res : (Int32 × fb_S)} : ∀ (n : Nat) (v2 : Int32) (v3 : Int32) (v4 : Int32) (σ : fb_S) (H : Heap) (locs : List Loc) (ls : Array Slot), fb_H g ks (fb_A g ks) s.heap σ H locs → lv_has ls 5 [(0, .ref (g.1 29)), (2, .int v2), (3, .int v3), (4, .int v4)] → f_X6_beats_L36 N n v2 v3 v4 σ = some res → W p l e (fb_R 3 66) s m args below meth c H locs 0 0 (MQ below (fb_Qi g ks res.1 res.2) args s 0 0 (fb_A g ks)) (F0 m 36 ls []) := by
  have hx := X.1.1
  have hb := X.1.2.1
  intro n
  induction n with
  | zero => intro v2 v3 v4 σ H locs ls h hl hf; cases hf
  | succ n ih =>
    intro v2 v3 v4 σ H locs ls h hl hf
    unfold f_X6_beats_L36 at hf
    refine lv_iload hx hb dX6_beats_36 (lv_at hl 3 rfl) ?_
    refine lv_iload_n hx hb dX6_beats_38 rfl (lv_at hl 1 rfl) ?_
    refine lv_icmp_ge hx hb dX6_beats_39 (tgt := 54) (by decide) (fun hc => ?_) (fun hc => ?_)
    · have hf := if_t hc hf
      refine lv_iload_n hx hb dX6_beats_54 rfl (lv_at hl 2 rfl) ?_
      have e9 := Option.some.inj hf
      subst e9
      exact fb_ir X h hr hlk dX6_beats_55
    · have hf := if_f hc hf
      refine lv_aload_n hx hb dX6_beats_42 rfl (lv_at hl 0 rfl) ?_
      refine lv_iload_n hx hb dX6_beats_43 rfl (lv_at hl 2 rfl) ?_
      obtain ⟨q1, hq1, hf⟩ := bd_s hf
      refine fb_ci X h (fb_runV (As := [.int v3]) (rest := []) (k := 29) X h (c_X6_beat l X.2.2.1 (fun k hk => hks k ((by decide : ∀ k ∈ ([29, 32, 33, 34, 36, 37] : List Nat), k ∈ ([29, 32, 33, 34, 35, 36, 37, 38, 41] : List Nat)) k hk)) N v3 σ hq1) mf_yX6_beat lm_RX6_136 (hks 29 (by decide)) rfl rfl ⟨Nat.le_of_ble_eq_true rfl, Nat.le_of_ble_eq_true rfl⟩ ⟨Nat.le_refl _, Nat.le_refl _⟩ rfl hl.1 rfl (Nat.le_of_ble_eq_true rfl) dX6_beats_44) (fun H locs h => ?_)
      refine lv_istore_n hx hb dX6_beats_47 rfl hl (by decide) (lv' := [(3, .int q1), (0, .ref (g.1 29)), (2, .int v2), (4, .int v4)]) rfl (fun ls hl => ?_)
      refine lv_iinc hx hb dX6_beats_48 hl (k := 3) rfl (kinc_1 _) (by decide) (lv' := [(4, .int (v4 + 1)), (3, .int q1), (0, .ref (g.1 29)), (2, .int v2)]) rfl (fun ls hl => ?_)
      refine lv_goto hx hb dX6_beats_51 (tgt := 36) (by decide) ?_
      exact ih v2 q1 (v4 + 1) σ _ _ _ h (lv_sub hl [2, 3, 1, 0] rfl) hf
set_option maxHeartbeats 4000000 in
set_option maxRecDepth 100000 in
theorem c_X6_beats (l : Launch) {g : fb_G} {ks : List Nat} (hI : fb_I g ks) (hks : ∀ k ∈ ([29, 32, 33, 34, 35, 36, 37, 38, 41] : List Nat), k ∈ ks) (N : Nat) (a1 : Int32) (a2 : Int32) (σ : fb_S) {res : (Int32 × fb_S)} (hf : f_X6_beats N a1 a2 σ = some res) : fb_M l yX6_beats cX6_beats 5 (some .int) 3 66 g ks [.ref (g.1 29), .int a1, .int a2] σ (fb_Qi g ks res.1 res.2) := by
  refine fb_met (by decide +kernel) hI (Nat.le_of_ble_eq_true rfl) (fun p e s m below meth c ls X h hr hlk hl => ?_)
  have X : fb_X p m c cX6_beats 5 s _ RX6 g ks (fb_A g ks) := X
  have hl : lv_has ls 5 [(0, .ref (g.1 29)), (1, .int a1), (2, .int a2)] := hl
  have hx := X.1.1
  have hb := X.1.2.1
  unfold f_X6_beats at hf
  refine lv_aload_n hx hb dX6_beats_0 rfl (lv_at hl 0 rfl) ?_
  refine lv_iconst hx hb dX6_beats_1 ki_0 ?_
  obtain ⟨t2, et2, hf⟩ := nm_s hf
  refine pt_RX6_75 X h (hks 29 (by decide)) dX6_beats_2 (fun H locs h => ?_)
  have h := fb_H.nm et2 h
  refine lv_iload_n hx hb dX6_beats_5 rfl (lv_at hl 1 rfl) ?_
  obtain ⟨q3, hq3, hf⟩ := bd_s hf
  refine fb_ci X h (fb_runS (As := [.int a1]) (rest := []) X h (c_X6_noSway l X.2.2.1 (fun k hk => absurd hk List.not_mem_nil) a1 t2 hq3) mf_yX6_noSway lm_RX6_104 ⟨Nat.le_of_ble_eq_true rfl, Nat.le_of_ble_eq_true rfl⟩ ⟨Nat.le_refl _, Nat.le_refl _⟩ rfl hl.1 rfl (Nat.le_of_ble_eq_true rfl) dX6_beats_6) (fun H locs h => ?_)
  refine lv_if_ne hx hb dX6_beats_9 (tgt := 24) (by decide) (fun hc => ?_) (fun hc => ?_)
  · have hf := if_f hc hf
    refine lv_bipush hx hb dX6_beats_24 kb_m2 ?_
    have e9 := Option.some.inj hf
    subst e9
    exact fb_ir X h hr hlk dX6_beats_26
  · have hf := if_t hc hf
    refine lv_iload_n hx hb dX6_beats_12 rfl (lv_at hl 2 rfl) ?_
    refine lv_i2l hx hb dX6_beats_13 (v := a2.toInt64) rfl ?_
    refine lv_lconst hx hb dX6_beats_14 kl_0 ?_
    refine lv_ldc2 hx hb X.1.2.2.2.1 (X.1.2.2.2.2 _ lc_RX6_134) dX6_beats_15 ?_
    obtain ⟨q4, hq4, hf⟩ := bd_s hf
    refine fb_ci X h (fb_runS (As := [.long (a2.toInt64), .long (0), .long (10000)]) (rest := []) X h (c_X6_in l X.2.2.1 (fun k hk => absurd hk List.not_mem_nil) (a2.toInt64) (0 : Int64) (10000 : Int64) t2 hq4) mf_yX6_in lm_RX6_80 ⟨Nat.le_of_ble_eq_true rfl, Nat.le_of_ble_eq_true rfl⟩ ⟨Nat.le_refl _, Nat.le_refl _⟩ rfl hl.1 rfl (Nat.le_of_ble_eq_true rfl) dX6_beats_18) (fun H locs h => ?_)
    refine lv_if_ne hx hb dX6_beats_21 (tgt := 27) (by decide) (fun hc => ?_) (fun hc => ?_)
    · have hf := if_f hc hf
      refine lv_aload_n hx hb dX6_beats_27 rfl (lv_at hl 0 rfl) ?_
      obtain ⟨q5, hq5, hf⟩ := bd_s hf
      refine fb_cv X h (fb_runV (As := []) (rest := []) (k := 29) X h (c_X6_asIs l X.2.2.1 (fun k hk => hks k ((by decide : ∀ k ∈ ([29, 35, 36, 38, 41] : List Nat), k ∈ ([29, 32, 33, 34, 35, 36, 37, 38, 41] : List Nat)) k hk)) N t2 hq5) mf_yX6_asIs lm_RX6_130 (hks 29 (by decide)) rfl rfl ⟨Nat.le_of_ble_eq_true rfl, Nat.le_of_ble_eq_true rfl⟩ ⟨Nat.le_refl _, Nat.le_refl _⟩ rfl hl.1 rfl (Nat.le_of_ble_eq_true rfl) dX6_beats_28) (fun H locs h => ?_)
      refine lv_iload_n hx hb dX6_beats_31 rfl (lv_at hl 1 rfl) ?_
      refine lv_istore_n hx hb dX6_beats_32 rfl hl (by decide) (lv' := [(3, .int a1), (0, .ref (g.1 29)), (1, .int a1), (2, .int a2)]) rfl (fun ls hl => ?_)
      refine lv_iconst hx hb dX6_beats_33 ki_0 ?_
      refine lv_istore hx hb dX6_beats_34 hl (by decide) (lv' := [(4, .int (0)), (3, .int a1), (0, .ref (g.1 29)), (1, .int a1), (2, .int a2)]) rfl (fun ls hl => ?_)
      exact w_X6_beats_L36 X hks hr hlk N N a2 a1 (0 : Int32) q5 _ _ _ h (lv_sub hl [2, 4, 1, 0] rfl) hf
    · have hf := if_t hc hf
      refine lv_bipush hx hb dX6_beats_24 kb_m2 ?_
      have e9 := Option.some.inj hf
      subst e9
      exact fb_ir X h hr hlk dX6_beats_26
def f_X6_goOn_L27 (N : Nat) : Nat → Int32 → Int32 → fb_S → Option fb_S
  | 0, _, _, _ => none
  | n + 1, v2, v3, σ => 
    ck_ (fb_in v2 10000) <|
    if (σ.1 42 v2.toNatClampNeg) = (-9 : Int32) then (
      ck_ (fb_in v2 10000) <|
      nm_ (fb_up σ 42 (v2.toNatClampNeg) v3) fun t4 =>
      (f_X6_beat N v2 t4).bind fun q5 =>
      f_X6_goOn_L27 N n q5 (v3 + 1) t4
    ) else (
      ck_ (fb_in v2 10000) <|
      nm_ (fb_up σ 29 18 (σ.1 42 v2.toNatClampNeg)) fun t1 =>
      nm_ (fb_up t1 29 19 (v3 - (t1.1 29 18))) fun t2 =>
      nm_ (fb_up t2 29 20 v2) fun t3 =>
      some t3
    )
def f_X6_goOn_L2 (N : Nat) : Nat → Int32 → Int32 → fb_S → Option fb_S
  | 0, _, _, _ => none
  | n + 1, v1, v2, σ => 
    if (10000 : Int32) ≤ v2 then (
      f_X6_goOn_L27 N N v1 (0 : Int32) σ
    ) else (
      ck_ (fb_in v2 10000) <|
      nm_ (fb_up σ 42 (v2.toNatClampNeg) (-9 : Int32)) fun t6 =>
      f_X6_goOn_L2 N n v1 (v2 + 1) t6
    )
def f_X6_goOn (N : Nat) (a1 : Int32) (σ : fb_S) : Option fb_S :=
  f_X6_goOn_L2 N N a1 (0 : Int32) σ
set_option maxHeartbeats 4000000 in
set_option maxRecDepth 100000 in
theorem w_X6_goOn_L27 (X : fb_X p m c cX6_goOn 4 s args RX6 g ks (fb_A g ks)) (hks : ∀ k ∈ ([29, 32, 33, 34, 36, 37, 42] : List Nat), k ∈ ks) (hr : meth.sig.returnType = none) (hlk : meth.locks = false) (N : Nat)  {res : fb_S} : ∀ (n : Nat) (v2 : Int32) (v3 : Int32) (σ : fb_S) (H : Heap) (locs : List Loc) (ls : Array Slot), fb_H g ks (fb_A g ks) s.heap σ H locs → lv_has ls 4 [(0, .ref (g.1 29)), (2, .int v2), (3, .int v3)] → f_X6_goOn_L27 N n v2 v3 σ = some res → W p l e (fb_R 3 66) s m args below meth c H locs 0 0 (MQ below (fb_Qv g ks res) args s 0 0 (fb_A g ks)) (F0 m 27 ls []) := by
  have hx := X.1.1
  have hb := X.1.2.1
  intro n
  induction n with
  | zero => intro v2 v3 σ H locs ls h hl hf; cases hf
  | succ n ih =>
    intro v2 v3 σ H locs ls h hl hf
    unfold f_X6_goOn_L27 at hf
    refine lv_aload_n hx hb dX6_goOn_27 rfl (lv_at hl 0 rfl) ?_
    refine gt_RX6_51 X h (hks 29 (by decide)) dX6_goOn_28 ?_
    refine lv_iload_n hx hb dX6_goOn_31 rfl (lv_at hl 1 rfl) ?_
    obtain ⟨hi0, hf⟩ := ck_s hf
    refine fb_iald X h (hks 42 (by decide)) rfl hi0 dX6_goOn_32 ?_
    refine lv_bipush hx hb dX6_goOn_33 kb_m9 ?_
    refine lv_icmp_ne hx hb dX6_goOn_35 (tgt := 57) (by decide) (fun hc => ?_) (fun hc => ?_)
    · have hf := if_f hc hf
      refine lv_aload_n hx hb dX6_goOn_57 rfl (lv_at hl 0 rfl) ?_
      refine lv_aload_n hx hb dX6_goOn_58 rfl (lv_at hl 0 rfl) ?_
      refine gt_RX6_51 X h (hks 29 (by decide)) dX6_goOn_59 ?_
      refine lv_iload_n hx hb dX6_goOn_62 rfl (lv_at hl 1 rfl) ?_
      obtain ⟨hi0, hf⟩ := ck_s hf
      refine fb_iald X h (hks 42 (by decide)) rfl hi0 dX6_goOn_63 ?_
      obtain ⟨t1, et1, hf⟩ := nm_s hf
      refine pt_RX6_139 X h (hks 29 (by decide)) dX6_goOn_64 (fun H locs h => ?_)
      have h := fb_H.nm et1 h
      refine lv_aload_n hx hb dX6_goOn_67 rfl (lv_at hl 0 rfl) ?_
      refine lv_iload_n hx hb dX6_goOn_68 rfl (lv_at hl 2 rfl) ?_
      refine lv_aload_n hx hb dX6_goOn_69 rfl (lv_at hl 0 rfl) ?_
      refine gt_RX6_139 X h (hks 29 (by decide)) dX6_goOn_70 ?_
      refine lv_isub hx hb dX6_goOn_73 ?_
      obtain ⟨t2, et2, hf⟩ := nm_s hf
      refine pt_RX6_142 X h (hks 29 (by decide)) dX6_goOn_74 (fun H locs h => ?_)
      have h := fb_H.nm et2 h
      refine lv_aload_n hx hb dX6_goOn_77 rfl (lv_at hl 0 rfl) ?_
      refine lv_iload_n hx hb dX6_goOn_78 rfl (lv_at hl 1 rfl) ?_
      obtain ⟨t3, et3, hf⟩ := nm_s hf
      refine pt_RX6_145 X h (hks 29 (by decide)) dX6_goOn_79 (fun H locs h => ?_)
      have h := fb_H.nm et3 h
      have e9 := Option.some.inj hf
      subst e9
      exact fb_vr X h hr hlk dX6_goOn_82
    · have hf := if_t hc hf
      refine lv_aload_n hx hb dX6_goOn_38 rfl (lv_at hl 0 rfl) ?_
      refine gt_RX6_51 X h (hks 29 (by decide)) dX6_goOn_39 ?_
      refine lv_iload_n hx hb dX6_goOn_42 rfl (lv_at hl 1 rfl) ?_
      refine lv_iload_n hx hb dX6_goOn_43 rfl (lv_at hl 2 rfl) ?_
      obtain ⟨hi0, hf⟩ := ck_s hf
      obtain ⟨t4, et4, hf⟩ := nm_s hf
      refine fb_iast X h (hks 42 (by decide)) (fun _ => rfl) hi0 dX6_goOn_44 (fun H locs h => ?_)
      have h := fb_H.nm et4 h
      refine lv_iinc hx hb dX6_goOn_45 hl (k := 2) rfl (kinc_1 _) (by decide) (lv' := [(3, .int (v3 + 1)), (0, .ref (g.1 29)), (2, .int v2)]) rfl (fun ls hl => ?_)
      refine lv_aload_n hx hb dX6_goOn_48 rfl (lv_at hl 1 rfl) ?_
      refine lv_iload_n hx hb dX6_goOn_49 rfl (lv_at hl 2 rfl) ?_
      obtain ⟨q5, hq5, hf⟩ := bd_s hf
      refine fb_ci X h (fb_runV (As := [.int v2]) (rest := []) (k := 29) X h (c_X6_beat l X.2.2.1 (fun k hk => hks k ((by decide : ∀ k ∈ ([29, 32, 33, 34, 36, 37] : List Nat), k ∈ ([29, 32, 33, 34, 36, 37, 42] : List Nat)) k hk)) N v2 t4 hq5) mf_yX6_beat lm_RX6_136 (hks 29 (by decide)) rfl rfl ⟨Nat.le_of_ble_eq_true rfl, Nat.le_of_ble_eq_true rfl⟩ ⟨Nat.le_refl _, Nat.le_refl _⟩ rfl hl.1 rfl (Nat.le_of_ble_eq_true rfl) dX6_goOn_50) (fun H locs h => ?_)
      refine lv_istore_n hx hb dX6_goOn_53 rfl hl (by decide) (lv' := [(2, .int q5), (3, .int (v3 + 1)), (0, .ref (g.1 29))]) rfl (fun ls hl => ?_)
      refine lv_goto hx hb dX6_goOn_54 (tgt := 27) (by decide) ?_
      exact ih q5 (v3 + 1) t4 _ _ _ h (lv_sub hl [2, 0, 1] rfl) hf
set_option maxHeartbeats 4000000 in
set_option maxRecDepth 100000 in
theorem w_X6_goOn_L2 (X : fb_X p m c cX6_goOn 4 s args RX6 g ks (fb_A g ks)) (hks : ∀ k ∈ ([29, 32, 33, 34, 36, 37, 42] : List Nat), k ∈ ks) (hr : meth.sig.returnType = none) (hlk : meth.locks = false) (N : Nat)  {res : fb_S} : ∀ (n : Nat) (v1 : Int32) (v2 : Int32) (σ : fb_S) (H : Heap) (locs : List Loc) (ls : Array Slot), fb_H g ks (fb_A g ks) s.heap σ H locs → lv_has ls 4 [(0, .ref (g.1 29)), (1, .int v1), (2, .int v2)] → f_X6_goOn_L2 N n v1 v2 σ = some res → W p l e (fb_R 3 66) s m args below meth c H locs 0 0 (MQ below (fb_Qv g ks res) args s 0 0 (fb_A g ks)) (F0 m 2 ls []) := by
  have hx := X.1.1
  have hb := X.1.2.1
  intro n
  induction n with
  | zero => intro v1 v2 σ H locs ls h hl hf; cases hf
  | succ n ih =>
    intro v1 v2 σ H locs ls h hl hf
    unfold f_X6_goOn_L2 at hf
    refine lv_iload_n hx hb dX6_goOn_2 rfl (lv_at hl 2 rfl) ?_
    refine lv_sipush hx hb dX6_goOn_3 ks_10000 ?_
    refine lv_icmp_ge hx hb dX6_goOn_6 (tgt := 23) (by decide) (fun hc => ?_) (fun hc => ?_)
    · have hf := if_t hc hf
      refine lv_iload_n hx hb dX6_goOn_23 rfl (lv_at hl 1 rfl) ?_
      refine lv_istore_n hx hb dX6_goOn_24 rfl hl (by decide) (lv' := [(2, .int v1), (0, .ref (g.1 29)), (1, .int v1)]) rfl (fun ls hl => ?_)
      refine lv_iconst hx hb dX6_goOn_25 ki_0 ?_
      refine lv_istore_n hx hb dX6_goOn_26 rfl hl (by decide) (lv' := [(3, .int (0)), (2, .int v1), (0, .ref (g.1 29)), (1, .int v1)]) rfl (fun ls hl => ?_)
      exact w_X6_goOn_L27 X hks hr hlk N N v1 (0 : Int32) σ _ _ _ h (lv_sub hl [2, 1, 0] rfl) hf
    · have hf := if_f hc hf
      refine lv_aload_n hx hb dX6_goOn_9 rfl (lv_at hl 0 rfl) ?_
      refine gt_RX6_51 X h (hks 29 (by decide)) dX6_goOn_10 ?_
      refine lv_iload_n hx hb dX6_goOn_13 rfl (lv_at hl 2 rfl) ?_
      refine lv_bipush hx hb dX6_goOn_14 kb_m9 ?_
      obtain ⟨hi0, hf⟩ := ck_s hf
      obtain ⟨t6, et6, hf⟩ := nm_s hf
      refine fb_iast X h (hks 42 (by decide)) (fun _ => rfl) hi0 dX6_goOn_16 (fun H locs h => ?_)
      have h := fb_H.nm et6 h
      refine lv_iinc hx hb dX6_goOn_17 hl (k := 2) rfl (kinc_1 _) (by decide) (lv' := [(2, .int (v2 + 1)), (0, .ref (g.1 29)), (1, .int v1)]) rfl (fun ls hl => ?_)
      refine lv_goto hx hb dX6_goOn_20 (tgt := 2) (by decide) ?_
      exact ih v1 (v2 + 1) t6 _ _ _ h (lv_sub hl [1, 2, 0] rfl) hf
set_option maxHeartbeats 4000000 in
set_option maxRecDepth 100000 in
theorem c_X6_goOn (l : Launch) {g : fb_G} {ks : List Nat} (hI : fb_I g ks) (hks : ∀ k ∈ ([29, 32, 33, 34, 36, 37, 42] : List Nat), k ∈ ks) (N : Nat) (a1 : Int32) (σ : fb_S) {res : fb_S} (hf : f_X6_goOn N a1 σ = some res) : fb_M l yX6_goOn cX6_goOn 4 none 3 66 g ks [.ref (g.1 29), .int a1] σ (fb_Qv g ks res) := by
  refine fb_met (by decide +kernel) hI (Nat.le_of_ble_eq_true rfl) (fun p e s m below meth c ls X h hr hlk hl => ?_)
  have X : fb_X p m c cX6_goOn 4 s _ RX6 g ks (fb_A g ks) := X
  have hl : lv_has ls 4 [(0, .ref (g.1 29)), (1, .int a1)] := hl
  have hx := X.1.1
  have hb := X.1.2.1
  unfold f_X6_goOn at hf
  refine lv_iconst hx hb dX6_goOn_0 ki_0 ?_
  refine lv_istore_n hx hb dX6_goOn_1 rfl hl (by decide) (lv' := [(2, .int (0)), (0, .ref (g.1 29)), (1, .int a1)]) rfl (fun ls hl => ?_)
  exact w_X6_goOn_L2 X hks hr hlk N N a1 (0 : Int32) σ _ _ _ h (lv_sub hl [1, 2, 0] rfl) hf
def f_X6_settles (N : Nat) (a1 : Int32) (σ : fb_S) : Option (Int32 × fb_S) :=
  nm_ (fb_up σ 29 0 (0 : Int32)) fun t1 =>
  (f_X6_noSway a1).bind fun q2 =>
  if q2 = 0 then (
    (f_X6_asIs N t1).bind fun q3 =>
    (f_X6_goOn N a1 q3).bind fun q4 =>
    if (q4.1 29 20) = 0 then (
      some (q4.1 29 18, q4)
    ) else (
      some ((-9 : Int32), q4)
    )
  ) else (
    some ((-2 : Int32), t1)
  )
set_option maxHeartbeats 4000000 in
set_option maxRecDepth 100000 in
theorem c_X6_settles (l : Launch) {g : fb_G} {ks : List Nat} (hI : fb_I g ks) (hks : ∀ k ∈ ([29, 32, 33, 34, 35, 36, 37, 38, 41, 42] : List Nat), k ∈ ks) (N : Nat) (a1 : Int32) (σ : fb_S) {res : (Int32 × fb_S)} (hf : f_X6_settles N a1 σ = some res) : fb_M l yX6_settles cX6_settles 2 (some .int) 4 89 g ks [.ref (g.1 29), .int a1] σ (fb_Qi g ks res.1 res.2) := by
  refine fb_met (by decide +kernel) hI (Nat.le_of_ble_eq_true rfl) (fun p e s m below meth c ls X h hr hlk hl => ?_)
  have X : fb_X p m c cX6_settles 2 s _ RX6 g ks (fb_A g ks) := X
  have hl : lv_has ls 2 [(0, .ref (g.1 29)), (1, .int a1)] := hl
  have hx := X.1.1
  have hb := X.1.2.1
  unfold f_X6_settles at hf
  refine lv_aload_n hx hb dX6_settles_0 rfl (lv_at hl 0 rfl) ?_
  refine lv_iconst hx hb dX6_settles_1 ki_0 ?_
  obtain ⟨t1, et1, hf⟩ := nm_s hf
  refine pt_RX6_75 X h (hks 29 (by decide)) dX6_settles_2 (fun H locs h => ?_)
  have h := fb_H.nm et1 h
  refine lv_iload_n hx hb dX6_settles_5 rfl (lv_at hl 1 rfl) ?_
  obtain ⟨q2, hq2, hf⟩ := bd_s hf
  refine fb_ci X h (fb_runS (As := [.int a1]) (rest := []) X h (c_X6_noSway l X.2.2.1 (fun k hk => absurd hk List.not_mem_nil) a1 t1 hq2) mf_yX6_noSway lm_RX6_104 ⟨Nat.le_of_ble_eq_true rfl, Nat.le_of_ble_eq_true rfl⟩ ⟨Nat.le_refl _, Nat.le_refl _⟩ rfl hl.1 rfl (Nat.le_of_ble_eq_true rfl) dX6_settles_6) (fun H locs h => ?_)
  refine lv_if_eq hx hb dX6_settles_9 (tgt := 15) (by decide) (fun hc => ?_) (fun hc => ?_)
  · have hf := if_t hc hf
    refine lv_aload_n hx hb dX6_settles_15 rfl (lv_at hl 0 rfl) ?_
    obtain ⟨q3, hq3, hf⟩ := bd_s hf
    refine fb_cv X h (fb_runV (As := []) (rest := []) (k := 29) X h (c_X6_asIs l X.2.2.1 (fun k hk => hks k ((by decide : ∀ k ∈ ([29, 35, 36, 38, 41] : List Nat), k ∈ ([29, 32, 33, 34, 35, 36, 37, 38, 41, 42] : List Nat)) k hk)) N t1 hq3) mf_yX6_asIs lm_RX6_130 (hks 29 (by decide)) rfl rfl ⟨Nat.le_of_ble_eq_true rfl, Nat.le_of_ble_eq_true rfl⟩ ⟨Nat.le_refl _, Nat.le_refl _⟩ rfl hl.1 rfl (Nat.le_of_ble_eq_true rfl) dX6_settles_16) (fun H locs h => ?_)
    refine lv_aload_n hx hb dX6_settles_19 rfl (lv_at hl 0 rfl) ?_
    refine lv_iload_n hx hb dX6_settles_20 rfl (lv_at hl 1 rfl) ?_
    obtain ⟨q4, hq4, hf⟩ := bd_s hf
    refine fb_cv X h (fb_runV (As := [.int a1]) (rest := []) (k := 29) X h (c_X6_goOn l X.2.2.1 (fun k hk => hks k ((by decide : ∀ k ∈ ([29, 32, 33, 34, 36, 37, 42] : List Nat), k ∈ ([29, 32, 33, 34, 35, 36, 37, 38, 41, 42] : List Nat)) k hk)) N a1 q3 hq4) mf_yX6_goOn lm_RX6_148 (hks 29 (by decide)) rfl rfl ⟨Nat.le_of_ble_eq_true rfl, Nat.le_of_ble_eq_true rfl⟩ ⟨Nat.le_refl _, Nat.le_refl _⟩ rfl hl.1 rfl (Nat.le_of_ble_eq_true rfl) dX6_settles_21) (fun H locs h => ?_)
    refine lv_aload_n hx hb dX6_settles_24 rfl (lv_at hl 0 rfl) ?_
    refine gt_RX6_145 X h (hks 29 (by decide)) dX6_settles_25 ?_
    refine lv_if_ne hx hb dX6_settles_28 (tgt := 38) (by decide) (fun hc => ?_) (fun hc => ?_)
    · have hf := if_f hc hf
      refine lv_bipush hx hb dX6_settles_38 kb_m9 ?_
      have e9 := Option.some.inj hf
      subst e9
      exact fb_ir X h hr hlk dX6_settles_40
    · have hf := if_t hc hf
      refine lv_aload_n hx hb dX6_settles_31 rfl (lv_at hl 0 rfl) ?_
      refine gt_RX6_139 X h (hks 29 (by decide)) dX6_settles_32 ?_
      refine lv_goto hx hb dX6_settles_35 (tgt := 40) (by decide) ?_
      have e9 := Option.some.inj hf
      subst e9
      exact fb_ir X h hr hlk dX6_settles_40
  · have hf := if_f hc hf
    refine lv_bipush hx hb dX6_settles_12 kb_m2 ?_
    have e9 := Option.some.inj hf
    subst e9
    exact fb_ir X h hr hlk dX6_settles_14
def f_X6_ring_L96 (N : Nat) (k66 : Int32 → Int32 → Int32 → Int32 → Int32 → fb_S → Option (Int32 × fb_S)) (v2 : Int32) (v3 : Int32) (v5 : Int32) (v6 : Int32) (s0 : Int32) (σ : fb_S) : Option (Int32 × fb_S) :=
  (f_X6_beat N v5 σ).bind fun q1 =>
  k66 v2 v3 s0 q1 (v6 + 1) σ
def f_X6_ring_L66 (N : Nat) : Nat → Int32 → Int32 → Int32 → Int32 → Int32 → fb_S → Option (Int32 × fb_S)
  | 0, _, _, _, _, _, _ => none
  | n + 1, v2, v3, v4, v5, v6, σ => 
    if (σ.1 29 19) ≤ v6 then (
      if v2 = 0 then (
        some (v3, σ)
      ) else (
        if v2 = (1 : Int32) then (
          some (v4, σ)
        ) else (
          if v2 = (2 : Int32) then (
            some (σ.1 29 19, σ)
          ) else (
            some (σ.1 29 18, σ)
          )
        )
      )
    ) else (
      (f_X6_lesser v3 v5).bind fun q2 =>
      if v5 ≤ v4 then (
        f_X6_ring_L96 N (f_X6_ring_L66 N n) v2 q2 v5 v6 v4 σ
      ) else (
        f_X6_ring_L96 N (f_X6_ring_L66 N n) v2 q2 v5 v6 v5 σ
      )
    )
def f_X6_ring (N : Nat) (a1 : Int32) (a2 : Int32) (σ : fb_S) : Option (Int32 × fb_S) :=
  nm_ (fb_up σ 29 0 (0 : Int32)) fun t3 =>
  (f_X6_noSway a1).bind fun q4 =>
  if q4 = 0 then (
    (f_X6_in (a2.toInt64) (0 : Int64) (3 : Int64)).bind fun q5 =>
    if q5 = 0 then (
      some ((-2 : Int32), t3)
    ) else (
      (f_X6_asIs N t3).bind fun q6 =>
      (f_X6_goOn N a1 q6).bind fun q7 =>
      if (q7.1 29 20) = 0 then (
        some ((-9 : Int32), q7)
      ) else (
        nm_ (q7.1 29 20) fun x8 =>
        nm_ (q7.1 29 20) fun x9 =>
        nm_ (q7.1 29 20) fun x10 =>
        f_X6_ring_L66 N N a2 x8 x9 x10 (0 : Int32) q7
      )
    )
  ) else (
    some ((-2 : Int32), t3)
  )
set_option maxHeartbeats 4000000 in
set_option maxRecDepth 100000 in
theorem w_X6_ring_L96 (X : fb_X p m c cX6_ring 7 s args RX6 g ks (fb_A g ks)) (hks : ∀ k ∈ ([29, 32, 33, 34, 35, 36, 37, 38, 41, 42] : List Nat), k ∈ ks) (hr : meth.sig.returnType = (some .int)) (hlk : meth.locks = false) (N : Nat) (k66 : Int32 → Int32 → Int32 → Int32 → Int32 → fb_S → Option (Int32 × fb_S))  {res : (Int32 × fb_S)} (hk66 : ∀ (v2 : Int32) (v3 : Int32) (v4 : Int32) (v5 : Int32) (v6 : Int32) (σ : fb_S) (H : Heap) (locs : List Loc) (ls : Array Slot), fb_H g ks (fb_A g ks) s.heap σ H locs → lv_has ls 7 [(0, .ref (g.1 29)), (2, .int v2), (3, .int v3), (4, .int v4), (5, .int v5), (6, .int v6)] → k66 v2 v3 v4 v5 v6 σ = some res → W p l e (fb_R 4 89) s m args below meth c H locs 0 0 (MQ below (fb_Qi g ks res.1 res.2) args s 0 0 (fb_A g ks)) (F0 m 66 ls [])) : ∀ (v2 : Int32) (v3 : Int32) (v5 : Int32) (v6 : Int32) (s0 : Int32) (σ : fb_S) (H : Heap) (locs : List Loc) (ls : Array Slot), fb_H g ks (fb_A g ks) s.heap σ H locs → lv_has ls 7 [(0, .ref (g.1 29)), (2, .int v2), (3, .int v3), (5, .int v5), (6, .int v6)] → f_X6_ring_L96 N k66 v2 v3 v5 v6 s0 σ = some res → W p l e (fb_R 4 89) s m args below meth c H locs 0 0 (MQ below (fb_Qi g ks res.1 res.2) args s 0 0 (fb_A g ks)) (F0 m 96 ls [.int s0]) := by
  have hx := X.1.1
  have hb := X.1.2.1
  intro v2 v3 v5 v6 s0 σ H locs ls h hl hf
  unfold f_X6_ring_L96 at hf
  refine lv_istore hx hb dX6_ring_96 hl (by decide) (lv' := [(4, .int s0), (0, .ref (g.1 29)), (2, .int v2), (3, .int v3), (5, .int v5), (6, .int v6)]) rfl (fun ls hl => ?_)
  refine lv_aload_n hx hb dX6_ring_98 rfl (lv_at hl 1 rfl) ?_
  refine lv_iload hx hb dX6_ring_99 (lv_at hl 4 rfl) ?_
  obtain ⟨q1, hq1, hf⟩ := bd_s hf
  refine fb_ci X h (fb_runV (As := [.int v5]) (rest := []) (k := 29) X h (c_X6_beat l X.2.2.1 (fun k hk => hks k ((by decide : ∀ k ∈ ([29, 32, 33, 34, 36, 37] : List Nat), k ∈ ([29, 32, 33, 34, 35, 36, 37, 38, 41, 42] : List Nat)) k hk)) N v5 σ hq1) mf_yX6_beat lm_RX6_136 (hks 29 (by decide)) rfl rfl ⟨Nat.le_of_ble_eq_true rfl, Nat.le_of_ble_eq_true rfl⟩ ⟨Nat.le_refl _, Nat.le_refl _⟩ rfl hl.1 rfl (Nat.le_of_ble_eq_true rfl) dX6_ring_101) (fun H locs h => ?_)
  refine lv_istore hx hb dX6_ring_104 hl (by decide) (lv' := [(5, .int q1), (4, .int s0), (0, .ref (g.1 29)), (2, .int v2), (3, .int v3), (6, .int v6)]) rfl (fun ls hl => ?_)
  refine lv_iinc hx hb dX6_ring_106 hl (k := 5) rfl (kinc_1 _) (by decide) (lv' := [(6, .int (v6 + 1)), (5, .int q1), (4, .int s0), (0, .ref (g.1 29)), (2, .int v2), (3, .int v3)]) rfl (fun ls hl => ?_)
  refine lv_goto hx hb dX6_ring_109 (tgt := 66) (by decide) ?_
  exact hk66 v2 v3 s0 q1 (v6 + 1) σ _ _ _ h (lv_sub hl [3, 4, 5, 2, 1, 0] rfl) hf
set_option maxHeartbeats 4000000 in
set_option maxRecDepth 100000 in
theorem w_X6_ring_L66 (X : fb_X p m c cX6_ring 7 s args RX6 g ks (fb_A g ks)) (hks : ∀ k ∈ ([29, 32, 33, 34, 35, 36, 37, 38, 41, 42] : List Nat), k ∈ ks) (hr : meth.sig.returnType = (some .int)) (hlk : meth.locks = false) (N : Nat)  {res : (Int32 × fb_S)} : ∀ (n : Nat) (v2 : Int32) (v3 : Int32) (v4 : Int32) (v5 : Int32) (v6 : Int32) (σ : fb_S) (H : Heap) (locs : List Loc) (ls : Array Slot), fb_H g ks (fb_A g ks) s.heap σ H locs → lv_has ls 7 [(0, .ref (g.1 29)), (2, .int v2), (3, .int v3), (4, .int v4), (5, .int v5), (6, .int v6)] → f_X6_ring_L66 N n v2 v3 v4 v5 v6 σ = some res → W p l e (fb_R 4 89) s m args below meth c H locs 0 0 (MQ below (fb_Qi g ks res.1 res.2) args s 0 0 (fb_A g ks)) (F0 m 66 ls []) := by
  have hx := X.1.1
  have hb := X.1.2.1
  intro n
  induction n with
  | zero => intro v2 v3 v4 v5 v6 σ H locs ls h hl hf; cases hf
  | succ n ih =>
    intro v2 v3 v4 v5 v6 σ H locs ls h hl hf
    unfold f_X6_ring_L66 at hf
    refine lv_iload hx hb dX6_ring_66 (lv_at hl 5 rfl) ?_
    refine lv_aload_n hx hb dX6_ring_68 rfl (lv_at hl 0 rfl) ?_
    refine gt_RX6_142 X h (hks 29 (by decide)) dX6_ring_69 ?_
    refine lv_icmp_ge hx hb dX6_ring_72 (tgt := 112) (by decide) (fun hc => ?_) (fun hc => ?_)
    · have hf := if_t hc hf
      refine lv_iload_n hx hb dX6_ring_112 rfl (lv_at hl 1 rfl) ?_
      refine lv_if_ne hx hb dX6_ring_113 (tgt := 120) (by decide) (fun hc => ?_) (fun hc => ?_)
      · have hf := if_f hc hf
        refine lv_iload_n hx hb dX6_ring_120 rfl (lv_at hl 1 rfl) ?_
        refine lv_iconst hx hb dX6_ring_121 ki_1 ?_
        refine lv_icmp_ne hx hb dX6_ring_122 (tgt := 130) (by decide) (fun hc => ?_) (fun hc => ?_)
        · have hf := if_f hc hf
          refine lv_iload_n hx hb dX6_ring_130 rfl (lv_at hl 1 rfl) ?_
          refine lv_iconst hx hb dX6_ring_131 ki_2 ?_
          refine lv_icmp_ne hx hb dX6_ring_132 (tgt := 142) (by decide) (fun hc => ?_) (fun hc => ?_)
          · have hf := if_f hc hf
            refine lv_aload_n hx hb dX6_ring_142 rfl (lv_at hl 0 rfl) ?_
            refine gt_RX6_139 X h (hks 29 (by decide)) dX6_ring_143 ?_
            have e9 := Option.some.inj hf
            subst e9
            exact fb_ir X h hr hlk dX6_ring_146
          · have hf := if_t hc hf
            refine lv_aload_n hx hb dX6_ring_135 rfl (lv_at hl 0 rfl) ?_
            refine gt_RX6_142 X h (hks 29 (by decide)) dX6_ring_136 ?_
            refine lv_goto hx hb dX6_ring_139 (tgt := 146) (by decide) ?_
            have e9 := Option.some.inj hf
            subst e9
            exact fb_ir X h hr hlk dX6_ring_146
        · have hf := if_t hc hf
          refine lv_iload hx hb dX6_ring_125 (lv_at hl 3 rfl) ?_
          refine lv_goto hx hb dX6_ring_127 (tgt := 146) (by decide) ?_
          have e9 := Option.some.inj hf
          subst e9
          exact fb_ir X h hr hlk dX6_ring_146
      · have hf := if_t hc hf
        refine lv_iload_n hx hb dX6_ring_116 rfl (lv_at hl 2 rfl) ?_
        refine lv_goto hx hb dX6_ring_117 (tgt := 146) (by decide) ?_
        have e9 := Option.some.inj hf
        subst e9
        exact fb_ir X h hr hlk dX6_ring_146
    · have hf := if_f hc hf
      refine lv_iload_n hx hb dX6_ring_75 rfl (lv_at hl 2 rfl) ?_
      refine lv_iload hx hb dX6_ring_76 (lv_at hl 4 rfl) ?_
      obtain ⟨q2, hq2, hf⟩ := bd_s hf
      refine fb_ci X h (fb_runS (As := [.int v3, .int v5]) (rest := []) X h (c_X6_lesser l X.2.2.1 (fun k hk => absurd hk List.not_mem_nil) v3 v5 σ hq2) mf_yX6_lesser lm_RX6_119 ⟨Nat.le_of_ble_eq_true rfl, Nat.le_of_ble_eq_true rfl⟩ ⟨Nat.le_refl _, Nat.le_refl _⟩ rfl hl.1 rfl (Nat.le_of_ble_eq_true rfl) dX6_ring_78) (fun H locs h => ?_)
      refine lv_istore_n hx hb dX6_ring_81 rfl hl (by decide) (lv' := [(3, .int q2), (0, .ref (g.1 29)), (2, .int v2), (4, .int v4), (5, .int v5), (6, .int v6)]) rfl (fun ls hl => ?_)
      refine lv_iload hx hb dX6_ring_82 (lv_at hl 4 rfl) ?_
      refine lv_iload hx hb dX6_ring_84 (lv_at hl 3 rfl) ?_
      refine lv_icmp_le hx hb dX6_ring_86 (tgt := 94) (by decide) (fun hc => ?_) (fun hc => ?_)
      · have hf := if_t hc hf
        refine lv_iload hx hb dX6_ring_94 (lv_at hl 3 rfl) ?_
        exact w_X6_ring_L96 X hks hr hlk N (f_X6_ring_L66 N n) ih v2 q2 v5 v6 v4 σ _ _ _ h (lv_sub hl [1, 2, 0, 4, 5] rfl) hf
      · have hf := if_f hc hf
        refine lv_iload hx hb dX6_ring_89 (lv_at hl 4 rfl) ?_
        refine lv_goto hx hb dX6_ring_91 (tgt := 96) (by decide) ?_
        exact w_X6_ring_L96 X hks hr hlk N (f_X6_ring_L66 N n) ih v2 q2 v5 v6 v5 σ _ _ _ h (lv_sub hl [1, 2, 0, 4, 5] rfl) hf
set_option maxHeartbeats 4000000 in
set_option maxRecDepth 100000 in
theorem c_X6_ring (l : Launch) {g : fb_G} {ks : List Nat} (hI : fb_I g ks) (hks : ∀ k ∈ ([29, 32, 33, 34, 35, 36, 37, 38, 41, 42] : List Nat), k ∈ ks) (N : Nat) (a1 : Int32) (a2 : Int32) (σ : fb_S) {res : (Int32 × fb_S)} (hf : f_X6_ring N a1 a2 σ = some res) : fb_M l yX6_ring cX6_ring 7 (some .int) 4 89 g ks [.ref (g.1 29), .int a1, .int a2] σ (fb_Qi g ks res.1 res.2) := by
  refine fb_met (by decide +kernel) hI (Nat.le_of_ble_eq_true rfl) (fun p e s m below meth c ls X h hr hlk hl => ?_)
  have X : fb_X p m c cX6_ring 7 s _ RX6 g ks (fb_A g ks) := X
  have hl : lv_has ls 7 [(0, .ref (g.1 29)), (1, .int a1), (2, .int a2)] := hl
  have hx := X.1.1
  have hb := X.1.2.1
  unfold f_X6_ring at hf
  refine lv_aload_n hx hb dX6_ring_0 rfl (lv_at hl 0 rfl) ?_
  refine lv_iconst hx hb dX6_ring_1 ki_0 ?_
  obtain ⟨t3, et3, hf⟩ := nm_s hf
  refine pt_RX6_75 X h (hks 29 (by decide)) dX6_ring_2 (fun H locs h => ?_)
  have h := fb_H.nm et3 h
  refine lv_iload_n hx hb dX6_ring_5 rfl (lv_at hl 1 rfl) ?_
  obtain ⟨q4, hq4, hf⟩ := bd_s hf
  refine fb_ci X h (fb_runS (As := [.int a1]) (rest := []) X h (c_X6_noSway l X.2.2.1 (fun k hk => absurd hk List.not_mem_nil) a1 t3 hq4) mf_yX6_noSway lm_RX6_104 ⟨Nat.le_of_ble_eq_true rfl, Nat.le_of_ble_eq_true rfl⟩ ⟨Nat.le_refl _, Nat.le_refl _⟩ rfl hl.1 rfl (Nat.le_of_ble_eq_true rfl) dX6_ring_6) (fun H locs h => ?_)
  refine lv_if_ne hx hb dX6_ring_9 (tgt := 24) (by decide) (fun hc => ?_) (fun hc => ?_)
  · have hf := if_f hc hf
    refine lv_bipush hx hb dX6_ring_24 kb_m2 ?_
    have e9 := Option.some.inj hf
    subst e9
    exact fb_ir X h hr hlk dX6_ring_26
  · have hf := if_t hc hf
    refine lv_iload_n hx hb dX6_ring_12 rfl (lv_at hl 2 rfl) ?_
    refine lv_i2l hx hb dX6_ring_13 (v := a2.toInt64) rfl ?_
    refine lv_lconst hx hb dX6_ring_14 kl_0 ?_
    refine lv_ldc2 hx hb X.1.2.2.2.1 (X.1.2.2.2.2 _ lc_RX6_96) dX6_ring_15 ?_
    obtain ⟨q5, hq5, hf⟩ := bd_s hf
    refine fb_ci X h (fb_runS (As := [.long (a2.toInt64), .long (0), .long (3)]) (rest := []) X h (c_X6_in l X.2.2.1 (fun k hk => absurd hk List.not_mem_nil) (a2.toInt64) (0 : Int64) (3 : Int64) t3 hq5) mf_yX6_in lm_RX6_80 ⟨Nat.le_of_ble_eq_true rfl, Nat.le_of_ble_eq_true rfl⟩ ⟨Nat.le_refl _, Nat.le_refl _⟩ rfl hl.1 rfl (Nat.le_of_ble_eq_true rfl) dX6_ring_18) (fun H locs h => ?_)
    refine lv_if_ne hx hb dX6_ring_21 (tgt := 27) (by decide) (fun hc => ?_) (fun hc => ?_)
    · have hf := if_f hc hf
      refine lv_aload_n hx hb dX6_ring_27 rfl (lv_at hl 0 rfl) ?_
      obtain ⟨q6, hq6, hf⟩ := bd_s hf
      refine fb_cv X h (fb_runV (As := []) (rest := []) (k := 29) X h (c_X6_asIs l X.2.2.1 (fun k hk => hks k ((by decide : ∀ k ∈ ([29, 35, 36, 38, 41] : List Nat), k ∈ ([29, 32, 33, 34, 35, 36, 37, 38, 41, 42] : List Nat)) k hk)) N t3 hq6) mf_yX6_asIs lm_RX6_130 (hks 29 (by decide)) rfl rfl ⟨Nat.le_of_ble_eq_true rfl, Nat.le_of_ble_eq_true rfl⟩ ⟨Nat.le_refl _, Nat.le_refl _⟩ rfl hl.1 rfl (Nat.le_of_ble_eq_true rfl) dX6_ring_28) (fun H locs h => ?_)
      refine lv_aload_n hx hb dX6_ring_31 rfl (lv_at hl 0 rfl) ?_
      refine lv_iload_n hx hb dX6_ring_32 rfl (lv_at hl 1 rfl) ?_
      obtain ⟨q7, hq7, hf⟩ := bd_s hf
      refine fb_cv X h (fb_runV (As := [.int a1]) (rest := []) (k := 29) X h (c_X6_goOn l X.2.2.1 (fun k hk => hks k ((by decide : ∀ k ∈ ([29, 32, 33, 34, 36, 37, 42] : List Nat), k ∈ ([29, 32, 33, 34, 35, 36, 37, 38, 41, 42] : List Nat)) k hk)) N a1 q6 hq7) mf_yX6_goOn lm_RX6_148 (hks 29 (by decide)) rfl rfl ⟨Nat.le_of_ble_eq_true rfl, Nat.le_of_ble_eq_true rfl⟩ ⟨Nat.le_refl _, Nat.le_refl _⟩ rfl hl.1 rfl (Nat.le_of_ble_eq_true rfl) dX6_ring_33) (fun H locs h => ?_)
      refine lv_aload_n hx hb dX6_ring_36 rfl (lv_at hl 0 rfl) ?_
      refine gt_RX6_145 X h (hks 29 (by decide)) dX6_ring_37 ?_
      refine lv_if_ne hx hb dX6_ring_40 (tgt := 46) (by decide) (fun hc => ?_) (fun hc => ?_)
      · have hf := if_f hc hf
        refine lv_aload_n hx hb dX6_ring_46 rfl (lv_at hl 0 rfl) ?_
        refine gt_RX6_145 X h (hks 29 (by decide)) dX6_ring_47 ?_
        obtain ⟨x8, ex8, hf⟩ := nm_s hf
        refine fb_topi ex8 ?_
        refine lv_istore_n hx hb dX6_ring_50 rfl hl (by decide) (lv' := [(3, .int x8), (0, .ref (g.1 29)), (1, .int a1), (2, .int a2)]) rfl (fun ls hl => ?_)
        refine lv_aload_n hx hb dX6_ring_51 rfl (lv_at hl 1 rfl) ?_
        refine gt_RX6_145 X h (hks 29 (by decide)) dX6_ring_52 ?_
        obtain ⟨x9, ex9, hf⟩ := nm_s hf
        refine fb_topi ex9 ?_
        refine lv_istore hx hb dX6_ring_55 hl (by decide) (lv' := [(4, .int x9), (3, .int x8), (0, .ref (g.1 29)), (1, .int a1), (2, .int a2)]) rfl (fun ls hl => ?_)
        refine lv_aload_n hx hb dX6_ring_57 rfl (lv_at hl 2 rfl) ?_
        refine gt_RX6_145 X h (hks 29 (by decide)) dX6_ring_58 ?_
        obtain ⟨x10, ex10, hf⟩ := nm_s hf
        refine fb_topi ex10 ?_
        refine lv_istore hx hb dX6_ring_61 hl (by decide) (lv' := [(5, .int x10), (4, .int x9), (3, .int x8), (0, .ref (g.1 29)), (1, .int a1), (2, .int a2)]) rfl (fun ls hl => ?_)
        refine lv_iconst hx hb dX6_ring_63 ki_0 ?_
        refine lv_istore hx hb dX6_ring_64 hl (by decide) (lv' := [(6, .int (0)), (5, .int x10), (4, .int x9), (3, .int x8), (0, .ref (g.1 29)), (1, .int a1), (2, .int a2)]) rfl (fun ls hl => ?_)
        exact w_X6_ring_L66 X hks hr hlk N N a2 x8 x9 x10 (0 : Int32) q7 _ _ _ h (lv_sub hl [4, 6, 3, 2, 1, 0] rfl) hf
      · have hf := if_t hc hf
        refine lv_bipush hx hb dX6_ring_43 kb_m9 ?_
        have e9 := Option.some.inj hf
        subst e9
        exact fb_ir X h hr hlk dX6_ring_45
    · have hf := if_t hc hf
      refine lv_bipush hx hb dX6_ring_24 kb_m2 ?_
      have e9 := Option.some.inj hf
      subst e9
      exact fb_ir X h hr hlk dX6_ring_26
def f_X6_smallSettles (N : Nat)  (σ : fb_S) : Option (Int32 × fb_S) :=
  (f_X6_goOn N (σ.1 37 1) σ).bind fun q1 =>
  if (q1.1 29 20) = 0 then (
    some ((1 : Int32), q1)
  ) else (
    some ((0 : Int32), q1)
  )
set_option maxHeartbeats 4000000 in
set_option maxRecDepth 100000 in
theorem c_X6_smallSettles (l : Launch) {g : fb_G} {ks : List Nat} (hI : fb_I g ks) (hks : ∀ k ∈ ([29, 32, 33, 34, 36, 37, 42] : List Nat), k ∈ ks) (N : Nat) (σ : fb_S) {res : (Int32 × fb_S)} (hf : f_X6_smallSettles N σ = some res) : fb_M l yX6_smallSettles cX6_smallSettles 1 (some .boolean) 4 89 g ks [.ref (g.1 29)] σ (fb_Qi g ks res.1 res.2) := by
  refine fb_met (by decide +kernel) hI (Nat.le_of_ble_eq_true rfl) (fun p e s m below meth c ls X h hr hlk hl => ?_)
  have X : fb_X p m c cX6_smallSettles 1 s _ RX6 g ks (fb_A g ks) := X
  have hl : lv_has ls 1 [(0, .ref (g.1 29))] := hl
  have hx := X.1.1
  have hb := X.1.2.1
  unfold f_X6_smallSettles at hf
  refine lv_aload_n hx hb dX6_smallSettles_0 rfl (lv_at hl 0 rfl) ?_
  refine lv_aload_n hx hb dX6_smallSettles_1 rfl (lv_at hl 0 rfl) ?_
  refine gt_RX6_35 X h (hks 29 (by decide)) dX6_smallSettles_2 ?_
  refine lv_iconst hx hb dX6_smallSettles_5 ki_1 ?_
  refine fb_ialdL X h (hks 37 (by decide)) rfl (by decide) kn_1 dX6_smallSettles_6 ?_
  obtain ⟨q1, hq1, hf⟩ := bd_s hf
  refine fb_cv X h (fb_runV (As := [.int (σ.1 37 1)]) (rest := []) (k := 29) X h (c_X6_goOn l X.2.2.1 (fun k hk => hks k ((by decide : ∀ k ∈ ([29, 32, 33, 34, 36, 37, 42] : List Nat), k ∈ ([29, 32, 33, 34, 36, 37, 42] : List Nat)) k hk)) N (σ.1 37 1) σ hq1) mf_yX6_goOn lm_RX6_148 (hks 29 (by decide)) rfl rfl ⟨Nat.le_of_ble_eq_true rfl, Nat.le_of_ble_eq_true rfl⟩ ⟨Nat.le_refl _, Nat.le_refl _⟩ rfl hl.1 rfl (Nat.le_of_ble_eq_true rfl) dX6_smallSettles_7) (fun H locs h => ?_)
  refine lv_aload_n hx hb dX6_smallSettles_10 rfl (lv_at hl 0 rfl) ?_
  refine gt_RX6_145 X h (hks 29 (by decide)) dX6_smallSettles_11 ?_
  refine lv_if_ne hx hb dX6_smallSettles_14 (tgt := 21) (by decide) (fun hc => ?_) (fun hc => ?_)
  · have hf := if_f hc hf
    refine lv_iconst hx hb dX6_smallSettles_21 ki_0 ?_
    have e9 := Option.some.inj hf
    subst e9
    exact fb_zr (r := (0 : Int32)) X h hr rfl hlk dX6_smallSettles_22
  · have hf := if_t hc hf
    refine lv_iconst hx hb dX6_smallSettles_17 ki_1 ?_
    refine lv_goto hx hb dX6_smallSettles_18 (tgt := 22) (by decide) ?_
    have e9 := Option.some.inj hf
    subst e9
    exact fb_zr (r := (1 : Int32)) X h hr rfl hlk dX6_smallSettles_22
def f_X6_tooMany_L20 (N : Nat) : Nat → Int32 → Int32 → fb_S → Option (Int32 × fb_S)
  | 0, _, _, _ => none
  | n + 1, v1, v2, σ => 
    if (1000 : Int32) ≤ v2 then (
      some ((-9 : Int32), σ)
    ) else (
      ck_ (fb_in v1 4) <|
      nm_ (fb_up σ 36 (v1.toNatClampNeg) v2) fun t1 =>
      (f_X6_smallSettles N t1).bind fun q2 =>
      if q2.1 = 0 then (
        some (v2, q2.2)
      ) else (
        f_X6_tooMany_L20 N n v1 (v2 + 1) q2.2
      )
    )
def f_X6_tooMany (N : Nat) (a1 : Int32) (σ : fb_S) : Option (Int32 × fb_S) :=
  nm_ (fb_up σ 29 0 (0 : Int32)) fun t3 =>
  (f_X6_noSort a1).bind fun q4 =>
  if q4 = 0 then (
    (f_X6_asIs N t3).bind fun q5 =>
    f_X6_tooMany_L20 N N a1 (0 : Int32) q5
  ) else (
    some ((-1 : Int32), t3)
  )
set_option maxHeartbeats 4000000 in
set_option maxRecDepth 100000 in
theorem w_X6_tooMany_L20 (X : fb_X p m c cX6_tooMany 3 s args RX6 g ks (fb_A g ks)) (hks : ∀ k ∈ ([29, 32, 33, 34, 35, 36, 37, 38, 41, 42] : List Nat), k ∈ ks) (hr : meth.sig.returnType = (some .int)) (hlk : meth.locks = false) (N : Nat)  {res : (Int32 × fb_S)} : ∀ (n : Nat) (v1 : Int32) (v2 : Int32) (σ : fb_S) (H : Heap) (locs : List Loc) (ls : Array Slot), fb_H g ks (fb_A g ks) s.heap σ H locs → lv_has ls 3 [(0, .ref (g.1 29)), (1, .int v1), (2, .int v2)] → f_X6_tooMany_L20 N n v1 v2 σ = some res → W p l e (fb_R 5 109) s m args below meth c H locs 0 0 (MQ below (fb_Qi g ks res.1 res.2) args s 0 0 (fb_A g ks)) (F0 m 20 ls []) := by
  have hx := X.1.1
  have hb := X.1.2.1
  intro n
  induction n with
  | zero => intro v1 v2 σ H locs ls h hl hf; cases hf
  | succ n ih =>
    intro v1 v2 σ H locs ls h hl hf
    unfold f_X6_tooMany_L20 at hf
    refine lv_iload_n hx hb dX6_tooMany_20 rfl (lv_at hl 2 rfl) ?_
    refine lv_sipush hx hb dX6_tooMany_21 ks_1000 ?_
    refine lv_icmp_ge hx hb dX6_tooMany_24 (tgt := 49) (by decide) (fun hc => ?_) (fun hc => ?_)
    · have hf := if_t hc hf
      refine lv_bipush hx hb dX6_tooMany_49 kb_m9 ?_
      have e9 := Option.some.inj hf
      subst e9
      exact fb_ir X h hr hlk dX6_tooMany_51
    · have hf := if_f hc hf
      refine lv_aload_n hx hb dX6_tooMany_27 rfl (lv_at hl 0 rfl) ?_
      refine gt_RX6_32 X h (hks 29 (by decide)) dX6_tooMany_28 ?_
      refine lv_iload_n hx hb dX6_tooMany_31 rfl (lv_at hl 1 rfl) ?_
      refine lv_iload_n hx hb dX6_tooMany_32 rfl (lv_at hl 2 rfl) ?_
      obtain ⟨hi0, hf⟩ := ck_s hf
      obtain ⟨t1, et1, hf⟩ := nm_s hf
      refine fb_iast X h (hks 36 (by decide)) (fun _ => rfl) hi0 dX6_tooMany_33 (fun H locs h => ?_)
      have h := fb_H.nm et1 h
      refine lv_aload_n hx hb dX6_tooMany_34 rfl (lv_at hl 0 rfl) ?_
      obtain ⟨q2, hq2, hf⟩ := bd_s hf
      refine fb_ci X h (fb_runV (As := []) (rest := []) (k := 29) X h (c_X6_smallSettles l X.2.2.1 (fun k hk => hks k ((by decide : ∀ k ∈ ([29, 32, 33, 34, 36, 37, 42] : List Nat), k ∈ ([29, 32, 33, 34, 35, 36, 37, 38, 41, 42] : List Nat)) k hk)) N t1 hq2) mf_yX6_smallSettles lm_RX6_152 (hks 29 (by decide)) rfl rfl ⟨Nat.le_of_ble_eq_true rfl, Nat.le_of_ble_eq_true rfl⟩ ⟨Nat.le_refl _, Nat.le_refl _⟩ rfl hl.1 rfl (Nat.le_of_ble_eq_true rfl) dX6_tooMany_35) (fun H locs h => ?_)
      refine lv_if_ne hx hb dX6_tooMany_38 (tgt := 43) (by decide) (fun hc => ?_) (fun hc => ?_)
      · have hf := if_f hc hf
        refine lv_iinc hx hb dX6_tooMany_43 hl (k := 2) rfl (kinc_1 _) (by decide) (lv' := [(2, .int (v2 + 1)), (0, .ref (g.1 29)), (1, .int v1)]) rfl (fun ls hl => ?_)
        refine lv_goto hx hb dX6_tooMany_46 (tgt := 20) (by decide) ?_
        exact ih v1 (v2 + 1) q2.2 _ _ _ h (lv_sub hl [1, 2, 0] rfl) hf
      · have hf := if_t hc hf
        refine lv_iload_n hx hb dX6_tooMany_41 rfl (lv_at hl 2 rfl) ?_
        have e9 := Option.some.inj hf
        subst e9
        exact fb_ir X h hr hlk dX6_tooMany_42
set_option maxHeartbeats 4000000 in
set_option maxRecDepth 100000 in
theorem c_X6_tooMany (l : Launch) {g : fb_G} {ks : List Nat} (hI : fb_I g ks) (hks : ∀ k ∈ ([29, 32, 33, 34, 35, 36, 37, 38, 41, 42] : List Nat), k ∈ ks) (N : Nat) (a1 : Int32) (σ : fb_S) {res : (Int32 × fb_S)} (hf : f_X6_tooMany N a1 σ = some res) : fb_M l yX6_tooMany cX6_tooMany 3 (some .int) 5 109 g ks [.ref (g.1 29), .int a1] σ (fb_Qi g ks res.1 res.2) := by
  refine fb_met (by decide +kernel) hI (Nat.le_of_ble_eq_true rfl) (fun p e s m below meth c ls X h hr hlk hl => ?_)
  have X : fb_X p m c cX6_tooMany 3 s _ RX6 g ks (fb_A g ks) := X
  have hl : lv_has ls 3 [(0, .ref (g.1 29)), (1, .int a1)] := hl
  have hx := X.1.1
  have hb := X.1.2.1
  unfold f_X6_tooMany at hf
  refine lv_aload_n hx hb dX6_tooMany_0 rfl (lv_at hl 0 rfl) ?_
  refine lv_iconst hx hb dX6_tooMany_1 ki_0 ?_
  obtain ⟨t3, et3, hf⟩ := nm_s hf
  refine pt_RX6_75 X h (hks 29 (by decide)) dX6_tooMany_2 (fun H locs h => ?_)
  have h := fb_H.nm et3 h
  refine lv_iload_n hx hb dX6_tooMany_5 rfl (lv_at hl 1 rfl) ?_
  obtain ⟨q4, hq4, hf⟩ := bd_s hf
  refine fb_ci X h (fb_runS (As := [.int a1]) (rest := []) X h (c_X6_noSort l X.2.2.1 (fun k hk => absurd hk List.not_mem_nil) a1 t3 hq4) mf_yX6_noSort lm_RX6_100 ⟨Nat.le_of_ble_eq_true rfl, Nat.le_of_ble_eq_true rfl⟩ ⟨Nat.le_refl _, Nat.le_refl _⟩ rfl hl.1 rfl (Nat.le_of_ble_eq_true rfl) dX6_tooMany_6) (fun H locs h => ?_)
  refine lv_if_eq hx hb dX6_tooMany_9 (tgt := 14) (by decide) (fun hc => ?_) (fun hc => ?_)
  · have hf := if_t hc hf
    refine lv_aload_n hx hb dX6_tooMany_14 rfl (lv_at hl 0 rfl) ?_
    obtain ⟨q5, hq5, hf⟩ := bd_s hf
    refine fb_cv X h (fb_runV (As := []) (rest := []) (k := 29) X h (c_X6_asIs l X.2.2.1 (fun k hk => hks k ((by decide : ∀ k ∈ ([29, 35, 36, 38, 41] : List Nat), k ∈ ([29, 32, 33, 34, 35, 36, 37, 38, 41, 42] : List Nat)) k hk)) N t3 hq5) mf_yX6_asIs lm_RX6_130 (hks 29 (by decide)) rfl rfl ⟨Nat.le_of_ble_eq_true rfl, Nat.le_of_ble_eq_true rfl⟩ ⟨Nat.le_refl _, Nat.le_refl _⟩ rfl hl.1 rfl (Nat.le_of_ble_eq_true rfl) dX6_tooMany_15) (fun H locs h => ?_)
    refine lv_iconst hx hb dX6_tooMany_18 ki_0 ?_
    refine lv_istore_n hx hb dX6_tooMany_19 rfl hl (by decide) (lv' := [(2, .int (0)), (0, .ref (g.1 29)), (1, .int a1)]) rfl (fun ls hl => ?_)
    exact w_X6_tooMany_L20 X hks hr hlk N N a1 (0 : Int32) q5 _ _ _ h (lv_sub hl [1, 2, 0] rfl) hf
  · have hf := if_f hc hf
    refine lv_iconst hx hb dX6_tooMany_12 ki_m1 ?_
    have e9 := Option.some.inj hf
    subst e9
    exact fb_ir X h hr hlk dX6_tooMany_13
def f_X6_inStep_L19 (N : Nat) : Nat → Int32 → Int32 → Int32 → fb_S → Option (Int32 × fb_S)
  | 0, _, _, _, _ => none
  | n + 1, v1, v2, v3, σ => 
    if (4 : Int32) ≤ v3 then (
      some (v2, σ)
    ) else (
      (f_X6_inStepOf v3 v1 σ).bind fun q1 =>
      if q1 = 0 then (
        nm_ (v2 + (0 : Int32)) fun x2 =>
        f_X6_inStep_L19 N n v1 x2 (v3 + 1) σ
      ) else (
        ck_ (fb_in v3 4) <|
        nm_ (v2 + (σ.1 35 v3.toNatClampNeg)) fun x3 =>
        f_X6_inStep_L19 N n v1 x3 (v3 + 1) σ
      )
    )
def f_X6_inStep (N : Nat) (a1 : Int32) (σ : fb_S) : Option (Int32 × fb_S) :=
  nm_ (fb_up σ 29 0 (0 : Int32)) fun t4 =>
  (f_X6_noSway a1).bind fun q5 =>
  if q5 = 0 then (
    f_X6_inStep_L19 N N a1 (0 : Int32) (0 : Int32) t4
  ) else (
    some ((-2 : Int32), t4)
  )
set_option maxHeartbeats 4000000 in
set_option maxRecDepth 100000 in
theorem w_X6_inStep_L19 (X : fb_X p m c cX6_inStep 4 s args RX6 g ks (fb_A g ks)) (hks : ∀ k ∈ ([29, 33, 34, 35] : List Nat), k ∈ ks) (hr : meth.sig.returnType = (some .int)) (hlk : meth.locks = false) (N : Nat)  {res : (Int32 × fb_S)} : ∀ (n : Nat) (v1 : Int32) (v2 : Int32) (v3 : Int32) (σ : fb_S) (H : Heap) (locs : List Loc) (ls : Array Slot), fb_H g ks (fb_A g ks) s.heap σ H locs → lv_has ls 4 [(0, .ref (g.1 29)), (1, .int v1), (2, .int v2), (3, .int v3)] → f_X6_inStep_L19 N n v1 v2 v3 σ = some res → W p l e (fb_R 2 45) s m args below meth c H locs 0 0 (MQ below (fb_Qi g ks res.1 res.2) args s 0 0 (fb_A g ks)) (F0 m 19 ls []) := by
  have hx := X.1.1
  have hb := X.1.2.1
  intro n
  induction n with
  | zero => intro v1 v2 v3 σ H locs ls h hl hf; cases hf
  | succ n ih =>
    intro v1 v2 v3 σ H locs ls h hl hf
    unfold f_X6_inStep_L19 at hf
    refine lv_iload_n hx hb dX6_inStep_19 rfl (lv_at hl 3 rfl) ?_
    refine lv_iconst hx hb dX6_inStep_20 ki_4 ?_
    refine lv_icmp_ge hx hb dX6_inStep_21 (tgt := 52) (by decide) (fun hc => ?_) (fun hc => ?_)
    · have hf := if_t hc hf
      refine lv_iload_n hx hb dX6_inStep_52 rfl (lv_at hl 2 rfl) ?_
      have e9 := Option.some.inj hf
      subst e9
      exact fb_ir X h hr hlk dX6_inStep_53
    · have hf := if_f hc hf
      refine lv_iload_n hx hb dX6_inStep_24 rfl (lv_at hl 2 rfl) ?_
      refine lv_aload_n hx hb dX6_inStep_25 rfl (lv_at hl 0 rfl) ?_
      refine lv_iload_n hx hb dX6_inStep_26 rfl (lv_at hl 3 rfl) ?_
      refine lv_iload_n hx hb dX6_inStep_27 rfl (lv_at hl 1 rfl) ?_
      obtain ⟨q1, hq1, hf⟩ := bd_s hf
      refine fb_ci X h (fb_runV (As := [.int v3, .int v1]) (rest := [.int v2]) (k := 29) X h (c_X6_inStepOf l X.2.2.1 (fun k hk => hks k ((by decide : ∀ k ∈ ([29, 33, 34] : List Nat), k ∈ ([29, 33, 34, 35] : List Nat)) k hk)) v3 v1 σ hq1) mf_yX6_inStepOf lm_RX6_115 (hks 29 (by decide)) rfl rfl ⟨Nat.le_of_ble_eq_true rfl, Nat.le_of_ble_eq_true rfl⟩ ⟨Nat.le_refl _, Nat.le_refl _⟩ rfl hl.1 rfl (Nat.le_of_ble_eq_true rfl) dX6_inStep_28) (fun H locs h => ?_)
      refine lv_if_eq hx hb dX6_inStep_31 (tgt := 43) (by decide) (fun hc => ?_) (fun hc => ?_)
      · have hf := if_t hc hf
        refine lv_iconst hx hb dX6_inStep_43 ki_0 ?_
        refine lv_iadd hx hb dX6_inStep_44 ?_
        obtain ⟨x2, ex2, hf⟩ := nm_s hf
        refine fb_topi ex2 ?_
        refine lv_istore_n hx hb dX6_inStep_45 rfl hl (by decide) (lv' := [(2, .int x2), (0, .ref (g.1 29)), (1, .int v1), (3, .int v3)]) rfl (fun ls hl => ?_)
        refine lv_iinc hx hb dX6_inStep_46 hl (k := 3) rfl (kinc_1 _) (by decide) (lv' := [(3, .int (v3 + 1)), (2, .int x2), (0, .ref (g.1 29)), (1, .int v1)]) rfl (fun ls hl => ?_)
        refine lv_goto hx hb dX6_inStep_49 (tgt := 19) (by decide) ?_
        exact ih v1 x2 (v3 + 1) σ _ _ _ h (lv_sub hl [2, 3, 1, 0] rfl) hf
      · have hf := if_f hc hf
        refine lv_aload_n hx hb dX6_inStep_34 rfl (lv_at hl 0 rfl) ?_
        refine gt_RX6_29 X h (hks 29 (by decide)) dX6_inStep_35 ?_
        refine lv_iload_n hx hb dX6_inStep_38 rfl (lv_at hl 3 rfl) ?_
        obtain ⟨hi0, hf⟩ := ck_s hf
        refine fb_iald X h (hks 35 (by decide)) rfl hi0 dX6_inStep_39 ?_
        refine lv_goto hx hb dX6_inStep_40 (tgt := 44) (by decide) ?_
        refine lv_iadd hx hb dX6_inStep_44 ?_
        obtain ⟨x3, ex3, hf⟩ := nm_s hf
        refine fb_topi ex3 ?_
        refine lv_istore_n hx hb dX6_inStep_45 rfl hl (by decide) (lv' := [(2, .int x3), (0, .ref (g.1 29)), (1, .int v1), (3, .int v3)]) rfl (fun ls hl => ?_)
        refine lv_iinc hx hb dX6_inStep_46 hl (k := 3) rfl (kinc_1 _) (by decide) (lv' := [(3, .int (v3 + 1)), (2, .int x3), (0, .ref (g.1 29)), (1, .int v1)]) rfl (fun ls hl => ?_)
        refine lv_goto hx hb dX6_inStep_49 (tgt := 19) (by decide) ?_
        exact ih v1 x3 (v3 + 1) σ _ _ _ h (lv_sub hl [2, 3, 1, 0] rfl) hf
set_option maxHeartbeats 4000000 in
set_option maxRecDepth 100000 in
theorem c_X6_inStep (l : Launch) {g : fb_G} {ks : List Nat} (hI : fb_I g ks) (hks : ∀ k ∈ ([29, 33, 34, 35] : List Nat), k ∈ ks) (N : Nat) (a1 : Int32) (σ : fb_S) {res : (Int32 × fb_S)} (hf : f_X6_inStep N a1 σ = some res) : fb_M l yX6_inStep cX6_inStep 4 (some .int) 2 45 g ks [.ref (g.1 29), .int a1] σ (fb_Qi g ks res.1 res.2) := by
  refine fb_met (by decide +kernel) hI (Nat.le_of_ble_eq_true rfl) (fun p e s m below meth c ls X h hr hlk hl => ?_)
  have X : fb_X p m c cX6_inStep 4 s _ RX6 g ks (fb_A g ks) := X
  have hl : lv_has ls 4 [(0, .ref (g.1 29)), (1, .int a1)] := hl
  have hx := X.1.1
  have hb := X.1.2.1
  unfold f_X6_inStep at hf
  refine lv_aload_n hx hb dX6_inStep_0 rfl (lv_at hl 0 rfl) ?_
  refine lv_iconst hx hb dX6_inStep_1 ki_0 ?_
  obtain ⟨t4, et4, hf⟩ := nm_s hf
  refine pt_RX6_75 X h (hks 29 (by decide)) dX6_inStep_2 (fun H locs h => ?_)
  have h := fb_H.nm et4 h
  refine lv_iload_n hx hb dX6_inStep_5 rfl (lv_at hl 1 rfl) ?_
  obtain ⟨q5, hq5, hf⟩ := bd_s hf
  refine fb_ci X h (fb_runS (As := [.int a1]) (rest := []) X h (c_X6_noSway l X.2.2.1 (fun k hk => absurd hk List.not_mem_nil) a1 t4 hq5) mf_yX6_noSway lm_RX6_104 ⟨Nat.le_of_ble_eq_true rfl, Nat.le_of_ble_eq_true rfl⟩ ⟨Nat.le_refl _, Nat.le_refl _⟩ rfl hl.1 rfl (Nat.le_of_ble_eq_true rfl) dX6_inStep_6) (fun H locs h => ?_)
  refine lv_if_eq hx hb dX6_inStep_9 (tgt := 15) (by decide) (fun hc => ?_) (fun hc => ?_)
  · have hf := if_t hc hf
    refine lv_iconst hx hb dX6_inStep_15 ki_0 ?_
    refine lv_istore_n hx hb dX6_inStep_16 rfl hl (by decide) (lv' := [(2, .int (0)), (0, .ref (g.1 29)), (1, .int a1)]) rfl (fun ls hl => ?_)
    refine lv_iconst hx hb dX6_inStep_17 ki_0 ?_
    refine lv_istore_n hx hb dX6_inStep_18 rfl hl (by decide) (lv' := [(3, .int (0)), (2, .int (0)), (0, .ref (g.1 29)), (1, .int a1)]) rfl (fun ls hl => ?_)
    exact w_X6_inStep_L19 X hks hr hlk N N a1 (0 : Int32) (0 : Int32) t4 _ _ _ h (lv_sub hl [2, 3, 1, 0] rfl) hf
  · have hf := if_f hc hf
    refine lv_bipush hx hb dX6_inStep_12 kb_m2 ?_
    have e9 := Option.some.inj hf
    subst e9
    exact fb_ir X h hr hlk dX6_inStep_14
end MW
