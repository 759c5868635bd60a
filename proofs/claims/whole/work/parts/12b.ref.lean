section MW
variable {p : Program} {l : Launch} {e : Env} {s : State} {m : MethodId} {args : Array Value} {below : List Frame} {meth : Method} {c : Code} {g : fb_G} {ks : List Nat}
def f_X6_damper (a1 : Int32) (a2 : Int32) (a3 : Int32) (σ : fb_S) : Option (Int32 × fb_S) :=
  nm_ (fb_up σ 29 0 (0 : Int32)) fun t1 =>
  (f_X6_in (a1.toInt64) (1 : Int64) (500 : Int64)).bind fun q2 =>
  if q2 = 0 then (
    some ((-2 : Int32), t1)
  ) else (
    (f_X6_in (a2.toInt64) (0 : Int64) (9999 : Int64)).bind fun q3 =>
    if q3 = 0 then (
      some ((-2 : Int32), t1)
    ) else (
      (f_X6_in (a3.toInt64) (0 : Int64) (99 : Int64)).bind fun q4 =>
      if q4 = 0 then (
        some ((-2 : Int32), t1)
      ) else (
        if (t1.1 29 11) = (10 : Int32) then (
          some ((-4 : Int32), t1)
        ) else (
          ck_ (fb_in (t1.1 29 11) 10) <|
          nm_ (fb_up t1 38 ((t1.1 29 11).toNatClampNeg) a1) fun t5 =>
          ck_ (fb_in (t5.1 29 11) 10) <|
          nm_ (fb_up t5 39 ((t5.1 29 11).toNatClampNeg) a2) fun t6 =>
          ck_ (fb_in (t6.1 29 11) 10) <|
          nm_ (fb_up t6 40 ((t6.1 29 11).toNatClampNeg) a3) fun t7 =>
          ck_ (fb_in (t7.1 29 11) 10) <|
          nm_ (fb_up t7 41 ((t7.1 29 11).toNatClampNeg) (fb_z (0 : Int32))) fun t8 =>
          nm_ (fb_up t8 29 11 ((t8.1 29 11) + (1 : Int32))) fun t9 =>
          some ((t9.1 29 11) - (1 : Int32), t9)
        )
      )
    )
  )
set_option maxHeartbeats 4000000 in
set_option maxRecDepth 100000 in
theorem c_X6_damper (l : Launch) {g : fb_G} {ks : List Nat} (hI : fb_I g ks) (hks : ∀ k ∈ ([29, 38, 39, 40, 41] : List Nat), k ∈ ks) (a1 : Int32) (a2 : Int32) (a3 : Int32) (σ : fb_S) {res : (Int32 × fb_S)} (hf : f_X6_damper a1 a2 a3 σ = some res) : fb_M l yX6_damper cX6_damper 4 (some .int) 1 25 g ks [.ref (g.1 29), .int a1, .int a2, .int a3] σ (fb_Qi g ks res.1 res.2) := by
  refine fb_met (by decide +kernel) hI (Nat.le_of_ble_eq_true rfl) (fun p e s m below meth c ls X h hr hlk hl => ?_)
  have X : fb_X p m c cX6_damper 4 s _ RX6 g ks (fb_A g ks) := X
  have hl : lv_has ls 4 [(0, .ref (g.1 29)), (1, .int a1), (2, .int a2), (3, .int a3)] := hl
  have hx := X.1.1
  have hb := X.1.2.1
  unfold f_X6_damper at hf
  refine lv_aload_n hx hb dX6_damper_0 rfl (lv_at hl 0 rfl) ?_
  refine lv_iconst hx hb dX6_damper_1 ki_0 ?_
  obtain ⟨t1, et1, hf⟩ := nm_s hf
  refine pt_RX6_75 X h (hks 29 (by decide)) dX6_damper_2 (fun H locs h => ?_)
  have h := fb_H.nm et1 h
  refine lv_iload_n hx hb dX6_damper_5 rfl (lv_at hl 1 rfl) ?_
  refine lv_i2l hx hb dX6_damper_6 (v := a1.toInt64) rfl ?_
  refine lv_lconst hx hb dX6_damper_7 kl_1 ?_
  refine lv_ldc2 hx hb X.1.2.2.2.1 (X.1.2.2.2.2 _ lc_RX6_156) dX6_damper_8 ?_
  obtain ⟨q2, hq2, hf⟩ := bd_s hf
  refine fb_ci X h (fb_runS (As := [.long (a1.toInt64), .long (1), .long (500)]) (rest := []) X h (c_X6_in l X.2.2.1 (fun k hk => absurd hk List.not_mem_nil) (a1.toInt64) (1 : Int64) (500 : Int64) t1 hq2) mf_yX6_in lm_RX6_80 ⟨Nat.le_of_ble_eq_true rfl, Nat.le_of_ble_eq_true rfl⟩ ⟨Nat.le_refl _, Nat.le_refl _⟩ rfl hl.1 rfl (Nat.le_of_ble_eq_true rfl) dX6_damper_11) (fun H locs h => ?_)
  refine lv_if_eq hx hb dX6_damper_14 (tgt := 41) (by decide) (fun hc => ?_) (fun hc => ?_)
  · have hf := if_t hc hf
    refine lv_bipush hx hb dX6_damper_41 kb_m2 ?_
    have e9 := Option.some.inj hf
    subst e9
    exact fb_ir X h hr hlk dX6_damper_43
  · have hf := if_f hc hf
    refine lv_iload_n hx hb dX6_damper_17 rfl (lv_at hl 2 rfl) ?_
    refine lv_i2l hx hb dX6_damper_18 (v := a2.toInt64) rfl ?_
    refine lv_lconst hx hb dX6_damper_19 kl_0 ?_
    refine lv_ldc2 hx hb X.1.2.2.2.1 (X.1.2.2.2.2 _ lc_RX6_98) dX6_damper_20 ?_
    obtain ⟨q3, hq3, hf⟩ := bd_s hf
    refine fb_ci X h (fb_runS (As := [.long (a2.toInt64), .long (0), .long (9999)]) (rest := []) X h (c_X6_in l X.2.2.1 (fun k hk => absurd hk List.not_mem_nil) (a2.toInt64) (0 : Int64) (9999 : Int64) t1 hq3) mf_yX6_in lm_RX6_80 ⟨Nat.le_of_ble_eq_true rfl, Nat.le_of_ble_eq_true rfl⟩ ⟨Nat.le_refl _, Nat.le_refl _⟩ rfl hl.1 rfl (Nat.le_of_ble_eq_true rfl) dX6_damper_23) (fun H locs h => ?_)
    refine lv_if_eq hx hb dX6_damper_26 (tgt := 41) (by decide) (fun hc => ?_) (fun hc => ?_)
    · have hf := if_t hc hf
      refine lv_bipush hx hb dX6_damper_41 kb_m2 ?_
      have e9 := Option.some.inj hf
      subst e9
      exact fb_ir X h hr hlk dX6_damper_43
    · have hf := if_f hc hf
      refine lv_iload_n hx hb dX6_damper_29 rfl (lv_at hl 3 rfl) ?_
      refine lv_i2l hx hb dX6_damper_30 (v := a3.toInt64) rfl ?_
      refine lv_lconst hx hb dX6_damper_31 kl_0 ?_
      refine lv_ldc2 hx hb X.1.2.2.2.1 (X.1.2.2.2.2 _ lc_RX6_86) dX6_damper_32 ?_
      obtain ⟨q4, hq4, hf⟩ := bd_s hf
      refine fb_ci X h (fb_runS (As := [.long (a3.toInt64), .long (0), .long (99)]) (rest := []) X h (c_X6_in l X.2.2.1 (fun k hk => absurd hk List.not_mem_nil) (a3.toInt64) (0 : Int64) (99 : Int64) t1 hq4) mf_yX6_in lm_RX6_80 ⟨Nat.le_of_ble_eq_true rfl, Nat.le_of_ble_eq_true rfl⟩ ⟨Nat.le_refl _, Nat.le_refl _⟩ rfl hl.1 rfl (Nat.le_of_ble_eq_true rfl) dX6_damper_35) (fun H locs h => ?_)
      refine lv_if_ne hx hb dX6_damper_38 (tgt := 44) (by decide) (fun hc => ?_) (fun hc => ?_)
      · have hf := if_f hc hf
        refine lv_aload_n hx hb dX6_damper_44 rfl (lv_at hl 0 rfl) ?_
        refine gt_RX6_112 X h (hks 29 (by decide)) dX6_damper_45 ?_
        refine lv_bipush hx hb dX6_damper_48 kb_10 ?_
        refine lv_icmp_ne hx hb dX6_damper_50 (tgt := 56) (by decide) (fun hc => ?_) (fun hc => ?_)
        · have hf := if_f hc hf
          refine lv_aload_n hx hb dX6_damper_56 rfl (lv_at hl 0 rfl) ?_
          refine gt_RX6_38 X h (hks 29 (by decide)) dX6_damper_57 ?_
          refine lv_aload_n hx hb dX6_damper_60 rfl (lv_at hl 0 rfl) ?_
          refine gt_RX6_112 X h (hks 29 (by decide)) dX6_damper_61 ?_
          refine lv_iload_n hx hb dX6_damper_64 rfl (lv_at hl 1 rfl) ?_
          obtain ⟨hi0, hf⟩ := ck_s hf
          obtain ⟨t5, et5, hf⟩ := nm_s hf
          refine fb_iast X h (hks 38 (by decide)) (fun _ => rfl) hi0 dX6_damper_65 (fun H locs h => ?_)
          have h := fb_H.nm et5 h
          refine lv_aload_n hx hb dX6_damper_66 rfl (lv_at hl 0 rfl) ?_
          refine gt_RX6_41 X h (hks 29 (by decide)) dX6_damper_67 ?_
          refine lv_aload_n hx hb dX6_damper_70 rfl (lv_at hl 0 rfl) ?_
          refine gt_RX6_112 X h (hks 29 (by decide)) dX6_damper_71 ?_
          refine lv_iload_n hx hb dX6_damper_74 rfl (lv_at hl 2 rfl) ?_
          obtain ⟨hi0, hf⟩ := ck_s hf
          obtain ⟨t6, et6, hf⟩ := nm_s hf
          refine fb_iast X h (hks 39 (by decide)) (fun _ => rfl) hi0 dX6_damper_75 (fun H locs h => ?_)
          have h := fb_H.nm et6 h
          refine lv_aload_n hx hb dX6_damper_76 rfl (lv_at hl 0 rfl) ?_
          refine gt_RX6_44 X h (hks 29 (by decide)) dX6_damper_77 ?_
          refine lv_aload_n hx hb dX6_damper_80 rfl (lv_at hl 0 rfl) ?_
          refine gt_RX6_112 X h (hks 29 (by decide)) dX6_damper_81 ?_
          refine lv_iload_n hx hb dX6_damper_84 rfl (lv_at hl 3 rfl) ?_
          obtain ⟨hi0, hf⟩ := ck_s hf
          obtain ⟨t7, et7, hf⟩ := nm_s hf
          refine fb_iast X h (hks 40 (by decide)) (fun _ => rfl) hi0 dX6_damper_85 (fun H locs h => ?_)
          have h := fb_H.nm et7 h
          refine lv_aload_n hx hb dX6_damper_86 rfl (lv_at hl 0 rfl) ?_
          refine gt_RX6_47 X h (hks 29 (by decide)) dX6_damper_87 ?_
          refine lv_aload_n hx hb dX6_damper_90 rfl (lv_at hl 0 rfl) ?_
          refine gt_RX6_112 X h (hks 29 (by decide)) dX6_damper_91 ?_
          refine lv_iconst hx hb dX6_damper_94 ki_0 ?_
          obtain ⟨hi0, hf⟩ := ck_s hf
          obtain ⟨t8, et8, hf⟩ := nm_s hf
          refine fb_zast X h (hks 41 (by decide)) (fun _ => rfl) hi0 dX6_damper_95 (fun H locs h => ?_)
          have h := fb_H.nm et8 h
          refine lv_aload_n hx hb dX6_damper_96 rfl (lv_at hl 0 rfl) ?_
          refine lv_dup hx hb dX6_damper_97 rfl ?_
          refine gt_RX6_112 X h (hks 29 (by decide)) dX6_damper_98 ?_
          refine lv_iconst hx hb dX6_damper_101 ki_1 ?_
          refine lv_iadd hx hb dX6_damper_102 ?_
          obtain ⟨t9, et9, hf⟩ := nm_s hf
          refine pt_RX6_112 X h (hks 29 (by decide)) dX6_damper_103 (fun H locs h => ?_)
          have h := fb_H.nm et9 h
          refine lv_aload_n hx hb dX6_damper_106 rfl (lv_at hl 0 rfl) ?_
          refine gt_RX6_112 X h (hks 29 (by decide)) dX6_damper_107 ?_
          refine lv_iconst hx hb dX6_damper_110 ki_1 ?_
          refine lv_isub hx hb dX6_damper_111 ?_
          have e9 := Option.some.inj hf
          subst e9
          exact fb_ir X h hr hlk dX6_damper_112
        · have hf := if_t hc hf
          refine lv_bipush hx hb dX6_damper_53 kb_m4 ?_
          have e9 := Option.some.inj hf
          subst e9
          exact fb_ir X h hr hlk dX6_damper_55
      · have hf := if_t hc hf
        refine lv_bipush hx hb dX6_damper_41 kb_m2 ?_
        have e9 := Option.some.inj hf
        subst e9
        exact fb_ir X h hr hlk dX6_damper_43
def f_X6_build_L37 (v1 : Int32) (v2 : Int32) (s0 : Int32) (σ : fb_S) : Option (Int32 × fb_S) :=
  ck_ (fb_in v1 10) <|
  nm_ (fb_up σ 41 (v1.toNatClampNeg) (fb_z v2)) fun t1 =>
  some (s0, t1)
def f_X6_build (a1 : Int32) (a2 : Int32) (σ : fb_S) : Option (Int32 × fb_S) :=
  nm_ (fb_up σ 29 0 (0 : Int32)) fun t2 =>
  (f_X6_in (a1.toInt64) (0 : Int64) (((t2.1 29 11) - (1 : Int32)).toInt64)).bind fun q3 =>
  if q3 = 0 then (
    some ((-1 : Int32), t2)
  ) else (
    ck_ (fb_in a1 10) <|
    if (t2.1 41 a1.toNatClampNeg) = 0 then (
      f_X6_build_L37 a1 a2 (0 : Int32) t2
    ) else (
      f_X6_build_L37 a1 a2 (1 : Int32) t2
    )
  )
set_option maxHeartbeats 4000000 in
set_option maxRecDepth 100000 in
theorem w_X6_build_L37 (X : fb_X p m c cX6_build 4 s args RX6 g ks (fb_A g ks)) (hks : ∀ k ∈ ([29, 41] : List Nat), k ∈ ks) (hr : meth.sig.returnType = (some .int)) (hlk : meth.locks = false)  {res : (Int32 × fb_S)} : ∀ (v1 : Int32) (v2 : Int32) (s0 : Int32) (σ : fb_S) (H : Heap) (locs : List Loc) (ls : Array Slot), fb_H g ks (fb_A g ks) s.heap σ H locs → lv_has ls 4 [(0, .ref (g.1 29)), (1, .int v1), (2, .int v2)] → f_X6_build_L37 v1 v2 s0 σ = some res → W p l e (fb_R 1 25) s m args below meth c H locs 0 0 (MQ below (fb_Qi g ks res.1 res.2) args s 0 0 (fb_A g ks)) (F0 m 37 ls [.int s0]) := by
  have hx := X.1.1
  have hb := X.1.2.1
  intro v1 v2 s0 σ H locs ls h hl hf
  unfold f_X6_build_L37 at hf
  refine lv_istore_n hx hb dX6_build_37 rfl hl (by decide) (lv' := [(3, .int s0), (0, .ref (g.1 29)), (1, .int v1), (2, .int v2)]) rfl (fun ls hl => ?_)
  refine lv_aload_n hx hb dX6_build_38 rfl (lv_at hl 1 rfl) ?_
  refine gt_RX6_47 X h (hks 29 (by decide)) dX6_build_39 ?_
  refine lv_iload_n hx hb dX6_build_42 rfl (lv_at hl 2 rfl) ?_
  refine lv_iload_n hx hb dX6_build_43 rfl (lv_at hl 3 rfl) ?_
  obtain ⟨hi0, hf⟩ := ck_s hf
  obtain ⟨t1, et1, hf⟩ := nm_s hf
  refine fb_zast X h (hks 41 (by decide)) (fun _ => rfl) hi0 dX6_build_44 (fun H locs h => ?_)
  have h := fb_H.nm et1 h
  refine lv_iload_n hx hb dX6_build_45 rfl (lv_at hl 0 rfl) ?_
  have e9 := Option.some.inj hf
  subst e9
  exact fb_ir X h hr hlk dX6_build_46
set_option maxHeartbeats 4000000 in
set_option maxRecDepth 100000 in
theorem c_X6_build (l : Launch) {g : fb_G} {ks : List Nat} (hI : fb_I g ks) (hks : ∀ k ∈ ([29, 41] : List Nat), k ∈ ks) (a1 : Int32) (a2 : Int32) (σ : fb_S) {res : (Int32 × fb_S)} (hf : f_X6_build a1 a2 σ = some res) : fb_M l yX6_build cX6_build 4 (some .int) 1 25 g ks [.ref (g.1 29), .int a1, .int a2] σ (fb_Qi g ks res.1 res.2) := by
  refine fb_met (by decide +kernel) hI (Nat.le_of_ble_eq_true rfl) (fun p e s m below meth c ls X h hr hlk hl => ?_)
  have X : fb_X p m c cX6_build 4 s _ RX6 g ks (fb_A g ks) := X
  have hl : lv_has ls 4 [(0, .ref (g.1 29)), (1, .int a1), (2, .int a2)] := hl
  have hx := X.1.1
  have hb := X.1.2.1
  unfold f_X6_build at hf
  refine lv_aload_n hx hb dX6_build_0 rfl (lv_at hl 0 rfl) ?_
  refine lv_iconst hx hb dX6_build_1 ki_0 ?_
  obtain ⟨t2, et2, hf⟩ := nm_s hf
  refine pt_RX6_75 X h (hks 29 (by decide)) dX6_build_2 (fun H locs h => ?_)
  have h := fb_H.nm et2 h
  refine lv_iload_n hx hb dX6_build_5 rfl (lv_at hl 1 rfl) ?_
  refine lv_i2l hx hb dX6_build_6 (v := a1.toInt64) rfl ?_
  refine lv_lconst hx hb dX6_build_7 kl_0 ?_
  refine lv_aload_n hx hb dX6_build_8 rfl (lv_at hl 0 rfl) ?_
  refine gt_RX6_112 X h (hks 29 (by decide)) dX6_build_9 ?_
  refine lv_iconst hx hb dX6_build_12 ki_1 ?_
  refine lv_isub hx hb dX6_build_13 ?_
  refine lv_i2l hx hb dX6_build_14 (v := ((t2.1 29 11) - (1 : Int32)).toInt64) rfl ?_
  obtain ⟨q3, hq3, hf⟩ := bd_s hf
  refine fb_ci X h (fb_runS (As := [.long (a1.toInt64), .long (0), .long (((t2.1 29 11) - (1 : Int32)).toInt64)]) (rest := []) X h (c_X6_in l X.2.2.1 (fun k hk => absurd hk List.not_mem_nil) (a1.toInt64) (0 : Int64) (((t2.1 29 11) - (1 : Int32)).toInt64) t2 hq3) mf_yX6_in lm_RX6_80 ⟨Nat.le_of_ble_eq_true rfl, Nat.le_of_ble_eq_true rfl⟩ ⟨Nat.le_refl _, Nat.le_refl _⟩ rfl hl.1 rfl (Nat.le_of_ble_eq_true rfl) dX6_build_15) (fun H locs h => ?_)
  refine lv_if_ne hx hb dX6_build_18 (tgt := 23) (by decide) (fun hc => ?_) (fun hc => ?_)
  · have hf := if_f hc hf
    refine lv_aload_n hx hb dX6_build_23 rfl (lv_at hl 0 rfl) ?_
    refine gt_RX6_47 X h (hks 29 (by decide)) dX6_build_24 ?_
    refine lv_iload_n hx hb dX6_build_27 rfl (lv_at hl 1 rfl) ?_
    obtain ⟨hi0, hf⟩ := ck_s hf
    refine fb_zald X h (hks 41 (by decide)) rfl hi0 dX6_build_28 ?_
    refine lv_if_eq hx hb dX6_build_29 (tgt := 36) (by decide) (fun hc => ?_) (fun hc => ?_)
    · have hf := if_t hc hf
      refine lv_iconst hx hb dX6_build_36 ki_0 ?_
      exact w_X6_build_L37 X hks hr hlk  a1 a2 (0 : Int32) t2 _ _ _ h (lv_sub hl [0, 1, 2] rfl) hf
    · have hf := if_f hc hf
      refine lv_iconst hx hb dX6_build_32 ki_1 ?_
      refine lv_goto hx hb dX6_build_33 (tgt := 37) (by decide) ?_
      exact w_X6_build_L37 X hks hr hlk  a1 a2 (1 : Int32) t2 _ _ _ h (lv_sub hl [0, 1, 2] rfl) hf
  · have hf := if_t hc hf
    refine lv_iconst hx hb dX6_build_21 ki_m1 ?_
    have e9 := Option.some.inj hf
    subst e9
    exact fb_ir X h hr hlk dX6_build_22
def f_X6_buy_L143 (N : Nat) (k18 : Int32 → Int32 → Int32 → fb_S → Option (Int32 × fb_S)) (v1 : Int32) (v2 : Int32) (v3 : Int32) (v4 : Int32) (v5 : Int32) (v6 : Int32) (s0 : Int32) (σ : fb_S) : Option (Int32 × fb_S) :=
  if (σ.1 37 2) < v5 then (
    k18 v1 v2 (v3 + (-1)) σ
  ) else (
    if s0 = 0 then (
      k18 v1 v2 (v3 + (-1)) σ
    ) else (
      (f_X6_smallSettles N σ).bind fun q1 =>
      if q1.1 = 0 then (
        k18 v1 v2 (v3 + (-1)) q1.2
      ) else (
        nm_ (fb_up q1.2 29 16 v3) fun t2 =>
        k18 v4 v6 (v3 + (-1)) t2
      )
    )
  )
def f_X6_buy_L138 (N : Nat) (k18 : Int32 → Int32 → Int32 → fb_S → Option (Int32 × fb_S)) (v1 : Int32) (v2 : Int32) (v3 : Int32) (v4 : Int32) (v5 : Int32) (v6 : Int32) (σ : fb_S) : Option (Int32 × fb_S) :=
  f_X6_buy_L143 N k18 v1 v2 v3 v4 v5 v6 (1 : Int32) σ
def f_X6_buy_L142 (N : Nat) (k18 : Int32 → Int32 → Int32 → fb_S → Option (Int32 × fb_S)) (v1 : Int32) (v2 : Int32) (v3 : Int32) (v4 : Int32) (v5 : Int32) (v6 : Int32) (σ : fb_S) : Option (Int32 × fb_S) :=
  f_X6_buy_L143 N k18 v1 v2 v3 v4 v5 v6 (0 : Int32) σ
def f_X6_buy_L39 (N : Nat) (k18 : Int32 → Int32 → Int32 → fb_S → Option (Int32 × fb_S)) : Nat → Int32 → Int32 → Int32 → Int32 → Int32 → Int32 → Int32 → fb_S → Option (Int32 × fb_S)
  | 0, _, _, _, _, _, _, _, _ => none
  | n + 1, v1, v2, v3, v4, v5, v6, v7, σ => 
    if (σ.1 29 11) ≤ v7 then (
      if v1 = (-9 : Int32) then (
        f_X6_buy_L138 N k18 v1 v2 v3 v4 v5 v6 σ
      ) else (
        if v4 < v1 then (
          f_X6_buy_L138 N k18 v1 v2 v3 v4 v5 v6 σ
        ) else (
          if v4 = v1 then (
            if v2 ≤ v6 then (
              f_X6_buy_L142 N k18 v1 v2 v3 v4 v5 v6 σ
            ) else (
              f_X6_buy_L138 N k18 v1 v2 v3 v4 v5 v6 σ
            )
          ) else (
            f_X6_buy_L142 N k18 v1 v2 v3 v4 v5 v6 σ
          )
        )
      )
    ) else (
      if ((v3 >>> ((((σ.1 29 11) - (1 : Int32)) - v7) &&& 31)) &&& (1 : Int32)) = (1 : Int32) then (
        ck_ (fb_in v7 10) <|
        nm_ (v4 + (σ.1 39 v7.toNatClampNeg)) fun x3 =>
        ck_ (fb_in v7 10) <|
        nm_ (v5 + (σ.1 40 v7.toNatClampNeg)) fun x4 =>
        ck_ (fb_in v7 10) <|
        nm_ (fb_up σ 29 9 ((σ.1 29 9) + (σ.1 38 v7.toNatClampNeg))) fun t5 =>
        f_X6_buy_L39 N k18 n v1 v2 v3 x3 x4 (v6 + 1) (v7 + 1) t5
      ) else (
        f_X6_buy_L39 N k18 n v1 v2 v3 v4 v5 v6 (v7 + 1) σ
      )
    )
def f_X6_buy_L18 (N : Nat) : Nat → Int32 → Int32 → Int32 → fb_S → Option (Int32 × fb_S)
  | 0, _, _, _, _ => none
  | n + 1, v1, v2, v3, σ => 
    if v3 < 0 then (
      some (v1, σ)
    ) else (
      nm_ (fb_up σ 29 9 (0 : Int32)) fun t6 =>
      f_X6_buy_L39 N (f_X6_buy_L18 N n) N v1 v2 v3 (0 : Int32) (0 : Int32) (0 : Int32) (0 : Int32) t6
    )
def f_X6_buy (N : Nat)  (σ : fb_S) : Option (Int32 × fb_S) :=
  (f_X6_asIs N σ).bind fun q7 =>
  nm_ (((1 : Int32) <<< ((q7.1 29 11) &&& 31)) - (1 : Int32)) fun x8 =>
  f_X6_buy_L18 N N (-9 : Int32) (0 : Int32) x8 q7
set_option maxHeartbeats 4000000 in
set_option maxRecDepth 100000 in
theorem w_X6_buy_L143 (X : fb_X p m c cX6_buy 8 s args RX6 g ks (fb_A g ks)) (hks : ∀ k ∈ ([29, 32, 33, 34, 35, 36, 37, 38, 39, 40, 41, 42] : List Nat), k ∈ ks) (hr : meth.sig.returnType = (some .int)) (hlk : meth.locks = false) (N : Nat) (k18 : Int32 → Int32 → Int32 → fb_S → Option (Int32 × fb_S))  {res : (Int32 × fb_S)} (hk18 : ∀ (v1 : Int32) (v2 : Int32) (v3 : Int32) (σ : fb_S) (H : Heap) (locs : List Loc) (ls : Array Slot), fb_H g ks (fb_A g ks) s.heap σ H locs → lv_has ls 8 [(0, .ref (g.1 29)), (1, .int v1), (2, .int v2), (3, .int v3)] → k18 v1 v2 v3 σ = some res → W p l e (fb_R 5 109) s m args below meth c H locs 0 0 (MQ below (fb_Qi g ks res.1 res.2) args s 0 0 (fb_A g ks)) (F0 m 18 ls [])) : ∀ (v1 : Int32) (v2 : Int32) (v3 : Int32) (v4 : Int32) (v5 : Int32) (v6 : Int32) (s0 : Int32) (σ : fb_S) (H : Heap) (locs : List Loc) (ls : Array Slot), fb_H g ks (fb_A g ks) s.heap σ H locs → lv_has ls 8 [(0, .ref (g.1 29)), (1, .int v1), (2, .int v2), (3, .int v3), (4, .int v4), (5, .int v5), (6, .int v6)] → f_X6_buy_L143 N k18 v1 v2 v3 v4 v5 v6 s0 σ = some res → W p l e (fb_R 5 109) s m args below meth c H locs 0 0 (MQ below (fb_Qi g ks res.1 res.2) args s 0 0 (fb_A g ks)) (F0 m 143 ls [.int s0]) := by
  have hx := X.1.1
  have hb := X.1.2.1
  intro v1 v2 v3 v4 v5 v6 s0 σ H locs ls h hl hf
  unfold f_X6_buy_L143 at hf
  refine lv_istore hx hb dX6_buy_143 hl (by decide) (lv' := [(7, .int s0), (0, .ref (g.1 29)), (1, .int v1), (2, .int v2), (3, .int v3), (4, .int v4), (5, .int v5), (6, .int v6)]) rfl (fun ls hl => ?_)
  refine lv_iload hx hb dX6_buy_145 (lv_at hl 6 rfl) ?_
  refine lv_aload_n hx hb dX6_buy_147 rfl (lv_at hl 1 rfl) ?_
  refine gt_RX6_35 X h (hks 29 (by decide)) dX6_buy_148 ?_
  refine lv_iconst hx hb dX6_buy_151 ki_2 ?_
  refine fb_ialdL X h (hks 37 (by decide)) rfl (by decide) kn_2 dX6_buy_152 ?_
  refine lv_icmp_gt hx hb dX6_buy_153 (tgt := 179) (by decide) (fun hc => ?_) (fun hc => ?_)
  · have hf := if_t hc hf
    refine lv_iinc hx hb dX6_buy_179 hl (k := 4) rfl (kinc_m1 _) (by decide) (lv' := [(3, .int (v3 + (-1))), (7, .int s0), (0, .ref (g.1 29)), (1, .int v1), (2, .int v2), (4, .int v4), (5, .int v5), (6, .int v6)]) rfl (fun ls hl => ?_)
    refine lv_goto hx hb dX6_buy_182 (tgt := 18) (by decide) ?_
    exact hk18 v1 v2 (v3 + (-1)) σ _ _ _ h (lv_sub hl [2, 3, 4, 0] rfl) hf
  · have hf := if_f hc hf
    refine lv_iload hx hb dX6_buy_156 (lv_at hl 0 rfl) ?_
    refine lv_if_eq hx hb dX6_buy_158 (tgt := 179) (by decide) (fun hc => ?_) (fun hc => ?_)
    · have hf := if_t hc hf
      refine lv_iinc hx hb dX6_buy_179 hl (k := 4) rfl (kinc_m1 _) (by decide) (lv' := [(3, .int (v3 + (-1))), (7, .int s0), (0, .ref (g.1 29)), (1, .int v1), (2, .int v2), (4, .int v4), (5, .int v5), (6, .int v6)]) rfl (fun ls hl => ?_)
      refine lv_goto hx hb dX6_buy_182 (tgt := 18) (by decide) ?_
      exact hk18 v1 v2 (v3 + (-1)) σ _ _ _ h (lv_sub hl [2, 3, 4, 0] rfl) hf
    · have hf := if_f hc hf
      refine lv_aload_n hx hb dX6_buy_161 rfl (lv_at hl 1 rfl) ?_
      obtain ⟨q1, hq1, hf⟩ := bd_s hf
      refine fb_ci X h (fb_runV (As := []) (rest := []) (k := 29) X h (c_X6_smallSettles l X.2.2.1 (fun k hk => hks k ((by decide : ∀ k ∈ ([29, 32, 33, 34, 36, 37, 42] : List Nat), k ∈ ([29, 32, 33, 34, 35, 36, 37, 38, 39, 40, 41, 42] : List Nat)) k hk)) N σ hq1) mf_yX6_smallSettles lm_RX6_152 (hks 29 (by decide)) rfl rfl ⟨Nat.le_of_ble_eq_true rfl, Nat.le_of_ble_eq_true rfl⟩ ⟨Nat.le_refl _, Nat.le_refl _⟩ rfl hl.1 rfl (Nat.le_of_ble_eq_true rfl) dX6_buy_162) (fun H locs h => ?_)
      refine lv_if_eq hx hb dX6_buy_165 (tgt := 179) (by decide) (fun hc => ?_) (fun hc => ?_)
      · have hf := if_t hc hf
        refine lv_iinc hx hb dX6_buy_179 hl (k := 4) rfl (kinc_m1 _) (by decide) (lv' := [(3, .int (v3 + (-1))), (7, .int s0), (0, .ref (g.1 29)), (1, .int v1), (2, .int v2), (4, .int v4), (5, .int v5), (6, .int v6)]) rfl (fun ls hl => ?_)
        refine lv_goto hx hb dX6_buy_182 (tgt := 18) (by decide) ?_
        exact hk18 v1 v2 (v3 + (-1)) q1.2 _ _ _ h (lv_sub hl [2, 3, 4, 0] rfl) hf
      · have hf := if_f hc hf
        refine lv_iload hx hb dX6_buy_168 (lv_at hl 5 rfl) ?_
        refine lv_istore_n hx hb dX6_buy_170 rfl hl (by decide) (lv' := [(1, .int v4), (7, .int s0), (0, .ref (g.1 29)), (2, .int v2), (3, .int v3), (4, .int v4), (5, .int v5), (6, .int v6)]) rfl (fun ls hl => ?_)
        refine lv_iload hx hb dX6_buy_171 (lv_at hl 7 rfl) ?_
        refine lv_istore_n hx hb dX6_buy_173 rfl hl (by decide) (lv' := [(2, .int v6), (1, .int v4), (7, .int s0), (0, .ref (g.1 29)), (3, .int v3), (4, .int v4), (5, .int v5), (6, .int v6)]) rfl (fun ls hl => ?_)
        refine lv_aload_n hx hb dX6_buy_174 rfl (lv_at hl 3 rfl) ?_
        refine lv_iload_n hx hb dX6_buy_175 rfl (lv_at hl 4 rfl) ?_
        obtain ⟨t2, et2, hf⟩ := nm_s hf
        refine pt_RX6_158 X h (hks 29 (by decide)) dX6_buy_176 (fun H locs h => ?_)
        have h := fb_H.nm et2 h
        refine lv_iinc hx hb dX6_buy_179 hl (k := 4) rfl (kinc_m1 _) (by decide) (lv' := [(3, .int (v3 + (-1))), (2, .int v6), (1, .int v4), (7, .int s0), (0, .ref (g.1 29)), (4, .int v4), (5, .int v5), (6, .int v6)]) rfl (fun ls hl => ?_)
        refine lv_goto hx hb dX6_buy_182 (tgt := 18) (by decide) ?_
        exact hk18 v4 v6 (v3 + (-1)) t2 _ _ _ h (lv_sub hl [4, 2, 1, 0] rfl) hf
set_option maxHeartbeats 4000000 in
set_option maxRecDepth 100000 in
theorem w_X6_buy_L138 (X : fb_X p m c cX6_buy 8 s args RX6 g ks (fb_A g ks)) (hks : ∀ k ∈ ([29, 32, 33, 34, 35, 36, 37, 38, 39, 40, 41, 42] : List Nat), k ∈ ks) (hr : meth.sig.returnType = (some .int)) (hlk : meth.locks = false) (N : Nat) (k18 : Int32 → Int32 → Int32 → fb_S → Option (Int32 × fb_S))  {res : (Int32 × fb_S)} (hk18 : ∀ (v1 : Int32) (v2 : Int32) (v3 : Int32) (σ : fb_S) (H : Heap) (locs : List Loc) (ls : Array Slot), fb_H g ks (fb_A g ks) s.heap σ H locs → lv_has ls 8 [(0, .ref (g.1 29)), (1, .int v1), (2, .int v2), (3, .int v3)] → k18 v1 v2 v3 σ = some res → W p l e (fb_R 5 109) s m args below meth c H locs 0 0 (MQ below (fb_Qi g ks res.1 res.2) args s 0 0 (fb_A g ks)) (F0 m 18 ls [])) : ∀ (v1 : Int32) (v2 : Int32) (v3 : Int32) (v4 : Int32) (v5 : Int32) (v6 : Int32) (σ : fb_S) (H : Heap) (locs : List Loc) (ls : Array Slot), fb_H g ks (fb_A g ks) s.heap σ H locs → lv_has ls 8 [(0, .ref (g.1 29)), (1, .int v1), (2, .int v2), (3, .int v3), (4, .int v4), (5, .int v5), (6, .int v6)] → f_X6_buy_L138 N k18 v1 v2 v3 v4 v5 v6 σ = some res → W p l e (fb_R 5 109) s m args below meth c H locs 0 0 (MQ below (fb_Qi g ks res.1 res.2) args s 0 0 (fb_A g ks)) (F0 m 138 ls []) := by
  have hx := X.1.1
  have hb := X.1.2.1
  intro v1 v2 v3 v4 v5 v6 σ H locs ls h hl hf
  unfold f_X6_buy_L138 at hf
  refine lv_iconst hx hb dX6_buy_138 ki_1 ?_
  refine lv_goto hx hb dX6_buy_139 (tgt := 143) (by decide) ?_
  exact w_X6_buy_L143 X hks hr hlk N k18 hk18 v1 v2 v3 v4 v5 v6 (1 : Int32) σ _ _ _ h (lv_sub hl [0, 1, 2, 3, 4, 5, 6] rfl) hf
set_option maxHeartbeats 4000000 in
set_option maxRecDepth 100000 in
theorem w_X6_buy_L142 (X : fb_X p m c cX6_buy 8 s args RX6 g ks (fb_A g ks)) (hks : ∀ k ∈ ([29, 32, 33, 34, 35, 36, 37, 38, 39, 40, 41, 42] : List Nat), k ∈ ks) (hr : meth.sig.returnType = (some .int)) (hlk : meth.locks = false) (N : Nat) (k18 : Int32 → Int32 → Int32 → fb_S → Option (Int32 × fb_S))  {res : (Int32 × fb_S)} (hk18 : ∀ (v1 : Int32) (v2 : Int32) (v3 : Int32) (σ : fb_S) (H : Heap) (locs : List Loc) (ls : Array Slot), fb_H g ks (fb_A g ks) s.heap σ H locs → lv_has ls 8 [(0, .ref (g.1 29)), (1, .int v1), (2, .int v2), (3, .int v3)] → k18 v1 v2 v3 σ = some res → W p l e (fb_R 5 109) s m args below meth c H locs 0 0 (MQ below (fb_Qi g ks res.1 res.2) args s 0 0 (fb_A g ks)) (F0 m 18 ls [])) : ∀ (v1 : Int32) (v2 : Int32) (v3 : Int32) (v4 : Int32) (v5 : Int32) (v6 : Int32) (σ : fb_S) (H : Heap) (locs : List Loc) (ls : Array Slot), fb_H g ks (fb_A g ks) s.heap σ H locs → lv_has ls 8 [(0, .ref (g.1 29)), (1, .int v1), (2, .int v2), (3, .int v3), (4, .int v4), (5, .int v5), (6, .int v6)] → f_X6_buy_L142 N k18 v1 v2 v3 v4 v5 v6 σ = some res → W p l e (fb_R 5 109) s m args below meth c H locs 0 0 (MQ below (fb_Qi g ks res.1 res.2) args s 0 0 (fb_A g ks)) (F0 m 142 ls []) := by
  have hx := X.1.1
  have hb := X.1.2.1
  intro v1 v2 v3 v4 v5 v6 σ H locs ls h hl hf
  unfold f_X6_buy_L142 at hf
  refine lv_iconst hx hb dX6_buy_142 ki_0 ?_
  exact w_X6_buy_L143 X hks hr hlk N k18 hk18 v1 v2 v3 v4 v5 v6 (0 : Int32) σ _ _ _ h (lv_sub hl [0, 1, 2, 3, 4, 5, 6] rfl) hf
set_option maxHeartbeats 4000000 in
set_option maxRecDepth 100000 in
theorem w_X6_buy_L39 (X : fb_X p m c cX6_buy 8 s args RX6 g ks (fb_A g ks)) (hks : ∀ k ∈ ([29, 32, 33, 34, 35, 36, 37, 38, 39, 40, 41, 42] : List Nat), k ∈ ks) (hr : meth.sig.returnType = (some .int)) (hlk : meth.locks = false) (N : Nat) (k18 : Int32 → Int32 → Int32 → fb_S → Option (Int32 × fb_S))  {res : (Int32 × fb_S)} (hk18 : ∀ (v1 : Int32) (v2 : Int32) (v3 : Int32) (σ : fb_S) (H : Heap) (locs : List Loc) (ls : Array Slot), fb_H g ks (fb_A g ks) s.heap σ H locs → lv_has ls 8 [(0, .ref (g.1 29)), (1, .int v1), (2, .int v2), (3, .int v3)] → k18 v1 v2 v3 σ = some res → W p l e (fb_R 5 109) s m args below meth c H locs 0 0 (MQ below (fb_Qi g ks res.1 res.2) args s 0 0 (fb_A g ks)) (F0 m 18 ls [])) : ∀ (n : Nat) (v1 : Int32) (v2 : Int32) (v3 : Int32) (v4 : Int32) (v5 : Int32) (v6 : Int32) (v7 : Int32) (σ : fb_S) (H : Heap) (locs : List Loc) (ls : Array Slot), fb_H g ks (fb_A g ks) s.heap σ H locs → lv_has ls 8 [(0, .ref (g.1 29)), (1, .int v1), (2, .int v2), (3, .int v3), (4, .int v4), (5, .int v5), (6, .int v6), (7, .int v7)] → f_X6_buy_L39 N k18 n v1 v2 v3 v4 v5 v6 v7 σ = some res → W p l e (fb_R 5 109) s m args below meth c H locs 0 0 (MQ below (fb_Qi g ks res.1 res.2) args s 0 0 (fb_A g ks)) (F0 m 39 ls []) := by
  have hx := X.1.1
  have hb := X.1.2.1
  intro n
  induction n with
  | zero => intro v1 v2 v3 v4 v5 v6 v7 σ H locs ls h hl hf; cases hf
  | succ n ih =>
    intro v1 v2 v3 v4 v5 v6 v7 σ H locs ls h hl hf
    unfold f_X6_buy_L39 at hf
    refine lv_iload hx hb dX6_buy_39 (lv_at hl 7 rfl) ?_
    refine lv_aload_n hx hb dX6_buy_41 rfl (lv_at hl 0 rfl) ?_
    refine gt_RX6_112 X h (hks 29 (by decide)) dX6_buy_42 ?_
    refine lv_icmp_ge hx hb dX6_buy_45 (tgt := 114) (by decide) (fun hc => ?_) (fun hc => ?_)
    · have hf := if_t hc hf
      refine lv_iload_n hx hb dX6_buy_114 rfl (lv_at hl 1 rfl) ?_
      refine lv_bipush hx hb dX6_buy_115 kb_m9 ?_
      refine lv_icmp_eq hx hb dX6_buy_117 (tgt := 138) (by decide) (fun hc => ?_) (fun hc => ?_)
      · have hf := if_t hc hf
        exact w_X6_buy_L138 X hks hr hlk N k18 hk18 v1 v2 v3 v4 v5 v6 σ _ _ _ h (lv_sub hl [0, 1, 2, 3, 4, 5, 6] rfl) hf
      · have hf := if_f hc hf
        refine lv_iload hx hb dX6_buy_120 (lv_at hl 4 rfl) ?_
        refine lv_iload_n hx hb dX6_buy_122 rfl (lv_at hl 1 rfl) ?_
        refine lv_icmp_lt hx hb dX6_buy_123 (tgt := 138) (by decide) (fun hc => ?_) (fun hc => ?_)
        · have hf := if_t hc hf
          exact w_X6_buy_L138 X hks hr hlk N k18 hk18 v1 v2 v3 v4 v5 v6 σ _ _ _ h (lv_sub hl [0, 1, 2, 3, 4, 5, 6] rfl) hf
        · have hf := if_f hc hf
          refine lv_iload hx hb dX6_buy_126 (lv_at hl 4 rfl) ?_
          refine lv_iload_n hx hb dX6_buy_128 rfl (lv_at hl 1 rfl) ?_
          refine lv_icmp_ne hx hb dX6_buy_129 (tgt := 142) (by decide) (fun hc => ?_) (fun hc => ?_)
          · have hf := if_f hc hf
            exact w_X6_buy_L142 X hks hr hlk N k18 hk18 v1 v2 v3 v4 v5 v6 σ _ _ _ h (lv_sub hl [0, 1, 2, 3, 4, 5, 6] rfl) hf
          · have hf := if_t hc hf
            refine lv_iload hx hb dX6_buy_132 (lv_at hl 6 rfl) ?_
            refine lv_iload_n hx hb dX6_buy_134 rfl (lv_at hl 2 rfl) ?_
            refine lv_icmp_ge hx hb dX6_buy_135 (tgt := 142) (by decide) (fun hc => ?_) (fun hc => ?_)
            · have hf := if_t hc hf
              exact w_X6_buy_L142 X hks hr hlk N k18 hk18 v1 v2 v3 v4 v5 v6 σ _ _ _ h (lv_sub hl [0, 1, 2, 3, 4, 5, 6] rfl) hf
            · have hf := if_f hc hf
              exact w_X6_buy_L138 X hks hr hlk N k18 hk18 v1 v2 v3 v4 v5 v6 σ _ _ _ h (lv_sub hl [0, 1, 2, 3, 4, 5, 6] rfl) hf
    · have hf := if_f hc hf
      refine lv_iload_n hx hb dX6_buy_48 rfl (lv_at hl 3 rfl) ?_
      refine lv_aload_n hx hb dX6_buy_49 rfl (lv_at hl 0 rfl) ?_
      refine gt_RX6_112 X h (hks 29 (by decide)) dX6_buy_50 ?_
      refine lv_iconst hx hb dX6_buy_53 ki_1 ?_
      refine lv_isub hx hb dX6_buy_54 ?_
      refine lv_iload hx hb dX6_buy_55 (lv_at hl 7 rfl) ?_
      refine lv_isub hx hb dX6_buy_57 ?_
      refine lv_ishr hx hb dX6_buy_58 ?_
      refine lv_iconst hx hb dX6_buy_59 ki_1 ?_
      refine lv_iand hx hb dX6_buy_60 ?_
      refine lv_iconst hx hb dX6_buy_61 ki_1 ?_
      refine lv_icmp_ne hx hb dX6_buy_62 (tgt := 108) (by decide) (fun hc => ?_) (fun hc => ?_)
      · have hf := if_f hc hf
        refine lv_iinc hx hb dX6_buy_108 hl (k := 7) rfl (kinc_1 _) (by decide) (lv' := [(7, .int (v7 + 1)), (0, .ref (g.1 29)), (1, .int v1), (2, .int v2), (3, .int v3), (4, .int v4), (5, .int v5), (6, .int v6)]) rfl (fun ls hl => ?_)
        refine lv_goto hx hb dX6_buy_111 (tgt := 39) (by decide) ?_
        exact ih v1 v2 v3 v4 v5 v6 (v7 + 1) σ _ _ _ h (lv_sub hl [1, 2, 3, 4, 5, 6, 7, 0] rfl) hf
      · have hf := if_t hc hf
        refine lv_iload hx hb dX6_buy_65 (lv_at hl 4 rfl) ?_
        refine lv_aload_n hx hb dX6_buy_67 rfl (lv_at hl 0 rfl) ?_
        refine gt_RX6_41 X h (hks 29 (by decide)) dX6_buy_68 ?_
        refine lv_iload hx hb dX6_buy_71 (lv_at hl 7 rfl) ?_
        obtain ⟨hi0, hf⟩ := ck_s hf
        refine fb_iald X h (hks 39 (by decide)) rfl hi0 dX6_buy_73 ?_
        refine lv_iadd hx hb dX6_buy_74 ?_
        obtain ⟨x3, ex3, hf⟩ := nm_s hf
        refine fb_topi ex3 ?_
        refine lv_istore hx hb dX6_buy_75 hl (by decide) (lv' := [(4, .int x3), (0, .ref (g.1 29)), (1, .int v1), (2, .int v2), (3, .int v3), (5, .int v5), (6, .int v6), (7, .int v7)]) rfl (fun ls hl => ?_)
        refine lv_iload hx hb dX6_buy_77 (lv_at hl 5 rfl) ?_
        refine lv_aload_n hx hb dX6_buy_79 rfl (lv_at hl 1 rfl) ?_
        refine gt_RX6_44 X h (hks 29 (by decide)) dX6_buy_80 ?_
        refine lv_iload hx hb dX6_buy_83 (lv_at hl 7 rfl) ?_
        obtain ⟨hi0, hf⟩ := ck_s hf
        refine fb_iald X h (hks 40 (by decide)) rfl hi0 dX6_buy_85 ?_
        refine lv_iadd hx hb dX6_buy_86 ?_
        obtain ⟨x4, ex4, hf⟩ := nm_s hf
        refine fb_topi ex4 ?_
        refine lv_istore hx hb dX6_buy_87 hl (by decide) (lv' := [(5, .int x4), (4, .int x3), (0, .ref (g.1 29)), (1, .int v1), (2, .int v2), (3, .int v3), (6, .int v6), (7, .int v7)]) rfl (fun ls hl => ?_)
        refine lv_aload_n hx hb dX6_buy_89 rfl (lv_at hl 2 rfl) ?_
        refine lv_dup hx hb dX6_buy_90 rfl ?_
        refine gt_RX6_109 X h (hks 29 (by decide)) dX6_buy_91 ?_
        refine lv_aload_n hx hb dX6_buy_94 rfl (lv_at hl 2 rfl) ?_
        refine gt_RX6_38 X h (hks 29 (by decide)) dX6_buy_95 ?_
        refine lv_iload hx hb dX6_buy_98 (lv_at hl 7 rfl) ?_
        obtain ⟨hi0, hf⟩ := ck_s hf
        refine fb_iald X h (hks 38 (by decide)) rfl hi0 dX6_buy_100 ?_
        refine lv_iadd hx hb dX6_buy_101 ?_
        obtain ⟨t5, et5, hf⟩ := nm_s hf
        refine pt_RX6_109 X h (hks 29 (by decide)) dX6_buy_102 (fun H locs h => ?_)
        have h := fb_H.nm et5 h
        refine lv_iinc hx hb dX6_buy_105 hl (k := 6) rfl (kinc_1 _) (by decide) (lv' := [(6, .int (v6 + 1)), (5, .int x4), (4, .int x3), (0, .ref (g.1 29)), (1, .int v1), (2, .int v2), (3, .int v3), (7, .int v7)]) rfl (fun ls hl => ?_)
        refine lv_iinc hx hb dX6_buy_108 hl (k := 7) rfl (kinc_1 _) (by decide) (lv' := [(7, .int (v7 + 1)), (6, .int (v6 + 1)), (5, .int x4), (4, .int x3), (0, .ref (g.1 29)), (1, .int v1), (2, .int v2), (3, .int v3)]) rfl (fun ls hl => ?_)
        refine lv_goto hx hb dX6_buy_111 (tgt := 39) (by decide) ?_
        exact ih v1 v2 v3 x3 x4 (v6 + 1) (v7 + 1) t5 _ _ _ h (lv_sub hl [4, 5, 6, 7, 3, 2, 1, 0] rfl) hf
set_option maxHeartbeats 4000000 in
set_option maxRecDepth 100000 in
theorem w_X6_buy_L18 (X : fb_X p m c cX6_buy 8 s args RX6 g ks (fb_A g ks)) (hks : ∀ k ∈ ([29, 32, 33, 34, 35, 36, 37, 38, 39, 40, 41, 42] : List Nat), k ∈ ks) (hr : meth.sig.returnType = (some .int)) (hlk : meth.locks = false) (N : Nat)  {res : (Int32 × fb_S)} : ∀ (n : Nat) (v1 : Int32) (v2 : Int32) (v3 : Int32) (σ : fb_S) (H : Heap) (locs : List Loc) (ls : Array Slot), fb_H g ks (fb_A g ks) s.heap σ H locs → lv_has ls 8 [(0, .ref (g.1 29)), (1, .int v1), (2, .int v2), (3, .int v3)] → f_X6_buy_L18 N n v1 v2 v3 σ = some res → W p l e (fb_R 5 109) s m args below meth c H locs 0 0 (MQ below (fb_Qi g ks res.1 res.2) args s 0 0 (fb_A g ks)) (F0 m 18 ls []) := by
  have hx := X.1.1
  have hb := X.1.2.1
  intro n
  induction n with
  | zero => intro v1 v2 v3 σ H locs ls h hl hf; cases hf
  | succ n ih =>
    intro v1 v2 v3 σ H locs ls h hl hf
    unfold f_X6_buy_L18 at hf
    refine lv_iload_n hx hb dX6_buy_18 rfl (lv_at hl 3 rfl) ?_
    refine lv_if_lt hx hb dX6_buy_19 (tgt := 185) (by decide) (fun hc => ?_) (fun hc => ?_)
    · have hf := if_t hc hf
      refine lv_iload_n hx hb dX6_buy_185 rfl (lv_at hl 1 rfl) ?_
      have e9 := Option.some.inj hf
      subst e9
      exact fb_ir X h hr hlk dX6_buy_186
    · have hf := if_f hc hf
      refine lv_iconst hx hb dX6_buy_22 ki_0 ?_
      refine lv_istore hx hb dX6_buy_23 hl (by decide) (lv' := [(4, .int (0)), (0, .ref (g.1 29)), (1, .int v1), (2, .int v2), (3, .int v3)]) rfl (fun ls hl => ?_)
      refine lv_iconst hx hb dX6_buy_25 ki_0 ?_
      refine lv_istore hx hb dX6_buy_26 hl (by decide) (lv' := [(5, .int (0)), (4, .int (0)), (0, .ref (g.1 29)), (1, .int v1), (2, .int v2), (3, .int v3)]) rfl (fun ls hl => ?_)
      refine lv_iconst hx hb dX6_buy_28 ki_0 ?_
      refine lv_istore hx hb dX6_buy_29 hl (by decide) (lv' := [(6, .int (0)), (5, .int (0)), (4, .int (0)), (0, .ref (g.1 29)), (1, .int v1), (2, .int v2), (3, .int v3)]) rfl (fun ls hl => ?_)
      refine lv_aload_n hx hb dX6_buy_31 rfl (lv_at hl 3 rfl) ?_
      refine lv_iconst hx hb dX6_buy_32 ki_0 ?_
      obtain ⟨t6, et6, hf⟩ := nm_s hf
      refine pt_RX6_109 X h (hks 29 (by decide)) dX6_buy_33 (fun H locs h => ?_)
      have h := fb_H.nm et6 h
      refine lv_iconst hx hb dX6_buy_36 ki_0 ?_
      refine lv_istore hx hb dX6_buy_37 hl (by decide) (lv' := [(7, .int (0)), (6, .int (0)), (5, .int (0)), (4, .int (0)), (0, .ref (g.1 29)), (1, .int v1), (2, .int v2), (3, .int v3)]) rfl (fun ls hl => ?_)
      exact w_X6_buy_L39 X hks hr hlk N (f_X6_buy_L18 N n) ih N v1 v2 v3 (0 : Int32) (0 : Int32) (0 : Int32) (0 : Int32) t6 _ _ _ h (lv_sub hl [4, 5, 6, 7, 3, 2, 1, 0] rfl) hf
set_option maxHeartbeats 4000000 in
set_option maxRecDepth 100000 in
theorem c_X6_buy (l : Launch) {g : fb_G} {ks : List Nat} (hI : fb_I g ks) (hks : ∀ k ∈ ([29, 32, 33, 34, 35, 36, 37, 38, 39, 40, 41, 42] : List Nat), k ∈ ks) (N : Nat) (σ : fb_S) {res : (Int32 × fb_S)} (hf : f_X6_buy N σ = some res) : fb_M l yX6_buy cX6_buy 8 (some .int) 5 109 g ks [.ref (g.1 29)] σ (fb_Qi g ks res.1 res.2) := by
  refine fb_met (by decide +kernel) hI (Nat.le_of_ble_eq_true rfl) (fun p e s m below meth c ls X h hr hlk hl => ?_)
  have X : fb_X p m c cX6_buy 8 s _ RX6 g ks (fb_A g ks) := X
  have hl : lv_has ls 8 [(0, .ref (g.1 29))] := hl
  have hx := X.1.1
  have hb := X.1.2.1
  unfold f_X6_buy at hf
  refine lv_aload_n hx hb dX6_buy_0 rfl (lv_at hl 0 rfl) ?_
  obtain ⟨q7, hq7, hf⟩ := bd_s hf
  refine fb_cv X h (fb_runV (As := []) (rest := []) (k := 29) X h (c_X6_asIs l X.2.2.1 (fun k hk => hks k ((by decide : ∀ k ∈ ([29, 35, 36, 38, 41] : List Nat), k ∈ ([29, 32, 33, 34, 35, 36, 37, 38, 39, 40, 41, 42] : List Nat)) k hk)) N σ hq7) mf_yX6_asIs lm_RX6_130 (hks 29 (by decide)) rfl rfl ⟨Nat.le_of_ble_eq_true rfl, Nat.le_of_ble_eq_true rfl⟩ ⟨Nat.le_refl _, Nat.le_refl _⟩ rfl hl.1 rfl (Nat.le_of_ble_eq_true rfl) dX6_buy_1) (fun H locs h => ?_)
  refine lv_bipush hx hb dX6_buy_4 kb_m9 ?_
  refine lv_istore_n hx hb dX6_buy_6 rfl hl (by decide) (lv' := [(1, .int (-9)), (0, .ref (g.1 29))]) rfl (fun ls hl => ?_)
  refine lv_iconst hx hb dX6_buy_7 ki_0 ?_
  refine lv_istore_n hx hb dX6_buy_8 rfl hl (by decide) (lv' := [(2, .int (0)), (1, .int (-9)), (0, .ref (g.1 29))]) rfl (fun ls hl => ?_)
  refine lv_iconst hx hb dX6_buy_9 ki_1 ?_
  refine lv_aload_n hx hb dX6_buy_10 rfl (lv_at hl 2 rfl) ?_
  refine gt_RX6_112 X h (hks 29 (by decide)) dX6_buy_11 ?_
  refine lv_ishl hx hb dX6_buy_14 ?_
  refine lv_iconst hx hb dX6_buy_15 ki_1 ?_
  refine lv_isub hx hb dX6_buy_16 ?_
  obtain ⟨x8, ex8, hf⟩ := nm_s hf
  refine fb_topi ex8 ?_
  refine lv_istore_n hx hb dX6_buy_17 rfl hl (by decide) (lv' := [(3, .int x8), (2, .int (0)), (1, .int (-9)), (0, .ref (g.1 29))]) rfl (fun ls hl => ?_)
  exact w_X6_buy_L18 X hks hr hlk N N (-9 : Int32) (0 : Int32) x8 q7 _ _ _ h (lv_sub hl [3, 2, 1, 0] rfl) hf
def f_X6_cheapest (N : Nat)  (σ : fb_S) : Option (Int32 × fb_S) :=
  nm_ (fb_up σ 29 0 (0 : Int32)) fun t1 =>
  (f_X6_buy N t1).bind fun q2 =>
  some (q2.1, q2.2)
set_option maxHeartbeats 4000000 in
set_option maxRecDepth 100000 in
theorem c_X6_cheapest (l : Launch) {g : fb_G} {ks : List Nat} (hI : fb_I g ks) (hks : ∀ k ∈ ([29, 32, 33, 34, 35, 36, 37, 38, 39, 40, 41, 42] : List Nat), k ∈ ks) (N : Nat) (σ : fb_S) {res : (Int32 × fb_S)} (hf : f_X6_cheapest N σ = some res) : fb_M l yX6_cheapest cX6_cheapest 1 (some .int) 6 136 g ks [.ref (g.1 29)] σ (fb_Qi g ks res.1 res.2) := by
  refine fb_met (by decide +kernel) hI (Nat.le_of_ble_eq_true rfl) (fun p e s m below meth c ls X h hr hlk hl => ?_)
  have X : fb_X p m c cX6_cheapest 1 s _ RX6 g ks (fb_A g ks) := X
  have hl : lv_has ls 1 [(0, .ref (g.1 29))] := hl
  have hx := X.1.1
  have hb := X.1.2.1
  unfold f_X6_cheapest at hf
  refine lv_aload_n hx hb dX6_cheapest_0 rfl (lv_at hl 0 rfl) ?_
  refine lv_iconst hx hb dX6_cheapest_1 ki_0 ?_
  obtain ⟨t1, et1, hf⟩ := nm_s hf
  refine pt_RX6_75 X h (hks 29 (by decide)) dX6_cheapest_2 (fun H locs h => ?_)
  have h := fb_H.nm et1 h
  refine lv_aload_n hx hb dX6_cheapest_5 rfl (lv_at hl 0 rfl) ?_
  obtain ⟨q2, hq2, hf⟩ := bd_s hf
  refine fb_ci X h (fb_runV (As := []) (rest := []) (k := 29) X h (c_X6_buy l X.2.2.1 (fun k hk => hks k ((by decide : ∀ k ∈ ([29, 32, 33, 34, 35, 36, 37, 38, 39, 40, 41, 42] : List Nat), k ∈ ([29, 32, 33, 34, 35, 36, 37, 38, 39, 40, 41, 42] : List Nat)) k hk)) N t1 hq2) mf_yX6_buy lm_RX6_161 (hks 29 (by decide)) rfl rfl ⟨Nat.le_of_ble_eq_true rfl, Nat.le_of_ble_eq_true rfl⟩ ⟨Nat.le_refl _, Nat.le_refl _⟩ rfl hl.1 rfl (Nat.le_of_ble_eq_true rfl) dX6_cheapest_6) (fun H locs h => ?_)
  have e9 := Option.some.inj hf
  subst e9
  exact fb_ir X h hr hlk dX6_cheapest_9
def f_X6_bought_L21 (N : Nat) : Nat → Int32 → Int32 → Int32 → fb_S → Option (Int32 × fb_S)
  | 0, _, _, _, _ => none
  | n + 1, v1, v2, v3, σ => 
    if (σ.1 29 11) ≤ v3 then (
      some ((-9 : Int32), σ)
    ) else (
      if (((σ.1 29 16) >>> ((((σ.1 29 11) - (1 : Int32)) - v3) &&& 31)) &&& (1 : Int32)) = (1 : Int32) then (
        if v2 = v1 then (
          some (v3, σ)
        ) else (
          f_X6_bought_L21 N n v1 (v2 + 1) (v3 + 1) σ
        )
      ) else (
        f_X6_bought_L21 N n v1 v2 (v3 + 1) σ
      )
    )
def f_X6_bought (N : Nat) (a1 : Int32) (σ : fb_S) : Option (Int32 × fb_S) :=
  nm_ (fb_up σ 29 0 (0 : Int32)) fun t1 =>
  (f_X6_buy N t1).bind fun q2 =>
  if q2.1 = (-9 : Int32) then (
    some ((-9 : Int32), q2.2)
  ) else (
    f_X6_bought_L21 N N a1 (0 : Int32) (0 : Int32) q2.2
  )
set_option maxHeartbeats 4000000 in
set_option maxRecDepth 100000 in
theorem w_X6_bought_L21 (X : fb_X p m c cX6_bought 4 s args RX6 g ks (fb_A g ks)) (hks : ∀ k ∈ ([29, 32, 33, 34, 35, 36, 37, 38, 39, 40, 41, 42] : List Nat), k ∈ ks) (hr : meth.sig.returnType = (some .int)) (hlk : meth.locks = false) (N : Nat)  {res : (Int32 × fb_S)} : ∀ (n : Nat) (v1 : Int32) (v2 : Int32) (v3 : Int32) (σ : fb_S) (H : Heap) (locs : List Loc) (ls : Array Slot), fb_H g ks (fb_A g ks) s.heap σ H locs → lv_has ls 4 [(0, .ref (g.1 29)), (1, .int v1), (2, .int v2), (3, .int v3)] → f_X6_bought_L21 N n v1 v2 v3 σ = some res → W p l e (fb_R 6 136) s m args below meth c H locs 0 0 (MQ below (fb_Qi g ks res.1 res.2) args s 0 0 (fb_A g ks)) (F0 m 21 ls []) := by
  have hx := X.1.1
  have hb := X.1.2.1
  intro n
  induction n with
  | zero => intro v1 v2 v3 σ H locs ls h hl hf; cases hf
  | succ n ih =>
    intro v1 v2 v3 σ H locs ls h hl hf
    unfold f_X6_bought_L21 at hf
    refine lv_iload_n hx hb dX6_bought_21 rfl (lv_at hl 3 rfl) ?_
    refine lv_aload_n hx hb dX6_bought_22 rfl (lv_at hl 0 rfl) ?_
    refine gt_RX6_112 X h (hks 29 (by decide)) dX6_bought_23 ?_
    refine lv_icmp_ge hx hb dX6_bought_26 (tgt := 64) (by decide) (fun hc => ?_) (fun hc => ?_)
    · have hf := if_t hc hf
      refine lv_bipush hx hb dX6_bought_64 kb_m9 ?_
      have e9 := Option.some.inj hf
      subst e9
      exact fb_ir X h hr hlk dX6_bought_66
    · have hf := if_f hc hf
      refine lv_aload_n hx hb dX6_bought_29 rfl (lv_at hl 0 rfl) ?_
      refine gt_RX6_158 X h (hks 29 (by decide)) dX6_bought_30 ?_
      refine lv_aload_n hx hb dX6_bought_33 rfl (lv_at hl 0 rfl) ?_
      refine gt_RX6_112 X h (hks 29 (by decide)) dX6_bought_34 ?_
      refine lv_iconst hx hb dX6_bought_37 ki_1 ?_
      refine lv_isub hx hb dX6_bought_38 ?_
      refine lv_iload_n hx hb dX6_bought_39 rfl (lv_at hl 3 rfl) ?_
      refine lv_isub hx hb dX6_bought_40 ?_
      refine lv_ishr hx hb dX6_bought_41 ?_
      refine lv_iconst hx hb dX6_bought_42 ki_1 ?_
      refine lv_iand hx hb dX6_bought_43 ?_
      refine lv_iconst hx hb dX6_bought_44 ki_1 ?_
      refine lv_icmp_ne hx hb dX6_bought_45 (tgt := 58) (by decide) (fun hc => ?_) (fun hc => ?_)
      · have hf := if_f hc hf
        refine lv_iinc hx hb dX6_bought_58 hl (k := 3) rfl (kinc_1 _) (by decide) (lv' := [(3, .int (v3 + 1)), (0, .ref (g.1 29)), (1, .int v1), (2, .int v2)]) rfl (fun ls hl => ?_)
        refine lv_goto hx hb dX6_bought_61 (tgt := 21) (by decide) ?_
        exact ih v1 v2 (v3 + 1) σ _ _ _ h (lv_sub hl [1, 2, 3, 0] rfl) hf
      · have hf := if_t hc hf
        refine lv_iload_n hx hb dX6_bought_48 rfl (lv_at hl 2 rfl) ?_
        refine lv_iload_n hx hb dX6_bought_49 rfl (lv_at hl 1 rfl) ?_
        refine lv_icmp_ne hx hb dX6_bought_50 (tgt := 55) (by decide) (fun hc => ?_) (fun hc => ?_)
        · have hf := if_f hc hf
          refine lv_iinc hx hb dX6_bought_55 hl (k := 2) rfl (kinc_1 _) (by decide) (lv' := [(2, .int (v2 + 1)), (0, .ref (g.1 29)), (1, .int v1), (3, .int v3)]) rfl (fun ls hl => ?_)
          refine lv_iinc hx hb dX6_bought_58 hl (k := 3) rfl (kinc_1 _) (by decide) (lv' := [(3, .int (v3 + 1)), (2, .int (v2 + 1)), (0, .ref (g.1 29)), (1, .int v1)]) rfl (fun ls hl => ?_)
          refine lv_goto hx hb dX6_bought_61 (tgt := 21) (by decide) ?_
          exact ih v1 (v2 + 1) (v3 + 1) σ _ _ _ h (lv_sub hl [2, 3, 1, 0] rfl) hf
        · have hf := if_t hc hf
          refine lv_iload_n hx hb dX6_bought_53 rfl (lv_at hl 3 rfl) ?_
          have e9 := Option.some.inj hf
          subst e9
          exact fb_ir X h hr hlk dX6_bought_54
set_option maxHeartbeats 4000000 in
set_option maxRecDepth 100000 in
theorem c_X6_bought (l : Launch) {g : fb_G} {ks : List Nat} (hI : fb_I g ks) (hks : ∀ k ∈ ([29, 32, 33, 34, 35, 36, 37, 38, 39, 40, 41, 42] : List Nat), k ∈ ks) (N : Nat) (a1 : Int32) (σ : fb_S) {res : (Int32 × fb_S)} (hf : f_X6_bought N a1 σ = some res) : fb_M l yX6_bought cX6_bought 4 (some .int) 6 136 g ks [.ref (g.1 29), .int a1] σ (fb_Qi g ks res.1 res.2) := by
  refine fb_met (by decide +kernel) hI (Nat.le_of_ble_eq_true rfl) (fun p e s m below meth c ls X h hr hlk hl => ?_)
  have X : fb_X p m c cX6_bought 4 s _ RX6 g ks (fb_A g ks) := X
  have hl : lv_has ls 4 [(0, .ref (g.1 29)), (1, .int a1)] := hl
  have hx := X.1.1
  have hb := X.1.2.1
  unfold f_X6_bought at hf
  refine lv_aload_n hx hb dX6_bought_0 rfl (lv_at hl 0 rfl) ?_
  refine lv_iconst hx hb dX6_bought_1 ki_0 ?_
  obtain ⟨t1, et1, hf⟩ := nm_s hf
  refine pt_RX6_75 X h (hks 29 (by decide)) dX6_bought_2 (fun H locs h => ?_)
  have h := fb_H.nm et1 h
  refine lv_aload_n hx hb dX6_bought_5 rfl (lv_at hl 0 rfl) ?_
  obtain ⟨q2, hq2, hf⟩ := bd_s hf
  refine fb_ci X h (fb_runV (As := []) (rest := []) (k := 29) X h (c_X6_buy l X.2.2.1 (fun k hk => hks k ((by decide : ∀ k ∈ ([29, 32, 33, 34, 35, 36, 37, 38, 39, 40, 41, 42] : List Nat), k ∈ ([29, 32, 33, 34, 35, 36, 37, 38, 39, 40, 41, 42] : List Nat)) k hk)) N t1 hq2) mf_yX6_buy lm_RX6_161 (hks 29 (by decide)) rfl rfl ⟨Nat.le_of_ble_eq_true rfl, Nat.le_of_ble_eq_true rfl⟩ ⟨Nat.le_refl _, Nat.le_refl _⟩ rfl hl.1 rfl (Nat.le_of_ble_eq_true rfl) dX6_bought_6) (fun H locs h => ?_)
  refine lv_bipush hx hb dX6_bought_9 kb_m9 ?_
  refine lv_icmp_ne hx hb dX6_bought_11 (tgt := 17) (by decide) (fun hc => ?_) (fun hc => ?_)
  · have hf := if_f hc hf
    refine lv_iconst hx hb dX6_bought_17 ki_0 ?_
    refine lv_istore_n hx hb dX6_bought_18 rfl hl (by decide) (lv' := [(2, .int (0)), (0, .ref (g.1 29)), (1, .int a1)]) rfl (fun ls hl => ?_)
    refine lv_iconst hx hb dX6_bought_19 ki_0 ?_
    refine lv_istore_n hx hb dX6_bought_20 rfl hl (by decide) (lv' := [(3, .int (0)), (2, .int (0)), (0, .ref (g.1 29)), (1, .int a1)]) rfl (fun ls hl => ?_)
    exact w_X6_bought_L21 X hks hr hlk N N a1 (0 : Int32) (0 : Int32) q2.2 _ _ _ h (lv_sub hl [2, 3, 1, 0] rfl) hf
  · have hf := if_t hc hf
    refine lv_bipush hx hb dX6_bought_14 kb_m9 ?_
    have e9 := Option.some.inj hf
    subst e9
    exact fb_ir X h hr hlk dX6_bought_16
def f_X6_way_L48 (v1 : Int32) (v2 : Int32) (v3 : Int32) (s0 : Int32) (σ : fb_S) : Option (Int32 × fb_S) :=
  (f_X6_in (v1.toInt64) (0 : Int64) (5 : Int64)).bind fun q1 =>
  if q1 = 0 then (
    some ((-2 : Int32), σ)
  ) else (
    (f_X6_in (v2.toInt64) (v3.toInt64) (s0.toInt64)).bind fun q2 =>
    if q2 = 0 then (
      some ((-2 : Int32), σ)
    ) else (
      ck_ (fb_in v1 6) <|
      nm_ (σ.1 43 v1.toNatClampNeg) fun x3 =>
      ck_ (fb_in v1 6) <|
      nm_ (fb_up σ 43 (v1.toNatClampNeg) v2) fun t4 =>
      some (x3, t4)
    )
  )
def f_X6_way_L15 (v1 : Int32) (v2 : Int32) (s0 : Int32) (σ : fb_S) : Option (Int32 × fb_S) :=
  if v1 = 0 then (
    f_X6_way_L48 v1 v2 s0 (8 : Int32) σ
  ) else (
    if v1 = (4 : Int32) then (
      f_X6_way_L48 v1 v2 s0 (999 : Int32) σ
    ) else (
      if v1 = (5 : Int32) then (
        f_X6_way_L48 v1 v2 s0 (9 : Int32) σ
      ) else (
        f_X6_way_L48 v1 v2 s0 (99 : Int32) σ
      )
    )
  )
def f_X6_way (a1 : Int32) (a2 : Int32) (σ : fb_S) : Option (Int32 × fb_S) :=
  nm_ (fb_up σ 29 0 (0 : Int32)) fun t5 =>
  if (3 : Int32) ≤ a1 then (
    f_X6_way_L15 a1 a2 (0 : Int32) t5
  ) else (
    f_X6_way_L15 a1 a2 (1 : Int32) t5
  )
set_option maxHeartbeats 4000000 in
set_option maxRecDepth 100000 in
theorem w_X6_way_L48 (X : fb_X p m c cX6_way 6 s args RX6 g ks (fb_A g ks)) (hks : ∀ k ∈ ([29, 43] : List Nat), k ∈ ks) (hr : meth.sig.returnType = (some .int)) (hlk : meth.locks = false)  {res : (Int32 × fb_S)} : ∀ (v1 : Int32) (v2 : Int32) (v3 : Int32) (s0 : Int32) (σ : fb_S) (H : Heap) (locs : List Loc) (ls : Array Slot), fb_H g ks (fb_A g ks) s.heap σ H locs → lv_has ls 6 [(0, .ref (g.1 29)), (1, .int v1), (2, .int v2), (3, .int v3)] → f_X6_way_L48 v1 v2 v3 s0 σ = some res → W p l e (fb_R 1 25) s m args below meth c H locs 0 0 (MQ below (fb_Qi g ks res.1 res.2) args s 0 0 (fb_A g ks)) (F0 m 48 ls [.int s0]) := by
  have hx := X.1.1
  have hb := X.1.2.1
  intro v1 v2 v3 s0 σ H locs ls h hl hf
  unfold f_X6_way_L48 at hf
  refine lv_istore hx hb dX6_way_48 hl (by decide) (lv' := [(4, .int s0), (0, .ref (g.1 29)), (1, .int v1), (2, .int v2), (3, .int v3)]) rfl (fun ls hl => ?_)
  refine lv_iload_n hx hb dX6_way_50 rfl (lv_at hl 2 rfl) ?_
  refine lv_i2l hx hb dX6_way_51 (v := v1.toInt64) rfl ?_
  refine lv_lconst hx hb dX6_way_52 kl_0 ?_
  refine lv_ldc2 hx hb X.1.2.2.2.1 (X.1.2.2.2.2 _ lc_RX6_78) dX6_way_53 ?_
  obtain ⟨q1, hq1, hf⟩ := bd_s hf
  refine fb_ci X h (fb_runS (As := [.long (v1.toInt64), .long (0), .long (5)]) (rest := []) X h (c_X6_in l X.2.2.1 (fun k hk => absurd hk List.not_mem_nil) (v1.toInt64) (0 : Int64) (5 : Int64) σ hq1) mf_yX6_in lm_RX6_80 ⟨Nat.le_of_ble_eq_true rfl, Nat.le_of_ble_eq_true rfl⟩ ⟨Nat.le_refl _, Nat.le_refl _⟩ rfl hl.1 rfl (Nat.le_of_ble_eq_true rfl) dX6_way_56) (fun H locs h => ?_)
  refine lv_if_eq hx hb dX6_way_59 (tgt := 75) (by decide) (fun hc => ?_) (fun hc => ?_)
  · have hf := if_t hc hf
    refine lv_bipush hx hb dX6_way_75 kb_m2 ?_
    have e9 := Option.some.inj hf
    subst e9
    exact fb_ir X h hr hlk dX6_way_77
  · have hf := if_f hc hf
    refine lv_iload_n hx hb dX6_way_62 rfl (lv_at hl 3 rfl) ?_
    refine lv_i2l hx hb dX6_way_63 (v := v2.toInt64) rfl ?_
    refine lv_iload_n hx hb dX6_way_64 rfl (lv_at hl 4 rfl) ?_
    refine lv_i2l hx hb dX6_way_65 (v := v3.toInt64) rfl ?_
    refine lv_iload hx hb dX6_way_66 (lv_at hl 0 rfl) ?_
    refine lv_i2l hx hb dX6_way_68 (v := s0.toInt64) rfl ?_
    obtain ⟨q2, hq2, hf⟩ := bd_s hf
    refine fb_ci X h (fb_runS (As := [.long (v2.toInt64), .long (v3.toInt64), .long (s0.toInt64)]) (rest := []) X h (c_X6_in l X.2.2.1 (fun k hk => absurd hk List.not_mem_nil) (v2.toInt64) (v3.toInt64) (s0.toInt64) σ hq2) mf_yX6_in lm_RX6_80 ⟨Nat.le_of_ble_eq_true rfl, Nat.le_of_ble_eq_true rfl⟩ ⟨Nat.le_refl _, Nat.le_refl _⟩ rfl hl.1 rfl (Nat.le_of_ble_eq_true rfl) dX6_way_69) (fun H locs h => ?_)
    refine lv_if_ne hx hb dX6_way_72 (tgt := 78) (by decide) (fun hc => ?_) (fun hc => ?_)
    · have hf := if_f hc hf
      refine lv_aload_n hx hb dX6_way_78 rfl (lv_at hl 1 rfl) ?_
      refine gt_RX6_54 X h (hks 29 (by decide)) dX6_way_79 ?_
      refine lv_iload_n hx hb dX6_way_82 rfl (lv_at hl 2 rfl) ?_
      obtain ⟨hi0, hf⟩ := ck_s hf
      refine fb_iald X h (hks 43 (by decide)) rfl hi0 dX6_way_83 ?_
      obtain ⟨x3, ex3, hf⟩ := nm_s hf
      refine fb_topi ex3 ?_
      refine lv_istore hx hb dX6_way_84 hl (by decide) (lv' := [(5, .int x3), (4, .int s0), (0, .ref (g.1 29)), (1, .int v1), (2, .int v2), (3, .int v3)]) rfl (fun ls hl => ?_)
      refine lv_aload_n hx hb dX6_way_86 rfl (lv_at hl 2 rfl) ?_
      refine gt_RX6_54 X h (hks 29 (by decide)) dX6_way_87 ?_
      refine lv_iload_n hx hb dX6_way_90 rfl (lv_at hl 3 rfl) ?_
      refine lv_iload_n hx hb dX6_way_91 rfl (lv_at hl 4 rfl) ?_
      obtain ⟨hi0, hf⟩ := ck_s hf
      obtain ⟨t4, et4, hf⟩ := nm_s hf
      refine fb_iast X h (hks 43 (by decide)) (fun _ => rfl) hi0 dX6_way_92 (fun H locs h => ?_)
      have h := fb_H.nm et4 h
      refine lv_iload hx hb dX6_way_93 (lv_at hl 0 rfl) ?_
      have e9 := Option.some.inj hf
      subst e9
      exact fb_ir X h hr hlk dX6_way_95
    · have hf := if_t hc hf
      refine lv_bipush hx hb dX6_way_75 kb_m2 ?_
      have e9 := Option.some.inj hf
      subst e9
      exact fb_ir X h hr hlk dX6_way_77
set_option maxHeartbeats 4000000 in
set_option maxRecDepth 100000 in
theorem w_X6_way_L15 (X : fb_X p m c cX6_way 6 s args RX6 g ks (fb_A g ks)) (hks : ∀ k ∈ ([29, 43] : List Nat), k ∈ ks) (hr : meth.sig.returnType = (some .int)) (hlk : meth.locks = false)  {res : (Int32 × fb_S)} : ∀ (v1 : Int32) (v2 : Int32) (s0 : Int32) (σ : fb_S) (H : Heap) (locs : List Loc) (ls : Array Slot), fb_H g ks (fb_A g ks) s.heap σ H locs → lv_has ls 6 [(0, .ref (g.1 29)), (1, .int v1), (2, .int v2)] → f_X6_way_L15 v1 v2 s0 σ = some res → W p l e (fb_R 1 25) s m args below meth c H locs 0 0 (MQ below (fb_Qi g ks res.1 res.2) args s 0 0 (fb_A g ks)) (F0 m 15 ls [.int s0]) := by
  have hx := X.1.1
  have hb := X.1.2.1
  intro v1 v2 s0 σ H locs ls h hl hf
  unfold f_X6_way_L15 at hf
  refine lv_istore_n hx hb dX6_way_15 rfl hl (by decide) (lv' := [(3, .int s0), (0, .ref (g.1 29)), (1, .int v1), (2, .int v2)]) rfl (fun ls hl => ?_)
  refine lv_iload_n hx hb dX6_way_16 rfl (lv_at hl 2 rfl) ?_
  refine lv_if_ne hx hb dX6_way_17 (tgt := 25) (by decide) (fun hc => ?_) (fun hc => ?_)
  · have hf := if_f hc hf
    refine lv_iload_n hx hb dX6_way_25 rfl (lv_at hl 2 rfl) ?_
    refine lv_iconst hx hb dX6_way_26 ki_4 ?_
    refine lv_icmp_ne hx hb dX6_way_27 (tgt := 36) (by decide) (fun hc => ?_) (fun hc => ?_)
    · have hf := if_f hc hf
      refine lv_iload_n hx hb dX6_way_36 rfl (lv_at hl 2 rfl) ?_
      refine lv_iconst hx hb dX6_way_37 ki_5 ?_
      refine lv_icmp_ne hx hb dX6_way_38 (tgt := 46) (by decide) (fun hc => ?_) (fun hc => ?_)
      · have hf := if_f hc hf
        refine lv_bipush hx hb dX6_way_46 kb_99 ?_
        exact w_X6_way_L48 X hks hr hlk  v1 v2 s0 (99 : Int32) σ _ _ _ h (lv_sub hl [1, 2, 3, 0] rfl) hf
      · have hf := if_t hc hf
        refine lv_bipush hx hb dX6_way_41 kb_9 ?_
        refine lv_goto hx hb dX6_way_43 (tgt := 48) (by decide) ?_
        exact w_X6_way_L48 X hks hr hlk  v1 v2 s0 (9 : Int32) σ _ _ _ h (lv_sub hl [1, 2, 3, 0] rfl) hf
    · have hf := if_t hc hf
      refine lv_sipush hx hb dX6_way_30 ks_999 ?_
      refine lv_goto hx hb dX6_way_33 (tgt := 48) (by decide) ?_
      exact w_X6_way_L48 X hks hr hlk  v1 v2 s0 (999 : Int32) σ _ _ _ h (lv_sub hl [1, 2, 3, 0] rfl) hf
  · have hf := if_t hc hf
    refine lv_bipush hx hb dX6_way_20 kb_8 ?_
    refine lv_goto hx hb dX6_way_22 (tgt := 48) (by decide) ?_
    exact w_X6_way_L48 X hks hr hlk  v1 v2 s0 (8 : Int32) σ _ _ _ h (lv_sub hl [1, 2, 3, 0] rfl) hf
set_option maxHeartbeats 4000000 in
set_option maxRecDepth 100000 in
theorem c_X6_way (l : Launch) {g : fb_G} {ks : List Nat} (hI : fb_I g ks) (hks : ∀ k ∈ ([29, 43] : List Nat), k ∈ ks) (a1 : Int32) (a2 : Int32) (σ : fb_S) {res : (Int32 × fb_S)} (hf : f_X6_way a1 a2 σ = some res) : fb_M l yX6_way cX6_way 6 (some .int) 1 25 g ks [.ref (g.1 29), .int a1, .int a2] σ (fb_Qi g ks res.1 res.2) := by
  refine fb_met (by decide +kernel) hI (Nat.le_of_ble_eq_true rfl) (fun p e s m below meth c ls X h hr hlk hl => ?_)
  have X : fb_X p m c cX6_way 6 s _ RX6 g ks (fb_A g ks) := X
  have hl : lv_has ls 6 [(0, .ref (g.1 29)), (1, .int a1), (2, .int a2)] := hl
  have hx := X.1.1
  have hb := X.1.2.1
  unfold f_X6_way at hf
  refine lv_aload_n hx hb dX6_way_0 rfl (lv_at hl 0 rfl) ?_
  refine lv_iconst hx hb dX6_way_1 ki_0 ?_
  obtain ⟨t5, et5, hf⟩ := nm_s hf
  refine pt_RX6_75 X h (hks 29 (by decide)) dX6_way_2 (fun H locs h => ?_)
  have h := fb_H.nm et5 h
  refine lv_iload_n hx hb dX6_way_5 rfl (lv_at hl 1 rfl) ?_
  refine lv_iconst hx hb dX6_way_6 ki_3 ?_
  refine lv_icmp_ge hx hb dX6_way_7 (tgt := 14) (by decide) (fun hc => ?_) (fun hc => ?_)
  · have hf := if_t hc hf
    refine lv_iconst hx hb dX6_way_14 ki_0 ?_
    exact w_X6_way_L15 X hks hr hlk  a1 a2 (0 : Int32) t5 _ _ _ h (lv_sub hl [0, 1, 2] rfl) hf
  · have hf := if_f hc hf
    refine lv_iconst hx hb dX6_way_10 ki_1 ?_
    refine lv_goto hx hb dX6_way_11 (tgt := 15) (by decide) ?_
    exact w_X6_way_L15 X hks hr hlk  a1 a2 (1 : Int32) t5 _ _ _ h (lv_sub hl [0, 1, 2] rfl) hf
def f_X6_arrive (a1 : Int32) (a2 : Int32) (σ : fb_S) : Option (Int32 × fb_S) :=
  nm_ (fb_up σ 29 0 (0 : Int32)) fun t1 =>
  (f_X6_in (a1.toInt64) (0 : Int64) (59 : Int64)).bind fun q2 =>
  if q2 = 0 then (
    some ((-2 : Int32), t1)
  ) else (
    (f_X6_in (a2.toInt64) (0 : Int64) (99 : Int64)).bind fun q3 =>
    if q3 = 0 then (
      some ((-2 : Int32), t1)
    ) else (
      ck_ (fb_in a1 60) <|
      nm_ (t1.1 44 a1.toNatClampNeg) fun x4 =>
      ck_ (fb_in a1 60) <|
      nm_ (fb_up t1 44 (a1.toNatClampNeg) a2) fun t5 =>
      some (x4, t5)
    )
  )
set_option maxHeartbeats 4000000 in
set_option maxRecDepth 100000 in
theorem c_X6_arrive (l : Launch) {g : fb_G} {ks : List Nat} (hI : fb_I g ks) (hks : ∀ k ∈ ([29, 44] : List Nat), k ∈ ks) (a1 : Int32) (a2 : Int32) (σ : fb_S) {res : (Int32 × fb_S)} (hf : f_X6_arrive a1 a2 σ = some res) : fb_M l yX6_arrive cX6_arrive 4 (some .int) 1 25 g ks [.ref (g.1 29), .int a1, .int a2] σ (fb_Qi g ks res.1 res.2) := by
  refine fb_met (by decide +kernel) hI (Nat.le_of_ble_eq_true rfl) (fun p e s m below meth c ls X h hr hlk hl => ?_)
  have X : fb_X p m c cX6_arrive 4 s _ RX6 g ks (fb_A g ks) := X
  have hl : lv_has ls 4 [(0, .ref (g.1 29)), (1, .int a1), (2, .int a2)] := hl
  have hx := X.1.1
  have hb := X.1.2.1
  unfold f_X6_arrive at hf
  refine lv_aload_n hx hb dX6_arrive_0 rfl (lv_at hl 0 rfl) ?_
  refine lv_iconst hx hb dX6_arrive_1 ki_0 ?_
  obtain ⟨t1, et1, hf⟩ := nm_s hf
  refine pt_RX6_75 X h (hks 29 (by decide)) dX6_arrive_2 (fun H locs h => ?_)
  have h := fb_H.nm et1 h
  refine lv_iload_n hx hb dX6_arrive_5 rfl (lv_at hl 1 rfl) ?_
  refine lv_i2l hx hb dX6_arrive_6 (v := a1.toInt64) rfl ?_
  refine lv_lconst hx hb dX6_arrive_7 kl_0 ?_
  refine lv_ldc2 hx hb X.1.2.2.2.1 (X.1.2.2.2.2 _ lc_RX6_165) dX6_arrive_8 ?_
  obtain ⟨q2, hq2, hf⟩ := bd_s hf
  refine fb_ci X h (fb_runS (As := [.long (a1.toInt64), .long (0), .long (59)]) (rest := []) X h (c_X6_in l X.2.2.1 (fun k hk => absurd hk List.not_mem_nil) (a1.toInt64) (0 : Int64) (59 : Int64) t1 hq2) mf_yX6_in lm_RX6_80 ⟨Nat.le_of_ble_eq_true rfl, Nat.le_of_ble_eq_true rfl⟩ ⟨Nat.le_refl _, Nat.le_refl _⟩ rfl hl.1 rfl (Nat.le_of_ble_eq_true rfl) dX6_arrive_11) (fun H locs h => ?_)
  refine lv_if_eq hx hb dX6_arrive_14 (tgt := 29) (by decide) (fun hc => ?_) (fun hc => ?_)
  · have hf := if_t hc hf
    refine lv_bipush hx hb dX6_arrive_29 kb_m2 ?_
    have e9 := Option.some.inj hf
    subst e9
    exact fb_ir X h hr hlk dX6_arrive_31
  · have hf := if_f hc hf
    refine lv_iload_n hx hb dX6_arrive_17 rfl (lv_at hl 2 rfl) ?_
    refine lv_i2l hx hb dX6_arrive_18 (v := a2.toInt64) rfl ?_
    refine lv_lconst hx hb dX6_arrive_19 kl_0 ?_
    refine lv_ldc2 hx hb X.1.2.2.2.1 (X.1.2.2.2.2 _ lc_RX6_86) dX6_arrive_20 ?_
    obtain ⟨q3, hq3, hf⟩ := bd_s hf
    refine fb_ci X h (fb_runS (As := [.long (a2.toInt64), .long (0), .long (99)]) (rest := []) X h (c_X6_in l X.2.2.1 (fun k hk => absurd hk List.not_mem_nil) (a2.toInt64) (0 : Int64) (99 : Int64) t1 hq3) mf_yX6_in lm_RX6_80 ⟨Nat.le_of_ble_eq_true rfl, Nat.le_of_ble_eq_true rfl⟩ ⟨Nat.le_refl _, Nat.le_refl _⟩ rfl hl.1 rfl (Nat.le_of_ble_eq_true rfl) dX6_arrive_23) (fun H locs h => ?_)
    refine lv_if_ne hx hb dX6_arrive_26 (tgt := 32) (by decide) (fun hc => ?_) (fun hc => ?_)
    · have hf := if_f hc hf
      refine lv_aload_n hx hb dX6_arrive_32 rfl (lv_at hl 0 rfl) ?_
      refine gt_RX6_57 X h (hks 29 (by decide)) dX6_arrive_33 ?_
      refine lv_iload_n hx hb dX6_arrive_36 rfl (lv_at hl 1 rfl) ?_
      obtain ⟨hi0, hf⟩ := ck_s hf
      refine fb_iald X h (hks 44 (by decide)) rfl hi0 dX6_arrive_37 ?_
      obtain ⟨x4, ex4, hf⟩ := nm_s hf
      refine fb_topi ex4 ?_
      refine lv_istore_n hx hb dX6_arrive_38 rfl hl (by decide) (lv' := [(3, .int x4), (0, .ref (g.1 29)), (1, .int a1), (2, .int a2)]) rfl (fun ls hl => ?_)
      refine lv_aload_n hx hb dX6_arrive_39 rfl (lv_at hl 1 rfl) ?_
      refine gt_RX6_57 X h (hks 29 (by decide)) dX6_arrive_40 ?_
      refine lv_iload_n hx hb dX6_arrive_43 rfl (lv_at hl 2 rfl) ?_
      refine lv_iload_n hx hb dX6_arrive_44 rfl (lv_at hl 3 rfl) ?_
      obtain ⟨hi0, hf⟩ := ck_s hf
      obtain ⟨t5, et5, hf⟩ := nm_s hf
      refine fb_iast X h (hks 44 (by decide)) (fun _ => rfl) hi0 dX6_arrive_45 (fun H locs h => ?_)
      have h := fb_H.nm et5 h
      refine lv_iload_n hx hb dX6_arrive_46 rfl (lv_at hl 0 rfl) ?_
      have e9 := Option.some.inj hf
      subst e9
      exact fb_ir X h hr hlk dX6_arrive_47
    · have hf := if_t hc hf
      refine lv_bipush hx hb dX6_arrive_29 kb_m2 ?_
      have e9 := Option.some.inj hf
      subst e9
      exact fb_ir X h hr hlk dX6_arrive_31
def f_X6_onBridge_L4 (N : Nat) (σ : fb_S) : Nat → Int32 → Int32 → Option Int32
  | 0, _, _ => none
  | n + 1, v1, v2 => 
    if (σ.1 43 0) ≤ v2 then (
      some v1
    ) else (
      ck_ (fb_in v2 8) <|
      nm_ (v1 + (σ.1 45 v2.toNatClampNeg)) fun x1 =>
      f_X6_onBridge_L4 N σ n x1 (v2 + 1)
    )
def f_X6_onBridge (N : Nat)  (σ : fb_S) : Option Int32 :=
  f_X6_onBridge_L4 N σ N (0 : Int32) (0 : Int32)
set_option maxHeartbeats 4000000 in
set_option maxRecDepth 100000 in
theorem w_X6_onBridge_L4 (X : fb_X p m c cX6_onBridge 3 s args RX6 g ks (fb_A g ks)) (hks : ∀ k ∈ ([29, 43, 45] : List Nat), k ∈ ks) (hr : meth.sig.returnType = (some .int)) (hlk : meth.locks = false) (N : Nat) (σ : fb_S)  {res : Int32} : ∀ (n : Nat) (v1 : Int32) (v2 : Int32) (H : Heap) (locs : List Loc) (ls : Array Slot), fb_H g ks (fb_A g ks) s.heap σ H locs → lv_has ls 3 [(0, .ref (g.1 29)), (1, .int v1), (2, .int v2)] → f_X6_onBridge_L4 N σ n v1 v2 = some res → W p l e (fb_R 0 0) s m args below meth c H locs 0 0 (MQ below (fb_Qi g ks res σ) args s 0 0 (fb_A g ks)) (F0 m 4 ls []) := by
  have hx := X.1.1
  have hb := X.1.2.1
  intro n
  induction n with
  | zero => intro v1 v2 H locs ls h hl hf; cases hf
  | succ n ih =>
    intro v1 v2 H locs ls h hl hf
    unfold f_X6_onBridge_L4 at hf
    refine lv_iload_n hx hb dX6_onBridge_4 rfl (lv_at hl 2 rfl) ?_
    refine lv_aload_n hx hb dX6_onBridge_5 rfl (lv_at hl 0 rfl) ?_
    refine gt_RX6_54 X h (hks 29 (by decide)) dX6_onBridge_6 ?_
    refine lv_iconst hx hb dX6_onBridge_9 ki_0 ?_
    refine fb_ialdL X h (hks 43 (by decide)) rfl (by decide) kn_0 dX6_onBridge_10 ?_
    refine lv_icmp_ge hx hb dX6_onBridge_11 (tgt := 29) (by decide) (fun hc => ?_) (fun hc => ?_)
    · have hf := if_t hc hf
      refine lv_iload_n hx hb dX6_onBridge_29 rfl (lv_at hl 1 rfl) ?_
      have e9 := Option.some.inj hf
      subst e9
      exact fb_ir X h hr hlk dX6_onBridge_30
    · have hf := if_f hc hf
      refine lv_iload_n hx hb dX6_onBridge_14 rfl (lv_at hl 1 rfl) ?_
      refine lv_aload_n hx hb dX6_onBridge_15 rfl (lv_at hl 0 rfl) ?_
      refine gt_RX6_60 X h (hks 29 (by decide)) dX6_onBridge_16 ?_
      refine lv_iload_n hx hb dX6_onBridge_19 rfl (lv_at hl 2 rfl) ?_
      obtain ⟨hi0, hf⟩ := ck_s hf
      refine fb_iald X h (hks 45 (by decide)) rfl hi0 dX6_onBridge_20 ?_
      refine lv_iadd hx hb dX6_onBridge_21 ?_
      obtain ⟨x1, ex1, hf⟩ := nm_s hf
      refine fb_topi ex1 ?_
      refine lv_istore_n hx hb dX6_onBridge_22 rfl hl (by decide) (lv' := [(1, .int x1), (0, .ref (g.1 29)), (2, .int v2)]) rfl (fun ls hl => ?_)
      refine lv_iinc hx hb dX6_onBridge_23 hl (k := 2) rfl (kinc_1 _) (by decide) (lv' := [(2, .int (v2 + 1)), (1, .int x1), (0, .ref (g.1 29))]) rfl (fun ls hl => ?_)
      refine lv_goto hx hb dX6_onBridge_26 (tgt := 4) (by decide) ?_
      exact ih x1 (v2 + 1) _ _ _ h (lv_sub hl [2, 1, 0] rfl) hf
set_option maxHeartbeats 4000000 in
set_option maxRecDepth 100000 in
theorem c_X6_onBridge (l : Launch) {g : fb_G} {ks : List Nat} (hI : fb_I g ks) (hks : ∀ k ∈ ([29, 43, 45] : List Nat), k ∈ ks) (N : Nat) (σ : fb_S) {res : Int32} (hf : f_X6_onBridge N σ = some res) : fb_M l yX6_onBridge cX6_onBridge 3 (some .int) 0 0 g ks [.ref (g.1 29)] σ (fb_Qi g ks res σ) := by
  refine fb_met (by decide +kernel) hI (Nat.le_of_ble_eq_true rfl) (fun p e s m below meth c ls X h hr hlk hl => ?_)
  have X : fb_X p m c cX6_onBridge 3 s _ RX6 g ks (fb_A g ks) := X
  have hl : lv_has ls 3 [(0, .ref (g.1 29))] := hl
  have hx := X.1.1
  have hb := X.1.2.1
  unfold f_X6_onBridge at hf
  refine lv_iconst hx hb dX6_onBridge_0 ki_0 ?_
  refine lv_istore_n hx hb dX6_onBridge_1 rfl hl (by decide) (lv' := [(1, .int (0)), (0, .ref (g.1 29))]) rfl (fun ls hl => ?_)
  refine lv_iconst hx hb dX6_onBridge_2 ki_0 ?_
  refine lv_istore_n hx hb dX6_onBridge_3 rfl hl (by decide) (lv' := [(2, .int (0)), (1, .int (0)), (0, .ref (g.1 29))]) rfl (fun ls hl => ?_)
  exact w_X6_onBridge_L4 X hks hr hlk N σ N (0 : Int32) (0 : Int32) _ _ _ h (lv_sub hl [2, 1, 0] rfl) hf
def f_X6_live_L190 (N : Nat) (k87 : Int32 → Int32 → Int32 → Int32 → fb_S → Option fb_S) (k112 : Int32 → Int32 → Int32 → Int32 → Int32 → fb_S → Option fb_S) (v1 : Int32) (v2 : Int32) (v3 : Int32) (v4 : Int32) (v5 : Int32) (s0 : Int32) (σ : fb_S) : Option fb_S :=
  ck_ (fb_in v5 8) <|
  ck_ (fb_in v5 8) <|
  nm_ (fb_up σ 45 (v5.toNatClampNeg) ((σ.1 45 v5.toNatClampNeg) - s0)) fun t1 =>
  if v5 = v3 then (
    nm_ (fb_up t1 29 25 ((t1.1 29 25) + s0)) fun t3 =>
    k112 v1 v2 v3 v4 (v5 + (-1)) t3
  ) else (
    ck_ (fb_in (v5 + (1 : Int32)) 8) <|
    ck_ (fb_in (v5 + (1 : Int32)) 8) <|
    nm_ (fb_up t1 45 ((v5 + (1 : Int32)).toNatClampNeg) ((t1.1 45 (v5 + (1 : Int32)).toNatClampNeg) + s0)) fun t2 =>
    k112 v1 v2 v3 v4 (v5 + (-1)) t2
  )
def f_X6_live_L187 (N : Nat) (k87 : Int32 → Int32 → Int32 → Int32 → fb_S → Option fb_S) (k112 : Int32 → Int32 → Int32 → Int32 → Int32 → fb_S → Option fb_S) (v1 : Int32) (v2 : Int32) (v3 : Int32) (v4 : Int32) (v5 : Int32) (s0 : Int32) (s1 : Int32) (σ : fb_S) : Option fb_S :=
  (f_X6_lesser s0 s1).bind fun q4 =>
  f_X6_live_L190 N k87 k112 v1 v2 v3 v4 v5 q4 σ
def f_X6_live_L412 (N : Nat) (k87 : Int32 → Int32 → Int32 → Int32 → fb_S → Option fb_S) (v1 : Int32) (v2 : Int32) (v3 : Int32) (v4 : Int32) (s1 : Int32) (σ : fb_S) : Option fb_S :=
  nm_ (fb_up σ 29 29 s1) fun t5 =>
  ck_ (fb_in v4 60) <|
  nm_ (fb_up t5 36 0 (t5.1 46 v4.toNatClampNeg)) fun t6 =>
  (f_X6_beat N (t6.1 29 27) t6).bind fun q7 =>
  nm_ (fb_up t6 29 27 q7) fun t8 =>
  if (t8.1 29 27) ≤ (t8.1 29 28) then (
    nm_ (fb_up t8 29 28 (t8.1 29 28)) fun t9 =>
    k87 v1 v2 v3 (v4 + 1) t9
  ) else (
    nm_ (fb_up t8 29 28 (t8.1 29 27)) fun t10 =>
    k87 v1 v2 v3 (v4 + 1) t10
  )
def f_X6_live_L372 (N : Nat) (k87 : Int32 → Int32 → Int32 → Int32 → fb_S → Option fb_S) (v1 : Int32) (v2 : Int32) (v3 : Int32) (v4 : Int32) (σ : fb_S) : Option fb_S :=
  (f_X6_onBridge N σ).bind fun q11 =>
  ck_ (fb_in v4 60) <|
  nm_ (fb_up σ 46 (v4.toNatClampNeg) q11) fun t12 =>
  ck_ (fb_in v4 60) <|
  if (t12.1 46 v4.toNatClampNeg) ≤ (t12.1 29 29) then (
    f_X6_live_L412 N k87 v1 v2 v3 v4 (t12.1 29 29) t12
  ) else (
    ck_ (fb_in v4 60) <|
    f_X6_live_L412 N k87 v1 v2 v3 v4 (t12.1 46 v4.toNatClampNeg) t12
  )
def f_X6_live_L328 (N : Nat) (k87 : Int32 → Int32 → Int32 → Int32 → fb_S → Option fb_S) (v1 : Int32) (v2 : Int32) (v3 : Int32) (v4 : Int32) (s0 : Int32) (σ : fb_S) : Option fb_S :=
  (f_X6_lesser (σ.1 29 26) (σ.1 43 3)).bind fun q13 =>
  (f_X6_lesser q13 s0).bind fun q14 =>
  nm_ (fb_up σ 29 26 ((σ.1 29 26) - q14)) fun t15 =>
  nm_ (fb_up t15 45 0 ((t15.1 45 0) + q14)) fun t16 =>
  f_X6_live_L372 N k87 v1 v2 v3 v4 t16
def f_X6_live_L287 (N : Nat) (k87 : Int32 → Int32 → Int32 → Int32 → fb_S → Option fb_S) (v1 : Int32) (v2 : Int32) (v3 : Int32) (v4 : Int32) (s0 : Int32) (σ : fb_S) : Option fb_S :=
  if v2 ≤ s0 then (
    f_X6_live_L372 N k87 v1 v2 v3 v4 σ
  ) else (
    if ((σ.1 43 1) - (σ.1 45 0)) ≤ 0 then (
      f_X6_live_L328 N k87 v1 v2 v3 v4 (0 : Int32) σ
    ) else (
      f_X6_live_L328 N k87 v1 v2 v3 v4 ((σ.1 43 1) - (σ.1 45 0)) σ
    )
  )
def f_X6_live_L112 (N : Nat) (k87 : Int32 → Int32 → Int32 → Int32 → fb_S → Option fb_S) : Nat → Int32 → Int32 → Int32 → Int32 → Int32 → fb_S → Option fb_S
  | 0, _, _, _, _, _, _ => none
  | n + 1, v1, v2, v3, v4, v5, σ => 
    if v5 < 0 then (
      nm_ (v4 - (σ.1 43 5)) fun x17 =>
      if (σ.1 43 5) = 0 then (
        (f_X6_onBridge N σ).bind fun q18 =>
        f_X6_live_L287 N k87 v1 v2 v3 v4 q18 σ
      ) else (
        if 0 ≤ x17 then (
          ck_ (fb_in x17 60) <|
          f_X6_live_L287 N k87 v1 v2 v3 v4 (σ.1 46 x17.toNatClampNeg) σ
        ) else (
          f_X6_live_L287 N k87 v1 v2 v3 v4 (0 : Int32) σ
        )
      )
    ) else (
      ck_ (fb_in v5 8) <|
      (f_X6_lesser (σ.1 45 v5.toNatClampNeg) (σ.1 43 2)).bind fun q19 =>
      if v5 = v3 then (
        f_X6_live_L190 N k87 (f_X6_live_L112 N k87 n) v1 v2 v3 v4 v5 q19 σ
      ) else (
        ck_ (fb_in (v5 + (1 : Int32)) 8) <|
        if ((σ.1 43 1) - (σ.1 45 (v5 + (1 : Int32)).toNatClampNeg)) ≤ 0 then (
          f_X6_live_L187 N k87 (f_X6_live_L112 N k87 n) v1 v2 v3 v4 v5 q19 (0 : Int32) σ
        ) else (
          ck_ (fb_in (v5 + (1 : Int32)) 8) <|
          f_X6_live_L187 N k87 (f_X6_live_L112 N k87 n) v1 v2 v3 v4 v5 q19 ((σ.1 43 1) - (σ.1 45 (v5 + (1 : Int32)).toNatClampNeg)) σ
        )
      )
    )
def f_X6_live_L87 (N : Nat) : Nat → Int32 → Int32 → Int32 → Int32 → fb_S → Option fb_S
  | 0, _, _, _, _, _ => none
  | n + 1, v1, v2, v3, v4, σ => 
    if v1 ≤ v4 then (
      some σ
    ) else (
      ck_ (fb_in v4 60) <|
      nm_ (fb_up σ 29 26 ((σ.1 29 26) + (σ.1 44 v4.toNatClampNeg))) fun t20 =>
      f_X6_live_L112 N (f_X6_live_L87 N n) N v1 v2 v3 v4 v3 t20
    )
def f_X6_live_L57 (N : Nat) : Nat → Int32 → Int32 → Int32 → fb_S → Option fb_S
  | 0, _, _, _, _ => none
  | n + 1, v1, v2, v3, σ => 
    if (4 : Int32) ≤ v3 then (
      nm_ ((σ.1 43 0) - (1 : Int32)) fun x21 =>
      f_X6_live_L87 N N v1 v2 x21 (0 : Int32) σ
    ) else (
      ck_ (fb_in v3 4) <|
      nm_ (fb_up σ 36 (v3.toNatClampNeg) (0 : Int32)) fun t22 =>
      f_X6_live_L57 N n v1 v2 (v3 + 1) t22
    )
def f_X6_live_L36 (N : Nat) : Nat → Int32 → Int32 → Int32 → fb_S → Option fb_S
  | 0, _, _, _, _ => none
  | n + 1, v1, v2, v3, σ => 
    if (8 : Int32) ≤ v3 then (
      f_X6_live_L57 N N v1 v2 (0 : Int32) σ
    ) else (
      ck_ (fb_in v3 8) <|
      nm_ (fb_up σ 45 (v3.toNatClampNeg) (0 : Int32)) fun t23 =>
      f_X6_live_L36 N n v1 v2 (v3 + 1) t23
    )
def f_X6_live (N : Nat) (a1 : Int32) (a2 : Int32) (σ : fb_S) : Option fb_S :=
  (f_X6_asIs N σ).bind fun q24 =>
  nm_ (fb_up q24 29 25 (0 : Int32)) fun t25 =>
  nm_ (fb_up t25 29 26 (0 : Int32)) fun t26 =>
  nm_ (fb_up t26 29 27 (t26.1 37 1)) fun t27 =>
  nm_ (fb_up t27 29 28 (0 : Int32)) fun t28 =>
  nm_ (fb_up t28 29 29 (0 : Int32)) fun t29 =>
  f_X6_live_L36 N N a1 a2 (0 : Int32) t29
set_option maxHeartbeats 4000000 in
set_option maxRecDepth 100000 in
theorem w_X6_live_L190 (X : fb_X p m c cX6_live 9 s args RX6 g ks (fb_A g ks)) (hks : ∀ k ∈ ([29, 32, 33, 34, 35, 36, 37, 38, 41, 43, 44, 45, 46] : List Nat), k ∈ ks) (hr : meth.sig.returnType = none) (hlk : meth.locks = false) (N : Nat) (k87 : Int32 → Int32 → Int32 → Int32 → fb_S → Option fb_S) (k112 : Int32 → Int32 → Int32 → Int32 → Int32 → fb_S → Option fb_S)  {res : fb_S} (hk87 : ∀ (v1 : Int32) (v2 : Int32) (v3 : Int32) (v4 : Int32) (σ : fb_S) (H : Heap) (locs : List Loc) (ls : Array Slot), fb_H g ks (fb_A g ks) s.heap σ H locs → lv_has ls 9 [(0, .ref (g.1 29)), (1, .int v1), (2, .int v2), (3, .int v3), (4, .int v4)] → k87 v1 v2 v3 v4 σ = some res → W p l e (fb_R 3 66) s m args below meth c H locs 0 0 (MQ below (fb_Qv g ks res) args s 0 0 (fb_A g ks)) (F0 m 87 ls [])) (hk112 : ∀ (v1 : Int32) (v2 : Int32) (v3 : Int32) (v4 : Int32) (v5 : Int32) (σ : fb_S) (H : Heap) (locs : List Loc) (ls : Array Slot), fb_H g ks (fb_A g ks) s.heap σ H locs → lv_has ls 9 [(0, .ref (g.1 29)), (1, .int v1), (2, .int v2), (3, .int v3), (4, .int v4), (5, .int v5)] → k112 v1 v2 v3 v4 v5 σ = some res → W p l e (fb_R 3 66) s m args below meth c H locs 0 0 (MQ below (fb_Qv g ks res) args s 0 0 (fb_A g ks)) (F0 m 112 ls [])) : ∀ (v1 : Int32) (v2 : Int32) (v3 : Int32) (v4 : Int32) (v5 : Int32) (s0 : Int32) (σ : fb_S) (H : Heap) (locs : List Loc) (ls : Array Slot), fb_H g ks (fb_A g ks) s.heap σ H locs → lv_has ls 9 [(0, .ref (g.1 29)), (1, .int v1), (2, .int v2), (3, .int v3), (4, .int v4), (5, .int v5)] → f_X6_live_L190 N k87 k112 v1 v2 v3 v4 v5 s0 σ = some res → W p l e (fb_R 3 66) s m args below meth c H locs 0 0 (MQ below (fb_Qv g ks res) args s 0 0 (fb_A g ks)) (F0 m 190 ls [.int s0]) := by
  have hx := X.1.1
  have hb := X.1.2.1
  intro v1 v2 v3 v4 v5 s0 σ H locs ls h hl hf
  unfold f_X6_live_L190 at hf
  refine lv_istore hx hb dX6_live_190 hl (by decide) (lv' := [(6, .int s0), (0, .ref (g.1 29)), (1, .int v1), (2, .int v2), (3, .int v3), (4, .int v4), (5, .int v5)]) rfl (fun ls hl => ?_)
  refine lv_aload_n hx hb dX6_live_192 rfl (lv_at hl 1 rfl) ?_
  refine gt_RX6_60 X h (hks 29 (by decide)) dX6_live_193 ?_
  refine lv_iload hx hb dX6_live_196 (lv_at hl 6 rfl) ?_
  refine lv_dup2_11 hx hb dX6_live_198 rfl rfl ?_
  obtain ⟨hi0, hf⟩ := ck_s hf
  refine fb_iald X h (hks 45 (by decide)) rfl hi0 dX6_live_199 ?_
  refine lv_iload hx hb dX6_live_200 (lv_at hl 0 rfl) ?_
  refine lv_isub hx hb dX6_live_202 ?_
  obtain ⟨hi0, hf⟩ := ck_s hf
  obtain ⟨t1, et1, hf⟩ := nm_s hf
  refine fb_iast X h (hks 45 (by decide)) (fun _ => rfl) hi0 dX6_live_203 (fun H locs h => ?_)
  have h := fb_H.nm et1 h
  refine lv_iload hx hb dX6_live_204 (lv_at hl 6 rfl) ?_
  refine lv_iload_n hx hb dX6_live_206 rfl (lv_at hl 4 rfl) ?_
  refine lv_icmp_ne hx hb dX6_live_207 (tgt := 224) (by decide) (fun hc => ?_) (fun hc => ?_)
  · have hf := if_f hc hf
    refine lv_aload_n hx hb dX6_live_224 rfl (lv_at hl 1 rfl) ?_
    refine gt_RX6_60 X h (hks 29 (by decide)) dX6_live_225 ?_
    refine lv_iload hx hb dX6_live_228 (lv_at hl 6 rfl) ?_
    refine lv_iconst hx hb dX6_live_230 ki_1 ?_
    refine lv_iadd hx hb dX6_live_231 ?_
    refine lv_dup2_11 hx hb dX6_live_232 rfl rfl ?_
    obtain ⟨hi0, hf⟩ := ck_s hf
    refine fb_iald X h (hks 45 (by decide)) rfl hi0 dX6_live_233 ?_
    refine lv_iload hx hb dX6_live_234 (lv_at hl 0 rfl) ?_
    refine lv_iadd hx hb dX6_live_236 ?_
    obtain ⟨hi0, hf⟩ := ck_s hf
    obtain ⟨t2, et2, hf⟩ := nm_s hf
    refine fb_iast X h (hks 45 (by decide)) (fun _ => rfl) hi0 dX6_live_237 (fun H locs h => ?_)
    have h := fb_H.nm et2 h
    refine lv_iinc hx hb dX6_live_238 hl (k := 6) rfl (kinc_m1 _) (by decide) (lv' := [(5, .int (v5 + (-1))), (6, .int s0), (0, .ref (g.1 29)), (1, .int v1), (2, .int v2), (3, .int v3), (4, .int v4)]) rfl (fun ls hl => ?_)
    refine lv_goto hx hb dX6_live_241 (tgt := 112) (by decide) ?_
    exact hk112 v1 v2 v3 v4 (v5 + (-1)) t2 _ _ _ h (lv_sub hl [2, 3, 4, 5, 6, 0] rfl) hf
  · have hf := if_t hc hf
    refine lv_aload_n hx hb dX6_live_210 rfl (lv_at hl 1 rfl) ?_
    refine lv_dup hx hb dX6_live_211 rfl ?_
    refine gt_RX6_167 X h (hks 29 (by decide)) dX6_live_212 ?_
    refine lv_iload hx hb dX6_live_215 (lv_at hl 0 rfl) ?_
    refine lv_iadd hx hb dX6_live_217 ?_
    obtain ⟨t3, et3, hf⟩ := nm_s hf
    refine pt_RX6_167 X h (hks 29 (by decide)) dX6_live_218 (fun H locs h => ?_)
    have h := fb_H.nm et3 h
    refine lv_goto hx hb dX6_live_221 (tgt := 238) (by decide) ?_
    refine lv_iinc hx hb dX6_live_238 hl (k := 6) rfl (kinc_m1 _) (by decide) (lv' := [(5, .int (v5 + (-1))), (6, .int s0), (0, .ref (g.1 29)), (1, .int v1), (2, .int v2), (3, .int v3), (4, .int v4)]) rfl (fun ls hl => ?_)
    refine lv_goto hx hb dX6_live_241 (tgt := 112) (by decide) ?_
    exact hk112 v1 v2 v3 v4 (v5 + (-1)) t3 _ _ _ h (lv_sub hl [2, 3, 4, 5, 6, 0] rfl) hf
set_option maxHeartbeats 4000000 in
set_option maxRecDepth 100000 in
theorem w_X6_live_L187 (X : fb_X p m c cX6_live 9 s args RX6 g ks (fb_A g ks)) (hks : ∀ k ∈ ([29, 32, 33, 34, 35, 36, 37, 38, 41, 43, 44, 45, 46] : List Nat), k ∈ ks) (hr : meth.sig.returnType = none) (hlk : meth.locks = false) (N : Nat) (k87 : Int32 → Int32 → Int32 → Int32 → fb_S → Option fb_S) (k112 : Int32 → Int32 → Int32 → Int32 → Int32 → fb_S → Option fb_S)  {res : fb_S} (hk87 : ∀ (v1 : Int32) (v2 : Int32) (v3 : Int32) (v4 : Int32) (σ : fb_S) (H : Heap) (locs : List Loc) (ls : Array Slot), fb_H g ks (fb_A g ks) s.heap σ H locs → lv_has ls 9 [(0, .ref (g.1 29)), (1, .int v1), (2, .int v2), (3, .int v3), (4, .int v4)] → k87 v1 v2 v3 v4 σ = some res → W p l e (fb_R 3 66) s m args below meth c H locs 0 0 (MQ below (fb_Qv g ks res) args s 0 0 (fb_A g ks)) (F0 m 87 ls [])) (hk112 : ∀ (v1 : Int32) (v2 : Int32) (v3 : Int32) (v4 : Int32) (v5 : Int32) (σ : fb_S) (H : Heap) (locs : List Loc) (ls : Array Slot), fb_H g ks (fb_A g ks) s.heap σ H locs → lv_has ls 9 [(0, .ref (g.1 29)), (1, .int v1), (2, .int v2), (3, .int v3), (4, .int v4), (5, .int v5)] → k112 v1 v2 v3 v4 v5 σ = some res → W p l e (fb_R 3 66) s m args below meth c H locs 0 0 (MQ below (fb_Qv g ks res) args s 0 0 (fb_A g ks)) (F0 m 112 ls [])) : ∀ (v1 : Int32) (v2 : Int32) (v3 : Int32) (v4 : Int32) (v5 : Int32) (s0 : Int32) (s1 : Int32) (σ : fb_S) (H : Heap) (locs : List Loc) (ls : Array Slot), fb_H g ks (fb_A g ks) s.heap σ H locs → lv_has ls 9 [(0, .ref (g.1 29)), (1, .int v1), (2, .int v2), (3, .int v3), (4, .int v4), (5, .int v5)] → f_X6_live_L187 N k87 k112 v1 v2 v3 v4 v5 s0 s1 σ = some res → W p l e (fb_R 3 66) s m args below meth c H locs 0 0 (MQ below (fb_Qv g ks res) args s 0 0 (fb_A g ks)) (F0 m 187 ls [.int s1, .int s0]) := by
  have hx := X.1.1
  have hb := X.1.2.1
  intro v1 v2 v3 v4 v5 s0 s1 σ H locs ls h hl hf
  unfold f_X6_live_L187 at hf
  obtain ⟨q4, hq4, hf⟩ := bd_s hf
  refine fb_ci X h (fb_runS (As := [.int s0, .int s1]) (rest := []) X h (c_X6_lesser l X.2.2.1 (fun k hk => absurd hk List.not_mem_nil) s0 s1 σ hq4) mf_yX6_lesser lm_RX6_119 ⟨Nat.le_of_ble_eq_true rfl, Nat.le_of_ble_eq_true rfl⟩ ⟨Nat.le_refl _, Nat.le_refl _⟩ rfl hl.1 rfl (Nat.le_of_ble_eq_true rfl) dX6_live_187) (fun H locs h => ?_)
  exact w_X6_live_L190 X hks hr hlk N k87 k112 hk87 hk112 v1 v2 v3 v4 v5 q4 σ _ _ _ h (lv_sub hl [0, 1, 2, 3, 4, 5] rfl) hf
set_option maxHeartbeats 4000000 in
set_option maxRecDepth 100000 in
theorem w_X6_live_L412 (X : fb_X p m c cX6_live 9 s args RX6 g ks (fb_A g ks)) (hks : ∀ k ∈ ([29, 32, 33, 34, 35, 36, 37, 38, 41, 43, 44, 45, 46] : List Nat), k ∈ ks) (hr : meth.sig.returnType = none) (hlk : meth.locks = false) (N : Nat) (k87 : Int32 → Int32 → Int32 → Int32 → fb_S → Option fb_S)  {res : fb_S} (hk87 : ∀ (v1 : Int32) (v2 : Int32) (v3 : Int32) (v4 : Int32) (σ : fb_S) (H : Heap) (locs : List Loc) (ls : Array Slot), fb_H g ks (fb_A g ks) s.heap σ H locs → lv_has ls 9 [(0, .ref (g.1 29)), (1, .int v1), (2, .int v2), (3, .int v3), (4, .int v4)] → k87 v1 v2 v3 v4 σ = some res → W p l e (fb_R 3 66) s m args below meth c H locs 0 0 (MQ below (fb_Qv g ks res) args s 0 0 (fb_A g ks)) (F0 m 87 ls [])) : ∀ (v1 : Int32) (v2 : Int32) (v3 : Int32) (v4 : Int32) (s1 : Int32) (σ : fb_S) (H : Heap) (locs : List Loc) (ls : Array Slot), fb_H g ks (fb_A g ks) s.heap σ H locs → lv_has ls 9 [(0, .ref (g.1 29)), (1, .int v1), (2, .int v2), (3, .int v3), (4, .int v4)] → f_X6_live_L412 N k87 v1 v2 v3 v4 s1 σ = some res → W p l e (fb_R 3 66) s m args below meth c H locs 0 0 (MQ below (fb_Qv g ks res) args s 0 0 (fb_A g ks)) (F0 m 412 ls [.int s1, .ref (g.1 29)]) := by
  have hx := X.1.1
  have hb := X.1.2.1
  intro v1 v2 v3 v4 s1 σ H locs ls h hl hf
  unfold f_X6_live_L412 at hf
  obtain ⟨t5, et5, hf⟩ := nm_s hf
  refine pt_RX6_179 X h (hks 29 (by decide)) dX6_live_412 (fun H locs h => ?_)
  have h := fb_H.nm et5 h
  refine lv_aload_n hx hb dX6_live_415 rfl (lv_at hl 0 rfl) ?_
  refine gt_RX6_32 X h (hks 29 (by decide)) dX6_live_416 ?_
  refine lv_iconst hx hb dX6_live_419 ki_0 ?_
  refine lv_aload_n hx hb dX6_live_420 rfl (lv_at hl 0 rfl) ?_
  refine gt_RX6_63 X h (hks 29 (by decide)) dX6_live_421 ?_
  refine lv_iload hx hb dX6_live_424 (lv_at hl 4 rfl) ?_
  obtain ⟨hi0, hf⟩ := ck_s hf
  refine fb_iald X h (hks 46 (by decide)) rfl hi0 dX6_live_426 ?_
  obtain ⟨t6, et6, hf⟩ := nm_s hf
  refine fb_iastL X h (hks 36 (by decide)) (fun _ => rfl) (by decide) kn_0 dX6_live_427 (fun H locs h => ?_)
  have h := fb_H.nm et6 h
  refine lv_aload_n hx hb dX6_live_428 rfl (lv_at hl 0 rfl) ?_
  refine lv_aload_n hx hb dX6_live_429 rfl (lv_at hl 0 rfl) ?_
  refine lv_aload_n hx hb dX6_live_430 rfl (lv_at hl 0 rfl) ?_
  refine gt_RX6_173 X h (hks 29 (by decide)) dX6_live_431 ?_
  obtain ⟨q7, hq7, hf⟩ := bd_s hf
  refine fb_ci X h (fb_runV (As := [.int (t6.1 29 27)]) (rest := [.ref (g.1 29)]) (k := 29) X h (c_X6_beat l X.2.2.1 (fun k hk => hks k ((by decide : ∀ k ∈ ([29, 32, 33, 34, 36, 37] : List Nat), k ∈ ([29, 32, 33, 34, 35, 36, 37, 38, 41, 43, 44, 45, 46] : List Nat)) k hk)) N (t6.1 29 27) t6 hq7) mf_yX6_beat lm_RX6_136 (hks 29 (by decide)) rfl rfl ⟨Nat.le_of_ble_eq_true rfl, Nat.le_of_ble_eq_true rfl⟩ ⟨Nat.le_refl _, Nat.le_refl _⟩ rfl hl.1 rfl (Nat.le_of_ble_eq_true rfl) dX6_live_434) (fun H locs h => ?_)
  obtain ⟨t8, et8, hf⟩ := nm_s hf
  refine pt_RX6_173 X h (hks 29 (by decide)) dX6_live_437 (fun H locs h => ?_)
  have h := fb_H.nm et8 h
  refine lv_aload_n hx hb dX6_live_440 rfl (lv_at hl 0 rfl) ?_
  refine lv_aload_n hx hb dX6_live_441 rfl (lv_at hl 0 rfl) ?_
  refine gt_RX6_173 X h (hks 29 (by decide)) dX6_live_442 ?_
  refine lv_aload_n hx hb dX6_live_445 rfl (lv_at hl 0 rfl) ?_
  refine gt_RX6_176 X h (hks 29 (by decide)) dX6_live_446 ?_
  refine lv_icmp_le hx hb dX6_live_449 (tgt := 459) (by decide) (fun hc => ?_) (fun hc => ?_)
  · have hf := if_t hc hf
    refine lv_aload_n hx hb dX6_live_459 rfl (lv_at hl 0 rfl) ?_
    refine gt_RX6_176 X h (hks 29 (by decide)) dX6_live_460 ?_
    obtain ⟨t9, et9, hf⟩ := nm_s hf
    refine pt_RX6_176 X h (hks 29 (by decide)) dX6_live_463 (fun H locs h => ?_)
    have h := fb_H.nm et9 h
    refine lv_iinc hx hb dX6_live_466 hl (k := 4) rfl (kinc_1 _) (by decide) (lv' := [(4, .int (v4 + 1)), (0, .ref (g.1 29)), (1, .int v1), (2, .int v2), (3, .int v3)]) rfl (fun ls hl => ?_)
    refine lv_goto hx hb dX6_live_469 (tgt := 87) (by decide) ?_
    exact hk87 v1 v2 v3 (v4 + 1) t9 _ _ _ h (lv_sub hl [1, 2, 3, 4, 0] rfl) hf
  · have hf := if_f hc hf
    refine lv_aload_n hx hb dX6_live_452 rfl (lv_at hl 0 rfl) ?_
    refine gt_RX6_173 X h (hks 29 (by decide)) dX6_live_453 ?_
    refine lv_goto hx hb dX6_live_456 (tgt := 463) (by decide) ?_
    obtain ⟨t10, et10, hf⟩ := nm_s hf
    refine pt_RX6_176 X h (hks 29 (by decide)) dX6_live_463 (fun H locs h => ?_)
    have h := fb_H.nm et10 h
    refine lv_iinc hx hb dX6_live_466 hl (k := 4) rfl (kinc_1 _) (by decide) (lv' := [(4, .int (v4 + 1)), (0, .ref (g.1 29)), (1, .int v1), (2, .int v2), (3, .int v3)]) rfl (fun ls hl => ?_)
    refine lv_goto hx hb dX6_live_469 (tgt := 87) (by decide) ?_
    exact hk87 v1 v2 v3 (v4 + 1) t10 _ _ _ h (lv_sub hl [1, 2, 3, 4, 0] rfl) hf
set_option maxHeartbeats 4000000 in
set_option maxRecDepth 100000 in
theorem w_X6_live_L372 (X : fb_X p m c cX6_live 9 s args RX6 g ks (fb_A g ks)) (hks : ∀ k ∈ ([29, 32, 33, 34, 35, 36, 37, 38, 41, 43, 44, 45, 46] : List Nat), k ∈ ks) (hr : meth.sig.returnType = none) (hlk : meth.locks = false) (N : Nat) (k87 : Int32 → Int32 → Int32 → Int32 → fb_S → Option fb_S)  {res : fb_S} (hk87 : ∀ (v1 : Int32) (v2 : Int32) (v3 : Int32) (v4 : Int32) (σ : fb_S) (H : Heap) (locs : List Loc) (ls : Array Slot), fb_H g ks (fb_A g ks) s.heap σ H locs → lv_has ls 9 [(0, .ref (g.1 29)), (1, .int v1), (2, .int v2), (3, .int v3), (4, .int v4)] → k87 v1 v2 v3 v4 σ = some res → W p l e (fb_R 3 66) s m args below meth c H locs 0 0 (MQ below (fb_Qv g ks res) args s 0 0 (fb_A g ks)) (F0 m 87 ls [])) : ∀ (v1 : Int32) (v2 : Int32) (v3 : Int32) (v4 : Int32) (σ : fb_S) (H : Heap) (locs : List Loc) (ls : Array Slot), fb_H g ks (fb_A g ks) s.heap σ H locs → lv_has ls 9 [(0, .ref (g.1 29)), (1, .int v1), (2, .int v2), (3, .int v3), (4, .int v4)] → f_X6_live_L372 N k87 v1 v2 v3 v4 σ = some res → W p l e (fb_R 3 66) s m args below meth c H locs 0 0 (MQ below (fb_Qv g ks res) args s 0 0 (fb_A g ks)) (F0 m 372 ls []) := by
  have hx := X.1.1
  have hb := X.1.2.1
  intro v1 v2 v3 v4 σ H locs ls h hl hf
  unfold f_X6_live_L372 at hf
  refine lv_aload_n hx hb dX6_live_372 rfl (lv_at hl 0 rfl) ?_
  refine gt_RX6_63 X h (hks 29 (by decide)) dX6_live_373 ?_
  refine lv_iload hx hb dX6_live_376 (lv_at hl 4 rfl) ?_
  refine lv_aload_n hx hb dX6_live_378 rfl (lv_at hl 0 rfl) ?_
  obtain ⟨q11, hq11, hf⟩ := bd_s hf
  refine fb_ci X h (fb_runV (As := []) (rest := [.int v4, .ref (g.1 46)]) (k := 29) X h (c_X6_onBridge l X.2.2.1 (fun k hk => hks k ((by decide : ∀ k ∈ ([29, 43, 45] : List Nat), k ∈ ([29, 32, 33, 34, 35, 36, 37, 38, 41, 43, 44, 45, 46] : List Nat)) k hk)) N σ hq11) mf_yX6_onBridge lm_RX6_182 (hks 29 (by decide)) rfl rfl ⟨Nat.le_of_ble_eq_true rfl, Nat.le_of_ble_eq_true rfl⟩ ⟨Nat.le_refl _, Nat.le_refl _⟩ rfl hl.1 rfl (Nat.le_of_ble_eq_true rfl) dX6_live_379) (fun H locs h => ?_)
  obtain ⟨hi0, hf⟩ := ck_s hf
  obtain ⟨t12, et12, hf⟩ := nm_s hf
  refine fb_iast X h (hks 46 (by decide)) (fun _ => rfl) hi0 dX6_live_382 (fun H locs h => ?_)
  have h := fb_H.nm et12 h
  refine lv_aload_n hx hb dX6_live_383 rfl (lv_at hl 0 rfl) ?_
  refine lv_aload_n hx hb dX6_live_384 rfl (lv_at hl 0 rfl) ?_
  refine gt_RX6_63 X h (hks 29 (by decide)) dX6_live_385 ?_
  refine lv_iload hx hb dX6_live_388 (lv_at hl 4 rfl) ?_
  obtain ⟨hi0, hf⟩ := ck_s hf
  refine fb_iald X h (hks 46 (by decide)) rfl hi0 dX6_live_390 ?_
  refine lv_aload_n hx hb dX6_live_391 rfl (lv_at hl 0 rfl) ?_
  refine gt_RX6_179 X h (hks 29 (by decide)) dX6_live_392 ?_
  refine lv_icmp_le hx hb dX6_live_395 (tgt := 408) (by decide) (fun hc => ?_) (fun hc => ?_)
  · have hf := if_t hc hf
    refine lv_aload_n hx hb dX6_live_408 rfl (lv_at hl 0 rfl) ?_
    refine gt_RX6_179 X h (hks 29 (by decide)) dX6_live_409 ?_
    exact w_X6_live_L412 X hks hr hlk N k87 hk87 v1 v2 v3 v4 (t12.1 29 29) t12 _ _ _ h (lv_sub hl [0, 1, 2, 3, 4] rfl) hf
  · have hf := if_f hc hf
    refine lv_aload_n hx hb dX6_live_398 rfl (lv_at hl 0 rfl) ?_
    refine gt_RX6_63 X h (hks 29 (by decide)) dX6_live_399 ?_
    refine lv_iload hx hb dX6_live_402 (lv_at hl 4 rfl) ?_
    obtain ⟨hi0, hf⟩ := ck_s hf
    refine fb_iald X h (hks 46 (by decide)) rfl hi0 dX6_live_404 ?_
    refine lv_goto hx hb dX6_live_405 (tgt := 412) (by decide) ?_
    exact w_X6_live_L412 X hks hr hlk N k87 hk87 v1 v2 v3 v4 (t12.1 46 v4.toNatClampNeg) t12 _ _ _ h (lv_sub hl [0, 1, 2, 3, 4] rfl) hf
set_option maxHeartbeats 4000000 in
set_option maxRecDepth 100000 in
theorem w_X6_live_L328 (X : fb_X p m c cX6_live 9 s args RX6 g ks (fb_A g ks)) (hks : ∀ k ∈ ([29, 32, 33, 34, 35, 36, 37, 38, 41, 43, 44, 45, 46] : List Nat), k ∈ ks) (hr : meth.sig.returnType = none) (hlk : meth.locks = false) (N : Nat) (k87 : Int32 → Int32 → Int32 → Int32 → fb_S → Option fb_S)  {res : fb_S} (hk87 : ∀ (v1 : Int32) (v2 : Int32) (v3 : Int32) (v4 : Int32) (σ : fb_S) (H : Heap) (locs : List Loc) (ls : Array Slot), fb_H g ks (fb_A g ks) s.heap σ H locs → lv_has ls 9 [(0, .ref (g.1 29)), (1, .int v1), (2, .int v2), (3, .int v3), (4, .int v4)] → k87 v1 v2 v3 v4 σ = some res → W p l e (fb_R 3 66) s m args below meth c H locs 0 0 (MQ below (fb_Qv g ks res) args s 0 0 (fb_A g ks)) (F0 m 87 ls [])) : ∀ (v1 : Int32) (v2 : Int32) (v3 : Int32) (v4 : Int32) (s0 : Int32) (σ : fb_S) (H : Heap) (locs : List Loc) (ls : Array Slot), fb_H g ks (fb_A g ks) s.heap σ H locs → lv_has ls 9 [(0, .ref (g.1 29)), (1, .int v1), (2, .int v2), (3, .int v3), (4, .int v4)] → f_X6_live_L328 N k87 v1 v2 v3 v4 s0 σ = some res → W p l e (fb_R 3 66) s m args below meth c H locs 0 0 (MQ below (fb_Qv g ks res) args s 0 0 (fb_A g ks)) (F0 m 328 ls [.int s0]) := by
  have hx := X.1.1
  have hb := X.1.2.1
  intro v1 v2 v3 v4 s0 σ H locs ls h hl hf
  unfold f_X6_live_L328 at hf
  refine lv_istore hx hb dX6_live_328 hl (by decide) (lv' := [(7, .int s0), (0, .ref (g.1 29)), (1, .int v1), (2, .int v2), (3, .int v3), (4, .int v4)]) rfl (fun ls hl => ?_)
  refine lv_aload_n hx hb dX6_live_330 rfl (lv_at hl 1 rfl) ?_
  refine gt_RX6_170 X h (hks 29 (by decide)) dX6_live_331 ?_
  refine lv_aload_n hx hb dX6_live_334 rfl (lv_at hl 1 rfl) ?_
  refine gt_RX6_54 X h (hks 29 (by decide)) dX6_live_335 ?_
  refine lv_iconst hx hb dX6_live_338 ki_3 ?_
  refine fb_ialdL X h (hks 43 (by decide)) rfl (by decide) kn_3 dX6_live_339 ?_
  obtain ⟨q13, hq13, hf⟩ := bd_s hf
  refine fb_ci X h (fb_runS (As := [.int (σ.1 29 26), .int (σ.1 43 3)]) (rest := []) X h (c_X6_lesser l X.2.2.1 (fun k hk => absurd hk List.not_mem_nil) (σ.1 29 26) (σ.1 43 3) σ hq13) mf_yX6_lesser lm_RX6_119 ⟨Nat.le_of_ble_eq_true rfl, Nat.le_of_ble_eq_true rfl⟩ ⟨Nat.le_refl _, Nat.le_refl _⟩ rfl hl.1 rfl (Nat.le_of_ble_eq_true rfl) dX6_live_340) (fun H locs h => ?_)
  refine lv_iload hx hb dX6_live_343 (lv_at hl 0 rfl) ?_
  obtain ⟨q14, hq14, hf⟩ := bd_s hf
  refine fb_ci X h (fb_runS (As := [.int q13, .int s0]) (rest := []) X h (c_X6_lesser l X.2.2.1 (fun k hk => absurd hk List.not_mem_nil) q13 s0 σ hq14) mf_yX6_lesser lm_RX6_119 ⟨Nat.le_of_ble_eq_true rfl, Nat.le_of_ble_eq_true rfl⟩ ⟨Nat.le_refl _, Nat.le_refl _⟩ rfl hl.1 rfl (Nat.le_of_ble_eq_true rfl) dX6_live_345) (fun H locs h => ?_)
  refine lv_istore hx hb dX6_live_348 hl (by decide) (lv' := [(8, .int q14), (7, .int s0), (0, .ref (g.1 29)), (1, .int v1), (2, .int v2), (3, .int v3), (4, .int v4)]) rfl (fun ls hl => ?_)
  refine lv_aload_n hx hb dX6_live_350 rfl (lv_at hl 2 rfl) ?_
  refine lv_dup hx hb dX6_live_351 rfl ?_
  refine gt_RX6_170 X h (hks 29 (by decide)) dX6_live_352 ?_
  refine lv_iload hx hb dX6_live_355 (lv_at hl 0 rfl) ?_
  refine lv_isub hx hb dX6_live_357 ?_
  obtain ⟨t15, et15, hf⟩ := nm_s hf
  refine pt_RX6_170 X h (hks 29 (by decide)) dX6_live_358 (fun H locs h => ?_)
  have h := fb_H.nm et15 h
  refine lv_aload_n hx hb dX6_live_361 rfl (lv_at hl 2 rfl) ?_
  refine gt_RX6_60 X h (hks 29 (by decide)) dX6_live_362 ?_
  refine lv_iconst hx hb dX6_live_365 ki_0 ?_
  refine lv_dup2_11 hx hb dX6_live_366 rfl rfl ?_
  refine fb_ialdL X h (hks 45 (by decide)) rfl (by decide) kn_0 dX6_live_367 ?_
  refine lv_iload hx hb dX6_live_368 (lv_at hl 0 rfl) ?_
  refine lv_iadd hx hb dX6_live_370 ?_
  obtain ⟨t16, et16, hf⟩ := nm_s hf
  refine fb_iastL X h (hks 45 (by decide)) (fun _ => rfl) (by decide) kn_0 dX6_live_371 (fun H locs h => ?_)
  have h := fb_H.nm et16 h
  exact w_X6_live_L372 X hks hr hlk N k87 hk87 v1 v2 v3 v4 t16 _ _ _ h (lv_sub hl [2, 3, 4, 5, 6] rfl) hf
set_option maxHeartbeats 4000000 in
set_option maxRecDepth 100000 in
theorem w_X6_live_L287 (X : fb_X p m c cX6_live 9 s args RX6 g ks (fb_A g ks)) (hks : ∀ k ∈ ([29, 32, 33, 34, 35, 36, 37, 38, 41, 43, 44, 45, 46] : List Nat), k ∈ ks) (hr : meth.sig.returnType = none) (hlk : meth.locks = false) (N : Nat) (k87 : Int32 → Int32 → Int32 → Int32 → fb_S → Option fb_S)  {res : fb_S} (hk87 : ∀ (v1 : Int32) (v2 : Int32) (v3 : Int32) (v4 : Int32) (σ : fb_S) (H : Heap) (locs : List Loc) (ls : Array Slot), fb_H g ks (fb_A g ks) s.heap σ H locs → lv_has ls 9 [(0, .ref (g.1 29)), (1, .int v1), (2, .int v2), (3, .int v3), (4, .int v4)] → k87 v1 v2 v3 v4 σ = some res → W p l e (fb_R 3 66) s m args below meth c H locs 0 0 (MQ below (fb_Qv g ks res) args s 0 0 (fb_A g ks)) (F0 m 87 ls [])) : ∀ (v1 : Int32) (v2 : Int32) (v3 : Int32) (v4 : Int32) (s0 : Int32) (σ : fb_S) (H : Heap) (locs : List Loc) (ls : Array Slot), fb_H g ks (fb_A g ks) s.heap σ H locs → lv_has ls 9 [(0, .ref (g.1 29)), (1, .int v1), (2, .int v2), (3, .int v3), (4, .int v4)] → f_X6_live_L287 N k87 v1 v2 v3 v4 s0 σ = some res → W p l e (fb_R 3 66) s m args below meth c H locs 0 0 (MQ below (fb_Qv g ks res) args s 0 0 (fb_A g ks)) (F0 m 287 ls [.int s0]) := by
  have hx := X.1.1
  have hb := X.1.2.1
  intro v1 v2 v3 v4 s0 σ H locs ls h hl hf
  unfold f_X6_live_L287 at hf
  refine lv_istore hx hb dX6_live_287 hl (by decide) (lv' := [(6, .int s0), (0, .ref (g.1 29)), (1, .int v1), (2, .int v2), (3, .int v3), (4, .int v4)]) rfl (fun ls hl => ?_)
  refine lv_iload hx hb dX6_live_289 (lv_at hl 0 rfl) ?_
  refine lv_iload_n hx hb dX6_live_291 rfl (lv_at hl 3 rfl) ?_
  refine lv_icmp_ge hx hb dX6_live_292 (tgt := 372) (by decide) (fun hc => ?_) (fun hc => ?_)
  · have hf := if_t hc hf
    exact w_X6_live_L372 X hks hr hlk N k87 hk87 v1 v2 v3 v4 σ _ _ _ h (lv_sub hl [1, 2, 3, 4, 5] rfl) hf
  · have hf := if_f hc hf
    refine lv_aload_n hx hb dX6_live_295 rfl (lv_at hl 1 rfl) ?_
    refine gt_RX6_54 X h (hks 29 (by decide)) dX6_live_296 ?_
    refine lv_iconst hx hb dX6_live_299 ki_1 ?_
    refine fb_ialdL X h (hks 43 (by decide)) rfl (by decide) kn_1 dX6_live_300 ?_
    refine lv_aload_n hx hb dX6_live_301 rfl (lv_at hl 1 rfl) ?_
    refine gt_RX6_60 X h (hks 29 (by decide)) dX6_live_302 ?_
    refine lv_iconst hx hb dX6_live_305 ki_0 ?_
    refine fb_ialdL X h (hks 45 (by decide)) rfl (by decide) kn_0 dX6_live_306 ?_
    refine lv_isub hx hb dX6_live_307 ?_
    refine lv_if_le hx hb dX6_live_308 (tgt := 327) (by decide) (fun hc => ?_) (fun hc => ?_)
    · have hf := if_t hc hf
      refine lv_iconst hx hb dX6_live_327 ki_0 ?_
      exact w_X6_live_L328 X hks hr hlk N k87 hk87 v1 v2 v3 v4 (0 : Int32) σ _ _ _ h (lv_sub hl [1, 2, 3, 4, 5] rfl) hf
    · have hf := if_f hc hf
      refine lv_aload_n hx hb dX6_live_311 rfl (lv_at hl 1 rfl) ?_
      refine gt_RX6_54 X h (hks 29 (by decide)) dX6_live_312 ?_
      refine lv_iconst hx hb dX6_live_315 ki_1 ?_
      refine fb_ialdL X h (hks 43 (by decide)) rfl (by decide) kn_1 dX6_live_316 ?_
      refine lv_aload_n hx hb dX6_live_317 rfl (lv_at hl 1 rfl) ?_
      refine gt_RX6_60 X h (hks 29 (by decide)) dX6_live_318 ?_
      refine lv_iconst hx hb dX6_live_321 ki_0 ?_
      refine fb_ialdL X h (hks 45 (by decide)) rfl (by decide) kn_0 dX6_live_322 ?_
      refine lv_isub hx hb dX6_live_323 ?_
      refine lv_goto hx hb dX6_live_324 (tgt := 328) (by decide) ?_
      exact w_X6_live_L328 X hks hr hlk N k87 hk87 v1 v2 v3 v4 ((σ.1 43 1) - (σ.1 45 0)) σ _ _ _ h (lv_sub hl [1, 2, 3, 4, 5] rfl) hf
set_option maxHeartbeats 4000000 in
set_option maxRecDepth 100000 in
theorem w_X6_live_L112 (X : fb_X p m c cX6_live 9 s args RX6 g ks (fb_A g ks)) (hks : ∀ k ∈ ([29, 32, 33, 34, 35, 36, 37, 38, 41, 43, 44, 45, 46] : List Nat), k ∈ ks) (hr : meth.sig.returnType = none) (hlk : meth.locks = false) (N : Nat) (k87 : Int32 → Int32 → Int32 → Int32 → fb_S → Option fb_S)  {res : fb_S} (hk87 : ∀ (v1 : Int32) (v2 : Int32) (v3 : Int32) (v4 : Int32) (σ : fb_S) (H : Heap) (locs : List Loc) (ls : Array Slot), fb_H g ks (fb_A g ks) s.heap σ H locs → lv_has ls 9 [(0, .ref (g.1 29)), (1, .int v1), (2, .int v2), (3, .int v3), (4, .int v4)] → k87 v1 v2 v3 v4 σ = some res → W p l e (fb_R 3 66) s m args below meth c H locs 0 0 (MQ below (fb_Qv g ks res) args s 0 0 (fb_A g ks)) (F0 m 87 ls [])) : ∀ (n : Nat) (v1 : Int32) (v2 : Int32) (v3 : Int32) (v4 : Int32) (v5 : Int32) (σ : fb_S) (H : Heap) (locs : List Loc) (ls : Array Slot), fb_H g ks (fb_A g ks) s.heap σ H locs → lv_has ls 9 [(0, .ref (g.1 29)), (1, .int v1), (2, .int v2), (3, .int v3), (4, .int v4), (5, .int v5)] → f_X6_live_L112 N k87 n v1 v2 v3 v4 v5 σ = some res → W p l e (fb_R 3 66) s m args below meth c H locs 0 0 (MQ below (fb_Qv g ks res) args s 0 0 (fb_A g ks)) (F0 m 112 ls []) := by
  have hx := X.1.1
  have hb := X.1.2.1
  intro n
  induction n with
  | zero => intro v1 v2 v3 v4 v5 σ H locs ls h hl hf; cases hf
  | succ n ih =>
    intro v1 v2 v3 v4 v5 σ H locs ls h hl hf
    unfold f_X6_live_L112 at hf
    refine lv_iload hx hb dX6_live_112 (lv_at hl 5 rfl) ?_
    refine lv_if_lt hx hb dX6_live_114 (tgt := 244) (by decide) (fun hc => ?_) (fun hc => ?_)
    · have hf := if_t hc hf
      refine lv_iload hx hb dX6_live_244 (lv_at hl 4 rfl) ?_
      refine lv_aload_n hx hb dX6_live_246 rfl (lv_at hl 0 rfl) ?_
      refine gt_RX6_54 X h (hks 29 (by decide)) dX6_live_247 ?_
      refine lv_iconst hx hb dX6_live_250 ki_5 ?_
      refine fb_ialdL X h (hks 43 (by decide)) rfl (by decide) kn_5 dX6_live_251 ?_
      refine lv_isub hx hb dX6_live_252 ?_
      obtain ⟨x17, ex17, hf⟩ := nm_s hf
      refine fb_topi ex17 ?_
      refine lv_istore hx hb dX6_live_253 hl (by decide) (lv' := [(5, .int x17), (0, .ref (g.1 29)), (1, .int v1), (2, .int v2), (3, .int v3), (4, .int v4)]) rfl (fun ls hl => ?_)
      refine lv_aload_n hx hb dX6_live_255 rfl (lv_at hl 1 rfl) ?_
      refine gt_RX6_54 X h (hks 29 (by decide)) dX6_live_256 ?_
      refine lv_iconst hx hb dX6_live_259 ki_5 ?_
      refine fb_ialdL X h (hks 43 (by decide)) rfl (by decide) kn_5 dX6_live_260 ?_
      refine lv_if_ne hx hb dX6_live_261 (tgt := 271) (by decide) (fun hc => ?_) (fun hc => ?_)
      · have hf := if_f hc hf
        refine lv_iload hx hb dX6_live_271 (lv_at hl 0 rfl) ?_
        refine lv_if_ge hx hb dX6_live_273 (tgt := 280) (by decide) (fun hc => ?_) (fun hc => ?_)
        · have hf := if_t hc hf
          refine lv_aload_n hx hb dX6_live_280 rfl (lv_at hl 1 rfl) ?_
          refine gt_RX6_63 X h (hks 29 (by decide)) dX6_live_281 ?_
          refine lv_iload hx hb dX6_live_284 (lv_at hl 0 rfl) ?_
          obtain ⟨hi0, hf⟩ := ck_s hf
          refine fb_iald X h (hks 46 (by decide)) rfl hi0 dX6_live_286 ?_
          exact w_X6_live_L287 X hks hr hlk N k87 hk87 v1 v2 v3 v4 (σ.1 46 x17.toNatClampNeg) σ _ _ _ h (lv_sub hl [1, 2, 3, 4, 5] rfl) hf
        · have hf := if_f hc hf
          refine lv_iconst hx hb dX6_live_276 ki_0 ?_
          refine lv_goto hx hb dX6_live_277 (tgt := 287) (by decide) ?_
          exact w_X6_live_L287 X hks hr hlk N k87 hk87 v1 v2 v3 v4 (0 : Int32) σ _ _ _ h (lv_sub hl [1, 2, 3, 4, 5] rfl) hf
      · have hf := if_t hc hf
        refine lv_aload_n hx hb dX6_live_264 rfl (lv_at hl 1 rfl) ?_
        obtain ⟨q18, hq18, hf⟩ := bd_s hf
        refine fb_ci X h (fb_runV (As := []) (rest := []) (k := 29) X h (c_X6_onBridge l X.2.2.1 (fun k hk => hks k ((by decide : ∀ k ∈ ([29, 43, 45] : List Nat), k ∈ ([29, 32, 33, 34, 35, 36, 37, 38, 41, 43, 44, 45, 46] : List Nat)) k hk)) N σ hq18) mf_yX6_onBridge lm_RX6_182 (hks 29 (by decide)) rfl rfl ⟨Nat.le_of_ble_eq_true rfl, Nat.le_of_ble_eq_true rfl⟩ ⟨Nat.le_refl _, Nat.le_refl _⟩ rfl hl.1 rfl (Nat.le_of_ble_eq_true rfl) dX6_live_265) (fun H locs h => ?_)
        refine lv_goto hx hb dX6_live_268 (tgt := 287) (by decide) ?_
        exact w_X6_live_L287 X hks hr hlk N k87 hk87 v1 v2 v3 v4 q18 σ _ _ _ h (lv_sub hl [1, 2, 3, 4, 5] rfl) hf
    · have hf := if_f hc hf
      refine lv_aload_n hx hb dX6_live_117 rfl (lv_at hl 0 rfl) ?_
      refine gt_RX6_60 X h (hks 29 (by decide)) dX6_live_118 ?_
      refine lv_iload hx hb dX6_live_121 (lv_at hl 5 rfl) ?_
      obtain ⟨hi0, hf⟩ := ck_s hf
      refine fb_iald X h (hks 45 (by decide)) rfl hi0 dX6_live_123 ?_
      refine lv_aload_n hx hb dX6_live_124 rfl (lv_at hl 0 rfl) ?_
      refine gt_RX6_54 X h (hks 29 (by decide)) dX6_live_125 ?_
      refine lv_iconst hx hb dX6_live_128 ki_2 ?_
      refine fb_ialdL X h (hks 43 (by decide)) rfl (by decide) kn_2 dX6_live_129 ?_
      obtain ⟨q19, hq19, hf⟩ := bd_s hf
      refine fb_ci X h (fb_runS (As := [.int (σ.1 45 v5.toNatClampNeg), .int (σ.1 43 2)]) (rest := []) X h (c_X6_lesser l X.2.2.1 (fun k hk => absurd hk List.not_mem_nil) (σ.1 45 v5.toNatClampNeg) (σ.1 43 2) σ hq19) mf_yX6_lesser lm_RX6_119 ⟨Nat.le_of_ble_eq_true rfl, Nat.le_of_ble_eq_true rfl⟩ ⟨Nat.le_refl _, Nat.le_refl _⟩ rfl hl.1 rfl (Nat.le_of_ble_eq_true rfl) dX6_live_130) (fun H locs h => ?_)
      refine lv_istore hx hb dX6_live_133 hl (by decide) (lv' := [(6, .int q19), (0, .ref (g.1 29)), (1, .int v1), (2, .int v2), (3, .int v3), (4, .int v4), (5, .int v5)]) rfl (fun ls hl => ?_)
      refine lv_iload hx hb dX6_live_135 (lv_at hl 6 rfl) ?_
      refine lv_iload_n hx hb dX6_live_137 rfl (lv_at hl 4 rfl) ?_
      refine lv_icmp_ne hx hb dX6_live_138 (tgt := 146) (by decide) (fun hc => ?_) (fun hc => ?_)
      · have hf := if_f hc hf
        refine lv_iload hx hb dX6_live_146 (lv_at hl 0 rfl) ?_
        refine lv_aload_n hx hb dX6_live_148 rfl (lv_at hl 1 rfl) ?_
        refine gt_RX6_54 X h (hks 29 (by decide)) dX6_live_149 ?_
        refine lv_iconst hx hb dX6_live_152 ki_1 ?_
        refine fb_ialdL X h (hks 43 (by decide)) rfl (by decide) kn_1 dX6_live_153 ?_
        refine lv_aload_n hx hb dX6_live_154 rfl (lv_at hl 1 rfl) ?_
        refine gt_RX6_60 X h (hks 29 (by decide)) dX6_live_155 ?_
        refine lv_iload hx hb dX6_live_158 (lv_at hl 6 rfl) ?_
        refine lv_iconst hx hb dX6_live_160 ki_1 ?_
        refine lv_iadd hx hb dX6_live_161 ?_
        obtain ⟨hi0, hf⟩ := ck_s hf
        refine fb_iald X h (hks 45 (by decide)) rfl hi0 dX6_live_162 ?_
        refine lv_isub hx hb dX6_live_163 ?_
        refine lv_if_le hx hb dX6_live_164 (tgt := 186) (by decide) (fun hc => ?_) (fun hc => ?_)
        · have hf := if_t hc hf
          refine lv_iconst hx hb dX6_live_186 ki_0 ?_
          exact w_X6_live_L187 X hks hr hlk N k87 (f_X6_live_L112 N k87 n) hk87 ih v1 v2 v3 v4 v5 q19 (0 : Int32) σ _ _ _ h (lv_sub hl [1, 2, 3, 4, 5, 6] rfl) hf
        · have hf := if_f hc hf
          refine lv_aload_n hx hb dX6_live_167 rfl (lv_at hl 1 rfl) ?_
          refine gt_RX6_54 X h (hks 29 (by decide)) dX6_live_168 ?_
          refine lv_iconst hx hb dX6_live_171 ki_1 ?_
          refine fb_ialdL X h (hks 43 (by decide)) rfl (by decide) kn_1 dX6_live_172 ?_
          refine lv_aload_n hx hb dX6_live_173 rfl (lv_at hl 1 rfl) ?_
          refine gt_RX6_60 X h (hks 29 (by decide)) dX6_live_174 ?_
          refine lv_iload hx hb dX6_live_177 (lv_at hl 6 rfl) ?_
          refine lv_iconst hx hb dX6_live_179 ki_1 ?_
          refine lv_iadd hx hb dX6_live_180 ?_
          obtain ⟨hi0, hf⟩ := ck_s hf
          refine fb_iald X h (hks 45 (by decide)) rfl hi0 dX6_live_181 ?_
          refine lv_isub hx hb dX6_live_182 ?_
          refine lv_goto hx hb dX6_live_183 (tgt := 187) (by decide) ?_
          exact w_X6_live_L187 X hks hr hlk N k87 (f_X6_live_L112 N k87 n) hk87 ih v1 v2 v3 v4 v5 q19 ((σ.1 43 1) - (σ.1 45 (v5 + (1 : Int32)).toNatClampNeg)) σ _ _ _ h (lv_sub hl [1, 2, 3, 4, 5, 6] rfl) hf
      · have hf := if_t hc hf
        refine lv_iload hx hb dX6_live_141 (lv_at hl 0 rfl) ?_
        refine lv_goto hx hb dX6_live_143 (tgt := 190) (by decide) ?_
        exact w_X6_live_L190 X hks hr hlk N k87 (f_X6_live_L112 N k87 n) hk87 ih v1 v2 v3 v4 v5 q19 σ _ _ _ h (lv_sub hl [1, 2, 3, 4, 5, 6] rfl) hf
set_option maxHeartbeats 4000000 in
set_option maxRecDepth 100000 in
theorem w_X6_live_L87 (X : fb_X p m c cX6_live 9 s args RX6 g ks (fb_A g ks)) (hks : ∀ k ∈ ([29, 32, 33, 34, 35, 36, 37, 38, 41, 43, 44, 45, 46] : List Nat), k ∈ ks) (hr : meth.sig.returnType = none) (hlk : meth.locks = false) (N : Nat)  {res : fb_S} : ∀ (n : Nat) (v1 : Int32) (v2 : Int32) (v3 : Int32) (v4 : Int32) (σ : fb_S) (H : Heap) (locs : List Loc) (ls : Array Slot), fb_H g ks (fb_A g ks) s.heap σ H locs → lv_has ls 9 [(0, .ref (g.1 29)), (1, .int v1), (2, .int v2), (3, .int v3), (4, .int v4)] → f_X6_live_L87 N n v1 v2 v3 v4 σ = some res → W p l e (fb_R 3 66) s m args below meth c H locs 0 0 (MQ below (fb_Qv g ks res) args s 0 0 (fb_A g ks)) (F0 m 87 ls []) := by
  have hx := X.1.1
  have hb := X.1.2.1
  intro n
  induction n with
  | zero => intro v1 v2 v3 v4 σ H locs ls h hl hf; cases hf
  | succ n ih =>
    intro v1 v2 v3 v4 σ H locs ls h hl hf
    unfold f_X6_live_L87 at hf
    refine lv_iload hx hb dX6_live_87 (lv_at hl 4 rfl) ?_
    refine lv_iload_n hx hb dX6_live_89 rfl (lv_at hl 1 rfl) ?_
    refine lv_icmp_ge hx hb dX6_live_90 (tgt := 472) (by decide) (fun hc => ?_) (fun hc => ?_)
    · have hf := if_t hc hf
      have e9 := Option.some.inj hf
      subst e9
      exact fb_vr X h hr hlk dX6_live_472
    · have hf := if_f hc hf
      refine lv_aload_n hx hb dX6_live_93 rfl (lv_at hl 0 rfl) ?_
      refine lv_dup hx hb dX6_live_94 rfl ?_
      refine gt_RX6_170 X h (hks 29 (by decide)) dX6_live_95 ?_
      refine lv_aload_n hx hb dX6_live_98 rfl (lv_at hl 0 rfl) ?_
      refine gt_RX6_57 X h (hks 29 (by decide)) dX6_live_99 ?_
      refine lv_iload hx hb dX6_live_102 (lv_at hl 4 rfl) ?_
      obtain ⟨hi0, hf⟩ := ck_s hf
      refine fb_iald X h (hks 44 (by decide)) rfl hi0 dX6_live_104 ?_
      refine lv_iadd hx hb dX6_live_105 ?_
      obtain ⟨t20, et20, hf⟩ := nm_s hf
      refine pt_RX6_170 X h (hks 29 (by decide)) dX6_live_106 (fun H locs h => ?_)
      have h := fb_H.nm et20 h
      refine lv_iload_n hx hb dX6_live_109 rfl (lv_at hl 3 rfl) ?_
      refine lv_istore hx hb dX6_live_110 hl (by decide) (lv' := [(5, .int v3), (0, .ref (g.1 29)), (1, .int v1), (2, .int v2), (3, .int v3), (4, .int v4)]) rfl (fun ls hl => ?_)
      exact w_X6_live_L112 X hks hr hlk N (f_X6_live_L87 N n) ih N v1 v2 v3 v4 v3 t20 _ _ _ h (lv_sub hl [1, 2, 3, 4, 5, 0] rfl) hf
set_option maxHeartbeats 4000000 in
set_option maxRecDepth 100000 in
theorem w_X6_live_L57 (X : fb_X p m c cX6_live 9 s args RX6 g ks (fb_A g ks)) (hks : ∀ k ∈ ([29, 32, 33, 34, 35, 36, 37, 38, 41, 43, 44, 45, 46] : List Nat), k ∈ ks) (hr : meth.sig.returnType = none) (hlk : meth.locks = false) (N : Nat)  {res : fb_S} : ∀ (n : Nat) (v1 : Int32) (v2 : Int32) (v3 : Int32) (σ : fb_S) (H : Heap) (locs : List Loc) (ls : Array Slot), fb_H g ks (fb_A g ks) s.heap σ H locs → lv_has ls 9 [(0, .ref (g.1 29)), (1, .int v1), (2, .int v2), (3, .int v3)] → f_X6_live_L57 N n v1 v2 v3 σ = some res → W p l e (fb_R 3 66) s m args below meth c H locs 0 0 (MQ below (fb_Qv g ks res) args s 0 0 (fb_A g ks)) (F0 m 57 ls []) := by
  have hx := X.1.1
  have hb := X.1.2.1
  intro n
  induction n with
  | zero => intro v1 v2 v3 σ H locs ls h hl hf; cases hf
  | succ n ih =>
    intro v1 v2 v3 σ H locs ls h hl hf
    unfold f_X6_live_L57 at hf
    refine lv_iload_n hx hb dX6_live_57 rfl (lv_at hl 3 rfl) ?_
    refine lv_iconst hx hb dX6_live_58 ki_4 ?_
    refine lv_icmp_ge hx hb dX6_live_59 (tgt := 75) (by decide) (fun hc => ?_) (fun hc => ?_)
    · have hf := if_t hc hf
      refine lv_aload_n hx hb dX6_live_75 rfl (lv_at hl 0 rfl) ?_
      refine gt_RX6_54 X h (hks 29 (by decide)) dX6_live_76 ?_
      refine lv_iconst hx hb dX6_live_79 ki_0 ?_
      refine fb_ialdL X h (hks 43 (by decide)) rfl (by decide) kn_0 dX6_live_80 ?_
      refine lv_iconst hx hb dX6_live_81 ki_1 ?_
      refine lv_isub hx hb dX6_live_82 ?_
      obtain ⟨x21, ex21, hf⟩ := nm_s hf
      refine fb_topi ex21 ?_
      refine lv_istore_n hx hb dX6_live_83 rfl hl (by decide) (lv' := [(3, .int x21), (0, .ref (g.1 29)), (1, .int v1), (2, .int v2)]) rfl (fun ls hl => ?_)
      refine lv_iconst hx hb dX6_live_84 ki_0 ?_
      refine lv_istore hx hb dX6_live_85 hl (by decide) (lv' := [(4, .int (0)), (3, .int x21), (0, .ref (g.1 29)), (1, .int v1), (2, .int v2)]) rfl (fun ls hl => ?_)
      exact w_X6_live_L87 X hks hr hlk N N v1 v2 x21 (0 : Int32) σ _ _ _ h (lv_sub hl [2, 3, 4, 1, 0] rfl) hf
    · have hf := if_f hc hf
      refine lv_aload_n hx hb dX6_live_62 rfl (lv_at hl 0 rfl) ?_
      refine gt_RX6_32 X h (hks 29 (by decide)) dX6_live_63 ?_
      refine lv_iload_n hx hb dX6_live_66 rfl (lv_at hl 3 rfl) ?_
      refine lv_iconst hx hb dX6_live_67 ki_0 ?_
      obtain ⟨hi0, hf⟩ := ck_s hf
      obtain ⟨t22, et22, hf⟩ := nm_s hf
      refine fb_iast X h (hks 36 (by decide)) (fun _ => rfl) hi0 dX6_live_68 (fun H locs h => ?_)
      have h := fb_H.nm et22 h
      refine lv_iinc hx hb dX6_live_69 hl (k := 3) rfl (kinc_1 _) (by decide) (lv' := [(3, .int (v3 + 1)), (0, .ref (g.1 29)), (1, .int v1), (2, .int v2)]) rfl (fun ls hl => ?_)
      refine lv_goto hx hb dX6_live_72 (tgt := 57) (by decide) ?_
      exact ih v1 v2 (v3 + 1) t22 _ _ _ h (lv_sub hl [1, 2, 3, 0] rfl) hf
set_option maxHeartbeats 4000000 in
set_option maxRecDepth 100000 in
theorem w_X6_live_L36 (X : fb_X p m c cX6_live 9 s args RX6 g ks (fb_A g ks)) (hks : ∀ k ∈ ([29, 32, 33, 34, 35, 36, 37, 38, 41, 43, 44, 45, 46] : List Nat), k ∈ ks) (hr : meth.sig.returnType = none) (hlk : meth.locks = false) (N : Nat)  {res : fb_S} : ∀ (n : Nat) (v1 : Int32) (v2 : Int32) (v3 : Int32) (σ : fb_S) (H : Heap) (locs : List Loc) (ls : Array Slot), fb_H g ks (fb_A g ks) s.heap σ H locs → lv_has ls 9 [(0, .ref (g.1 29)), (1, .int v1), (2, .int v2), (3, .int v3)] → f_X6_live_L36 N n v1 v2 v3 σ = some res → W p l e (fb_R 3 66) s m args below meth c H locs 0 0 (MQ below (fb_Qv g ks res) args s 0 0 (fb_A g ks)) (F0 m 36 ls []) := by
  have hx := X.1.1
  have hb := X.1.2.1
  intro n
  induction n with
  | zero => intro v1 v2 v3 σ H locs ls h hl hf; cases hf
  | succ n ih =>
    intro v1 v2 v3 σ H locs ls h hl hf
    unfold f_X6_live_L36 at hf
    refine lv_iload_n hx hb dX6_live_36 rfl (lv_at hl 3 rfl) ?_
    refine lv_bipush hx hb dX6_live_37 kb_8 ?_
    refine lv_icmp_ge hx hb dX6_live_39 (tgt := 55) (by decide) (fun hc => ?_) (fun hc => ?_)
    · have hf := if_t hc hf
      refine lv_iconst hx hb dX6_live_55 ki_0 ?_
      refine lv_istore_n hx hb dX6_live_56 rfl hl (by decide) (lv' := [(3, .int (0)), (0, .ref (g.1 29)), (1, .int v1), (2, .int v2)]) rfl (fun ls hl => ?_)
      exact w_X6_live_L57 X hks hr hlk N N v1 v2 (0 : Int32) σ _ _ _ h (lv_sub hl [1, 2, 3, 0] rfl) hf
    · have hf := if_f hc hf
      refine lv_aload_n hx hb dX6_live_42 rfl (lv_at hl 0 rfl) ?_
      refine gt_RX6_60 X h (hks 29 (by decide)) dX6_live_43 ?_
      refine lv_iload_n hx hb dX6_live_46 rfl (lv_at hl 3 rfl) ?_
      refine lv_iconst hx hb dX6_live_47 ki_0 ?_
      obtain ⟨hi0, hf⟩ := ck_s hf
      obtain ⟨t23, et23, hf⟩ := nm_s hf
      refine fb_iast X h (hks 45 (by decide)) (fun _ => rfl) hi0 dX6_live_48 (fun H locs h => ?_)
      have h := fb_H.nm et23 h
      refine lv_iinc hx hb dX6_live_49 hl (k := 3) rfl (kinc_1 _) (by decide) (lv' := [(3, .int (v3 + 1)), (0, .ref (g.1 29)), (1, .int v1), (2, .int v2)]) rfl (fun ls hl => ?_)
      refine lv_goto hx hb dX6_live_52 (tgt := 36) (by decide) ?_
      exact ih v1 v2 (v3 + 1) t23 _ _ _ h (lv_sub hl [1, 2, 3, 0] rfl) hf
set_option maxHeartbeats 4000000 in
set_option maxRecDepth 100000 in
theorem c_X6_live (l : Launch) {g : fb_G} {ks : List Nat} (hI : fb_I g ks) (hks : ∀ k ∈ ([29, 32, 33, 34, 35, 36, 37, 38, 41, 43, 44, 45, 46] : List Nat), k ∈ ks) (N : Nat) (a1 : Int32) (a2 : Int32) (σ : fb_S) {res : fb_S} (hf : f_X6_live N a1 a2 σ = some res) : fb_M l yX6_live cX6_live 9 none 3 66 g ks [.ref (g.1 29), .int a1, .int a2] σ (fb_Qv g ks res) := by
  refine fb_met (by decide +kernel) hI (Nat.le_of_ble_eq_true rfl) (fun p e s m below meth c ls X h hr hlk hl => ?_)
  have X : fb_X p m c cX6_live 9 s _ RX6 g ks (fb_A g ks) := X
  have hl : lv_has ls 9 [(0, .ref (g.1 29)), (1, .int a1), (2, .int a2)] := hl
  have hx := X.1.1
  have hb := X.1.2.1
  unfold f_X6_live at hf
  refine lv_aload_n hx hb dX6_live_0 rfl (lv_at hl 0 rfl) ?_
  obtain ⟨q24, hq24, hf⟩ := bd_s hf
  refine fb_cv X h (fb_runV (As := []) (rest := []) (k := 29) X h (c_X6_asIs l X.2.2.1 (fun k hk => hks k ((by decide : ∀ k ∈ ([29, 35, 36, 38, 41] : List Nat), k ∈ ([29, 32, 33, 34, 35, 36, 37, 38, 41, 43, 44, 45, 46] : List Nat)) k hk)) N σ hq24) mf_yX6_asIs lm_RX6_130 (hks 29 (by decide)) rfl rfl ⟨Nat.le_of_ble_eq_true rfl, Nat.le_of_ble_eq_true rfl⟩ ⟨Nat.le_refl _, Nat.le_refl _⟩ rfl hl.1 rfl (Nat.le_of_ble_eq_true rfl) dX6_live_1) (fun H locs h => ?_)
  refine lv_aload_n hx hb dX6_live_4 rfl (lv_at hl 0 rfl) ?_
  refine lv_iconst hx hb dX6_live_5 ki_0 ?_
  obtain ⟨t25, et25, hf⟩ := nm_s hf
  refine pt_RX6_167 X h (hks 29 (by decide)) dX6_live_6 (fun H locs h => ?_)
  have h := fb_H.nm et25 h
  refine lv_aload_n hx hb dX6_live_9 rfl (lv_at hl 0 rfl) ?_
  refine lv_iconst hx hb dX6_live_10 ki_0 ?_
  obtain ⟨t26, et26, hf⟩ := nm_s hf
  refine pt_RX6_170 X h (hks 29 (by decide)) dX6_live_11 (fun H locs h => ?_)
  have h := fb_H.nm et26 h
  refine lv_aload_n hx hb dX6_live_14 rfl (lv_at hl 0 rfl) ?_
  refine lv_aload_n hx hb dX6_live_15 rfl (lv_at hl 0 rfl) ?_
  refine gt_RX6_35 X h (hks 29 (by decide)) dX6_live_16 ?_
  refine lv_iconst hx hb dX6_live_19 ki_1 ?_
  refine fb_ialdL X h (hks 37 (by decide)) rfl (by decide) kn_1 dX6_live_20 ?_
  obtain ⟨t27, et27, hf⟩ := nm_s hf
  refine pt_RX6_173 X h (hks 29 (by decide)) dX6_live_21 (fun H locs h => ?_)
  have h := fb_H.nm et27 h
  refine lv_aload_n hx hb dX6_live_24 rfl (lv_at hl 0 rfl) ?_
  refine lv_iconst hx hb dX6_live_25 ki_0 ?_
  obtain ⟨t28, et28, hf⟩ := nm_s hf
  refine pt_RX6_176 X h (hks 29 (by decide)) dX6_live_26 (fun H locs h => ?_)
  have h := fb_H.nm et28 h
  refine lv_aload_n hx hb dX6_live_29 rfl (lv_at hl 0 rfl) ?_
  refine lv_iconst hx hb dX6_live_30 ki_0 ?_
  obtain ⟨t29, et29, hf⟩ := nm_s hf
  refine pt_RX6_179 X h (hks 29 (by decide)) dX6_live_31 (fun H locs h => ?_)
  have h := fb_H.nm et29 h
  refine lv_iconst hx hb dX6_live_34 ki_0 ?_
  refine lv_istore_n hx hb dX6_live_35 rfl hl (by decide) (lv' := [(3, .int (0)), (0, .ref (g.1 29)), (1, .int a1), (2, .int a2)]) rfl (fun ls hl => ?_)
  exact w_X6_live_L36 X hks hr hlk N N a1 a2 (0 : Int32) t29 _ _ _ h (lv_sub hl [1, 2, 3, 0] rfl) hf
def f_X6_day (N : Nat) (a1 : Int32) (a2 : Int32) (σ : fb_S) : Option (Int32 × fb_S) :=
  nm_ (fb_up σ 29 0 (0 : Int32)) fun t1 =>
  (f_X6_in (a1.toInt64) (1 : Int64) (60 : Int64)).bind fun q2 =>
  if q2 = 0 then (
    some ((-2 : Int32), t1)
  ) else (
    (f_X6_in (a2.toInt64) (0 : Int64) (5 : Int64)).bind fun q3 =>
    if q3 = 0 then (
      some ((-2 : Int32), t1)
    ) else (
      (f_X6_live N a1 (t1.1 43 4) t1).bind fun q4 =>
      if a2 = 0 then (
        some (q4.1 29 25, q4)
      ) else (
        if a2 = 1 then (
          (f_X6_onBridge N q4).bind fun q5 =>
          some (q5, q4)
        ) else (
          if a2 = 2 then (
            some (q4.1 29 26, q4)
          ) else (
            if a2 = 3 then (
              some (q4.1 29 27, q4)
            ) else (
              if a2 = 4 then (
                some (q4.1 29 28, q4)
              ) else (
                some (q4.1 29 29, q4)
      )))))
    )
  )
set_option maxHeartbeats 4000000 in
set_option maxRecDepth 100000 in
theorem c_X6_day (l : Launch) {g : fb_G} {ks : List Nat} (hI : fb_I g ks) (hks : ∀ k ∈ ([29, 32, 33, 34, 35, 36, 37, 38, 41, 43, 44, 45, 46] : List Nat), k ∈ ks) (N : Nat) (a1 : Int32) (a2 : Int32) (σ : fb_S) {res : (Int32 × fb_S)} (hf : f_X6_day N a1 a2 σ = some res) : fb_M l yX6_day cX6_day 3 (some .int) 4 94 g ks [.ref (g.1 29), .int a1, .int a2] σ (fb_Qi g ks res.1 res.2) := by
  refine fb_met (by decide +kernel) hI (Nat.le_of_ble_eq_true rfl) (fun p e s m below meth c ls X h hr hlk hl => ?_)
  have X : fb_X p m c cX6_day 3 s _ RX6 g ks (fb_A g ks) := X
  have hl : lv_has ls 3 [(0, .ref (g.1 29)), (1, .int a1), (2, .int a2)] := hl
  have hx := X.1.1
  have hb := X.1.2.1
  unfold f_X6_day at hf
  refine lv_aload_n hx hb dX6_day_0 rfl (lv_at hl 0 rfl) ?_
  refine lv_iconst hx hb dX6_day_1 ki_0 ?_
  obtain ⟨t1, et1, hf⟩ := nm_s hf
  refine pt_RX6_75 X h (hks 29 (by decide)) dX6_day_2 (fun H locs h => ?_)
  have h := fb_H.nm et1 h
  refine lv_iload_n hx hb dX6_day_5 rfl (lv_at hl 1 rfl) ?_
  refine lv_i2l hx hb dX6_day_6 (v := a1.toInt64) rfl ?_
  refine lv_lconst hx hb dX6_day_7 kl_1 ?_
  refine lv_ldc2 hx hb X.1.2.2.2.1 (X.1.2.2.2.2 _ lc_RX6_185) dX6_day_8 ?_
  obtain ⟨q2, hq2, hf⟩ := bd_s hf
  refine fb_ci X h (fb_runS (As := [.long (a1.toInt64), .long (1), .long (60)]) (rest := []) X h (c_X6_in l X.2.2.1 (fun k hk => absurd hk List.not_mem_nil) (a1.toInt64) (1 : Int64) (60 : Int64) t1 hq2) mf_yX6_in lm_RX6_80 ⟨Nat.le_of_ble_eq_true rfl, Nat.le_of_ble_eq_true rfl⟩ ⟨Nat.le_refl _, Nat.le_refl _⟩ rfl hl.1 rfl (Nat.le_of_ble_eq_true rfl) dX6_day_11) (fun H locs h => ?_)
  refine lv_if_eq hx hb dX6_day_14 (tgt := 29) (by decide) (fun hc => ?_) (fun hc => ?_)
  · have hf := if_t hc hf
    refine lv_bipush hx hb dX6_day_29 kb_m2 ?_
    have e9 := Option.some.inj hf
    subst e9
    exact fb_ir X h hr hlk dX6_day_31
  · have hf := if_f hc hf
    refine lv_iload_n hx hb dX6_day_17 rfl (lv_at hl 2 rfl) ?_
    refine lv_i2l hx hb dX6_day_18 (v := a2.toInt64) rfl ?_
    refine lv_lconst hx hb dX6_day_19 kl_0 ?_
    refine lv_ldc2 hx hb X.1.2.2.2.1 (X.1.2.2.2.2 _ lc_RX6_78) dX6_day_20 ?_
    obtain ⟨q3, hq3, hf⟩ := bd_s hf
    refine fb_ci X h (fb_runS (As := [.long (a2.toInt64), .long (0), .long (5)]) (rest := []) X h (c_X6_in l X.2.2.1 (fun k hk => absurd hk List.not_mem_nil) (a2.toInt64) (0 : Int64) (5 : Int64) t1 hq3) mf_yX6_in lm_RX6_80 ⟨Nat.le_of_ble_eq_true rfl, Nat.le_of_ble_eq_true rfl⟩ ⟨Nat.le_refl _, Nat.le_refl _⟩ rfl hl.1 rfl (Nat.le_of_ble_eq_true rfl) dX6_day_23) (fun H locs h => ?_)
    refine lv_if_ne hx hb dX6_day_26 (tgt := 32) (by decide) (fun hc => ?_) (fun hc => ?_)
    · have hf := if_f hc hf
      refine lv_aload_n hx hb dX6_day_32 rfl (lv_at hl 0 rfl) ?_
      refine lv_iload_n hx hb dX6_day_33 rfl (lv_at hl 1 rfl) ?_
      refine lv_aload_n hx hb dX6_day_34 rfl (lv_at hl 0 rfl) ?_
      refine gt_RX6_54 X h (hks 29 (by decide)) dX6_day_35 ?_
      refine lv_iconst hx hb dX6_day_38 ki_4 ?_
      refine fb_ialdL X h (hks 43 (by decide)) rfl (by decide) kn_4 dX6_day_39 ?_
      obtain ⟨q4, hq4, hf⟩ := bd_s hf
      refine fb_cv X h (fb_runV (As := [.int a1, .int (t1.1 43 4)]) (rest := []) (k := 29) X h (c_X6_live l X.2.2.1 (fun k hk => hks k ((by decide : ∀ k ∈ ([29, 32, 33, 34, 35, 36, 37, 38, 41, 43, 44, 45, 46] : List Nat), k ∈ ([29, 32, 33, 34, 35, 36, 37, 38, 41, 43, 44, 45, 46] : List Nat)) k hk)) N a1 (t1.1 43 4) t1 hq4) mf_yX6_live lm_RX6_187 (hks 29 (by decide)) rfl rfl ⟨Nat.le_of_ble_eq_true rfl, Nat.le_of_ble_eq_true rfl⟩ ⟨Nat.le_refl _, Nat.le_refl _⟩ rfl hl.1 rfl (Nat.le_of_ble_eq_true rfl) dX6_day_40) (fun H locs h => ?_)
      refine lv_iload_n hx hb dX6_day_43 rfl (lv_at hl 2 rfl) ?_
      by_cases hc0 : a2 = 0
      · have hf := if_t hc0 hf
        refine lv_tableIn hx hb dX6_day_44 (off := 36) (tgt := 80) (by rw [hc0]; decide) (by rw [hc0]; decide) (by rw [hc0]; decide) (by decide) ?_
        refine lv_aload_n hx hb dX6_day_80 rfl (lv_at hl 0 rfl) ?_
        refine gt_RX6_167 X h (hks 29 (by decide)) dX6_day_81 ?_
        have e9 := Option.some.inj hf
        subst e9
        exact fb_ir X h hr hlk dX6_day_84
      have hf := if_f hc0 hf
      by_cases hc1 : a2 = 1
      · have hf := if_t hc1 hf
        refine lv_tableIn hx hb dX6_day_44 (off := 41) (tgt := 85) (by rw [hc1]; decide) (by rw [hc1]; decide) (by rw [hc1]; decide) (by decide) ?_
        refine lv_aload_n hx hb dX6_day_85 rfl (lv_at hl 0 rfl) ?_
        obtain ⟨q5, hq5, hf⟩ := bd_s hf
        refine fb_ci X h (fb_runV (As := []) (rest := []) (k := 29) X h (c_X6_onBridge l X.2.2.1 (fun k hk => hks k ((by decide : ∀ k ∈ ([29, 43, 45] : List Nat), k ∈ ([29, 32, 33, 34, 35, 36, 37, 38, 41, 43, 44, 45, 46] : List Nat)) k hk)) N q4 hq5) mf_yX6_onBridge lm_RX6_182 (hks 29 (by decide)) rfl rfl ⟨Nat.le_of_ble_eq_true rfl, Nat.le_of_ble_eq_true rfl⟩ ⟨Nat.le_refl _, Nat.le_refl _⟩ rfl hl.1 rfl (Nat.le_of_ble_eq_true rfl) dX6_day_86) (fun H locs h => ?_)
        have e9 := Option.some.inj hf
        subst e9
        exact fb_ir X h hr hlk dX6_day_89
      have hf := if_f hc1 hf
      by_cases hc2 : a2 = 2
      · have hf := if_t hc2 hf
        refine lv_tableIn hx hb dX6_day_44 (off := 46) (tgt := 90) (by rw [hc2]; decide) (by rw [hc2]; decide) (by rw [hc2]; decide) (by decide) ?_
        refine lv_aload_n hx hb dX6_day_90 rfl (lv_at hl 0 rfl) ?_
        refine gt_RX6_170 X h (hks 29 (by decide)) dX6_day_91 ?_
        have e9 := Option.some.inj hf
        subst e9
        exact fb_ir X h hr hlk dX6_day_94
      have hf := if_f hc2 hf
      by_cases hc3 : a2 = 3
      · have hf := if_t hc3 hf
        refine lv_tableIn hx hb dX6_day_44 (off := 51) (tgt := 95) (by rw [hc3]; decide) (by rw [hc3]; decide) (by rw [hc3]; decide) (by decide) ?_
        refine lv_aload_n hx hb dX6_day_95 rfl (lv_at hl 0 rfl) ?_
        refine gt_RX6_173 X h (hks 29 (by decide)) dX6_day_96 ?_
        have e9 := Option.some.inj hf
        subst e9
        exact fb_ir X h hr hlk dX6_day_99
      have hf := if_f hc3 hf
      by_cases hc4 : a2 = 4
      · have hf := if_t hc4 hf
        refine lv_tableIn hx hb dX6_day_44 (off := 56) (tgt := 100) (by rw [hc4]; decide) (by rw [hc4]; decide) (by rw [hc4]; decide) (by decide) ?_
        refine lv_aload_n hx hb dX6_day_100 rfl (lv_at hl 0 rfl) ?_
        refine gt_RX6_176 X h (hks 29 (by decide)) dX6_day_101 ?_
        have e9 := Option.some.inj hf
        subst e9
        exact fb_ir X h hr hlk dX6_day_104
      have hf := if_f hc4 hf
      refine lv_tableOut hx hb dX6_day_44 (tgt := 105) (by have h9 := fb_swn (x := a2) 5 (by decide) (fun j hj => match j, hj with | 0, _ => hc0 | 1, _ => hc1 | 2, _ => hc2 | 3, _ => hc3 | 4, _ => hc4); omega) (by decide) ?_
      refine lv_aload_n hx hb dX6_day_105 rfl (lv_at hl 0 rfl) ?_
      refine gt_RX6_179 X h (hks 29 (by decide)) dX6_day_106 ?_
      have e9 := Option.some.inj hf
      subst e9
      exact fb_ir X h hr hlk dX6_day_109
    · have hf := if_t hc hf
      refine lv_bipush hx hb dX6_day_29 kb_m2 ?_
      have e9 := Option.some.inj hf
      subst e9
      exact fb_ir X h hr hlk dX6_day_31
def f_X6_on (N : Nat) (a1 : Int32) (a2 : Int32) (σ : fb_S) : Option (Int32 × fb_S) :=
  nm_ (fb_up σ 29 0 (0 : Int32)) fun t1 =>
  (f_X6_in (a1.toInt64) (1 : Int64) (60 : Int64)).bind fun q2 =>
  if q2 = 0 then (
    some ((-2 : Int32), t1)
  ) else (
    (f_X6_in (a2.toInt64) (0 : Int64) (((t1.1 43 0) - (1 : Int32)).toInt64)).bind fun q3 =>
    if q3 = 0 then (
      some ((-1 : Int32), t1)
    ) else (
      (f_X6_live N a1 (t1.1 43 4) t1).bind fun q4 =>
      ck_ (fb_in a2 8) <|
      some (q4.1 45 a2.toNatClampNeg, q4)
    )
  )
set_option maxHeartbeats 4000000 in
set_option maxRecDepth 100000 in
theorem c_X6_on (l : Launch) {g : fb_G} {ks : List Nat} (hI : fb_I g ks) (hks : ∀ k ∈ ([29, 32, 33, 34, 35, 36, 37, 38, 41, 43, 44, 45, 46] : List Nat), k ∈ ks) (N : Nat) (a1 : Int32) (a2 : Int32) (σ : fb_S) {res : (Int32 × fb_S)} (hf : f_X6_on N a1 a2 σ = some res) : fb_M l yX6_on cX6_on 3 (some .int) 4 94 g ks [.ref (g.1 29), .int a1, .int a2] σ (fb_Qi g ks res.1 res.2) := by
  refine fb_met (by decide +kernel) hI (Nat.le_of_ble_eq_true rfl) (fun p e s m below meth c ls X h hr hlk hl => ?_)
  have X : fb_X p m c cX6_on 3 s _ RX6 g ks (fb_A g ks) := X
  have hl : lv_has ls 3 [(0, .ref (g.1 29)), (1, .int a1), (2, .int a2)] := hl
  have hx := X.1.1
  have hb := X.1.2.1
  unfold f_X6_on at hf
  refine lv_aload_n hx hb dX6_on_0 rfl (lv_at hl 0 rfl) ?_
  refine lv_iconst hx hb dX6_on_1 ki_0 ?_
  obtain ⟨t1, et1, hf⟩ := nm_s hf
  refine pt_RX6_75 X h (hks 29 (by decide)) dX6_on_2 (fun H locs h => ?_)
  have h := fb_H.nm et1 h
  refine lv_iload_n hx hb dX6_on_5 rfl (lv_at hl 1 rfl) ?_
  refine lv_i2l hx hb dX6_on_6 (v := a1.toInt64) rfl ?_
  refine lv_lconst hx hb dX6_on_7 kl_1 ?_
  refine lv_ldc2 hx hb X.1.2.2.2.1 (X.1.2.2.2.2 _ lc_RX6_185) dX6_on_8 ?_
  obtain ⟨q2, hq2, hf⟩ := bd_s hf
  refine fb_ci X h (fb_runS (As := [.long (a1.toInt64), .long (1), .long (60)]) (rest := []) X h (c_X6_in l X.2.2.1 (fun k hk => absurd hk List.not_mem_nil) (a1.toInt64) (1 : Int64) (60 : Int64) t1 hq2) mf_yX6_in lm_RX6_80 ⟨Nat.le_of_ble_eq_true rfl, Nat.le_of_ble_eq_true rfl⟩ ⟨Nat.le_refl _, Nat.le_refl _⟩ rfl hl.1 rfl (Nat.le_of_ble_eq_true rfl) dX6_on_11) (fun H locs h => ?_)
  refine lv_if_ne hx hb dX6_on_14 (tgt := 20) (by decide) (fun hc => ?_) (fun hc => ?_)
  · have hf := if_f hc hf
    refine lv_iload_n hx hb dX6_on_20 rfl (lv_at hl 2 rfl) ?_
    refine lv_i2l hx hb dX6_on_21 (v := a2.toInt64) rfl ?_
    refine lv_lconst hx hb dX6_on_22 kl_0 ?_
    refine lv_aload_n hx hb dX6_on_23 rfl (lv_at hl 0 rfl) ?_
    refine gt_RX6_54 X h (hks 29 (by decide)) dX6_on_24 ?_
    refine lv_iconst hx hb dX6_on_27 ki_0 ?_
    refine fb_ialdL X h (hks 43 (by decide)) rfl (by decide) kn_0 dX6_on_28 ?_
    refine lv_iconst hx hb dX6_on_29 ki_1 ?_
    refine lv_isub hx hb dX6_on_30 ?_
    refine lv_i2l hx hb dX6_on_31 (v := ((t1.1 43 0) - (1 : Int32)).toInt64) rfl ?_
    obtain ⟨q3, hq3, hf⟩ := bd_s hf
    refine fb_ci X h (fb_runS (As := [.long (a2.toInt64), .long (0), .long (((t1.1 43 0) - (1 : Int32)).toInt64)]) (rest := []) X h (c_X6_in l X.2.2.1 (fun k hk => absurd hk List.not_mem_nil) (a2.toInt64) (0 : Int64) (((t1.1 43 0) - (1 : Int32)).toInt64) t1 hq3) mf_yX6_in lm_RX6_80 ⟨Nat.le_of_ble_eq_true rfl, Nat.le_of_ble_eq_true rfl⟩ ⟨Nat.le_refl _, Nat.le_refl _⟩ rfl hl.1 rfl (Nat.le_of_ble_eq_true rfl) dX6_on_32) (fun H locs h => ?_)
    refine lv_if_ne hx hb dX6_on_35 (tgt := 40) (by decide) (fun hc => ?_) (fun hc => ?_)
    · have hf := if_f hc hf
      refine lv_aload_n hx hb dX6_on_40 rfl (lv_at hl 0 rfl) ?_
      refine lv_iload_n hx hb dX6_on_41 rfl (lv_at hl 1 rfl) ?_
      refine lv_aload_n hx hb dX6_on_42 rfl (lv_at hl 0 rfl) ?_
      refine gt_RX6_54 X h (hks 29 (by decide)) dX6_on_43 ?_
      refine lv_iconst hx hb dX6_on_46 ki_4 ?_
      refine fb_ialdL X h (hks 43 (by decide)) rfl (by decide) kn_4 dX6_on_47 ?_
      obtain ⟨q4, hq4, hf⟩ := bd_s hf
      refine fb_cv X h (fb_runV (As := [.int a1, .int (t1.1 43 4)]) (rest := []) (k := 29) X h (c_X6_live l X.2.2.1 (fun k hk => hks k ((by decide : ∀ k ∈ ([29, 32, 33, 34, 35, 36, 37, 38, 41, 43, 44, 45, 46] : List Nat), k ∈ ([29, 32, 33, 34, 35, 36, 37, 38, 41, 43, 44, 45, 46] : List Nat)) k hk)) N a1 (t1.1 43 4) t1 hq4) mf_yX6_live lm_RX6_187 (hks 29 (by decide)) rfl rfl ⟨Nat.le_of_ble_eq_true rfl, Nat.le_of_ble_eq_true rfl⟩ ⟨Nat.le_refl _, Nat.le_refl _⟩ rfl hl.1 rfl (Nat.le_of_ble_eq_true rfl) dX6_on_48) (fun H locs h => ?_)
      refine lv_aload_n hx hb dX6_on_51 rfl (lv_at hl 0 rfl) ?_
      refine gt_RX6_60 X h (hks 29 (by decide)) dX6_on_52 ?_
      refine lv_iload_n hx hb dX6_on_55 rfl (lv_at hl 2 rfl) ?_
      obtain ⟨hi0, hf⟩ := ck_s hf
      refine fb_iald X h (hks 45 (by decide)) rfl hi0 dX6_on_56 ?_
      have e9 := Option.some.inj hf
      subst e9
      exact fb_ir X h hr hlk dX6_on_57
    · have hf := if_t hc hf
      refine lv_iconst hx hb dX6_on_38 ki_m1 ?_
      have e9 := Option.some.inj hf
      subst e9
      exact fb_ir X h hr hlk dX6_on_39
  · have hf := if_t hc hf
    refine lv_bipush hx hb dX6_on_17 kb_m2 ?_
    have e9 := Option.some.inj hf
    subst e9
    exact fb_ir X h hr hlk dX6_on_19
def f_X6_bestMark_L28 (N : Nat) : Nat → Int32 → Int32 → Int32 → Int32 → fb_S → Option (Int32 × fb_S)
  | 0, _, _, _, _, _ => none
  | n + 1, v1, v2, v3, v4, σ => 
    if (200 : Int32) < v4 then (
      some (v2, σ)
    ) else (
      (f_X6_live N v1 v4 σ).bind fun q1 =>
      if (q1.1 37 3) < (q1.1 29 28) then (
        f_X6_bestMark_L28 N n v1 v2 v3 (v4 + 1) q1
      ) else (
        if (q1.1 29 25) ≤ v3 then (
          f_X6_bestMark_L28 N n v1 v2 v3 (v4 + 1) q1
        ) else (
          nm_ (q1.1 29 25) fun x2 =>
          f_X6_bestMark_L28 N n v1 v4 x2 (v4 + 1) q1
        )
      )
    )
def f_X6_bestMark (N : Nat) (a1 : Int32) (σ : fb_S) : Option (Int32 × fb_S) :=
  nm_ (fb_up σ 29 0 (0 : Int32)) fun t3 =>
  (f_X6_in (a1.toInt64) (1 : Int64) (60 : Int64)).bind fun q4 =>
  if q4 = 0 then (
    some ((-2 : Int32), t3)
  ) else (
    f_X6_bestMark_L28 N N a1 (-9 : Int32) (-1 : Int32) (0 : Int32) t3
  )
set_option maxHeartbeats 4000000 in
set_option maxRecDepth 100000 in
theorem w_X6_bestMark_L28 (X : fb_X p m c cX6_bestMark 5 s args RX6 g ks (fb_A g ks)) (hks : ∀ k ∈ ([29, 32, 33, 34, 35, 36, 37, 38, 41, 43, 44, 45, 46] : List Nat), k ∈ ks) (hr : meth.sig.returnType = (some .int)) (hlk : meth.locks = false) (N : Nat)  {res : (Int32 × fb_S)} : ∀ (n : Nat) (v1 : Int32) (v2 : Int32) (v3 : Int32) (v4 : Int32) (σ : fb_S) (H : Heap) (locs : List Loc) (ls : Array Slot), fb_H g ks (fb_A g ks) s.heap σ H locs → lv_has ls 5 [(0, .ref (g.1 29)), (1, .int v1), (2, .int v2), (3, .int v3), (4, .int v4)] → f_X6_bestMark_L28 N n v1 v2 v3 v4 σ = some res → W p l e (fb_R 4 94) s m args below meth c H locs 0 0 (MQ below (fb_Qi g ks res.1 res.2) args s 0 0 (fb_A g ks)) (F0 m 28 ls []) := by
  have hx := X.1.1
  have hb := X.1.2.1
  intro n
  induction n with
  | zero => intro v1 v2 v3 v4 σ H locs ls h hl hf; cases hf
  | succ n ih =>
    intro v1 v2 v3 v4 σ H locs ls h hl hf
    unfold f_X6_bestMark_L28 at hf
    refine lv_iload hx hb dX6_bestMark_28 (lv_at hl 4 rfl) ?_
    refine lv_sipush hx hb dX6_bestMark_30 ks_200 ?_
    refine lv_icmp_gt hx hb dX6_bestMark_33 (tgt := 78) (by decide) (fun hc => ?_) (fun hc => ?_)
    · have hf := if_t hc hf
      refine lv_iload_n hx hb dX6_bestMark_78 rfl (lv_at hl 2 rfl) ?_
      have e9 := Option.some.inj hf
      subst e9
      exact fb_ir X h hr hlk dX6_bestMark_79
    · have hf := if_f hc hf
      refine lv_aload_n hx hb dX6_bestMark_36 rfl (lv_at hl 0 rfl) ?_
      refine lv_iload_n hx hb dX6_bestMark_37 rfl (lv_at hl 1 rfl) ?_
      refine lv_iload hx hb dX6_bestMark_38 (lv_at hl 4 rfl) ?_
      obtain ⟨q1, hq1, hf⟩ := bd_s hf
      refine fb_cv X h (fb_runV (As := [.int v1, .int v4]) (rest := []) (k := 29) X h (c_X6_live l X.2.2.1 (fun k hk => hks k ((by decide : ∀ k ∈ ([29, 32, 33, 34, 35, 36, 37, 38, 41, 43, 44, 45, 46] : List Nat), k ∈ ([29, 32, 33, 34, 35, 36, 37, 38, 41, 43, 44, 45, 46] : List Nat)) k hk)) N v1 v4 σ hq1) mf_yX6_live lm_RX6_187 (hks 29 (by decide)) rfl rfl ⟨Nat.le_of_ble_eq_true rfl, Nat.le_of_ble_eq_true rfl⟩ ⟨Nat.le_refl _, Nat.le_refl _⟩ rfl hl.1 rfl (Nat.le_of_ble_eq_true rfl) dX6_bestMark_40) (fun H locs h => ?_)
      refine lv_aload_n hx hb dX6_bestMark_43 rfl (lv_at hl 0 rfl) ?_
      refine gt_RX6_176 X h (hks 29 (by decide)) dX6_bestMark_44 ?_
      refine lv_aload_n hx hb dX6_bestMark_47 rfl (lv_at hl 0 rfl) ?_
      refine gt_RX6_35 X h (hks 29 (by decide)) dX6_bestMark_48 ?_
      refine lv_iconst hx hb dX6_bestMark_51 ki_3 ?_
      refine fb_ialdL X h (hks 37 (by decide)) rfl (by decide) kn_3 dX6_bestMark_52 ?_
      refine lv_icmp_gt hx hb dX6_bestMark_53 (tgt := 72) (by decide) (fun hc => ?_) (fun hc => ?_)
      · have hf := if_t hc hf
        refine lv_iinc hx hb dX6_bestMark_72 hl (k := 4) rfl (kinc_1 _) (by decide) (lv' := [(4, .int (v4 + 1)), (0, .ref (g.1 29)), (1, .int v1), (2, .int v2), (3, .int v3)]) rfl (fun ls hl => ?_)
        refine lv_goto hx hb dX6_bestMark_75 (tgt := 28) (by decide) ?_
        exact ih v1 v2 v3 (v4 + 1) q1 _ _ _ h (lv_sub hl [1, 2, 3, 4, 0] rfl) hf
      · have hf := if_f hc hf
        refine lv_aload_n hx hb dX6_bestMark_56 rfl (lv_at hl 0 rfl) ?_
        refine gt_RX6_167 X h (hks 29 (by decide)) dX6_bestMark_57 ?_
        refine lv_iload_n hx hb dX6_bestMark_60 rfl (lv_at hl 3 rfl) ?_
        refine lv_icmp_le hx hb dX6_bestMark_61 (tgt := 72) (by decide) (fun hc => ?_) (fun hc => ?_)
        · have hf := if_t hc hf
          refine lv_iinc hx hb dX6_bestMark_72 hl (k := 4) rfl (kinc_1 _) (by decide) (lv' := [(4, .int (v4 + 1)), (0, .ref (g.1 29)), (1, .int v1), (2, .int v2), (3, .int v3)]) rfl (fun ls hl => ?_)
          refine lv_goto hx hb dX6_bestMark_75 (tgt := 28) (by decide) ?_
          exact ih v1 v2 v3 (v4 + 1) q1 _ _ _ h (lv_sub hl [1, 2, 3, 4, 0] rfl) hf
        · have hf := if_f hc hf
          refine lv_aload_n hx hb dX6_bestMark_64 rfl (lv_at hl 0 rfl) ?_
          refine gt_RX6_167 X h (hks 29 (by decide)) dX6_bestMark_65 ?_
          obtain ⟨x2, ex2, hf⟩ := nm_s hf
          refine fb_topi ex2 ?_
          refine lv_istore_n hx hb dX6_bestMark_68 rfl hl (by decide) (lv' := [(3, .int x2), (0, .ref (g.1 29)), (1, .int v1), (2, .int v2), (4, .int v4)]) rfl (fun ls hl => ?_)
          refine lv_iload hx hb dX6_bestMark_69 (lv_at hl 4 rfl) ?_
          refine lv_istore_n hx hb dX6_bestMark_71 rfl hl (by decide) (lv' := [(2, .int v4), (3, .int x2), (0, .ref (g.1 29)), (1, .int v1), (4, .int v4)]) rfl (fun ls hl => ?_)
          refine lv_iinc hx hb dX6_bestMark_72 hl (k := 4) rfl (kinc_1 _) (by decide) (lv' := [(4, .int (v4 + 1)), (2, .int v4), (3, .int x2), (0, .ref (g.1 29)), (1, .int v1)]) rfl (fun ls hl => ?_)
          refine lv_goto hx hb dX6_bestMark_75 (tgt := 28) (by decide) ?_
          exact ih v1 v4 x2 (v4 + 1) q1 _ _ _ h (lv_sub hl [3, 4, 1, 2, 0] rfl) hf
set_option maxHeartbeats 4000000 in
set_option maxRecDepth 100000 in
theorem c_X6_bestMark (l : Launch) {g : fb_G} {ks : List Nat} (hI : fb_I g ks) (hks : ∀ k ∈ ([29, 32, 33, 34, 35, 36, 37, 38, 41, 43, 44, 45, 46] : List Nat), k ∈ ks) (N : Nat) (a1 : Int32) (σ : fb_S) {res : (Int32 × fb_S)} (hf : f_X6_bestMark N a1 σ = some res) : fb_M l yX6_bestMark cX6_bestMark 5 (some .int) 4 94 g ks [.ref (g.1 29), .int a1] σ (fb_Qi g ks res.1 res.2) := by
  refine fb_met (by decide +kernel) hI (Nat.le_of_ble_eq_true rfl) (fun p e s m below meth c ls X h hr hlk hl => ?_)
  have X : fb_X p m c cX6_bestMark 5 s _ RX6 g ks (fb_A g ks) := X
  have hl : lv_has ls 5 [(0, .ref (g.1 29)), (1, .int a1)] := hl
  have hx := X.1.1
  have hb := X.1.2.1
  unfold f_X6_bestMark at hf
  refine lv_aload_n hx hb dX6_bestMark_0 rfl (lv_at hl 0 rfl) ?_
  refine lv_iconst hx hb dX6_bestMark_1 ki_0 ?_
  obtain ⟨t3, et3, hf⟩ := nm_s hf
  refine pt_RX6_75 X h (hks 29 (by decide)) dX6_bestMark_2 (fun H locs h => ?_)
  have h := fb_H.nm et3 h
  refine lv_iload_n hx hb dX6_bestMark_5 rfl (lv_at hl 1 rfl) ?_
  refine lv_i2l hx hb dX6_bestMark_6 (v := a1.toInt64) rfl ?_
  refine lv_lconst hx hb dX6_bestMark_7 kl_1 ?_
  refine lv_ldc2 hx hb X.1.2.2.2.1 (X.1.2.2.2.2 _ lc_RX6_185) dX6_bestMark_8 ?_
  obtain ⟨q4, hq4, hf⟩ := bd_s hf
  refine fb_ci X h (fb_runS (As := [.long (a1.toInt64), .long (1), .long (60)]) (rest := []) X h (c_X6_in l X.2.2.1 (fun k hk => absurd hk List.not_mem_nil) (a1.toInt64) (1 : Int64) (60 : Int64) t3 hq4) mf_yX6_in lm_RX6_80 ⟨Nat.le_of_ble_eq_true rfl, Nat.le_of_ble_eq_true rfl⟩ ⟨Nat.le_refl _, Nat.le_refl _⟩ rfl hl.1 rfl (Nat.le_of_ble_eq_true rfl) dX6_bestMark_11) (fun H locs h => ?_)
  refine lv_if_ne hx hb dX6_bestMark_14 (tgt := 20) (by decide) (fun hc => ?_) (fun hc => ?_)
  · have hf := if_f hc hf
    refine lv_bipush hx hb dX6_bestMark_20 kb_m9 ?_
    refine lv_istore_n hx hb dX6_bestMark_22 rfl hl (by decide) (lv' := [(2, .int (-9)), (0, .ref (g.1 29)), (1, .int a1)]) rfl (fun ls hl => ?_)
    refine lv_iconst hx hb dX6_bestMark_23 ki_m1 ?_
    refine lv_istore_n hx hb dX6_bestMark_24 rfl hl (by decide) (lv' := [(3, .int (-1)), (2, .int (-9)), (0, .ref (g.1 29)), (1, .int a1)]) rfl (fun ls hl => ?_)
    refine lv_iconst hx hb dX6_bestMark_25 ki_0 ?_
    refine lv_istore hx hb dX6_bestMark_26 hl (by decide) (lv' := [(4, .int (0)), (3, .int (-1)), (2, .int (-9)), (0, .ref (g.1 29)), (1, .int a1)]) rfl (fun ls hl => ?_)
    exact w_X6_bestMark_L28 X hks hr hlk N N a1 (-9 : Int32) (-1 : Int32) (0 : Int32) t3 _ _ _ h (lv_sub hl [3, 4, 2, 1, 0] rfl) hf
  · have hf := if_t hc hf
    refine lv_bipush hx hb dX6_bestMark_17 kb_m2 ?_
    have e9 := Option.some.inj hf
    subst e9
    exact fb_ir X h hr hlk dX6_bestMark_19
def f_X6_test (a1 : Int32) (a2 : Int32) (a3 : Int32) (a4 : Int32) (a5 : Int32) (σ : fb_S) : Option (Int32 × fb_S) :=
  nm_ (fb_up σ 29 0 (0 : Int32)) fun t1 =>
  (f_X6_in (a1.toInt64) (0 : Int64) (99 : Int64)).bind fun q2 =>
  if q2 = 0 then (
    some ((-2 : Int32), t1)
  ) else (
    (f_X6_noSway a2).bind fun q3 =>
    if q3 = 0 then (
      (f_X6_in (a3.toInt64) (1 : Int64) (30 : Int64)).bind fun q4 =>
      if q4 = 0 then (
        some ((-2 : Int32), t1)
      ) else (
        (f_X6_in (a4.toInt64) (0 : Int64) (a5.toInt64)).bind fun q5 =>
        if q5 = 0 then (
          some ((-2 : Int32), t1)
        ) else (
          if a5 ≤ (9999 : Int32) then (
            if (t1.1 29 30) = (20 : Int32) then (
              some ((-4 : Int32), t1)
            ) else (
              nm_ ((5 : Int32) * (t1.1 29 30)) fun x6 =>
              ck_ (fb_in x6 100) <|
              nm_ (fb_up t1 47 (x6.toNatClampNeg) a1) fun t7 =>
              ck_ (fb_in (x6 + (1 : Int32)) 100) <|
              nm_ (fb_up t7 47 ((x6 + (1 : Int32)).toNatClampNeg) a2) fun t8 =>
              ck_ (fb_in (x6 + (2 : Int32)) 100) <|
              nm_ (fb_up t8 47 ((x6 + (2 : Int32)).toNatClampNeg) a3) fun t9 =>
              ck_ (fb_in (x6 + (3 : Int32)) 100) <|
              nm_ (fb_up t9 47 ((x6 + (3 : Int32)).toNatClampNeg) a4) fun t10 =>
              ck_ (fb_in (x6 + (4 : Int32)) 100) <|
              nm_ (fb_up t10 47 ((x6 + (4 : Int32)).toNatClampNeg) a5) fun t11 =>
              nm_ (fb_up t11 29 30 ((t11.1 29 30) + (1 : Int32))) fun t12 =>
              some ((t12.1 29 30) - (1 : Int32), t12)
            )
          ) else (
            some ((-2 : Int32), t1)
          )
        )
      )
    ) else (
      some ((-2 : Int32), t1)
    )
  )
set_option maxHeartbeats 4000000 in
set_option maxRecDepth 100000 in
theorem c_X6_test (l : Launch) {g : fb_G} {ks : List Nat} (hI : fb_I g ks) (hks : ∀ k ∈ ([29, 47] : List Nat), k ∈ ks) (a1 : Int32) (a2 : Int32) (a3 : Int32) (a4 : Int32) (a5 : Int32) (σ : fb_S) {res : (Int32 × fb_S)} (hf : f_X6_test a1 a2 a3 a4 a5 σ = some res) : fb_M l yX6_test cX6_test 7 (some .int) 2 45 g ks [.ref (g.1 29), .int a1, .int a2, .int a3, .int a4, .int a5] σ (fb_Qi g ks res.1 res.2) := by
  refine fb_met (by decide +kernel) hI (Nat.le_of_ble_eq_true rfl) (fun p e s m below meth c ls X h hr hlk hl => ?_)
  have X : fb_X p m c cX6_test 7 s _ RX6 g ks (fb_A g ks) := X
  have hl : lv_has ls 7 [(0, .ref (g.1 29)), (1, .int a1), (2, .int a2), (3, .int a3), (4, .int a4), (5, .int a5)] := hl
  have hx := X.1.1
  have hb := X.1.2.1
  unfold f_X6_test at hf
  refine lv_aload_n hx hb dX6_test_0 rfl (lv_at hl 0 rfl) ?_
  refine lv_iconst hx hb dX6_test_1 ki_0 ?_
  obtain ⟨t1, et1, hf⟩ := nm_s hf
  refine pt_RX6_75 X h (hks 29 (by decide)) dX6_test_2 (fun H locs h => ?_)
  have h := fb_H.nm et1 h
  refine lv_iload_n hx hb dX6_test_5 rfl (lv_at hl 1 rfl) ?_
  refine lv_i2l hx hb dX6_test_6 (v := a1.toInt64) rfl ?_
  refine lv_lconst hx hb dX6_test_7 kl_0 ?_
  refine lv_ldc2 hx hb X.1.2.2.2.1 (X.1.2.2.2.2 _ lc_RX6_86) dX6_test_8 ?_
  obtain ⟨q2, hq2, hf⟩ := bd_s hf
  refine fb_ci X h (fb_runS (As := [.long (a1.toInt64), .long (0), .long (99)]) (rest := []) X h (c_X6_in l X.2.2.1 (fun k hk => absurd hk List.not_mem_nil) (a1.toInt64) (0 : Int64) (99 : Int64) t1 hq2) mf_yX6_in lm_RX6_80 ⟨Nat.le_of_ble_eq_true rfl, Nat.le_of_ble_eq_true rfl⟩ ⟨Nat.le_refl _, Nat.le_refl _⟩ rfl hl.1 rfl (Nat.le_of_ble_eq_true rfl) dX6_test_11) (fun H locs h => ?_)
  refine lv_if_eq hx hb dX6_test_14 (tgt := 57) (by decide) (fun hc => ?_) (fun hc => ?_)
  · have hf := if_t hc hf
    refine lv_bipush hx hb dX6_test_57 kb_m2 ?_
    have e9 := Option.some.inj hf
    subst e9
    exact fb_ir X h hr hlk dX6_test_59
  · have hf := if_f hc hf
    refine lv_iload_n hx hb dX6_test_17 rfl (lv_at hl 2 rfl) ?_
    obtain ⟨q3, hq3, hf⟩ := bd_s hf
    refine fb_ci X h (fb_runS (As := [.int a2]) (rest := []) X h (c_X6_noSway l X.2.2.1 (fun k hk => absurd hk List.not_mem_nil) a2 t1 hq3) mf_yX6_noSway lm_RX6_104 ⟨Nat.le_of_ble_eq_true rfl, Nat.le_of_ble_eq_true rfl⟩ ⟨Nat.le_refl _, Nat.le_refl _⟩ rfl hl.1 rfl (Nat.le_of_ble_eq_true rfl) dX6_test_18) (fun H locs h => ?_)
    refine lv_if_ne hx hb dX6_test_21 (tgt := 57) (by decide) (fun hc => ?_) (fun hc => ?_)
    · have hf := if_f hc hf
      refine lv_bipush hx hb dX6_test_57 kb_m2 ?_
      have e9 := Option.some.inj hf
      subst e9
      exact fb_ir X h hr hlk dX6_test_59
    · have hf := if_t hc hf
      refine lv_iload_n hx hb dX6_test_24 rfl (lv_at hl 3 rfl) ?_
      refine lv_i2l hx hb dX6_test_25 (v := a3.toInt64) rfl ?_
      refine lv_lconst hx hb dX6_test_26 kl_1 ?_
      refine lv_ldc2 hx hb X.1.2.2.2.1 (X.1.2.2.2.2 _ lc_RX6_191) dX6_test_27 ?_
      obtain ⟨q4, hq4, hf⟩ := bd_s hf
      refine fb_ci X h (fb_runS (As := [.long (a3.toInt64), .long (1), .long (30)]) (rest := []) X h (c_X6_in l X.2.2.1 (fun k hk => absurd hk List.not_mem_nil) (a3.toInt64) (1 : Int64) (30 : Int64) t1 hq4) mf_yX6_in lm_RX6_80 ⟨Nat.le_of_ble_eq_true rfl, Nat.le_of_ble_eq_true rfl⟩ ⟨Nat.le_refl _, Nat.le_refl _⟩ rfl hl.1 rfl (Nat.le_of_ble_eq_true rfl) dX6_test_30) (fun H locs h => ?_)
      refine lv_if_eq hx hb dX6_test_33 (tgt := 57) (by decide) (fun hc => ?_) (fun hc => ?_)
      · have hf := if_t hc hf
        refine lv_bipush hx hb dX6_test_57 kb_m2 ?_
        have e9 := Option.some.inj hf
        subst e9
        exact fb_ir X h hr hlk dX6_test_59
      · have hf := if_f hc hf
        refine lv_iload hx hb dX6_test_36 (lv_at hl 4 rfl) ?_
        refine lv_i2l hx hb dX6_test_38 (v := a4.toInt64) rfl ?_
        refine lv_lconst hx hb dX6_test_39 kl_0 ?_
        refine lv_iload hx hb dX6_test_40 (lv_at hl 5 rfl) ?_
        refine lv_i2l hx hb dX6_test_42 (v := a5.toInt64) rfl ?_
        obtain ⟨q5, hq5, hf⟩ := bd_s hf
        refine fb_ci X h (fb_runS (As := [.long (a4.toInt64), .long (0), .long (a5.toInt64)]) (rest := []) X h (c_X6_in l X.2.2.1 (fun k hk => absurd hk List.not_mem_nil) (a4.toInt64) (0 : Int64) (a5.toInt64) t1 hq5) mf_yX6_in lm_RX6_80 ⟨Nat.le_of_ble_eq_true rfl, Nat.le_of_ble_eq_true rfl⟩ ⟨Nat.le_refl _, Nat.le_refl _⟩ rfl hl.1 rfl (Nat.le_of_ble_eq_true rfl) dX6_test_43) (fun H locs h => ?_)
        refine lv_if_eq hx hb dX6_test_46 (tgt := 57) (by decide) (fun hc => ?_) (fun hc => ?_)
        · have hf := if_t hc hf
          refine lv_bipush hx hb dX6_test_57 kb_m2 ?_
          have e9 := Option.some.inj hf
          subst e9
          exact fb_ir X h hr hlk dX6_test_59
        · have hf := if_f hc hf
          refine lv_iload hx hb dX6_test_49 (lv_at hl 5 rfl) ?_
          refine lv_sipush hx hb dX6_test_51 ks_9999 ?_
          refine lv_icmp_le hx hb dX6_test_54 (tgt := 60) (by decide) (fun hc => ?_) (fun hc => ?_)
          · have hf := if_t hc hf
            refine lv_aload_n hx hb dX6_test_60 rfl (lv_at hl 0 rfl) ?_
            refine gt_RX6_193 X h (hks 29 (by decide)) dX6_test_61 ?_
            refine lv_bipush hx hb dX6_test_64 kb_20 ?_
            refine lv_icmp_ne hx hb dX6_test_66 (tgt := 72) (by decide) (fun hc => ?_) (fun hc => ?_)
            · have hf := if_f hc hf
              refine lv_iconst hx hb dX6_test_72 ki_5 ?_
              refine lv_aload_n hx hb dX6_test_73 rfl (lv_at hl 0 rfl) ?_
              refine gt_RX6_193 X h (hks 29 (by decide)) dX6_test_74 ?_
              refine lv_imul hx hb dX6_test_77 ?_
              obtain ⟨x6, ex6, hf⟩ := nm_s hf
              refine fb_topi ex6 ?_
              refine lv_istore hx hb dX6_test_78 hl (by decide) (lv' := [(6, .int x6), (0, .ref (g.1 29)), (1, .int a1), (2, .int a2), (3, .int a3), (4, .int a4), (5, .int a5)]) rfl (fun ls hl => ?_)
              refine lv_aload_n hx hb dX6_test_80 rfl (lv_at hl 1 rfl) ?_
              refine gt_RX6_66 X h (hks 29 (by decide)) dX6_test_81 ?_
              refine lv_iload hx hb dX6_test_84 (lv_at hl 0 rfl) ?_
              refine lv_iload_n hx hb dX6_test_86 rfl (lv_at hl 2 rfl) ?_
              obtain ⟨hi0, hf⟩ := ck_s hf
              obtain ⟨t7, et7, hf⟩ := nm_s hf
              refine fb_iast X h (hks 47 (by decide)) (fun _ => rfl) hi0 dX6_test_87 (fun H locs h => ?_)
              have h := fb_H.nm et7 h
              refine lv_aload_n hx hb dX6_test_88 rfl (lv_at hl 1 rfl) ?_
              refine gt_RX6_66 X h (hks 29 (by decide)) dX6_test_89 ?_
              refine lv_iload hx hb dX6_test_92 (lv_at hl 0 rfl) ?_
              refine lv_iconst hx hb dX6_test_94 ki_1 ?_
              refine lv_iadd hx hb dX6_test_95 ?_
              refine lv_iload_n hx hb dX6_test_96 rfl (lv_at hl 3 rfl) ?_
              obtain ⟨hi0, hf⟩ := ck_s hf
              obtain ⟨t8, et8, hf⟩ := nm_s hf
              refine fb_iast X h (hks 47 (by decide)) (fun _ => rfl) hi0 dX6_test_97 (fun H locs h => ?_)
              have h := fb_H.nm et8 h
              refine lv_aload_n hx hb dX6_test_98 rfl (lv_at hl 1 rfl) ?_
              refine gt_RX6_66 X h (hks 29 (by decide)) dX6_test_99 ?_
              refine lv_iload hx hb dX6_test_102 (lv_at hl 0 rfl) ?_
              refine lv_iconst hx hb dX6_test_104 ki_2 ?_
              refine lv_iadd hx hb dX6_test_105 ?_
              refine lv_iload_n hx hb dX6_test_106 rfl (lv_at hl 4 rfl) ?_
              obtain ⟨hi0, hf⟩ := ck_s hf
              obtain ⟨t9, et9, hf⟩ := nm_s hf
              refine fb_iast X h (hks 47 (by decide)) (fun _ => rfl) hi0 dX6_test_107 (fun H locs h => ?_)
              have h := fb_H.nm et9 h
              refine lv_aload_n hx hb dX6_test_108 rfl (lv_at hl 1 rfl) ?_
              refine gt_RX6_66 X h (hks 29 (by decide)) dX6_test_109 ?_
              refine lv_iload hx hb dX6_test_112 (lv_at hl 0 rfl) ?_
              refine lv_iconst hx hb dX6_test_114 ki_3 ?_
              refine lv_iadd hx hb dX6_test_115 ?_
              refine lv_iload hx hb dX6_test_116 (lv_at hl 5 rfl) ?_
              obtain ⟨hi0, hf⟩ := ck_s hf
              obtain ⟨t10, et10, hf⟩ := nm_s hf
              refine fb_iast X h (hks 47 (by decide)) (fun _ => rfl) hi0 dX6_test_118 (fun H locs h => ?_)
              have h := fb_H.nm et10 h
              refine lv_aload_n hx hb dX6_test_119 rfl (lv_at hl 1 rfl) ?_
              refine gt_RX6_66 X h (hks 29 (by decide)) dX6_test_120 ?_
              refine lv_iload hx hb dX6_test_123 (lv_at hl 0 rfl) ?_
              refine lv_iconst hx hb dX6_test_125 ki_4 ?_
              refine lv_iadd hx hb dX6_test_126 ?_
              refine lv_iload hx hb dX6_test_127 (lv_at hl 6 rfl) ?_
              obtain ⟨hi0, hf⟩ := ck_s hf
              obtain ⟨t11, et11, hf⟩ := nm_s hf
              refine fb_iast X h (hks 47 (by decide)) (fun _ => rfl) hi0 dX6_test_129 (fun H locs h => ?_)
              have h := fb_H.nm et11 h
              refine lv_aload_n hx hb dX6_test_130 rfl (lv_at hl 1 rfl) ?_
              refine lv_dup hx hb dX6_test_131 rfl ?_
              refine gt_RX6_193 X h (hks 29 (by decide)) dX6_test_132 ?_
              refine lv_iconst hx hb dX6_test_135 ki_1 ?_
              refine lv_iadd hx hb dX6_test_136 ?_
              obtain ⟨t12, et12, hf⟩ := nm_s hf
              refine pt_RX6_193 X h (hks 29 (by decide)) dX6_test_137 (fun H locs h => ?_)
              have h := fb_H.nm et12 h
              refine lv_aload_n hx hb dX6_test_140 rfl (lv_at hl 1 rfl) ?_
              refine gt_RX6_193 X h (hks 29 (by decide)) dX6_test_141 ?_
              refine lv_iconst hx hb dX6_test_144 ki_1 ?_
              refine lv_isub hx hb dX6_test_145 ?_
              have e9 := Option.some.inj hf
              subst e9
              exact fb_ir X h hr hlk dX6_test_146
            · have hf := if_t hc hf
              refine lv_bipush hx hb dX6_test_69 kb_m4 ?_
              have e9 := Option.some.inj hf
              subst e9
              exact fb_ir X h hr hlk dX6_test_71
          · have hf := if_f hc hf
            refine lv_bipush hx hb dX6_test_57 kb_m2 ?_
            have e9 := Option.some.inj hf
            subst e9
            exact fb_ir X h hr hlk dX6_test_59
def f_X6_forget_L37 (N : Nat) : Nat → Int32 → fb_S → Option (Int32 × fb_S)
  | 0, _, _ => none
  | n + 1, v2, σ => 
    if ((5 : Int32) * (σ.1 29 30)) ≤ v2 then (
      some (σ.1 29 30, σ)
    ) else (
      ck_ (fb_in (v2 + (5 : Int32)) 100) <|
      ck_ (fb_in v2 100) <|
      nm_ (fb_up σ 47 (v2.toNatClampNeg) (σ.1 47 (v2 + (5 : Int32)).toNatClampNeg)) fun t1 =>
      f_X6_forget_L37 N n (v2 + 1) t1
    )
def f_X6_forget (N : Nat) (a1 : Int32) (σ : fb_S) : Option (Int32 × fb_S) :=
  nm_ (fb_up σ 29 0 (0 : Int32)) fun t2 =>
  (f_X6_in (a1.toInt64) (0 : Int64) (((t2.1 29 30) - (1 : Int32)).toInt64)).bind fun q3 =>
  if q3 = 0 then (
    some ((-1 : Int32), t2)
  ) else (
    nm_ (fb_up t2 29 30 ((t2.1 29 30) - (1 : Int32))) fun t4 =>
    nm_ ((5 : Int32) * a1) fun x5 =>
    f_X6_forget_L37 N N x5 t4
  )
set_option maxHeartbeats 4000000 in
set_option maxRecDepth 100000 in
theorem w_X6_forget_L37 (X : fb_X p m c cX6_forget 3 s args RX6 g ks (fb_A g ks)) (hks : ∀ k ∈ ([29, 47] : List Nat), k ∈ ks) (hr : meth.sig.returnType = (some .int)) (hlk : meth.locks = false) (N : Nat)  {res : (Int32 × fb_S)} : ∀ (n : Nat) (v2 : Int32) (σ : fb_S) (H : Heap) (locs : List Loc) (ls : Array Slot), fb_H g ks (fb_A g ks) s.heap σ H locs → lv_has ls 3 [(0, .ref (g.1 29)), (2, .int v2)] → f_X6_forget_L37 N n v2 σ = some res → W p l e (fb_R 1 25) s m args below meth c H locs 0 0 (MQ below (fb_Qi g ks res.1 res.2) args s 0 0 (fb_A g ks)) (F0 m 37 ls []) := by
  have hx := X.1.1
  have hb := X.1.2.1
  intro n
  induction n with
  | zero => intro v2 σ H locs ls h hl hf; cases hf
  | succ n ih =>
    intro v2 σ H locs ls h hl hf
    unfold f_X6_forget_L37 at hf
    refine lv_iload_n hx hb dX6_forget_37 rfl (lv_at hl 1 rfl) ?_
    refine lv_iconst hx hb dX6_forget_38 ki_5 ?_
    refine lv_aload_n hx hb dX6_forget_39 rfl (lv_at hl 0 rfl) ?_
    refine gt_RX6_193 X h (hks 29 (by decide)) dX6_forget_40 ?_
    refine lv_imul hx hb dX6_forget_43 ?_
    refine lv_icmp_ge hx hb dX6_forget_44 (tgt := 67) (by decide) (fun hc => ?_) (fun hc => ?_)
    · have hf := if_t hc hf
      refine lv_aload_n hx hb dX6_forget_67 rfl (lv_at hl 0 rfl) ?_
      refine gt_RX6_193 X h (hks 29 (by decide)) dX6_forget_68 ?_
      have e9 := Option.some.inj hf
      subst e9
      exact fb_ir X h hr hlk dX6_forget_71
    · have hf := if_f hc hf
      refine lv_aload_n hx hb dX6_forget_47 rfl (lv_at hl 0 rfl) ?_
      refine gt_RX6_66 X h (hks 29 (by decide)) dX6_forget_48 ?_
      refine lv_iload_n hx hb dX6_forget_51 rfl (lv_at hl 1 rfl) ?_
      refine lv_aload_n hx hb dX6_forget_52 rfl (lv_at hl 0 rfl) ?_
      refine gt_RX6_66 X h (hks 29 (by decide)) dX6_forget_53 ?_
      refine lv_iload_n hx hb dX6_forget_56 rfl (lv_at hl 1 rfl) ?_
      refine lv_iconst hx hb dX6_forget_57 ki_5 ?_
      refine lv_iadd hx hb dX6_forget_58 ?_
      obtain ⟨hi0, hf⟩ := ck_s hf
      refine fb_iald X h (hks 47 (by decide)) rfl hi0 dX6_forget_59 ?_
      obtain ⟨hi0, hf⟩ := ck_s hf
      obtain ⟨t1, et1, hf⟩ := nm_s hf
      refine fb_iast X h (hks 47 (by decide)) (fun _ => rfl) hi0 dX6_forget_60 (fun H locs h => ?_)
      have h := fb_H.nm et1 h
      refine lv_iinc hx hb dX6_forget_61 hl (k := 1) rfl (kinc_1 _) (by decide) (lv' := [(2, .int (v2 + 1)), (0, .ref (g.1 29))]) rfl (fun ls hl => ?_)
      refine lv_goto hx hb dX6_forget_64 (tgt := 37) (by decide) ?_
      exact ih (v2 + 1) t1 _ _ _ h (lv_sub hl [1, 0] rfl) hf
set_option maxHeartbeats 4000000 in
set_option maxRecDepth 100000 in
theorem c_X6_forget (l : Launch) {g : fb_G} {ks : List Nat} (hI : fb_I g ks) (hks : ∀ k ∈ ([29, 47] : List Nat), k ∈ ks) (N : Nat) (a1 : Int32) (σ : fb_S) {res : (Int32 × fb_S)} (hf : f_X6_forget N a1 σ = some res) : fb_M l yX6_forget cX6_forget 3 (some .int) 1 25 g ks [.ref (g.1 29), .int a1] σ (fb_Qi g ks res.1 res.2) := by
  refine fb_met (by decide +kernel) hI (Nat.le_of_ble_eq_true rfl) (fun p e s m below meth c ls X h hr hlk hl => ?_)
  have X : fb_X p m c cX6_forget 3 s _ RX6 g ks (fb_A g ks) := X
  have hl : lv_has ls 3 [(0, .ref (g.1 29)), (1, .int a1)] := hl
  have hx := X.1.1
  have hb := X.1.2.1
  unfold f_X6_forget at hf
  refine lv_aload_n hx hb dX6_forget_0 rfl (lv_at hl 0 rfl) ?_
  refine lv_iconst hx hb dX6_forget_1 ki_0 ?_
  obtain ⟨t2, et2, hf⟩ := nm_s hf
  refine pt_RX6_75 X h (hks 29 (by decide)) dX6_forget_2 (fun H locs h => ?_)
  have h := fb_H.nm et2 h
  refine lv_iload_n hx hb dX6_forget_5 rfl (lv_at hl 1 rfl) ?_
  refine lv_i2l hx hb dX6_forget_6 (v := a1.toInt64) rfl ?_
  refine lv_lconst hx hb dX6_forget_7 kl_0 ?_
  refine lv_aload_n hx hb dX6_forget_8 rfl (lv_at hl 0 rfl) ?_
  refine gt_RX6_193 X h (hks 29 (by decide)) dX6_forget_9 ?_
  refine lv_iconst hx hb dX6_forget_12 ki_1 ?_
  refine lv_isub hx hb dX6_forget_13 ?_
  refine lv_i2l hx hb dX6_forget_14 (v := ((t2.1 29 30) - (1 : Int32)).toInt64) rfl ?_
  obtain ⟨q3, hq3, hf⟩ := bd_s hf
  refine fb_ci X h (fb_runS (As := [.long (a1.toInt64), .long (0), .long (((t2.1 29 30) - (1 : Int32)).toInt64)]) (rest := []) X h (c_X6_in l X.2.2.1 (fun k hk => absurd hk List.not_mem_nil) (a1.toInt64) (0 : Int64) (((t2.1 29 30) - (1 : Int32)).toInt64) t2 hq3) mf_yX6_in lm_RX6_80 ⟨Nat.le_of_ble_eq_true rfl, Nat.le_of_ble_eq_true rfl⟩ ⟨Nat.le_refl _, Nat.le_refl _⟩ rfl hl.1 rfl (Nat.le_of_ble_eq_true rfl) dX6_forget_15) (fun H locs h => ?_)
  refine lv_if_ne hx hb dX6_forget_18 (tgt := 23) (by decide) (fun hc => ?_) (fun hc => ?_)
  · have hf := if_f hc hf
    refine lv_aload_n hx hb dX6_forget_23 rfl (lv_at hl 0 rfl) ?_
    refine lv_dup hx hb dX6_forget_24 rfl ?_
    refine gt_RX6_193 X h (hks 29 (by decide)) dX6_forget_25 ?_
    refine lv_iconst hx hb dX6_forget_28 ki_1 ?_
    refine lv_isub hx hb dX6_forget_29 ?_
    obtain ⟨t4, et4, hf⟩ := nm_s hf
    refine pt_RX6_193 X h (hks 29 (by decide)) dX6_forget_30 (fun H locs h => ?_)
    have h := fb_H.nm et4 h
    refine lv_iconst hx hb dX6_forget_33 ki_5 ?_
    refine lv_iload_n hx hb dX6_forget_34 rfl (lv_at hl 1 rfl) ?_
    refine lv_imul hx hb dX6_forget_35 ?_
    obtain ⟨x5, ex5, hf⟩ := nm_s hf
    refine fb_topi ex5 ?_
    refine lv_istore_n hx hb dX6_forget_36 rfl hl (by decide) (lv' := [(2, .int x5), (0, .ref (g.1 29)), (1, .int a1)]) rfl (fun ls hl => ?_)
    exact w_X6_forget_L37 X hks hr hlk N N x5 t4 _ _ _ h (lv_sub hl [1, 0] rfl) hf
  · have hf := if_t hc hf
    refine lv_iconst hx hb dX6_forget_21 ki_m1 ?_
    have e9 := Option.some.inj hf
    subst e9
    exact fb_ir X h hr hlk dX6_forget_22
def f_X6_netBy (a1 : Int32) (a2 : Int32) : Option Int32 :=
  some (((a1 * (a2 / (50 : Int32))) / (100 : Int32)) - ((a2 - a2 / (50 : Int32) * (50 : Int32)) + (1 : Int32)))
set_option maxHeartbeats 4000000 in
set_option maxRecDepth 100000 in
theorem c_X6_netBy (l : Launch) {g : fb_G} {ks : List Nat} (hI : fb_I g ks) (hks : ∀ k ∈ ([] : List Nat), k ∈ ks) (a1 : Int32) (a2 : Int32) (σ : fb_S) {res : Int32} (hf : f_X6_netBy a1 a2 = some res) : fb_M l yX6_netBy cX6_netBy 2 (some .int) 0 0 g ks [.int a1, .int a2] σ (fb_Qi g ks res σ) := by
  refine fb_met (by decide +kernel) hI (Nat.le_of_ble_eq_true rfl) (fun p e s m below meth c ls X h hr hlk hl => ?_)
  have X : fb_X p m c cX6_netBy 2 s _ RX6 g ks (fb_A g ks) := X
  have hl : lv_has ls 2 [(0, .int a1), (1, .int a2)] := hl
  have hx := X.1.1
  have hb := X.1.2.1
  unfold f_X6_netBy at hf
  refine lv_iload_n hx hb dX6_netBy_0 rfl (lv_at hl 0 rfl) ?_
  refine lv_iload_n hx hb dX6_netBy_1 rfl (lv_at hl 1 rfl) ?_
  refine lv_bipush hx hb dX6_netBy_2 kb_50 ?_
  refine lv_idiv hx hb dX6_netBy_4 (by decide) ?_
  refine lv_imul hx hb dX6_netBy_5 ?_
  refine lv_bipush hx hb dX6_netBy_6 kb_100 ?_
  refine lv_idiv hx hb dX6_netBy_8 (by decide) ?_
  refine lv_iload_n hx hb dX6_netBy_9 rfl (lv_at hl 1 rfl) ?_
  refine lv_bipush hx hb dX6_netBy_10 kb_50 ?_
  refine lv_irem hx hb dX6_netBy_12 (by decide) ?_
  refine lv_iconst hx hb dX6_netBy_13 ki_1 ?_
  refine lv_iadd hx hb dX6_netBy_14 ?_
  refine lv_isub hx hb dX6_netBy_15 ?_
  have e9 := Option.some.inj hf
  subst e9
  exact fb_ir X h hr hlk dX6_netBy_16
end MW
