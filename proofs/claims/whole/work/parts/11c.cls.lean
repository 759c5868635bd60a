section MW
variable {p : Program} {l : Launch} {e : Env} {s : State} {m : MethodId} {args : Array Value} {below : List Frame} {meth : Method} {c : Code} {g : fb_G} {ks : List Nat}
def f_X5_day (N : Nat) (a1 : Int32) (a2 : Int32) (σ : fb_S) : Option (Int32 × fb_S) :=
  (f_X5_isDay a1).bind fun q1 =>
  if q1 = 0 then (
    some ((-2 : Int32), σ)
  ) else (
    (f_X5_isWithin a2 (0 : Int32) (5 : Int32)).bind fun q2 =>
    if q2 = 0 then (
      some ((-2 : Int32), σ)
    ) else (
      (f_X5_walkDay N a1 σ).bind fun q3 =>
      if a2 = 0 then (
        some (q3.1 17 4, q3)
      ) else (
        if a2 = 1 then (
          some (q3.1 17 5, q3)
        ) else (
          if a2 = 2 then (
            some (q3.1 17 6, q3)
          ) else (
            if a2 = 3 then (
              some (q3.1 17 7, q3)
            ) else (
              if a2 = 4 then (
                some (q3.1 17 8, q3)
              ) else (
                some (q3.1 17 9, q3)
      )))))
    )
  )
set_option maxHeartbeats 4000000 in
set_option maxRecDepth 100000 in
theorem c_X5_day (l : Launch) {g : fb_G} {ks : List Nat} (hI : fb_I g ks) (hks : ∀ k ∈ ([0, 1, 6, 7, 8, 9, 11, 12, 15, 17, 18, 19, 20, 21] : List Nat), k ∈ ks) (N : Nat) (a1 : Int32) (a2 : Int32) (σ : fb_S) {res : (Int32 × fb_S)} (hf : f_X5_day N a1 a2 σ = some res) : fb_M l yX5_day cX5_day 3 (some .int) 4 95 g ks [.ref (g.1 0), .int a1, .int a2] σ (fb_Qi g ks res.1 res.2) := by
  refine fb_met (by decide +kernel) hI (Nat.le_of_ble_eq_true rfl) (fun p e s m below meth c ls X h hr hlk hl => ?_)
  have X : fb_X p m c cX5_day 3 s _ RX5 g ks (fb_A g ks) := X
  have hl : lv_has ls 3 [(0, .ref (g.1 0)), (1, .int a1), (2, .int a2)] := hl
  have hx := X.1.1
  have hb := X.1.2.1
  unfold f_X5_day at hf
  refine lv_iload_n hx hb dX5_day_0 rfl (lv_at hl 1 rfl) ?_
  obtain ⟨q1, hq1, hf⟩ := bd_s hf
  refine fb_ci X h (fb_runS (As := [.int a1]) (rest := []) X h (c_X5_isDay l X.2.2.1 (fun k hk => absurd hk List.not_mem_nil) a1 σ hq1) mf_yX5_isDay lm_RX5_168 ⟨Nat.le_of_ble_eq_true rfl, Nat.le_of_ble_eq_true rfl⟩ ⟨Nat.le_refl _, Nat.le_refl _⟩ rfl hl.1 rfl (Nat.le_of_ble_eq_true rfl) dX5_day_1) (fun H locs h => ?_)
  refine lv_if_eq hx hb dX5_day_4 (tgt := 16) (by decide) (fun hc => ?_) (fun hc => ?_)
  · have hf := if_t hc hf
    refine lv_bipush hx hb dX5_day_16 kb_m2 ?_
    have e9 := Option.some.inj hf
    subst e9
    exact fb_ir X h hr hlk dX5_day_18
  · have hf := if_f hc hf
    refine lv_iload_n hx hb dX5_day_7 rfl (lv_at hl 2 rfl) ?_
    refine lv_iconst hx hb dX5_day_8 ki_0 ?_
    refine lv_iconst hx hb dX5_day_9 ki_5 ?_
    obtain ⟨q2, hq2, hf⟩ := bd_s hf
    refine fb_ci X h (fb_runS (As := [.int a2, .int (0), .int (5)]) (rest := []) X h (c_X5_isWithin l X.2.2.1 (fun k hk => absurd hk List.not_mem_nil) a2 (0 : Int32) (5 : Int32) σ hq2) mf_yX5_isWithin lm_RX5_48 ⟨Nat.le_of_ble_eq_true rfl, Nat.le_of_ble_eq_true rfl⟩ ⟨Nat.le_refl _, Nat.le_refl _⟩ rfl hl.1 rfl (Nat.le_of_ble_eq_true rfl) dX5_day_10) (fun H locs h => ?_)
    refine lv_if_ne hx hb dX5_day_13 (tgt := 19) (by decide) (fun hc => ?_) (fun hc => ?_)
    · have hf := if_f hc hf
      refine lv_aload_n hx hb dX5_day_19 rfl (lv_at hl 0 rfl) ?_
      refine lv_iload_n hx hb dX5_day_20 rfl (lv_at hl 1 rfl) ?_
      obtain ⟨q3, hq3, hf⟩ := bd_s hf
      refine fb_cv X h (fb_runV (As := [.int a1]) (rest := []) (k := 0) X h (c_X5_walkDay l X.2.2.1 (fun k hk => hks k ((by decide : ∀ k ∈ ([0, 1, 6, 7, 8, 9, 11, 12, 15, 17, 18, 19, 20, 21] : List Nat), k ∈ ([0, 1, 6, 7, 8, 9, 11, 12, 15, 17, 18, 19, 20, 21] : List Nat)) k hk)) N a1 σ hq3) mf_yX5_walkDay lm_RX5_171 (hks 0 (by decide)) rfl rfl ⟨Nat.le_of_ble_eq_true rfl, Nat.le_of_ble_eq_true rfl⟩ ⟨Nat.le_refl _, Nat.le_refl _⟩ rfl hl.1 rfl (Nat.le_of_ble_eq_true rfl) dX5_day_21) (fun H locs h => ?_)
      refine lv_iload_n hx hb dX5_day_24 rfl (lv_at hl 2 rfl) ?_
      by_cases hc0 : a2 = 0
      · have hf := if_t hc0 hf
        refine lv_tableIn hx hb dX5_day_25 (off := 35) (tgt := 60) (by rw [hc0]; decide) (by rw [hc0]; decide) (by rw [hc0]; decide) (by decide) ?_
        refine lv_aload_n hx hb dX5_day_60 rfl (lv_at hl 0 rfl) ?_
        refine gt_RX5_37 X h (hks 0 (by decide)) dX5_day_61 ?_
        refine gt_RX5_174 X h (hks 17 (by decide)) dX5_day_64 ?_
        have e9 := Option.some.inj hf
        subst e9
        exact fb_ir X h hr hlk dX5_day_67
      have hf := if_f hc0 hf
      by_cases hc1 : a2 = 1
      · have hf := if_t hc1 hf
        refine lv_tableIn hx hb dX5_day_25 (off := 43) (tgt := 68) (by rw [hc1]; decide) (by rw [hc1]; decide) (by rw [hc1]; decide) (by decide) ?_
        refine lv_aload_n hx hb dX5_day_68 rfl (lv_at hl 0 rfl) ?_
        refine gt_RX5_37 X h (hks 0 (by decide)) dX5_day_69 ?_
        refine gt_RX5_177 X h (hks 17 (by decide)) dX5_day_72 ?_
        have e9 := Option.some.inj hf
        subst e9
        exact fb_ir X h hr hlk dX5_day_75
      have hf := if_f hc1 hf
      by_cases hc2 : a2 = 2
      · have hf := if_t hc2 hf
        refine lv_tableIn hx hb dX5_day_25 (off := 51) (tgt := 76) (by rw [hc2]; decide) (by rw [hc2]; decide) (by rw [hc2]; decide) (by decide) ?_
        refine lv_aload_n hx hb dX5_day_76 rfl (lv_at hl 0 rfl) ?_
        refine gt_RX5_37 X h (hks 0 (by decide)) dX5_day_77 ?_
        refine gt_RX5_180 X h (hks 17 (by decide)) dX5_day_80 ?_
        have e9 := Option.some.inj hf
        subst e9
        exact fb_ir X h hr hlk dX5_day_83
      have hf := if_f hc2 hf
      by_cases hc3 : a2 = 3
      · have hf := if_t hc3 hf
        refine lv_tableIn hx hb dX5_day_25 (off := 59) (tgt := 84) (by rw [hc3]; decide) (by rw [hc3]; decide) (by rw [hc3]; decide) (by decide) ?_
        refine lv_aload_n hx hb dX5_day_84 rfl (lv_at hl 0 rfl) ?_
        refine gt_RX5_37 X h (hks 0 (by decide)) dX5_day_85 ?_
        refine gt_RX5_183 X h (hks 17 (by decide)) dX5_day_88 ?_
        have e9 := Option.some.inj hf
        subst e9
        exact fb_ir X h hr hlk dX5_day_91
      have hf := if_f hc3 hf
      by_cases hc4 : a2 = 4
      · have hf := if_t hc4 hf
        refine lv_tableIn hx hb dX5_day_25 (off := 67) (tgt := 92) (by rw [hc4]; decide) (by rw [hc4]; decide) (by rw [hc4]; decide) (by decide) ?_
        refine lv_aload_n hx hb dX5_day_92 rfl (lv_at hl 0 rfl) ?_
        refine gt_RX5_37 X h (hks 0 (by decide)) dX5_day_93 ?_
        refine gt_RX5_186 X h (hks 17 (by decide)) dX5_day_96 ?_
        have e9 := Option.some.inj hf
        subst e9
        exact fb_ir X h hr hlk dX5_day_99
      have hf := if_f hc4 hf
      refine lv_tableOut hx hb dX5_day_25 (tgt := 100) (by have h9 := fb_swn (x := a2) 5 (by decide) (fun j hj => match j, hj with | 0, _ => hc0 | 1, _ => hc1 | 2, _ => hc2 | 3, _ => hc3 | 4, _ => hc4); omega) (by decide) ?_
      refine lv_aload_n hx hb dX5_day_100 rfl (lv_at hl 0 rfl) ?_
      refine gt_RX5_37 X h (hks 0 (by decide)) dX5_day_101 ?_
      refine gt_RX5_189 X h (hks 17 (by decide)) dX5_day_104 ?_
      have e9 := Option.some.inj hf
      subst e9
      exact fb_ir X h hr hlk dX5_day_107
    · have hf := if_t hc hf
      refine lv_bipush hx hb dX5_day_16 kb_m2 ?_
      have e9 := Option.some.inj hf
      subst e9
      exact fb_ir X h hr hlk dX5_day_18
def f_X5_on (N : Nat) (a1 : Int32) (a2 : Int32) (σ : fb_S) : Option (Int32 × fb_S) :=
  (f_X5_isDay a1).bind fun q1 =>
  if q1 = 0 then (
    some ((-2 : Int32), σ)
  ) else (
    (f_X5_isWithin a2 (0 : Int32) ((σ.1 18 0) - (1 : Int32))).bind fun q2 =>
    if q2 = 0 then (
      some ((-1 : Int32), σ)
    ) else (
      (f_X5_walkDay N a1 σ).bind fun q3 =>
      ck_ (fb_in a2 8) <|
      some (q3.1 20 a2.toNatClampNeg, q3)
    )
  )
set_option maxHeartbeats 4000000 in
set_option maxRecDepth 100000 in
theorem c_X5_on (l : Launch) {g : fb_G} {ks : List Nat} (hI : fb_I g ks) (hks : ∀ k ∈ ([0, 1, 6, 7, 8, 9, 11, 12, 15, 17, 18, 19, 20, 21] : List Nat), k ∈ ks) (N : Nat) (a1 : Int32) (a2 : Int32) (σ : fb_S) {res : (Int32 × fb_S)} (hf : f_X5_on N a1 a2 σ = some res) : fb_M l yX5_on cX5_on 3 (some .int) 4 95 g ks [.ref (g.1 0), .int a1, .int a2] σ (fb_Qi g ks res.1 res.2) := by
  refine fb_met (by decide +kernel) hI (Nat.le_of_ble_eq_true rfl) (fun p e s m below meth c ls X h hr hlk hl => ?_)
  have X : fb_X p m c cX5_on 3 s _ RX5 g ks (fb_A g ks) := X
  have hl : lv_has ls 3 [(0, .ref (g.1 0)), (1, .int a1), (2, .int a2)] := hl
  have hx := X.1.1
  have hb := X.1.2.1
  unfold f_X5_on at hf
  refine lv_iload_n hx hb dX5_on_0 rfl (lv_at hl 1 rfl) ?_
  obtain ⟨q1, hq1, hf⟩ := bd_s hf
  refine fb_ci X h (fb_runS (As := [.int a1]) (rest := []) X h (c_X5_isDay l X.2.2.1 (fun k hk => absurd hk List.not_mem_nil) a1 σ hq1) mf_yX5_isDay lm_RX5_168 ⟨Nat.le_of_ble_eq_true rfl, Nat.le_of_ble_eq_true rfl⟩ ⟨Nat.le_refl _, Nat.le_refl _⟩ rfl hl.1 rfl (Nat.le_of_ble_eq_true rfl) dX5_on_1) (fun H locs h => ?_)
  refine lv_if_ne hx hb dX5_on_4 (tgt := 10) (by decide) (fun hc => ?_) (fun hc => ?_)
  · have hf := if_f hc hf
    refine lv_iload_n hx hb dX5_on_10 rfl (lv_at hl 2 rfl) ?_
    refine lv_iconst hx hb dX5_on_11 ki_0 ?_
    refine lv_aload_n hx hb dX5_on_12 rfl (lv_at hl 0 rfl) ?_
    refine gt_RX5_37 X h (hks 0 (by decide)) dX5_on_13 ?_
    refine gt_RX5_162 X h (hks 17 (by decide)) dX5_on_16 ?_
    refine lv_iconst hx hb dX5_on_19 ki_0 ?_
    refine fb_ialdL X h (hks 18 (by decide)) rfl (by decide) kn_0 dX5_on_20 ?_
    refine lv_iconst hx hb dX5_on_21 ki_1 ?_
    refine lv_isub hx hb dX5_on_22 ?_
    obtain ⟨q2, hq2, hf⟩ := bd_s hf
    refine fb_ci X h (fb_runS (As := [.int a2, .int (0), .int ((σ.1 18 0) - (1 : Int32))]) (rest := []) X h (c_X5_isWithin l X.2.2.1 (fun k hk => absurd hk List.not_mem_nil) a2 (0 : Int32) ((σ.1 18 0) - (1 : Int32)) σ hq2) mf_yX5_isWithin lm_RX5_48 ⟨Nat.le_of_ble_eq_true rfl, Nat.le_of_ble_eq_true rfl⟩ ⟨Nat.le_refl _, Nat.le_refl _⟩ rfl hl.1 rfl (Nat.le_of_ble_eq_true rfl) dX5_on_23) (fun H locs h => ?_)
    refine lv_if_ne hx hb dX5_on_26 (tgt := 31) (by decide) (fun hc => ?_) (fun hc => ?_)
    · have hf := if_f hc hf
      refine lv_aload_n hx hb dX5_on_31 rfl (lv_at hl 0 rfl) ?_
      refine lv_iload_n hx hb dX5_on_32 rfl (lv_at hl 1 rfl) ?_
      obtain ⟨q3, hq3, hf⟩ := bd_s hf
      refine fb_cv X h (fb_runV (As := [.int a1]) (rest := []) (k := 0) X h (c_X5_walkDay l X.2.2.1 (fun k hk => hks k ((by decide : ∀ k ∈ ([0, 1, 6, 7, 8, 9, 11, 12, 15, 17, 18, 19, 20, 21] : List Nat), k ∈ ([0, 1, 6, 7, 8, 9, 11, 12, 15, 17, 18, 19, 20, 21] : List Nat)) k hk)) N a1 σ hq3) mf_yX5_walkDay lm_RX5_171 (hks 0 (by decide)) rfl rfl ⟨Nat.le_of_ble_eq_true rfl, Nat.le_of_ble_eq_true rfl⟩ ⟨Nat.le_refl _, Nat.le_refl _⟩ rfl hl.1 rfl (Nat.le_of_ble_eq_true rfl) dX5_on_33) (fun H locs h => ?_)
      refine lv_aload_n hx hb dX5_on_36 rfl (lv_at hl 0 rfl) ?_
      refine gt_RX5_37 X h (hks 0 (by decide)) dX5_on_37 ?_
      refine gt_RX5_192 X h (hks 17 (by decide)) dX5_on_40 ?_
      refine lv_iload_n hx hb dX5_on_43 rfl (lv_at hl 2 rfl) ?_
      obtain ⟨hi0, hf⟩ := ck_s hf
      refine fb_iald X h (hks 20 (by decide)) rfl hi0 dX5_on_44 ?_
      have e9 := Option.some.inj hf
      subst e9
      exact fb_ir X h hr hlk dX5_on_45
    · have hf := if_t hc hf
      refine lv_iconst hx hb dX5_on_29 ki_m1 ?_
      have e9 := Option.some.inj hf
      subst e9
      exact fb_ir X h hr hlk dX5_on_30
  · have hf := if_t hc hf
    refine lv_bipush hx hb dX5_on_7 kb_m2 ?_
    have e9 := Option.some.inj hf
    subst e9
    exact fb_ir X h hr hlk dX5_on_9
def f_X2_markOfMostOver_L74 (N : Nat) (k13 : Int32 → Int32 → Int32 → Int32 → Int32 → Int32 → fb_S → Option (Int32 × fb_S)) (v1 : Int32) (v4 : Int32) (v5 : Int32) (v6 : Int32) (v8 : Int32) (σ : fb_S) : Option (Int32 × fb_S) :=
  nm_ ((σ.1 17 10) + (1 : Int32)) fun x1 =>
  k13 v1 v4 v5 v6 x1 (v8 + 1) σ
def f_X2_markOfMostOver_L13 (N : Nat) : Nat → Int32 → Int32 → Int32 → Int32 → Int32 → Int32 → fb_S → Option (Int32 × fb_S)
  | 0, _, _, _, _, _, _, _ => none
  | n + 1, v1, v4, v5, v6, v7, v8, σ => 
    if (200 : Int32) < v8 then (
      some (v5, σ)
    ) else (
      if (200 : Int32) < v7 then (
        some (v5, σ)
      ) else (
        (f_X2_walkDay N v1 v7 (σ.1 1 3) (σ.1 1 1) v4 σ).bind fun q2 =>
        if (q2.1 1 3) < (q2.1 17 8) then (
          f_X2_markOfMostOver_L74 N (f_X2_markOfMostOver_L13 N n) v1 v4 v5 v6 v8 q2
        ) else (
          if (q2.1 17 4) ≤ v6 then (
            f_X2_markOfMostOver_L74 N (f_X2_markOfMostOver_L13 N n) v1 v4 v5 v6 v8 q2
          ) else (
            nm_ (q2.1 17 4) fun x3 =>
            f_X2_markOfMostOver_L74 N (f_X2_markOfMostOver_L13 N n) v1 v4 v7 x3 v8 q2
          )
        )
      )
    )
def f_X2_markOfMostOver (N : Nat) (a1 : Int32) (a4 : Int32) (σ : fb_S) : Option (Int32 × fb_S) :=
  f_X2_markOfMostOver_L13 N N a1 a4 (-9 : Int32) (-1 : Int32) (0 : Int32) (0 : Int32) σ
set_option maxHeartbeats 4000000 in
set_option maxRecDepth 100000 in
theorem w_X2_markOfMostOver_L74 (X : fb_X p m c cX2_markOfMostOver 9 s args RX2 g ks (fb_A g ks)) (hks : ∀ k ∈ ([1, 6, 7, 8, 9, 17, 18, 19, 20, 21] : List Nat), k ∈ ks) (hr : meth.sig.returnType = (some .int)) (hlk : meth.locks = false) (N : Nat) (k13 : Int32 → Int32 → Int32 → Int32 → Int32 → Int32 → fb_S → Option (Int32 × fb_S))  {res : (Int32 × fb_S)} (hk13 : ∀ (v1 : Int32) (v4 : Int32) (v5 : Int32) (v6 : Int32) (v7 : Int32) (v8 : Int32) (σ : fb_S) (H : Heap) (locs : List Loc) (ls : Array Slot), fb_H g ks (fb_A g ks) s.heap σ H locs → lv_has ls 9 [(0, .ref (g.1 17)), (1, .int v1), (2, .ref (g.1 6)), (3, .ref (g.1 1)), (4, .int v4), (5, .int v5), (6, .int v6), (7, .int v7), (8, .int v8)] → k13 v1 v4 v5 v6 v7 v8 σ = some res → W p l e (fb_R 3 74) s m args below meth c H locs 0 0 (MQ below (fb_Qi g ks res.1 res.2) args s 0 0 (fb_A g ks)) (F0 m 13 ls [])) : ∀ (v1 : Int32) (v4 : Int32) (v5 : Int32) (v6 : Int32) (v8 : Int32) (σ : fb_S) (H : Heap) (locs : List Loc) (ls : Array Slot), fb_H g ks (fb_A g ks) s.heap σ H locs → lv_has ls 9 [(0, .ref (g.1 17)), (1, .int v1), (2, .ref (g.1 6)), (3, .ref (g.1 1)), (4, .int v4), (5, .int v5), (6, .int v6), (8, .int v8)] → f_X2_markOfMostOver_L74 N k13 v1 v4 v5 v6 v8 σ = some res → W p l e (fb_R 3 74) s m args below meth c H locs 0 0 (MQ below (fb_Qi g ks res.1 res.2) args s 0 0 (fb_A g ks)) (F0 m 74 ls []) := by
  have hx := X.1.1
  have hb := X.1.2.1
  intro v1 v4 v5 v6 v8 σ H locs ls h hl hf
  unfold f_X2_markOfMostOver_L74 at hf
  refine lv_aload_n hx hb dX2_markOfMostOver_74 rfl (lv_at hl 0 rfl) ?_
  refine gt_RX2_49 X h (hks 17 (by decide)) dX2_markOfMostOver_75 ?_
  refine lv_iconst hx hb dX2_markOfMostOver_78 ki_1 ?_
  refine lv_iadd hx hb dX2_markOfMostOver_79 ?_
  obtain ⟨x1, ex1, hf⟩ := nm_s hf
  refine fb_topi ex1 ?_
  refine lv_istore hx hb dX2_markOfMostOver_80 hl (by decide) (lv' := [(7, .int x1), (0, .ref (g.1 17)), (1, .int v1), (2, .ref (g.1 6)), (3, .ref (g.1 1)), (4, .int v4), (5, .int v5), (6, .int v6), (8, .int v8)]) rfl (fun ls hl => ?_)
  refine lv_iinc hx hb dX2_markOfMostOver_82 hl (k := 8) rfl (kinc_1 _) (by decide) (lv' := [(8, .int (v8 + 1)), (7, .int x1), (0, .ref (g.1 17)), (1, .int v1), (2, .ref (g.1 6)), (3, .ref (g.1 1)), (4, .int v4), (5, .int v5), (6, .int v6)]) rfl (fun ls hl => ?_)
  refine lv_goto hx hb dX2_markOfMostOver_85 (tgt := 13) (by decide) ?_
  exact hk13 v1 v4 v5 v6 x1 (v8 + 1) σ _ _ _ h (lv_sub hl [2, 3, 4, 5, 6, 7, 8, 1, 0] rfl) hf
set_option maxHeartbeats 4000000 in
set_option maxRecDepth 100000 in
theorem w_X2_markOfMostOver_L13 (X : fb_X p m c cX2_markOfMostOver 9 s args RX2 g ks (fb_A g ks)) (hks : ∀ k ∈ ([1, 6, 7, 8, 9, 17, 18, 19, 20, 21] : List Nat), k ∈ ks) (hr : meth.sig.returnType = (some .int)) (hlk : meth.locks = false) (N : Nat)  {res : (Int32 × fb_S)} : ∀ (n : Nat) (v1 : Int32) (v4 : Int32) (v5 : Int32) (v6 : Int32) (v7 : Int32) (v8 : Int32) (σ : fb_S) (H : Heap) (locs : List Loc) (ls : Array Slot), fb_H g ks (fb_A g ks) s.heap σ H locs → lv_has ls 9 [(0, .ref (g.1 17)), (1, .int v1), (2, .ref (g.1 6)), (3, .ref (g.1 1)), (4, .int v4), (5, .int v5), (6, .int v6), (7, .int v7), (8, .int v8)] → f_X2_markOfMostOver_L13 N n v1 v4 v5 v6 v7 v8 σ = some res → W p l e (fb_R 3 74) s m args below meth c H locs 0 0 (MQ below (fb_Qi g ks res.1 res.2) args s 0 0 (fb_A g ks)) (F0 m 13 ls []) := by
  have hx := X.1.1
  have hb := X.1.2.1
  intro n
  induction n with
  | zero => intro v1 v4 v5 v6 v7 v8 σ H locs ls h hl hf; cases hf
  | succ n ih =>
    intro v1 v4 v5 v6 v7 v8 σ H locs ls h hl hf
    unfold f_X2_markOfMostOver_L13 at hf
    refine lv_iload hx hb dX2_markOfMostOver_13 (lv_at hl 8 rfl) ?_
    refine lv_sipush hx hb dX2_markOfMostOver_15 ks_200 ?_
    refine lv_icmp_gt hx hb dX2_markOfMostOver_18 (tgt := 88) (by decide) (fun hc => ?_) (fun hc => ?_)
    · have hf := if_t hc hf
      refine lv_iload hx hb dX2_markOfMostOver_88 (lv_at hl 5 rfl) ?_
      have e9 := Option.some.inj hf
      subst e9
      exact fb_ir X h hr hlk dX2_markOfMostOver_90
    · have hf := if_f hc hf
      refine lv_iload hx hb dX2_markOfMostOver_21 (lv_at hl 7 rfl) ?_
      refine lv_sipush hx hb dX2_markOfMostOver_23 ks_200 ?_
      refine lv_icmp_gt hx hb dX2_markOfMostOver_26 (tgt := 88) (by decide) (fun hc => ?_) (fun hc => ?_)
      · have hf := if_t hc hf
        refine lv_iload hx hb dX2_markOfMostOver_88 (lv_at hl 5 rfl) ?_
        have e9 := Option.some.inj hf
        subst e9
        exact fb_ir X h hr hlk dX2_markOfMostOver_90
      · have hf := if_f hc hf
        refine lv_aload_n hx hb dX2_markOfMostOver_29 rfl (lv_at hl 0 rfl) ?_
        refine lv_iload_n hx hb dX2_markOfMostOver_30 rfl (lv_at hl 1 rfl) ?_
        refine lv_iload hx hb dX2_markOfMostOver_31 (lv_at hl 7 rfl) ?_
        refine lv_aload_n hx hb dX2_markOfMostOver_33 rfl (lv_at hl 3 rfl) ?_
        refine lv_iconst hx hb dX2_markOfMostOver_34 ki_3 ?_
        refine fb_ialdL X h (hks 1 (by decide)) rfl (by decide) kn_3 dX2_markOfMostOver_35 ?_
        refine lv_aload_n hx hb dX2_markOfMostOver_36 rfl (lv_at hl 2 rfl) ?_
        refine lv_aload_n hx hb dX2_markOfMostOver_37 rfl (lv_at hl 3 rfl) ?_
        refine lv_iconst hx hb dX2_markOfMostOver_38 ki_1 ?_
        refine fb_ialdL X h (hks 1 (by decide)) rfl (by decide) kn_1 dX2_markOfMostOver_39 ?_
        refine lv_iload hx hb dX2_markOfMostOver_40 (lv_at hl 4 rfl) ?_
        obtain ⟨q2, hq2, hf⟩ := bd_s hf
        refine fb_cv X h (fb_runV (As := [.int v1, .int v7, .int (σ.1 1 3), .ref (g.1 6), .int (σ.1 1 1), .int v4]) (rest := []) (k := 17) X h (c_X2_walkDay l X.2.2.1 (fun k hk => hks k ((by decide : ∀ k ∈ ([6, 7, 8, 9, 17, 18, 19, 20, 21] : List Nat), k ∈ ([1, 6, 7, 8, 9, 17, 18, 19, 20, 21] : List Nat)) k hk)) N v1 v7 (σ.1 1 3) (σ.1 1 1) v4 σ hq2) mf_yX2_walkDay lm_RX2_85 (hks 17 (by decide)) rfl rfl ⟨Nat.le_of_ble_eq_true rfl, Nat.le_of_ble_eq_true rfl⟩ ⟨Nat.le_refl _, Nat.le_refl _⟩ rfl hl.1 rfl (Nat.le_of_ble_eq_true rfl) dX2_markOfMostOver_42) (fun H locs h => ?_)
        refine lv_aload_n hx hb dX2_markOfMostOver_45 rfl (lv_at hl 0 rfl) ?_
        refine gt_RX2_43 X h (hks 17 (by decide)) dX2_markOfMostOver_46 ?_
        refine lv_aload_n hx hb dX2_markOfMostOver_49 rfl (lv_at hl 3 rfl) ?_
        refine lv_iconst hx hb dX2_markOfMostOver_50 ki_3 ?_
        refine fb_ialdL X h (hks 1 (by decide)) rfl (by decide) kn_3 dX2_markOfMostOver_51 ?_
        refine lv_icmp_gt hx hb dX2_markOfMostOver_52 (tgt := 74) (by decide) (fun hc => ?_) (fun hc => ?_)
        · have hf := if_t hc hf
          exact w_X2_markOfMostOver_L74 X hks hr hlk N (f_X2_markOfMostOver_L13 N n) ih v1 v4 v5 v6 v8 q2 _ _ _ h (lv_sub hl [0, 1, 2, 3, 4, 5, 6, 8] rfl) hf
        · have hf := if_f hc hf
          refine lv_aload_n hx hb dX2_markOfMostOver_55 rfl (lv_at hl 0 rfl) ?_
          refine gt_RX2_30 X h (hks 17 (by decide)) dX2_markOfMostOver_56 ?_
          refine lv_iload hx hb dX2_markOfMostOver_59 (lv_at hl 6 rfl) ?_
          refine lv_icmp_le hx hb dX2_markOfMostOver_61 (tgt := 74) (by decide) (fun hc => ?_) (fun hc => ?_)
          · have hf := if_t hc hf
            exact w_X2_markOfMostOver_L74 X hks hr hlk N (f_X2_markOfMostOver_L13 N n) ih v1 v4 v5 v6 v8 q2 _ _ _ h (lv_sub hl [0, 1, 2, 3, 4, 5, 6, 8] rfl) hf
          · have hf := if_f hc hf
            refine lv_iload hx hb dX2_markOfMostOver_64 (lv_at hl 7 rfl) ?_
            refine lv_istore hx hb dX2_markOfMostOver_66 hl (by decide) (lv' := [(5, .int v7), (0, .ref (g.1 17)), (1, .int v1), (2, .ref (g.1 6)), (3, .ref (g.1 1)), (4, .int v4), (6, .int v6), (7, .int v7), (8, .int v8)]) rfl (fun ls hl => ?_)
            refine lv_aload_n hx hb dX2_markOfMostOver_68 rfl (lv_at hl 1 rfl) ?_
            refine gt_RX2_30 X h (hks 17 (by decide)) dX2_markOfMostOver_69 ?_
            obtain ⟨x3, ex3, hf⟩ := nm_s hf
            refine fb_topi ex3 ?_
            refine lv_istore hx hb dX2_markOfMostOver_72 hl (by decide) (lv' := [(6, .int x3), (5, .int v7), (0, .ref (g.1 17)), (1, .int v1), (2, .ref (g.1 6)), (3, .ref (g.1 1)), (4, .int v4), (7, .int v7), (8, .int v8)]) rfl (fun ls hl => ?_)
            exact w_X2_markOfMostOver_L74 X hks hr hlk N (f_X2_markOfMostOver_L13 N n) ih v1 v4 v7 x3 v8 q2 _ _ _ h (lv_sub hl [2, 3, 4, 5, 6, 1, 0, 8] rfl) hf
set_option maxHeartbeats 4000000 in
set_option maxRecDepth 100000 in
theorem c_X2_markOfMostOver (l : Launch) {g : fb_G} {ks : List Nat} (hI : fb_I g ks) (hks : ∀ k ∈ ([1, 6, 7, 8, 9, 17, 18, 19, 20, 21] : List Nat), k ∈ ks) (N : Nat) (a1 : Int32) (a4 : Int32) (σ : fb_S) {res : (Int32 × fb_S)} (hf : f_X2_markOfMostOver N a1 a4 σ = some res) : fb_M l yX2_markOfMostOver cX2_markOfMostOver 9 (some .int) 3 74 g ks [.ref (g.1 17), .int a1, .ref (g.1 6), .ref (g.1 1), .int a4] σ (fb_Qi g ks res.1 res.2) := by
  refine fb_met (by decide +kernel) hI (Nat.le_of_ble_eq_true rfl) (fun p e s m below meth c ls X h hr hlk hl => ?_)
  have X : fb_X p m c cX2_markOfMostOver 9 s _ RX2 g ks (fb_A g ks) := X
  have hl : lv_has ls 9 [(0, .ref (g.1 17)), (1, .int a1), (2, .ref (g.1 6)), (3, .ref (g.1 1)), (4, .int a4)] := hl
  have hx := X.1.1
  have hb := X.1.2.1
  unfold f_X2_markOfMostOver at hf
  refine lv_bipush hx hb dX2_markOfMostOver_0 kb_m9 ?_
  refine lv_istore hx hb dX2_markOfMostOver_2 hl (by decide) (lv' := [(5, .int (-9)), (0, .ref (g.1 17)), (1, .int a1), (2, .ref (g.1 6)), (3, .ref (g.1 1)), (4, .int a4)]) rfl (fun ls hl => ?_)
  refine lv_iconst hx hb dX2_markOfMostOver_4 ki_m1 ?_
  refine lv_istore hx hb dX2_markOfMostOver_5 hl (by decide) (lv' := [(6, .int (-1)), (5, .int (-9)), (0, .ref (g.1 17)), (1, .int a1), (2, .ref (g.1 6)), (3, .ref (g.1 1)), (4, .int a4)]) rfl (fun ls hl => ?_)
  refine lv_iconst hx hb dX2_markOfMostOver_7 ki_0 ?_
  refine lv_istore hx hb dX2_markOfMostOver_8 hl (by decide) (lv' := [(7, .int (0)), (6, .int (-1)), (5, .int (-9)), (0, .ref (g.1 17)), (1, .int a1), (2, .ref (g.1 6)), (3, .ref (g.1 1)), (4, .int a4)]) rfl (fun ls hl => ?_)
  refine lv_iconst hx hb dX2_markOfMostOver_10 ki_0 ?_
  refine lv_istore hx hb dX2_markOfMostOver_11 hl (by decide) (lv' := [(8, .int (0)), (7, .int (0)), (6, .int (-1)), (5, .int (-9)), (0, .ref (g.1 17)), (1, .int a1), (2, .ref (g.1 6)), (3, .ref (g.1 1)), (4, .int a4)]) rfl (fun ls hl => ?_)
  exact w_X2_markOfMostOver_L13 X hks hr hlk N N a1 a4 (-9 : Int32) (-1 : Int32) (0 : Int32) (0 : Int32) σ _ _ _ h (lv_sub hl [4, 5, 6, 7, 8, 3, 2, 1, 0] rfl) hf
def f_X5_bestMark (N : Nat) (a1 : Int32) (σ : fb_S) : Option (Int32 × fb_S) :=
  (f_X5_isDay a1).bind fun q1 =>
  if q1 = 0 then (
    some ((-2 : Int32), σ)
  ) else (
    (f_X5_allDamping N σ).bind fun q2 =>
    (f_X2_markOfMostOver N a1 q2 σ).bind fun q3 =>
    some (q3.1, q3.2)
  )
set_option maxHeartbeats 4000000 in
set_option maxRecDepth 100000 in
theorem c_X5_bestMark (l : Launch) {g : fb_G} {ks : List Nat} (hI : fb_I g ks) (hks : ∀ k ∈ ([0, 1, 6, 7, 8, 9, 11, 12, 15, 17, 18, 19, 20, 21] : List Nat), k ∈ ks) (N : Nat) (a1 : Int32) (σ : fb_S) {res : (Int32 × fb_S)} (hf : f_X5_bestMark N a1 σ = some res) : fb_M l yX5_bestMark cX5_bestMark 2 (some .int) 4 102 g ks [.ref (g.1 0), .int a1] σ (fb_Qi g ks res.1 res.2) := by
  refine fb_met (by decide +kernel) hI (Nat.le_of_ble_eq_true rfl) (fun p e s m below meth c ls X h hr hlk hl => ?_)
  have X : fb_X p m c cX5_bestMark 2 s _ RX5 g ks (fb_A g ks) := X
  have hl : lv_has ls 2 [(0, .ref (g.1 0)), (1, .int a1)] := hl
  have hx := X.1.1
  have hb := X.1.2.1
  unfold f_X5_bestMark at hf
  refine lv_iload_n hx hb dX5_bestMark_0 rfl (lv_at hl 1 rfl) ?_
  obtain ⟨q1, hq1, hf⟩ := bd_s hf
  refine fb_ci X h (fb_runS (As := [.int a1]) (rest := []) X h (c_X5_isDay l X.2.2.1 (fun k hk => absurd hk List.not_mem_nil) a1 σ hq1) mf_yX5_isDay lm_RX5_168 ⟨Nat.le_of_ble_eq_true rfl, Nat.le_of_ble_eq_true rfl⟩ ⟨Nat.le_refl _, Nat.le_refl _⟩ rfl hl.1 rfl (Nat.le_of_ble_eq_true rfl) dX5_bestMark_1) (fun H locs h => ?_)
  refine lv_if_eq hx hb dX5_bestMark_4 (tgt := 30) (by decide) (fun hc => ?_) (fun hc => ?_)
  · have hf := if_t hc hf
    refine lv_bipush hx hb dX5_bestMark_30 kb_m2 ?_
    have e9 := Option.some.inj hf
    subst e9
    exact fb_ir X h hr hlk dX5_bestMark_32
  · have hf := if_f hc hf
    refine lv_aload_n hx hb dX5_bestMark_7 rfl (lv_at hl 0 rfl) ?_
    refine gt_RX5_37 X h (hks 0 (by decide)) dX5_bestMark_8 ?_
    refine lv_iload_n hx hb dX5_bestMark_11 rfl (lv_at hl 1 rfl) ?_
    refine lv_aload_n hx hb dX5_bestMark_12 rfl (lv_at hl 0 rfl) ?_
    refine gt_RX5_23 X h (hks 0 (by decide)) dX5_bestMark_13 ?_
    refine lv_aload_n hx hb dX5_bestMark_16 rfl (lv_at hl 0 rfl) ?_
    refine gt_RX5_7 X h (hks 0 (by decide)) dX5_bestMark_17 ?_
    refine lv_aload_n hx hb dX5_bestMark_20 rfl (lv_at hl 0 rfl) ?_
    obtain ⟨q2, hq2, hf⟩ := bd_s hf
    refine fb_ci X h (fb_runV (As := []) (rest := [.ref (g.1 1), .ref (g.1 6), .int a1, .ref (g.1 17)]) (k := 0) X h (c_X5_allDamping l X.2.2.1 (fun k hk => hks k ((by decide : ∀ k ∈ ([0, 1, 11, 12, 15] : List Nat), k ∈ ([0, 1, 6, 7, 8, 9, 11, 12, 15, 17, 18, 19, 20, 21] : List Nat)) k hk)) N σ hq2) mf_yX5_allDamping lm_RX5_112 (hks 0 (by decide)) rfl rfl ⟨Nat.le_of_ble_eq_true rfl, Nat.le_of_ble_eq_true rfl⟩ ⟨Nat.le_refl _, Nat.le_refl _⟩ rfl hl.1 rfl (Nat.le_of_ble_eq_true rfl) dX5_bestMark_21) (fun H locs h => ?_)
    obtain ⟨q3, hq3, hf⟩ := bd_s hf
    refine fb_ci X h (fb_runVN (As := [.int a1, .ref (g.1 6), .ref (g.1 1), .int q2]) (rest := []) (k := 17) X h (c_X2_markOfMostOver l X.2.2.1 (fun k hk => hks k ((by decide : ∀ k ∈ ([1, 6, 7, 8, 9, 17, 18, 19, 20, 21] : List Nat), k ∈ ([0, 1, 6, 7, 8, 9, 11, 12, 15, 17, 18, 19, 20, 21] : List Nat)) k hk)) N a1 q2 σ hq3) mf_yX2_markOfMostOver lm_RX5_195 (hks 17 (by decide)) rfl rfl ⟨Nat.le_of_ble_eq_true rfl, Nat.le_of_ble_eq_true rfl⟩ ⟨Nat.le_refl _, Nat.le_refl _⟩ rfl hl.1 rfl (Nat.le_of_ble_eq_true rfl) dX5_bestMark_24) (fun H locs h => ?_)
    refine lv_goto hx hb dX5_bestMark_27 (tgt := 32) (by decide) ?_
    have e9 := Option.some.inj hf
    subst e9
    exact fb_ir X h hr hlk dX5_bestMark_32
def f_X5_isBeatsOfTest (a1 : Int32) : Option Int32 :=
  (f_X5_isWithin a1 (1 : Int32) (30 : Int32)).bind fun q1 =>
  ck_ (fb_bo q1) <|
  some q1
set_option maxHeartbeats 4000000 in
set_option maxRecDepth 100000 in
theorem c_X5_isBeatsOfTest (l : Launch) {g : fb_G} {ks : List Nat} (hI : fb_I g ks) (hks : ∀ k ∈ ([] : List Nat), k ∈ ks) (a1 : Int32) (σ : fb_S) {res : Int32} (hf : f_X5_isBeatsOfTest a1 = some res) : fb_M l yX5_isBeatsOfTest cX5_isBeatsOfTest 1 (some .boolean) 1 22 g ks [.int a1] σ (fb_Qi g ks res σ) := by
  refine fb_met (by decide +kernel) hI (Nat.le_of_ble_eq_true rfl) (fun p e s m below meth c ls X h hr hlk hl => ?_)
  have X : fb_X p m c cX5_isBeatsOfTest 1 s _ RX5 g ks (fb_A g ks) := X
  have hl : lv_has ls 1 [(0, .int a1)] := hl
  have hx := X.1.1
  have hb := X.1.2.1
  unfold f_X5_isBeatsOfTest at hf
  refine lv_iload_n hx hb dX5_isBeatsOfTest_0 rfl (lv_at hl 0 rfl) ?_
  refine lv_iconst hx hb dX5_isBeatsOfTest_1 ki_1 ?_
  refine lv_bipush hx hb dX5_isBeatsOfTest_2 kb_30 ?_
  obtain ⟨q1, hq1, hf⟩ := bd_s hf
  refine fb_ci X h (fb_runS (As := [.int a1, .int (1), .int (30)]) (rest := []) X h (c_X5_isWithin l X.2.2.1 (fun k hk => absurd hk List.not_mem_nil) a1 (1 : Int32) (30 : Int32) σ hq1) mf_yX5_isWithin lm_RX5_48 ⟨Nat.le_of_ble_eq_true rfl, Nat.le_of_ble_eq_true rfl⟩ ⟨Nat.le_refl _, Nat.le_refl _⟩ rfl hl.1 rfl (Nat.le_of_ble_eq_true rfl) dX5_isBeatsOfTest_4) (fun H locs h => ?_)
  obtain ⟨hz0, hf⟩ := ck_s hf
  have e9 := Option.some.inj hf
  subst e9
  exact fb_zr (r := q1) X h hr (fb_bo_n hz0) hlk dX5_isBeatsOfTest_7
def f_X3_swayByNet_L5 (N : Nat) : Nat → Int32 → Int32 → Int32 → Int32 → Option Int32
  | 0, _, _, _, _ => none
  | n + 1, v1, v2, v3, v4 => 
    if v2 ≤ v4 then (
      some v3
    ) else (
      (f_X5_beat v3 v1).bind fun q1 =>
      f_X3_swayByNet_L5 N n v1 v2 q1 (v4 + 1)
    )
def f_X3_swayByNet (N : Nat) (a1 : Int32) (a2 : Int32) (a3 : Int32) : Option Int32 :=
  f_X3_swayByNet_L5 N N a2 a3 a1 (0 : Int32)
set_option maxHeartbeats 4000000 in
set_option maxRecDepth 100000 in
theorem w_X3_swayByNet_L5 (X : fb_X p m c cX3_swayByNet 5 s args RX3 g ks (fb_A g ks)) (hks : ∀ k ∈ ([] : List Nat), k ∈ ks) (hr : meth.sig.returnType = (some .int)) (hlk : meth.locks = false) (N : Nat) (σ : fb_S)  {res : Int32} : ∀ (n : Nat) (v1 : Int32) (v2 : Int32) (v3 : Int32) (v4 : Int32) (H : Heap) (locs : List Loc) (ls : Array Slot), fb_H g ks (fb_A g ks) s.heap σ H locs → lv_has ls 5 [(1, .int v1), (2, .int v2), (3, .int v3), (4, .int v4)] → f_X3_swayByNet_L5 N n v1 v2 v3 v4 = some res → W p l e (fb_R 2 44) s m args below meth c H locs 0 0 (MQ below (fb_Qi g ks res σ) args s 0 0 (fb_A g ks)) (F0 m 5 ls []) := by
  have hx := X.1.1
  have hb := X.1.2.1
  intro n
  induction n with
  | zero => intro v1 v2 v3 v4 H locs ls h hl hf; cases hf
  | succ n ih =>
    intro v1 v2 v3 v4 H locs ls h hl hf
    unfold f_X3_swayByNet_L5 at hf
    refine lv_iload hx hb dX3_swayByNet_5 (lv_at hl 3 rfl) ?_
    refine lv_iload_n hx hb dX3_swayByNet_7 rfl (lv_at hl 1 rfl) ?_
    refine lv_icmp_ge hx hb dX3_swayByNet_8 (tgt := 23) (by decide) (fun hc => ?_) (fun hc => ?_)
    · have hf := if_t hc hf
      refine lv_iload_n hx hb dX3_swayByNet_23 rfl (lv_at hl 2 rfl) ?_
      have e9 := Option.some.inj hf
      subst e9
      exact fb_ir X h hr hlk dX3_swayByNet_24
    · have hf := if_f hc hf
      refine lv_iload_n hx hb dX3_swayByNet_11 rfl (lv_at hl 2 rfl) ?_
      refine lv_iload_n hx hb dX3_swayByNet_12 rfl (lv_at hl 0 rfl) ?_
      obtain ⟨q1, hq1, hf⟩ := bd_s hf
      refine fb_ci X h (fb_runSN (As := [.int v3, .int v1]) (rest := []) X h (c_X5_beat l X.2.2.1 (fun k hk => absurd hk List.not_mem_nil) v3 v1 σ hq1) mf_yX5_beat lm_RX3_34 ⟨Nat.le_of_ble_eq_true rfl, Nat.le_of_ble_eq_true rfl⟩ ⟨Nat.le_refl _, Nat.le_refl _⟩ rfl hl.1 rfl (Nat.le_of_ble_eq_true rfl) dX3_swayByNet_13) (fun H locs h => ?_)
      refine lv_istore_n hx hb dX3_swayByNet_16 rfl hl (by decide) (lv' := [(3, .int q1), (1, .int v1), (2, .int v2), (4, .int v4)]) rfl (fun ls hl => ?_)
      refine lv_iinc hx hb dX3_swayByNet_17 hl (k := 3) rfl (kinc_1 _) (by decide) (lv' := [(4, .int (v4 + 1)), (3, .int q1), (1, .int v1), (2, .int v2)]) rfl (fun ls hl => ?_)
      refine lv_goto hx hb dX3_swayByNet_20 (tgt := 5) (by decide) ?_
      exact ih v1 v2 q1 (v4 + 1) _ _ _ h (lv_sub hl [2, 3, 1, 0] rfl) hf
set_option maxHeartbeats 4000000 in
set_option maxRecDepth 100000 in
theorem c_X3_swayByNet (l : Launch) {g : fb_G} {ks : List Nat} (hI : fb_I g ks) (hks : ∀ k ∈ ([] : List Nat), k ∈ ks) (N : Nat) (a1 : Int32) (a2 : Int32) (a3 : Int32) (σ : fb_S) {res : Int32} (hf : f_X3_swayByNet N a1 a2 a3 = some res) : fb_M l yX3_swayByNet cX3_swayByNet 5 (some .int) 2 44 g ks [.int a1, .int a2, .int a3] σ (fb_Qi g ks res σ) := by
  refine fb_met (by decide +kernel) hI (Nat.le_of_ble_eq_true rfl) (fun p e s m below meth c ls X h hr hlk hl => ?_)
  have X : fb_X p m c cX3_swayByNet 5 s _ RX3 g ks (fb_A g ks) := X
  have hl : lv_has ls 5 [(0, .int a1), (1, .int a2), (2, .int a3)] := hl
  have hx := X.1.1
  have hb := X.1.2.1
  unfold f_X3_swayByNet at hf
  refine lv_iload_n hx hb dX3_swayByNet_0 rfl (lv_at hl 0 rfl) ?_
  refine lv_istore_n hx hb dX3_swayByNet_1 rfl hl (by decide) (lv' := [(3, .int a1), (0, .int a1), (1, .int a2), (2, .int a3)]) rfl (fun ls hl => ?_)
  refine lv_iconst hx hb dX3_swayByNet_2 ki_0 ?_
  refine lv_istore hx hb dX3_swayByNet_3 hl (by decide) (lv' := [(4, .int (0)), (3, .int a1), (0, .int a1), (1, .int a2), (2, .int a3)]) rfl (fun ls hl => ?_)
  exact w_X3_swayByNet_L5 X hks hr hlk N σ N a2 a3 a1 (0 : Int32) _ _ _ h (lv_sub hl [3, 4, 1, 0] rfl) hf
def f_X3_putNew_L39 (N : Nat) (k12 : Int32 → Int32 → Int32 → Int32 → Int32 → Int32 → Int32 → Int32 → fb_S → Option (Int32 × fb_S)) (v1 : Int32) (v2 : Int32) (v3 : Int32) (v4 : Int32) (v5 : Int32) (v6 : Int32) (v7 : Int32) (v8 : Int32) (v9 : Int32) (σ : fb_S) : Option (Int32 × fb_S) :=
  if v5 < v9 then (
    k12 v1 v2 v3 v4 v5 v6 v7 (v8 + (-1)) σ
  ) else (
    nm_ (mx_ v7 v8) fun x1 =>
    k12 v1 v2 v3 v4 v5 v6 x1 (v8 + (-1)) σ
  )
def f_X3_putNew_L12 (N : Nat) : Nat → Int32 → Int32 → Int32 → Int32 → Int32 → Int32 → Int32 → Int32 → fb_S → Option (Int32 × fb_S)
  | 0, _, _, _, _, _, _, _, _, _ => none
  | n + 1, v1, v2, v3, v4, v5, v6, v7, v8, σ => 
    if v8 < (-50 : Int32) then (
      ck_ (fb_in (σ.1 22 6) 20) <|
      nm_ (fb_up σ 23 ((σ.1 22 6).toNatClampNeg) v1) fun t2 =>
      ck_ (fb_in (t2.1 22 6) 20) <|
      nm_ (fb_up t2 24 ((t2.1 22 6).toNatClampNeg) v6) fun t3 =>
      ck_ (fb_in (t3.1 22 6) 20) <|
      nm_ (fb_up t3 25 ((t3.1 22 6).toNatClampNeg) v7) fun t4 =>
      nm_ (fb_up t4 22 6 ((t4.1 22 6) + (1 : Int32))) fun t5 =>
      (f_X3_findFitting N t5).bind fun q6 =>
      some ((q6.1 22 6) - (1 : Int32), q6)
    ) else (
      (f_X3_swayByNet N v2 v8 v3).bind fun q7 =>
      if q7 < v4 then (
        f_X3_putNew_L39 N (f_X3_putNew_L12 N n) v1 v2 v3 v4 v5 v6 v7 v8 q7 σ
      ) else (
        f_X3_putNew_L39 N (f_X3_putNew_L12 N n) v1 v2 v3 v4 v5 v8 v7 v8 q7 σ
      )
    )
def f_X3_putNew (N : Nat) (a1 : Int32) (a2 : Int32) (a3 : Int32) (a4 : Int32) (a5 : Int32) (σ : fb_S) : Option (Int32 × fb_S) :=
  f_X3_putNew_L12 N N a1 a2 a3 a4 a5 (48 : Int32) (-51 : Int32) (47 : Int32) σ
set_option maxHeartbeats 4000000 in
set_option maxRecDepth 100000 in
theorem w_X3_putNew_L39 (X : fb_X p m c cX3_putNew 10 s args RX3 g ks (fb_A g ks)) (hks : ∀ k ∈ ([22, 23, 24, 25, 26] : List Nat), k ∈ ks) (hr : meth.sig.returnType = (some .int)) (hlk : meth.locks = false) (N : Nat) (k12 : Int32 → Int32 → Int32 → Int32 → Int32 → Int32 → Int32 → Int32 → fb_S → Option (Int32 × fb_S))  {res : (Int32 × fb_S)} (hk12 : ∀ (v1 : Int32) (v2 : Int32) (v3 : Int32) (v4 : Int32) (v5 : Int32) (v6 : Int32) (v7 : Int32) (v8 : Int32) (σ : fb_S) (H : Heap) (locs : List Loc) (ls : Array Slot), fb_H g ks (fb_A g ks) s.heap σ H locs → lv_has ls 10 [(0, .ref (g.1 22)), (1, .int v1), (2, .int v2), (3, .int v3), (4, .int v4), (5, .int v5), (6, .int v6), (7, .int v7), (8, .int v8)] → k12 v1 v2 v3 v4 v5 v6 v7 v8 σ = some res → W p l e (fb_R 3 68) s m args below meth c H locs 0 0 (MQ below (fb_Qi g ks res.1 res.2) args s 0 0 (fb_A g ks)) (F0 m 12 ls [])) : ∀ (v1 : Int32) (v2 : Int32) (v3 : Int32) (v4 : Int32) (v5 : Int32) (v6 : Int32) (v7 : Int32) (v8 : Int32) (v9 : Int32) (σ : fb_S) (H : Heap) (locs : List Loc) (ls : Array Slot), fb_H g ks (fb_A g ks) s.heap σ H locs → lv_has ls 10 [(0, .ref (g.1 22)), (1, .int v1), (2, .int v2), (3, .int v3), (4, .int v4), (5, .int v5), (6, .int v6), (7, .int v7), (8, .int v8), (9, .int v9)] → f_X3_putNew_L39 N k12 v1 v2 v3 v4 v5 v6 v7 v8 v9 σ = some res → W p l e (fb_R 3 68) s m args below meth c H locs 0 0 (MQ below (fb_Qi g ks res.1 res.2) args s 0 0 (fb_A g ks)) (F0 m 39 ls []) := by
  have hx := X.1.1
  have hb := X.1.2.1
  intro v1 v2 v3 v4 v5 v6 v7 v8 v9 σ H locs ls h hl hf
  unfold f_X3_putNew_L39 at hf
  refine lv_iload hx hb dX3_putNew_39 (lv_at hl 9 rfl) ?_
  refine lv_iload hx hb dX3_putNew_41 (lv_at hl 5 rfl) ?_
  refine lv_icmp_gt hx hb dX3_putNew_43 (tgt := 55) (by decide) (fun hc => ?_) (fun hc => ?_)
  · have hf := if_t hc hf
    refine lv_iinc hx hb dX3_putNew_55 hl (k := 8) rfl (kinc_m1 _) (by decide) (lv' := [(8, .int (v8 + (-1))), (0, .ref (g.1 22)), (1, .int v1), (2, .int v2), (3, .int v3), (4, .int v4), (5, .int v5), (6, .int v6), (7, .int v7), (9, .int v9)]) rfl (fun ls hl => ?_)
    refine lv_goto hx hb dX3_putNew_58 (tgt := 12) (by decide) ?_
    exact hk12 v1 v2 v3 v4 v5 v6 v7 (v8 + (-1)) σ _ _ _ h (lv_sub hl [1, 2, 3, 4, 5, 6, 7, 8, 0] rfl) hf
  · have hf := if_f hc hf
    refine lv_iload hx hb dX3_putNew_46 (lv_at hl 7 rfl) ?_
    refine lv_iload hx hb dX3_putNew_48 (lv_at hl 8 rfl) ?_
    refine fb_mxr X hl.1 lm_RX3_42 (Nat.le_of_ble_eq_true rfl) (Nat.le_of_ble_eq_true rfl) ⟨Nat.le_refl _, Nat.le_refl _⟩ dX3_putNew_50 ?_
    obtain ⟨x1, ex1, hf⟩ := nm_s hf
    refine fb_topi ex1 ?_
    refine lv_istore hx hb dX3_putNew_53 hl (by decide) (lv' := [(7, .int x1), (0, .ref (g.1 22)), (1, .int v1), (2, .int v2), (3, .int v3), (4, .int v4), (5, .int v5), (6, .int v6), (8, .int v8), (9, .int v9)]) rfl (fun ls hl => ?_)
    refine lv_iinc hx hb dX3_putNew_55 hl (k := 8) rfl (kinc_m1 _) (by decide) (lv' := [(8, .int (v8 + (-1))), (7, .int x1), (0, .ref (g.1 22)), (1, .int v1), (2, .int v2), (3, .int v3), (4, .int v4), (5, .int v5), (6, .int v6), (9, .int v9)]) rfl (fun ls hl => ?_)
    refine lv_goto hx hb dX3_putNew_58 (tgt := 12) (by decide) ?_
    exact hk12 v1 v2 v3 v4 v5 v6 x1 (v8 + (-1)) σ _ _ _ h (lv_sub hl [2, 3, 4, 5, 6, 7, 8, 1, 0] rfl) hf
set_option maxHeartbeats 4000000 in
set_option maxRecDepth 100000 in
theorem w_X3_putNew_L12 (X : fb_X p m c cX3_putNew 10 s args RX3 g ks (fb_A g ks)) (hks : ∀ k ∈ ([22, 23, 24, 25, 26] : List Nat), k ∈ ks) (hr : meth.sig.returnType = (some .int)) (hlk : meth.locks = false) (N : Nat)  {res : (Int32 × fb_S)} : ∀ (n : Nat) (v1 : Int32) (v2 : Int32) (v3 : Int32) (v4 : Int32) (v5 : Int32) (v6 : Int32) (v7 : Int32) (v8 : Int32) (σ : fb_S) (H : Heap) (locs : List Loc) (ls : Array Slot), fb_H g ks (fb_A g ks) s.heap σ H locs → lv_has ls 10 [(0, .ref (g.1 22)), (1, .int v1), (2, .int v2), (3, .int v3), (4, .int v4), (5, .int v5), (6, .int v6), (7, .int v7), (8, .int v8)] → f_X3_putNew_L12 N n v1 v2 v3 v4 v5 v6 v7 v8 σ = some res → W p l e (fb_R 3 68) s m args below meth c H locs 0 0 (MQ below (fb_Qi g ks res.1 res.2) args s 0 0 (fb_A g ks)) (F0 m 12 ls []) := by
  have hx := X.1.1
  have hb := X.1.2.1
  intro n
  induction n with
  | zero => intro v1 v2 v3 v4 v5 v6 v7 v8 σ H locs ls h hl hf; cases hf
  | succ n ih =>
    intro v1 v2 v3 v4 v5 v6 v7 v8 σ H locs ls h hl hf
    unfold f_X3_putNew_L12 at hf
    refine lv_iload hx hb dX3_putNew_12 (lv_at hl 8 rfl) ?_
    refine lv_bipush hx hb dX3_putNew_14 kb_m50 ?_
    refine lv_icmp_lt hx hb dX3_putNew_16 (tgt := 61) (by decide) (fun hc => ?_) (fun hc => ?_)
    · have hf := if_t hc hf
      refine lv_aload_n hx hb dX3_putNew_61 rfl (lv_at hl 0 rfl) ?_
      refine gt_RX3_11 X h (hks 22 (by decide)) dX3_putNew_62 ?_
      refine lv_aload_n hx hb dX3_putNew_65 rfl (lv_at hl 0 rfl) ?_
      refine gt_RX3_47 X h (hks 22 (by decide)) dX3_putNew_66 ?_
      refine lv_iload_n hx hb dX3_putNew_69 rfl (lv_at hl 1 rfl) ?_
      obtain ⟨hi0, hf⟩ := ck_s hf
      obtain ⟨t2, et2, hf⟩ := nm_s hf
      refine fb_iast X h (hks 23 (by decide)) (fun _ => rfl) hi0 dX3_putNew_70 (fun H locs h => ?_)
      have h := fb_H.nm et2 h
      refine lv_aload_n hx hb dX3_putNew_71 rfl (lv_at hl 0 rfl) ?_
      refine gt_RX3_15 X h (hks 22 (by decide)) dX3_putNew_72 ?_
      refine lv_aload_n hx hb dX3_putNew_75 rfl (lv_at hl 0 rfl) ?_
      refine gt_RX3_47 X h (hks 22 (by decide)) dX3_putNew_76 ?_
      refine lv_iload hx hb dX3_putNew_79 (lv_at hl 6 rfl) ?_
      obtain ⟨hi0, hf⟩ := ck_s hf
      obtain ⟨t3, et3, hf⟩ := nm_s hf
      refine fb_iast X h (hks 24 (by decide)) (fun _ => rfl) hi0 dX3_putNew_81 (fun H locs h => ?_)
      have h := fb_H.nm et3 h
      refine lv_aload_n hx hb dX3_putNew_82 rfl (lv_at hl 0 rfl) ?_
      refine gt_RX3_18 X h (hks 22 (by decide)) dX3_putNew_83 ?_
      refine lv_aload_n hx hb dX3_putNew_86 rfl (lv_at hl 0 rfl) ?_
      refine gt_RX3_47 X h (hks 22 (by decide)) dX3_putNew_87 ?_
      refine lv_iload hx hb dX3_putNew_90 (lv_at hl 7 rfl) ?_
      obtain ⟨hi0, hf⟩ := ck_s hf
      obtain ⟨t4, et4, hf⟩ := nm_s hf
      refine fb_iast X h (hks 25 (by decide)) (fun _ => rfl) hi0 dX3_putNew_92 (fun H locs h => ?_)
      have h := fb_H.nm et4 h
      refine lv_aload_n hx hb dX3_putNew_93 rfl (lv_at hl 0 rfl) ?_
      refine lv_dup hx hb dX3_putNew_94 rfl ?_
      refine gt_RX3_47 X h (hks 22 (by decide)) dX3_putNew_95 ?_
      refine lv_iconst hx hb dX3_putNew_98 ki_1 ?_
      refine lv_iadd hx hb dX3_putNew_99 ?_
      obtain ⟨t5, et5, hf⟩ := nm_s hf
      refine pt_RX3_47 X h (hks 22 (by decide)) dX3_putNew_100 (fun H locs h => ?_)
      have h := fb_H.nm et5 h
      refine lv_aload_n hx hb dX3_putNew_103 rfl (lv_at hl 0 rfl) ?_
      obtain ⟨q6, hq6, hf⟩ := bd_s hf
      refine fb_cv X h (fb_runV (As := []) (rest := []) (k := 22) X h (c_X3_findFitting l X.2.2.1 (fun k hk => hks k ((by decide : ∀ k ∈ ([22, 23, 24, 25, 26] : List Nat), k ∈ ([22, 23, 24, 25, 26] : List Nat)) k hk)) N t5 hq6) mf_yX3_findFitting lm_RX3_31 (hks 22 (by decide)) rfl rfl ⟨Nat.le_of_ble_eq_true rfl, Nat.le_of_ble_eq_true rfl⟩ ⟨Nat.le_refl _, Nat.le_refl _⟩ rfl hl.1 rfl (Nat.le_of_ble_eq_true rfl) dX3_putNew_104) (fun H locs h => ?_)
      refine lv_aload_n hx hb dX3_putNew_107 rfl (lv_at hl 0 rfl) ?_
      refine gt_RX3_47 X h (hks 22 (by decide)) dX3_putNew_108 ?_
      refine lv_iconst hx hb dX3_putNew_111 ki_1 ?_
      refine lv_isub hx hb dX3_putNew_112 ?_
      have e9 := Option.some.inj hf
      subst e9
      exact fb_ir X h hr hlk dX3_putNew_113
    · have hf := if_f hc hf
      refine lv_iload_n hx hb dX3_putNew_19 rfl (lv_at hl 2 rfl) ?_
      refine lv_iload hx hb dX3_putNew_20 (lv_at hl 8 rfl) ?_
      refine lv_iload_n hx hb dX3_putNew_22 rfl (lv_at hl 3 rfl) ?_
      obtain ⟨q7, hq7, hf⟩ := bd_s hf
      refine fb_ci X h (fb_runS (As := [.int v2, .int v8, .int v3]) (rest := []) X h (c_X3_swayByNet l X.2.2.1 (fun k hk => absurd hk List.not_mem_nil) N v2 v8 v3 σ hq7) mf_yX3_swayByNet lm_RX3_38 ⟨Nat.le_of_ble_eq_true rfl, Nat.le_of_ble_eq_true rfl⟩ ⟨Nat.le_refl _, Nat.le_refl _⟩ rfl hl.1 rfl (Nat.le_of_ble_eq_true rfl) dX3_putNew_23) (fun H locs h => ?_)
      refine lv_istore hx hb dX3_putNew_26 hl (by decide) (lv' := [(9, .int q7), (0, .ref (g.1 22)), (1, .int v1), (2, .int v2), (3, .int v3), (4, .int v4), (5, .int v5), (6, .int v6), (7, .int v7), (8, .int v8)]) rfl (fun ls hl => ?_)
      refine lv_iload hx hb dX3_putNew_28 (lv_at hl 0 rfl) ?_
      refine lv_iload hx hb dX3_putNew_30 (lv_at hl 5 rfl) ?_
      refine lv_icmp_lt hx hb dX3_putNew_32 (tgt := 39) (by decide) (fun hc => ?_) (fun hc => ?_)
      · have hf := if_t hc hf
        exact w_X3_putNew_L39 X hks hr hlk N (f_X3_putNew_L12 N n) ih v1 v2 v3 v4 v5 v6 v7 v8 q7 σ _ _ _ h (lv_sub hl [1, 2, 3, 4, 5, 6, 7, 8, 9, 0] rfl) hf
      · have hf := if_f hc hf
        refine lv_iload hx hb dX3_putNew_35 (lv_at hl 9 rfl) ?_
        refine lv_istore hx hb dX3_putNew_37 hl (by decide) (lv' := [(6, .int v8), (9, .int q7), (0, .ref (g.1 22)), (1, .int v1), (2, .int v2), (3, .int v3), (4, .int v4), (5, .int v5), (7, .int v7), (8, .int v8)]) rfl (fun ls hl => ?_)
        exact w_X3_putNew_L39 X hks hr hlk N (f_X3_putNew_L12 N n) ih v1 v2 v3 v4 v5 v8 v7 v8 q7 σ _ _ _ h (lv_sub hl [2, 3, 4, 5, 6, 7, 0, 8, 9, 1] rfl) hf
set_option maxHeartbeats 4000000 in
set_option maxRecDepth 100000 in
theorem c_X3_putNew (l : Launch) {g : fb_G} {ks : List Nat} (hI : fb_I g ks) (hks : ∀ k ∈ ([22, 23, 24, 25, 26] : List Nat), k ∈ ks) (N : Nat) (a1 : Int32) (a2 : Int32) (a3 : Int32) (a4 : Int32) (a5 : Int32) (σ : fb_S) {res : (Int32 × fb_S)} (hf : f_X3_putNew N a1 a2 a3 a4 a5 σ = some res) : fb_M l yX3_putNew cX3_putNew 10 (some .int) 3 68 g ks [.ref (g.1 22), .int a1, .int a2, .int a3, .int a4, .int a5] σ (fb_Qi g ks res.1 res.2) := by
  refine fb_met (by decide +kernel) hI (Nat.le_of_ble_eq_true rfl) (fun p e s m below meth c ls X h hr hlk hl => ?_)
  have X : fb_X p m c cX3_putNew 10 s _ RX3 g ks (fb_A g ks) := X
  have hl : lv_has ls 10 [(0, .ref (g.1 22)), (1, .int a1), (2, .int a2), (3, .int a3), (4, .int a4), (5, .int a5)] := hl
  have hx := X.1.1
  have hb := X.1.2.1
  unfold f_X3_putNew at hf
  refine lv_bipush hx hb dX3_putNew_0 kb_48 ?_
  refine lv_istore hx hb dX3_putNew_2 hl (by decide) (lv' := [(6, .int (48)), (0, .ref (g.1 22)), (1, .int a1), (2, .int a2), (3, .int a3), (4, .int a4), (5, .int a5)]) rfl (fun ls hl => ?_)
  refine lv_bipush hx hb dX3_putNew_4 kb_m51 ?_
  refine lv_istore hx hb dX3_putNew_6 hl (by decide) (lv' := [(7, .int (-51)), (6, .int (48)), (0, .ref (g.1 22)), (1, .int a1), (2, .int a2), (3, .int a3), (4, .int a4), (5, .int a5)]) rfl (fun ls hl => ?_)
  refine lv_bipush hx hb dX3_putNew_8 kb_47 ?_
  refine lv_istore hx hb dX3_putNew_10 hl (by decide) (lv' := [(8, .int (47)), (7, .int (-51)), (6, .int (48)), (0, .ref (g.1 22)), (1, .int a1), (2, .int a2), (3, .int a3), (4, .int a4), (5, .int a5)]) rfl (fun ls hl => ?_)
  exact w_X3_putNew_L12 X hks hr hlk N N a1 a2 a3 a4 a5 (48 : Int32) (-51 : Int32) (47 : Int32) σ _ _ _ h (lv_sub hl [3, 4, 5, 6, 7, 8, 2, 1, 0] rfl) hf
def f_X5_test (N : Nat) (a1 : Int32) (a2 : Int32) (a3 : Int32) (a4 : Int32) (a5 : Int32) (σ : fb_S) : Option (Int32 × fb_S) :=
  (f_X5_isWithin a1 (0 : Int32) (99 : Int32)).bind fun q1 =>
  if q1 = 0 then (
    some ((-2 : Int32), σ)
  ) else (
    (f_X5_isSway a2).bind fun q2 =>
    if q2 = 0 then (
      some ((-2 : Int32), σ)
    ) else (
      (f_X5_isBeatsOfTest a3).bind fun q3 =>
      if q3 = 0 then (
        some ((-2 : Int32), σ)
      ) else (
        (f_X5_isSway a4).bind fun q4 =>
        if q4 = 0 then (
          some ((-2 : Int32), σ)
        ) else (
          (f_X5_isSway a5).bind fun q5 =>
          if q5 = 0 then (
            some ((-2 : Int32), σ)
          ) else (
            if a4 ≤ a5 then (
              if (20 : Int32) ≤ (σ.1 22 6) then (
                some ((-4 : Int32), σ)
              ) else (
                (f_X3_putNew N a1 a2 a3 a4 a5 σ).bind fun q6 =>
                some (q6.1, q6.2)
              )
            ) else (
              some ((-2 : Int32), σ)
            )
          )
        )
      )
    )
  )
set_option maxHeartbeats 4000000 in
set_option maxRecDepth 100000 in
theorem c_X5_test (l : Launch) {g : fb_G} {ks : List Nat} (hI : fb_I g ks) (hks : ∀ k ∈ ([0, 22, 23, 24, 25, 26] : List Nat), k ∈ ks) (N : Nat) (a1 : Int32) (a2 : Int32) (a3 : Int32) (a4 : Int32) (a5 : Int32) (σ : fb_S) {res : (Int32 × fb_S)} (hf : f_X5_test N a1 a2 a3 a4 a5 σ = some res) : fb_M l yX5_test cX5_test 6 (some .int) 4 97 g ks [.ref (g.1 0), .int a1, .int a2, .int a3, .int a4, .int a5] σ (fb_Qi g ks res.1 res.2) := by
  refine fb_met (by decide +kernel) hI (Nat.le_of_ble_eq_true rfl) (fun p e s m below meth c ls X h hr hlk hl => ?_)
  have X : fb_X p m c cX5_test 6 s _ RX5 g ks (fb_A g ks) := X
  have hl : lv_has ls 6 [(0, .ref (g.1 0)), (1, .int a1), (2, .int a2), (3, .int a3), (4, .int a4), (5, .int a5)] := hl
  have hx := X.1.1
  have hb := X.1.2.1
  unfold f_X5_test at hf
  refine lv_iload_n hx hb dX5_test_0 rfl (lv_at hl 1 rfl) ?_
  refine lv_iconst hx hb dX5_test_1 ki_0 ?_
  refine lv_bipush hx hb dX5_test_2 kb_99 ?_
  obtain ⟨q1, hq1, hf⟩ := bd_s hf
  refine fb_ci X h (fb_runS (As := [.int a1, .int (0), .int (99)]) (rest := []) X h (c_X5_isWithin l X.2.2.1 (fun k hk => absurd hk List.not_mem_nil) a1 (0 : Int32) (99 : Int32) σ hq1) mf_yX5_isWithin lm_RX5_48 ⟨Nat.le_of_ble_eq_true rfl, Nat.le_of_ble_eq_true rfl⟩ ⟨Nat.le_refl _, Nat.le_refl _⟩ rfl hl.1 rfl (Nat.le_of_ble_eq_true rfl) dX5_test_4) (fun H locs h => ?_)
  refine lv_if_eq hx hb dX5_test_7 (tgt := 24) (by decide) (fun hc => ?_) (fun hc => ?_)
  · have hf := if_t hc hf
    refine lv_bipush hx hb dX5_test_24 kb_m2 ?_
    have e9 := Option.some.inj hf
    subst e9
    exact fb_ir X h hr hlk dX5_test_26
  · have hf := if_f hc hf
    refine lv_iload_n hx hb dX5_test_10 rfl (lv_at hl 2 rfl) ?_
    obtain ⟨q2, hq2, hf⟩ := bd_s hf
    refine fb_ci X h (fb_runS (As := [.int a2]) (rest := []) X h (c_X5_isSway l X.2.2.1 (fun k hk => absurd hk List.not_mem_nil) a2 σ hq2) mf_yX5_isSway lm_RX5_88 ⟨Nat.le_of_ble_eq_true rfl, Nat.le_of_ble_eq_true rfl⟩ ⟨Nat.le_refl _, Nat.le_refl _⟩ rfl hl.1 rfl (Nat.le_of_ble_eq_true rfl) dX5_test_11) (fun H locs h => ?_)
    refine lv_if_eq hx hb dX5_test_14 (tgt := 24) (by decide) (fun hc => ?_) (fun hc => ?_)
    · have hf := if_t hc hf
      refine lv_bipush hx hb dX5_test_24 kb_m2 ?_
      have e9 := Option.some.inj hf
      subst e9
      exact fb_ir X h hr hlk dX5_test_26
    · have hf := if_f hc hf
      refine lv_iload_n hx hb dX5_test_17 rfl (lv_at hl 3 rfl) ?_
      obtain ⟨q3, hq3, hf⟩ := bd_s hf
      refine fb_ci X h (fb_runS (As := [.int a3]) (rest := []) X h (c_X5_isBeatsOfTest l X.2.2.1 (fun k hk => absurd hk List.not_mem_nil) a3 σ hq3) mf_yX5_isBeatsOfTest lm_RX5_199 ⟨Nat.le_of_ble_eq_true rfl, Nat.le_of_ble_eq_true rfl⟩ ⟨Nat.le_refl _, Nat.le_refl _⟩ rfl hl.1 rfl (Nat.le_of_ble_eq_true rfl) dX5_test_18) (fun H locs h => ?_)
      refine lv_if_ne hx hb dX5_test_21 (tgt := 27) (by decide) (fun hc => ?_) (fun hc => ?_)
      · have hf := if_f hc hf
        refine lv_iload hx hb dX5_test_27 (lv_at hl 4 rfl) ?_
        obtain ⟨q4, hq4, hf⟩ := bd_s hf
        refine fb_ci X h (fb_runS (As := [.int a4]) (rest := []) X h (c_X5_isSway l X.2.2.1 (fun k hk => absurd hk List.not_mem_nil) a4 σ hq4) mf_yX5_isSway lm_RX5_88 ⟨Nat.le_of_ble_eq_true rfl, Nat.le_of_ble_eq_true rfl⟩ ⟨Nat.le_refl _, Nat.le_refl _⟩ rfl hl.1 rfl (Nat.le_of_ble_eq_true rfl) dX5_test_29) (fun H locs h => ?_)
        refine lv_if_eq hx hb dX5_test_32 (tgt := 50) (by decide) (fun hc => ?_) (fun hc => ?_)
        · have hf := if_t hc hf
          refine lv_bipush hx hb dX5_test_50 kb_m2 ?_
          have e9 := Option.some.inj hf
          subst e9
          exact fb_ir X h hr hlk dX5_test_52
        · have hf := if_f hc hf
          refine lv_iload hx hb dX5_test_35 (lv_at hl 5 rfl) ?_
          obtain ⟨q5, hq5, hf⟩ := bd_s hf
          refine fb_ci X h (fb_runS (As := [.int a5]) (rest := []) X h (c_X5_isSway l X.2.2.1 (fun k hk => absurd hk List.not_mem_nil) a5 σ hq5) mf_yX5_isSway lm_RX5_88 ⟨Nat.le_of_ble_eq_true rfl, Nat.le_of_ble_eq_true rfl⟩ ⟨Nat.le_refl _, Nat.le_refl _⟩ rfl hl.1 rfl (Nat.le_of_ble_eq_true rfl) dX5_test_37) (fun H locs h => ?_)
          refine lv_if_eq hx hb dX5_test_40 (tgt := 50) (by decide) (fun hc => ?_) (fun hc => ?_)
          · have hf := if_t hc hf
            refine lv_bipush hx hb dX5_test_50 kb_m2 ?_
            have e9 := Option.some.inj hf
            subst e9
            exact fb_ir X h hr hlk dX5_test_52
          · have hf := if_f hc hf
            refine lv_iload hx hb dX5_test_43 (lv_at hl 4 rfl) ?_
            refine lv_iload hx hb dX5_test_45 (lv_at hl 5 rfl) ?_
            refine lv_icmp_le hx hb dX5_test_47 (tgt := 53) (by decide) (fun hc => ?_) (fun hc => ?_)
            · have hf := if_t hc hf
              refine lv_aload_n hx hb dX5_test_53 rfl (lv_at hl 0 rfl) ?_
              refine gt_RX5_44 X h (hks 0 (by decide)) dX5_test_54 ?_
              refine gt_RX5_202 X h (hks 22 (by decide)) dX5_test_57 ?_
              refine lv_bipush hx hb dX5_test_60 kb_20 ?_
              refine lv_icmp_ge hx hb dX5_test_62 (tgt := 82) (by decide) (fun hc => ?_) (fun hc => ?_)
              · have hf := if_t hc hf
                refine lv_bipush hx hb dX5_test_82 kb_m4 ?_
                have e9 := Option.some.inj hf
                subst e9
                exact fb_ir X h hr hlk dX5_test_84
              · have hf := if_f hc hf
                refine lv_aload_n hx hb dX5_test_65 rfl (lv_at hl 0 rfl) ?_
                refine gt_RX5_44 X h (hks 0 (by decide)) dX5_test_66 ?_
                refine lv_iload_n hx hb dX5_test_69 rfl (lv_at hl 1 rfl) ?_
                refine lv_iload_n hx hb dX5_test_70 rfl (lv_at hl 2 rfl) ?_
                refine lv_iload_n hx hb dX5_test_71 rfl (lv_at hl 3 rfl) ?_
                refine lv_iload hx hb dX5_test_72 (lv_at hl 4 rfl) ?_
                refine lv_iload hx hb dX5_test_74 (lv_at hl 5 rfl) ?_
                obtain ⟨q6, hq6, hf⟩ := bd_s hf
                refine fb_ci X h (fb_runVN (As := [.int a1, .int a2, .int a3, .int a4, .int a5]) (rest := []) (k := 22) X h (c_X3_putNew l X.2.2.1 (fun k hk => hks k ((by decide : ∀ k ∈ ([22, 23, 24, 25, 26] : List Nat), k ∈ ([0, 22, 23, 24, 25, 26] : List Nat)) k hk)) N a1 a2 a3 a4 a5 σ hq6) mf_yX3_putNew lm_RX5_203 (hks 22 (by decide)) rfl rfl ⟨Nat.le_of_ble_eq_true rfl, Nat.le_of_ble_eq_true rfl⟩ ⟨Nat.le_refl _, Nat.le_refl _⟩ rfl hl.1 rfl (Nat.le_of_ble_eq_true rfl) dX5_test_76) (fun H locs h => ?_)
                refine lv_goto hx hb dX5_test_79 (tgt := 84) (by decide) ?_
                have e9 := Option.some.inj hf
                subst e9
                exact fb_ir X h hr hlk dX5_test_84
            · have hf := if_f hc hf
              refine lv_bipush hx hb dX5_test_50 kb_m2 ?_
              have e9 := Option.some.inj hf
              subst e9
              exact fb_ir X h hr hlk dX5_test_52
      · have hf := if_t hc hf
        refine lv_bipush hx hb dX5_test_24 kb_m2 ?_
        have e9 := Option.some.inj hf
        subst e9
        exact fb_ir X h hr hlk dX5_test_26
def f_X3_drop_L12 (N : Nat) : Nat → Int32 → fb_S → Option (Int32 × fb_S)
  | 0, _, _ => none
  | n + 1, v2, σ => 
    if (σ.1 22 6) ≤ v2 then (
      (f_X3_findFitting N σ).bind fun q1 =>
      some (q1.1 22 6, q1)
    ) else (
      ck_ (fb_in (v2 + (1 : Int32)) 20) <|
      ck_ (fb_in v2 20) <|
      nm_ (fb_up σ 23 (v2.toNatClampNeg) (σ.1 23 (v2 + (1 : Int32)).toNatClampNeg)) fun t2 =>
      ck_ (fb_in (v2 + (1 : Int32)) 20) <|
      ck_ (fb_in v2 20) <|
      nm_ (fb_up t2 24 (v2.toNatClampNeg) (t2.1 24 (v2 + (1 : Int32)).toNatClampNeg)) fun t3 =>
      ck_ (fb_in (v2 + (1 : Int32)) 20) <|
      ck_ (fb_in v2 20) <|
      nm_ (fb_up t3 25 (v2.toNatClampNeg) (t3.1 25 (v2 + (1 : Int32)).toNatClampNeg)) fun t4 =>
      f_X3_drop_L12 N n (v2 + 1) t4
    )
def f_X3_drop (N : Nat) (a1 : Int32) (σ : fb_S) : Option (Int32 × fb_S) :=
  nm_ (fb_up σ 22 6 ((σ.1 22 6) - (1 : Int32))) fun t5 =>
  f_X3_drop_L12 N N a1 t5
set_option maxHeartbeats 4000000 in
set_option maxRecDepth 100000 in
theorem w_X3_drop_L12 (X : fb_X p m c cX3_drop 3 s args RX3 g ks (fb_A g ks)) (hks : ∀ k ∈ ([22, 23, 24, 25, 26] : List Nat), k ∈ ks) (hr : meth.sig.returnType = (some .int)) (hlk : meth.locks = false) (N : Nat)  {res : (Int32 × fb_S)} : ∀ (n : Nat) (v2 : Int32) (σ : fb_S) (H : Heap) (locs : List Loc) (ls : Array Slot), fb_H g ks (fb_A g ks) s.heap σ H locs → lv_has ls 3 [(0, .ref (g.1 22)), (2, .int v2)] → f_X3_drop_L12 N n v2 σ = some res → W p l e (fb_R 3 68) s m args below meth c H locs 0 0 (MQ below (fb_Qi g ks res.1 res.2) args s 0 0 (fb_A g ks)) (F0 m 12 ls []) := by
  have hx := X.1.1
  have hb := X.1.2.1
  intro n
  induction n with
  | zero => intro v2 σ H locs ls h hl hf; cases hf
  | succ n ih =>
    intro v2 σ H locs ls h hl hf
    unfold f_X3_drop_L12 at hf
    refine lv_iload_n hx hb dX3_drop_12 rfl (lv_at hl 1 rfl) ?_
    refine lv_aload_n hx hb dX3_drop_13 rfl (lv_at hl 0 rfl) ?_
    refine gt_RX3_47 X h (hks 22 (by decide)) dX3_drop_14 ?_
    refine lv_icmp_ge hx hb dX3_drop_17 (tgt := 68) (by decide) (fun hc => ?_) (fun hc => ?_)
    · have hf := if_t hc hf
      refine lv_aload_n hx hb dX3_drop_68 rfl (lv_at hl 0 rfl) ?_
      obtain ⟨q1, hq1, hf⟩ := bd_s hf
      refine fb_cv X h (fb_runV (As := []) (rest := []) (k := 22) X h (c_X3_findFitting l X.2.2.1 (fun k hk => hks k ((by decide : ∀ k ∈ ([22, 23, 24, 25, 26] : List Nat), k ∈ ([22, 23, 24, 25, 26] : List Nat)) k hk)) N σ hq1) mf_yX3_findFitting lm_RX3_31 (hks 22 (by decide)) rfl rfl ⟨Nat.le_of_ble_eq_true rfl, Nat.le_of_ble_eq_true rfl⟩ ⟨Nat.le_refl _, Nat.le_refl _⟩ rfl hl.1 rfl (Nat.le_of_ble_eq_true rfl) dX3_drop_69) (fun H locs h => ?_)
      refine lv_aload_n hx hb dX3_drop_72 rfl (lv_at hl 0 rfl) ?_
      refine gt_RX3_47 X h (hks 22 (by decide)) dX3_drop_73 ?_
      have e9 := Option.some.inj hf
      subst e9
      exact fb_ir X h hr hlk dX3_drop_76
    · have hf := if_f hc hf
      refine lv_aload_n hx hb dX3_drop_20 rfl (lv_at hl 0 rfl) ?_
      refine gt_RX3_11 X h (hks 22 (by decide)) dX3_drop_21 ?_
      refine lv_iload_n hx hb dX3_drop_24 rfl (lv_at hl 1 rfl) ?_
      refine lv_aload_n hx hb dX3_drop_25 rfl (lv_at hl 0 rfl) ?_
      refine gt_RX3_11 X h (hks 22 (by decide)) dX3_drop_26 ?_
      refine lv_iload_n hx hb dX3_drop_29 rfl (lv_at hl 1 rfl) ?_
      refine lv_iconst hx hb dX3_drop_30 ki_1 ?_
      refine lv_iadd hx hb dX3_drop_31 ?_
      obtain ⟨hi0, hf⟩ := ck_s hf
      refine fb_iald X h (hks 23 (by decide)) rfl hi0 dX3_drop_32 ?_
      obtain ⟨hi0, hf⟩ := ck_s hf
      obtain ⟨t2, et2, hf⟩ := nm_s hf
      refine fb_iast X h (hks 23 (by decide)) (fun _ => rfl) hi0 dX3_drop_33 (fun H locs h => ?_)
      have h := fb_H.nm et2 h
      refine lv_aload_n hx hb dX3_drop_34 rfl (lv_at hl 0 rfl) ?_
      refine gt_RX3_15 X h (hks 22 (by decide)) dX3_drop_35 ?_
      refine lv_iload_n hx hb dX3_drop_38 rfl (lv_at hl 1 rfl) ?_
      refine lv_aload_n hx hb dX3_drop_39 rfl (lv_at hl 0 rfl) ?_
      refine gt_RX3_15 X h (hks 22 (by decide)) dX3_drop_40 ?_
      refine lv_iload_n hx hb dX3_drop_43 rfl (lv_at hl 1 rfl) ?_
      refine lv_iconst hx hb dX3_drop_44 ki_1 ?_
      refine lv_iadd hx hb dX3_drop_45 ?_
      obtain ⟨hi0, hf⟩ := ck_s hf
      refine fb_iald X h (hks 24 (by decide)) rfl hi0 dX3_drop_46 ?_
      obtain ⟨hi0, hf⟩ := ck_s hf
      obtain ⟨t3, et3, hf⟩ := nm_s hf
      refine fb_iast X h (hks 24 (by decide)) (fun _ => rfl) hi0 dX3_drop_47 (fun H locs h => ?_)
      have h := fb_H.nm et3 h
      refine lv_aload_n hx hb dX3_drop_48 rfl (lv_at hl 0 rfl) ?_
      refine gt_RX3_18 X h (hks 22 (by decide)) dX3_drop_49 ?_
      refine lv_iload_n hx hb dX3_drop_52 rfl (lv_at hl 1 rfl) ?_
      refine lv_aload_n hx hb dX3_drop_53 rfl (lv_at hl 0 rfl) ?_
      refine gt_RX3_18 X h (hks 22 (by decide)) dX3_drop_54 ?_
      refine lv_iload_n hx hb dX3_drop_57 rfl (lv_at hl 1 rfl) ?_
      refine lv_iconst hx hb dX3_drop_58 ki_1 ?_
      refine lv_iadd hx hb dX3_drop_59 ?_
      obtain ⟨hi0, hf⟩ := ck_s hf
      refine fb_iald X h (hks 25 (by decide)) rfl hi0 dX3_drop_60 ?_
      obtain ⟨hi0, hf⟩ := ck_s hf
      obtain ⟨t4, et4, hf⟩ := nm_s hf
      refine fb_iast X h (hks 25 (by decide)) (fun _ => rfl) hi0 dX3_drop_61 (fun H locs h => ?_)
      have h := fb_H.nm et4 h
      refine lv_iinc hx hb dX3_drop_62 hl (k := 1) rfl (kinc_1 _) (by decide) (lv' := [(2, .int (v2 + 1)), (0, .ref (g.1 22))]) rfl (fun ls hl => ?_)
      refine lv_goto hx hb dX3_drop_65 (tgt := 12) (by decide) ?_
      exact ih (v2 + 1) t4 _ _ _ h (lv_sub hl [1, 0] rfl) hf
set_option maxHeartbeats 4000000 in
set_option maxRecDepth 100000 in
theorem c_X3_drop (l : Launch) {g : fb_G} {ks : List Nat} (hI : fb_I g ks) (hks : ∀ k ∈ ([22, 23, 24, 25, 26] : List Nat), k ∈ ks) (N : Nat) (a1 : Int32) (σ : fb_S) {res : (Int32 × fb_S)} (hf : f_X3_drop N a1 σ = some res) : fb_M l yX3_drop cX3_drop 3 (some .int) 3 68 g ks [.ref (g.1 22), .int a1] σ (fb_Qi g ks res.1 res.2) := by
  refine fb_met (by decide +kernel) hI (Nat.le_of_ble_eq_true rfl) (fun p e s m below meth c ls X h hr hlk hl => ?_)
  have X : fb_X p m c cX3_drop 3 s _ RX3 g ks (fb_A g ks) := X
  have hl : lv_has ls 3 [(0, .ref (g.1 22)), (1, .int a1)] := hl
  have hx := X.1.1
  have hb := X.1.2.1
  unfold f_X3_drop at hf
  refine lv_aload_n hx hb dX3_drop_0 rfl (lv_at hl 0 rfl) ?_
  refine lv_dup hx hb dX3_drop_1 rfl ?_
  refine gt_RX3_47 X h (hks 22 (by decide)) dX3_drop_2 ?_
  refine lv_iconst hx hb dX3_drop_5 ki_1 ?_
  refine lv_isub hx hb dX3_drop_6 ?_
  obtain ⟨t5, et5, hf⟩ := nm_s hf
  refine pt_RX3_47 X h (hks 22 (by decide)) dX3_drop_7 (fun H locs h => ?_)
  have h := fb_H.nm et5 h
  refine lv_iload_n hx hb dX3_drop_10 rfl (lv_at hl 1 rfl) ?_
  refine lv_istore_n hx hb dX3_drop_11 rfl hl (by decide) (lv' := [(2, .int a1), (0, .ref (g.1 22)), (1, .int a1)]) rfl (fun ls hl => ?_)
  exact w_X3_drop_L12 X hks hr hlk N N a1 t5 _ _ _ h (lv_sub hl [1, 0] rfl) hf
def f_X5_forget (N : Nat) (a1 : Int32) (σ : fb_S) : Option (Int32 × fb_S) :=
  (f_X5_isWithin a1 (0 : Int32) ((σ.1 22 6) - (1 : Int32))).bind fun q1 =>
  if q1 = 0 then (
    some ((-1 : Int32), σ)
  ) else (
    (f_X3_drop N a1 σ).bind fun q2 =>
    some (q2.1, q2.2)
  )
set_option maxHeartbeats 4000000 in
set_option maxRecDepth 100000 in
theorem c_X5_forget (l : Launch) {g : fb_G} {ks : List Nat} (hI : fb_I g ks) (hks : ∀ k ∈ ([0, 22, 23, 24, 25, 26] : List Nat), k ∈ ks) (N : Nat) (a1 : Int32) (σ : fb_S) {res : (Int32 × fb_S)} (hf : f_X5_forget N a1 σ = some res) : fb_M l yX5_forget cX5_forget 2 (some .int) 4 90 g ks [.ref (g.1 0), .int a1] σ (fb_Qi g ks res.1 res.2) := by
  refine fb_met (by decide +kernel) hI (Nat.le_of_ble_eq_true rfl) (fun p e s m below meth c ls X h hr hlk hl => ?_)
  have X : fb_X p m c cX5_forget 2 s _ RX5 g ks (fb_A g ks) := X
  have hl : lv_has ls 2 [(0, .ref (g.1 0)), (1, .int a1)] := hl
  have hx := X.1.1
  have hb := X.1.2.1
  unfold f_X5_forget at hf
  refine lv_iload_n hx hb dX5_forget_0 rfl (lv_at hl 1 rfl) ?_
  refine lv_iconst hx hb dX5_forget_1 ki_0 ?_
  refine lv_aload_n hx hb dX5_forget_2 rfl (lv_at hl 0 rfl) ?_
  refine gt_RX5_44 X h (hks 0 (by decide)) dX5_forget_3 ?_
  refine gt_RX5_202 X h (hks 22 (by decide)) dX5_forget_6 ?_
  refine lv_iconst hx hb dX5_forget_9 ki_1 ?_
  refine lv_isub hx hb dX5_forget_10 ?_
  obtain ⟨q1, hq1, hf⟩ := bd_s hf
  refine fb_ci X h (fb_runS (As := [.int a1, .int (0), .int ((σ.1 22 6) - (1 : Int32))]) (rest := []) X h (c_X5_isWithin l X.2.2.1 (fun k hk => absurd hk List.not_mem_nil) a1 (0 : Int32) ((σ.1 22 6) - (1 : Int32)) σ hq1) mf_yX5_isWithin lm_RX5_48 ⟨Nat.le_of_ble_eq_true rfl, Nat.le_of_ble_eq_true rfl⟩ ⟨Nat.le_refl _, Nat.le_refl _⟩ rfl hl.1 rfl (Nat.le_of_ble_eq_true rfl) dX5_forget_11) (fun H locs h => ?_)
  refine lv_if_eq hx hb dX5_forget_14 (tgt := 28) (by decide) (fun hc => ?_) (fun hc => ?_)
  · have hf := if_t hc hf
    refine lv_iconst hx hb dX5_forget_28 ki_m1 ?_
    have e9 := Option.some.inj hf
    subst e9
    exact fb_ir X h hr hlk dX5_forget_29
  · have hf := if_f hc hf
    refine lv_aload_n hx hb dX5_forget_17 rfl (lv_at hl 0 rfl) ?_
    refine gt_RX5_44 X h (hks 0 (by decide)) dX5_forget_18 ?_
    refine lv_iload_n hx hb dX5_forget_21 rfl (lv_at hl 1 rfl) ?_
    obtain ⟨q2, hq2, hf⟩ := bd_s hf
    refine fb_ci X h (fb_runVN (As := [.int a1]) (rest := []) (k := 22) X h (c_X3_drop l X.2.2.1 (fun k hk => hks k ((by decide : ∀ k ∈ ([22, 23, 24, 25, 26] : List Nat), k ∈ ([0, 22, 23, 24, 25, 26] : List Nat)) k hk)) N a1 σ hq2) mf_yX3_drop lm_RX5_206 (hks 22 (by decide)) rfl rfl ⟨Nat.le_of_ble_eq_true rfl, Nat.le_of_ble_eq_true rfl⟩ ⟨Nat.le_refl _, Nat.le_refl _⟩ rfl hl.1 rfl (Nat.le_of_ble_eq_true rfl) dX5_forget_22) (fun H locs h => ?_)
    refine lv_goto hx hb dX5_forget_25 (tgt := 29) (by decide) ?_
    have e9 := Option.some.inj hf
    subst e9
    exact fb_ir X h hr hlk dX5_forget_29
def f_X5_laws  (σ : fb_S) : Option Int32 :=
  some (σ.1 22 7)
set_option maxHeartbeats 4000000 in
set_option maxRecDepth 100000 in
theorem c_X5_laws (l : Launch) {g : fb_G} {ks : List Nat} (hI : fb_I g ks) (hks : ∀ k ∈ ([0, 22] : List Nat), k ∈ ks) (σ : fb_S) {res : Int32} (hf : f_X5_laws σ = some res) : fb_M l yX5_laws cX5_laws 1 (some .int) 0 0 g ks [.ref (g.1 0)] σ (fb_Qi g ks res σ) := by
  refine fb_met (by decide +kernel) hI (Nat.le_of_ble_eq_true rfl) (fun p e s m below meth c ls X h hr hlk hl => ?_)
  have X : fb_X p m c cX5_laws 1 s _ RX5 g ks (fb_A g ks) := X
  have hl : lv_has ls 1 [(0, .ref (g.1 0))] := hl
  have hx := X.1.1
  have hb := X.1.2.1
  unfold f_X5_laws at hf
  refine lv_aload_n hx hb dX5_laws_0 rfl (lv_at hl 0 rfl) ?_
  refine gt_RX5_44 X h (hks 0 (by decide)) dX5_laws_1 ?_
  refine gt_RX5_209 X h (hks 22 (by decide)) dX5_laws_4 ?_
  have e9 := Option.some.inj hf
  subst e9
  exact fb_ir X h hr hlk dX5_laws_7
def f_X3_isFitting (a1 : Int32) (a2 : Int32) (σ : fb_S) : Option Int32 :=
  ck_ (fb_in a1 50) <|
  if (lg_cmp (((hjf (σ.1 26) a1.toNatClampNeg) >>> (a2.toInt64 &&& 63)) &&& (1 : Int64)) (1 : Int64)) = 0 then (
    some (1 : Int32)
  ) else (
    some (0 : Int32)
  )
set_option maxHeartbeats 4000000 in
set_option maxRecDepth 100000 in
theorem c_X3_isFitting (l : Launch) {g : fb_G} {ks : List Nat} (hI : fb_I g ks) (hks : ∀ k ∈ ([22, 26] : List Nat), k ∈ ks) (a1 : Int32) (a2 : Int32) (σ : fb_S) {res : Int32} (hf : f_X3_isFitting a1 a2 σ = some res) : fb_M l yX3_isFitting cX3_isFitting 3 (some .boolean) 0 0 g ks [.ref (g.1 22), .int a1, .int a2] σ (fb_Qi g ks res σ) := by
  refine fb_met (by decide +kernel) hI (Nat.le_of_ble_eq_true rfl) (fun p e s m below meth c ls X h hr hlk hl => ?_)
  have X : fb_X p m c cX3_isFitting 3 s _ RX3 g ks (fb_A g ks) := X
  have hl : lv_has ls 3 [(0, .ref (g.1 22)), (1, .int a1), (2, .int a2)] := hl
  have hx := X.1.1
  have hb := X.1.2.1
  unfold f_X3_isFitting at hf
  refine lv_aload_n hx hb dX3_isFitting_0 rfl (lv_at hl 0 rfl) ?_
  refine gt_RX3_21 X h (hks 22 (by decide)) dX3_isFitting_1 ?_
  refine lv_iload_n hx hb dX3_isFitting_4 rfl (lv_at hl 1 rfl) ?_
  obtain ⟨hi0, hf⟩ := ck_s hf
  refine fb_hald X h (hks 26 (by decide)) rfl hi0 dX3_isFitting_5 ?_
  refine lv_iload_n hx hb dX3_isFitting_6 rfl (lv_at hl 2 rfl) ?_
  refine lv_lshr hx hb dX3_isFitting_7 (v := (hjf (σ.1 26) a1.toNatClampNeg) >>> (a2.toInt64 &&& 63)) rfl ?_
  refine lv_lconst hx hb dX3_isFitting_8 kl_1 ?_
  refine lv_land hx hb dX3_isFitting_9 ?_
  refine lv_lconst hx hb dX3_isFitting_10 kl_1 ?_
  refine W.lcmp hx hb dX3_isFitting_11 ?_
  refine lv_if_ne hx hb dX3_isFitting_12 (tgt := 19) (by decide) (fun hc => ?_) (fun hc => ?_)
  · have hf := if_f hc hf
    refine lv_iconst hx hb dX3_isFitting_19 ki_0 ?_
    have e9 := Option.some.inj hf
    subst e9
    exact fb_zr (r := (0 : Int32)) X h hr rfl hlk dX3_isFitting_20
  · have hf := if_t hc hf
    refine lv_iconst hx hb dX3_isFitting_15 ki_1 ?_
    refine lv_goto hx hb dX3_isFitting_16 (tgt := 20) (by decide) ?_
    have e9 := Option.some.inj hf
    subst e9
    exact fb_zr (r := (1 : Int32)) X h hr rfl hlk dX3_isFitting_20
def f_X3_codeAt_L13 (N : Nat) (σ : fb_S) (k4 : Int32 → Int32 → Int32 → Option Int32) : Nat → Int32 → Int32 → Int32 → Int32 → Option Int32
  | 0, _, _, _, _ => none
  | n + 1, v1, v2, v3, v4 => 
    if (50 : Int32) < v4 then (
      k4 v1 v2 (v3 + 1)
    ) else (
      (f_X3_isFitting v3 v4 σ).bind fun q1 =>
      if q1 = 0 then (
        f_X3_codeAt_L13 N σ k4 n v1 v2 v3 (v4 + 1)
      ) else (
        if v2 = v1 then (
          some (((100 : Int32) * v3) + v4)
        ) else (
          f_X3_codeAt_L13 N σ k4 n v1 (v2 + 1) v3 (v4 + 1)
        )
      )
    )
def f_X3_codeAt_L4 (N : Nat) (σ : fb_S) : Nat → Int32 → Int32 → Int32 → Option Int32
  | 0, _, _, _ => none
  | n + 1, v1, v2, v3 => 
    if (49 : Int32) < v3 then (
      some (-9 : Int32)
    ) else (
      f_X3_codeAt_L13 N σ (f_X3_codeAt_L4 N σ n) N v1 v2 v3 (1 : Int32)
    )
def f_X3_codeAt (N : Nat) (a1 : Int32) (σ : fb_S) : Option Int32 :=
  f_X3_codeAt_L4 N σ N a1 (0 : Int32) (0 : Int32)
set_option maxHeartbeats 4000000 in
set_option maxRecDepth 100000 in
theorem w_X3_codeAt_L13 (X : fb_X p m c cX3_codeAt 5 s args RX3 g ks (fb_A g ks)) (hks : ∀ k ∈ ([22, 26] : List Nat), k ∈ ks) (hr : meth.sig.returnType = (some .int)) (hlk : meth.locks = false) (N : Nat) (σ : fb_S) (k4 : Int32 → Int32 → Int32 → Option Int32)  {res : Int32} (hk4 : ∀ (v1 : Int32) (v2 : Int32) (v3 : Int32) (H : Heap) (locs : List Loc) (ls : Array Slot), fb_H g ks (fb_A g ks) s.heap σ H locs → lv_has ls 5 [(0, .ref (g.1 22)), (1, .int v1), (2, .int v2), (3, .int v3)] → k4 v1 v2 v3 = some res → W p l e (fb_R 1 22) s m args below meth c H locs 0 0 (MQ below (fb_Qi g ks res σ) args s 0 0 (fb_A g ks)) (F0 m 4 ls [])) : ∀ (n : Nat) (v1 : Int32) (v2 : Int32) (v3 : Int32) (v4 : Int32) (H : Heap) (locs : List Loc) (ls : Array Slot), fb_H g ks (fb_A g ks) s.heap σ H locs → lv_has ls 5 [(0, .ref (g.1 22)), (1, .int v1), (2, .int v2), (3, .int v3), (4, .int v4)] → f_X3_codeAt_L13 N σ k4 n v1 v2 v3 v4 = some res → W p l e (fb_R 1 22) s m args below meth c H locs 0 0 (MQ below (fb_Qi g ks res σ) args s 0 0 (fb_A g ks)) (F0 m 13 ls []) := by
  have hx := X.1.1
  have hb := X.1.2.1
  intro n
  induction n with
  | zero => intro v1 v2 v3 v4 H locs ls h hl hf; cases hf
  | succ n ih =>
    intro v1 v2 v3 v4 H locs ls h hl hf
    unfold f_X3_codeAt_L13 at hf
    refine lv_iload hx hb dX3_codeAt_13 (lv_at hl 4 rfl) ?_
    refine lv_bipush hx hb dX3_codeAt_15 kb_50 ?_
    refine lv_icmp_gt hx hb dX3_codeAt_17 (tgt := 52) (by decide) (fun hc => ?_) (fun hc => ?_)
    · have hf := if_t hc hf
      refine lv_iinc hx hb dX3_codeAt_52 hl (k := 3) rfl (kinc_1 _) (by decide) (lv' := [(3, .int (v3 + 1)), (0, .ref (g.1 22)), (1, .int v1), (2, .int v2), (4, .int v4)]) rfl (fun ls hl => ?_)
      refine lv_goto hx hb dX3_codeAt_55 (tgt := 4) (by decide) ?_
      exact hk4 v1 v2 (v3 + 1) _ _ _ h (lv_sub hl [1, 2, 3, 0] rfl) hf
    · have hf := if_f hc hf
      refine lv_aload_n hx hb dX3_codeAt_20 rfl (lv_at hl 0 rfl) ?_
      refine lv_iload_n hx hb dX3_codeAt_21 rfl (lv_at hl 3 rfl) ?_
      refine lv_iload hx hb dX3_codeAt_22 (lv_at hl 4 rfl) ?_
      obtain ⟨q1, hq1, hf⟩ := bd_s hf
      refine fb_ci X h (fb_runV (As := [.int v3, .int v4]) (rest := []) (k := 22) X h (c_X3_isFitting l X.2.2.1 (fun k hk => hks k ((by decide : ∀ k ∈ ([22, 26] : List Nat), k ∈ ([22, 26] : List Nat)) k hk)) v3 v4 σ hq1) mf_yX3_isFitting lm_RX3_57 (hks 22 (by decide)) rfl rfl ⟨Nat.le_of_ble_eq_true rfl, Nat.le_of_ble_eq_true rfl⟩ ⟨Nat.le_refl _, Nat.le_refl _⟩ rfl hl.1 rfl (Nat.le_of_ble_eq_true rfl) dX3_codeAt_24) (fun H locs h => ?_)
      refine lv_if_eq hx hb dX3_codeAt_27 (tgt := 46) (by decide) (fun hc => ?_) (fun hc => ?_)
      · have hf := if_t hc hf
        refine lv_iinc hx hb dX3_codeAt_46 hl (k := 4) rfl (kinc_1 _) (by decide) (lv' := [(4, .int (v4 + 1)), (0, .ref (g.1 22)), (1, .int v1), (2, .int v2), (3, .int v3)]) rfl (fun ls hl => ?_)
        refine lv_goto hx hb dX3_codeAt_49 (tgt := 13) (by decide) ?_
        exact ih v1 v2 v3 (v4 + 1) _ _ _ h (lv_sub hl [1, 2, 3, 4, 0] rfl) hf
      · have hf := if_f hc hf
        refine lv_iload_n hx hb dX3_codeAt_30 rfl (lv_at hl 2 rfl) ?_
        refine lv_iload_n hx hb dX3_codeAt_31 rfl (lv_at hl 1 rfl) ?_
        refine lv_icmp_ne hx hb dX3_codeAt_32 (tgt := 43) (by decide) (fun hc => ?_) (fun hc => ?_)
        · have hf := if_f hc hf
          refine lv_iinc hx hb dX3_codeAt_43 hl (k := 2) rfl (kinc_1 _) (by decide) (lv' := [(2, .int (v2 + 1)), (0, .ref (g.1 22)), (1, .int v1), (3, .int v3), (4, .int v4)]) rfl (fun ls hl => ?_)
          refine lv_iinc hx hb dX3_codeAt_46 hl (k := 4) rfl (kinc_1 _) (by decide) (lv' := [(4, .int (v4 + 1)), (2, .int (v2 + 1)), (0, .ref (g.1 22)), (1, .int v1), (3, .int v3)]) rfl (fun ls hl => ?_)
          refine lv_goto hx hb dX3_codeAt_49 (tgt := 13) (by decide) ?_
          exact ih v1 (v2 + 1) v3 (v4 + 1) _ _ _ h (lv_sub hl [2, 3, 1, 4, 0] rfl) hf
        · have hf := if_t hc hf
          refine lv_bipush hx hb dX3_codeAt_35 kb_100 ?_
          refine lv_iload_n hx hb dX3_codeAt_37 rfl (lv_at hl 3 rfl) ?_
          refine lv_imul hx hb dX3_codeAt_38 ?_
          refine lv_iload hx hb dX3_codeAt_39 (lv_at hl 4 rfl) ?_
          refine lv_iadd hx hb dX3_codeAt_41 ?_
          have e9 := Option.some.inj hf
          subst e9
          exact fb_ir X h hr hlk dX3_codeAt_42
set_option maxHeartbeats 4000000 in
set_option maxRecDepth 100000 in
theorem w_X3_codeAt_L4 (X : fb_X p m c cX3_codeAt 5 s args RX3 g ks (fb_A g ks)) (hks : ∀ k ∈ ([22, 26] : List Nat), k ∈ ks) (hr : meth.sig.returnType = (some .int)) (hlk : meth.locks = false) (N : Nat) (σ : fb_S)  {res : Int32} : ∀ (n : Nat) (v1 : Int32) (v2 : Int32) (v3 : Int32) (H : Heap) (locs : List Loc) (ls : Array Slot), fb_H g ks (fb_A g ks) s.heap σ H locs → lv_has ls 5 [(0, .ref (g.1 22)), (1, .int v1), (2, .int v2), (3, .int v3)] → f_X3_codeAt_L4 N σ n v1 v2 v3 = some res → W p l e (fb_R 1 22) s m args below meth c H locs 0 0 (MQ below (fb_Qi g ks res σ) args s 0 0 (fb_A g ks)) (F0 m 4 ls []) := by
  have hx := X.1.1
  have hb := X.1.2.1
  intro n
  induction n with
  | zero => intro v1 v2 v3 H locs ls h hl hf; cases hf
  | succ n ih =>
    intro v1 v2 v3 H locs ls h hl hf
    unfold f_X3_codeAt_L4 at hf
    refine lv_iload_n hx hb dX3_codeAt_4 rfl (lv_at hl 3 rfl) ?_
    refine lv_bipush hx hb dX3_codeAt_5 kb_49 ?_
    refine lv_icmp_gt hx hb dX3_codeAt_7 (tgt := 58) (by decide) (fun hc => ?_) (fun hc => ?_)
    · have hf := if_t hc hf
      refine lv_bipush hx hb dX3_codeAt_58 kb_m9 ?_
      have e9 := Option.some.inj hf
      subst e9
      exact fb_ir X h hr hlk dX3_codeAt_60
    · have hf := if_f hc hf
      refine lv_iconst hx hb dX3_codeAt_10 ki_1 ?_
      refine lv_istore hx hb dX3_codeAt_11 hl (by decide) (lv' := [(4, .int (1)), (0, .ref (g.1 22)), (1, .int v1), (2, .int v2), (3, .int v3)]) rfl (fun ls hl => ?_)
      exact w_X3_codeAt_L13 X hks hr hlk N σ (f_X3_codeAt_L4 N σ n) ih N v1 v2 v3 (1 : Int32) _ _ _ h (lv_sub hl [1, 2, 3, 4, 0] rfl) hf
set_option maxHeartbeats 4000000 in
set_option maxRecDepth 100000 in
theorem c_X3_codeAt (l : Launch) {g : fb_G} {ks : List Nat} (hI : fb_I g ks) (hks : ∀ k ∈ ([22, 26] : List Nat), k ∈ ks) (N : Nat) (a1 : Int32) (σ : fb_S) {res : Int32} (hf : f_X3_codeAt N a1 σ = some res) : fb_M l yX3_codeAt cX3_codeAt 5 (some .int) 1 22 g ks [.ref (g.1 22), .int a1] σ (fb_Qi g ks res σ) := by
  refine fb_met (by decide +kernel) hI (Nat.le_of_ble_eq_true rfl) (fun p e s m below meth c ls X h hr hlk hl => ?_)
  have X : fb_X p m c cX3_codeAt 5 s _ RX3 g ks (fb_A g ks) := X
  have hl : lv_has ls 5 [(0, .ref (g.1 22)), (1, .int a1)] := hl
  have hx := X.1.1
  have hb := X.1.2.1
  unfold f_X3_codeAt at hf
  refine lv_iconst hx hb dX3_codeAt_0 ki_0 ?_
  refine lv_istore_n hx hb dX3_codeAt_1 rfl hl (by decide) (lv' := [(2, .int (0)), (0, .ref (g.1 22)), (1, .int a1)]) rfl (fun ls hl => ?_)
  refine lv_iconst hx hb dX3_codeAt_2 ki_0 ?_
  refine lv_istore_n hx hb dX3_codeAt_3 rfl hl (by decide) (lv' := [(3, .int (0)), (2, .int (0)), (0, .ref (g.1 22)), (1, .int a1)]) rfl (fun ls hl => ?_)
  exact w_X3_codeAt_L4 X hks hr hlk N σ N a1 (0 : Int32) (0 : Int32) _ _ _ h (lv_sub hl [2, 3, 1, 0] rfl) hf
def f_X5_law (N : Nat) (a1 : Int32) (σ : fb_S) : Option Int32 :=
  (f_X3_codeAt N a1 σ).bind fun q1 =>
  some q1
set_option maxHeartbeats 4000000 in
set_option maxRecDepth 100000 in
theorem c_X5_law (l : Launch) {g : fb_G} {ks : List Nat} (hI : fb_I g ks) (hks : ∀ k ∈ ([0, 22, 26] : List Nat), k ∈ ks) (N : Nat) (a1 : Int32) (σ : fb_S) {res : Int32} (hf : f_X5_law N a1 σ = some res) : fb_M l yX5_law cX5_law 2 (some .int) 2 46 g ks [.ref (g.1 0), .int a1] σ (fb_Qi g ks res σ) := by
  refine fb_met (by decide +kernel) hI (Nat.le_of_ble_eq_true rfl) (fun p e s m below meth c ls X h hr hlk hl => ?_)
  have X : fb_X p m c cX5_law 2 s _ RX5 g ks (fb_A g ks) := X
  have hl : lv_has ls 2 [(0, .ref (g.1 0)), (1, .int a1)] := hl
  have hx := X.1.1
  have hb := X.1.2.1
  unfold f_X5_law at hf
  refine lv_aload_n hx hb dX5_law_0 rfl (lv_at hl 0 rfl) ?_
  refine gt_RX5_44 X h (hks 0 (by decide)) dX5_law_1 ?_
  refine lv_iload_n hx hb dX5_law_4 rfl (lv_at hl 1 rfl) ?_
  obtain ⟨q1, hq1, hf⟩ := bd_s hf
  refine fb_ci X h (fb_runVN (As := [.int a1]) (rest := []) (k := 22) X h (c_X3_codeAt l X.2.2.1 (fun k hk => hks k ((by decide : ∀ k ∈ ([22, 26] : List Nat), k ∈ ([0, 22, 26] : List Nat)) k hk)) N a1 σ hq1) mf_yX3_codeAt lm_RX5_212 (hks 22 (by decide)) rfl rfl ⟨Nat.le_of_ble_eq_true rfl, Nat.le_of_ble_eq_true rfl⟩ ⟨Nat.le_refl _, Nat.le_refl _⟩ rfl hl.1 rfl (Nat.le_of_ble_eq_true rfl) dX5_law_5) (fun H locs h => ?_)
  have e9 := Option.some.inj hf
  subst e9
  exact fb_ir X h hr hlk dX5_law_8
def f_X3_farthest_L34 (N : Nat) (σ : fb_S) (k6 : Int32 → Int32 → Int32 → Int32 → Option Int32) (k16 : Int32 → Int32 → Int32 → Int32 → Int32 → Option Int32) (v1 : Int32) (v2 : Int32) (v3 : Int32) (v4 : Int32) (v5 : Int32) (s0 : Int32) : Option Int32 :=
  (f_X3_isFitting v4 v5 σ).bind fun q1 =>
  if q1 = 0 then (
    k16 v1 v2 v3 v4 (v5 + 1)
  ) else (
    if v3 = (-9 : Int32) then (
      k16 v1 v2 s0 v4 (v5 + 1)
    ) else (
      if v2 = 0 then (
        if v3 ≤ s0 then (
          k16 v1 v2 v3 v4 (v5 + 1)
        ) else (
          k16 v1 v2 s0 v4 (v5 + 1)
        )
      ) else (
        if s0 ≤ v3 then (
          k16 v1 v2 v3 v4 (v5 + 1)
        ) else (
          k16 v1 v2 s0 v4 (v5 + 1)
        )
      )
    )
  )
def f_X3_farthest_L16 (N : Nat) (σ : fb_S) (k6 : Int32 → Int32 → Int32 → Int32 → Option Int32) : Nat → Int32 → Int32 → Int32 → Int32 → Int32 → Option Int32
  | 0, _, _, _, _, _ => none
  | n + 1, v1, v2, v3, v4, v5 => 
    if (50 : Int32) < v5 then (
      k6 v1 v2 v3 (v4 + 1)
    ) else (
      if v1 = 0 then (
        f_X3_farthest_L34 N σ k6 (f_X3_farthest_L16 N σ k6 n) v1 v2 v3 v4 v5 v5
      ) else (
        f_X3_farthest_L34 N σ k6 (f_X3_farthest_L16 N σ k6 n) v1 v2 v3 v4 v5 v4
      )
    )
def f_X3_farthest_L6 (N : Nat) (σ : fb_S) : Nat → Int32 → Int32 → Int32 → Int32 → Option Int32
  | 0, _, _, _, _ => none
  | n + 1, v1, v2, v3, v4 => 
    if (49 : Int32) < v4 then (
      some v3
    ) else (
      f_X3_farthest_L16 N σ (f_X3_farthest_L6 N σ n) N v1 v2 v3 v4 (1 : Int32)
    )
def f_X3_farthest (N : Nat) (a1 : Int32) (a2 : Int32) (σ : fb_S) : Option Int32 :=
  f_X3_farthest_L6 N σ N a1 a2 (-9 : Int32) (0 : Int32)
set_option maxHeartbeats 4000000 in
set_option maxRecDepth 100000 in
theorem w_X3_farthest_L34 (X : fb_X p m c cX3_farthest 7 s args RX3 g ks (fb_A g ks)) (hks : ∀ k ∈ ([22, 26] : List Nat), k ∈ ks) (hr : meth.sig.returnType = (some .int)) (hlk : meth.locks = false) (N : Nat) (σ : fb_S) (k6 : Int32 → Int32 → Int32 → Int32 → Option Int32) (k16 : Int32 → Int32 → Int32 → Int32 → Int32 → Option Int32)  {res : Int32} (hk6 : ∀ (v1 : Int32) (v2 : Int32) (v3 : Int32) (v4 : Int32) (H : Heap) (locs : List Loc) (ls : Array Slot), fb_H g ks (fb_A g ks) s.heap σ H locs → lv_has ls 7 [(0, .ref (g.1 22)), (1, .int v1), (2, .int v2), (3, .int v3), (4, .int v4)] → k6 v1 v2 v3 v4 = some res → W p l e (fb_R 1 22) s m args below meth c H locs 0 0 (MQ below (fb_Qi g ks res σ) args s 0 0 (fb_A g ks)) (F0 m 6 ls [])) (hk16 : ∀ (v1 : Int32) (v2 : Int32) (v3 : Int32) (v4 : Int32) (v5 : Int32) (H : Heap) (locs : List Loc) (ls : Array Slot), fb_H g ks (fb_A g ks) s.heap σ H locs → lv_has ls 7 [(0, .ref (g.1 22)), (1, .int v1), (2, .int v2), (3, .int v3), (4, .int v4), (5, .int v5)] → k16 v1 v2 v3 v4 v5 = some res → W p l e (fb_R 1 22) s m args below meth c H locs 0 0 (MQ below (fb_Qi g ks res σ) args s 0 0 (fb_A g ks)) (F0 m 16 ls [])) : ∀ (v1 : Int32) (v2 : Int32) (v3 : Int32) (v4 : Int32) (v5 : Int32) (s0 : Int32) (H : Heap) (locs : List Loc) (ls : Array Slot), fb_H g ks (fb_A g ks) s.heap σ H locs → lv_has ls 7 [(0, .ref (g.1 22)), (1, .int v1), (2, .int v2), (3, .int v3), (4, .int v4), (5, .int v5)] → f_X3_farthest_L34 N σ k6 k16 v1 v2 v3 v4 v5 s0 = some res → W p l e (fb_R 1 22) s m args below meth c H locs 0 0 (MQ below (fb_Qi g ks res σ) args s 0 0 (fb_A g ks)) (F0 m 34 ls [.int s0]) := by
  have hx := X.1.1
  have hb := X.1.2.1
  intro v1 v2 v3 v4 v5 s0 H locs ls h hl hf
  unfold f_X3_farthest_L34 at hf
  refine lv_istore hx hb dX3_farthest_34 hl (by decide) (lv' := [(6, .int s0), (0, .ref (g.1 22)), (1, .int v1), (2, .int v2), (3, .int v3), (4, .int v4), (5, .int v5)]) rfl (fun ls hl => ?_)
  refine lv_aload_n hx hb dX3_farthest_36 rfl (lv_at hl 1 rfl) ?_
  refine lv_iload hx hb dX3_farthest_37 (lv_at hl 5 rfl) ?_
  refine lv_iload hx hb dX3_farthest_39 (lv_at hl 6 rfl) ?_
  obtain ⟨q1, hq1, hf⟩ := bd_s hf
  refine fb_ci X h (fb_runV (As := [.int v4, .int v5]) (rest := []) (k := 22) X h (c_X3_isFitting l X.2.2.1 (fun k hk => hks k ((by decide : ∀ k ∈ ([22, 26] : List Nat), k ∈ ([22, 26] : List Nat)) k hk)) v4 v5 σ hq1) mf_yX3_isFitting lm_RX3_57 (hks 22 (by decide)) rfl rfl ⟨Nat.le_of_ble_eq_true rfl, Nat.le_of_ble_eq_true rfl⟩ ⟨Nat.le_refl _, Nat.le_refl _⟩ rfl hl.1 rfl (Nat.le_of_ble_eq_true rfl) dX3_farthest_41) (fun H locs h => ?_)
  refine lv_if_eq hx hb dX3_farthest_44 (tgt := 75) (by decide) (fun hc => ?_) (fun hc => ?_)
  · have hf := if_t hc hf
    refine lv_iinc hx hb dX3_farthest_75 hl (k := 6) rfl (kinc_1 _) (by decide) (lv' := [(5, .int (v5 + 1)), (6, .int s0), (0, .ref (g.1 22)), (1, .int v1), (2, .int v2), (3, .int v3), (4, .int v4)]) rfl (fun ls hl => ?_)
    refine lv_goto hx hb dX3_farthest_78 (tgt := 16) (by decide) ?_
    exact hk16 v1 v2 v3 v4 (v5 + 1) _ _ _ h (lv_sub hl [2, 3, 4, 5, 6, 0] rfl) hf
  · have hf := if_f hc hf
    refine lv_iload_n hx hb dX3_farthest_47 rfl (lv_at hl 4 rfl) ?_
    refine lv_bipush hx hb dX3_farthest_48 kb_m9 ?_
    refine lv_icmp_eq hx hb dX3_farthest_50 (tgt := 72) (by decide) (fun hc => ?_) (fun hc => ?_)
    · have hf := if_t hc hf
      refine lv_iload hx hb dX3_farthest_72 (lv_at hl 0 rfl) ?_
      refine lv_istore_n hx hb dX3_farthest_74 rfl hl (by decide) (lv' := [(3, .int s0), (6, .int s0), (0, .ref (g.1 22)), (1, .int v1), (2, .int v2), (4, .int v4), (5, .int v5)]) rfl (fun ls hl => ?_)
      refine lv_iinc hx hb dX3_farthest_75 hl (k := 6) rfl (kinc_1 _) (by decide) (lv' := [(5, .int (v5 + 1)), (3, .int s0), (6, .int s0), (0, .ref (g.1 22)), (1, .int v1), (2, .int v2), (4, .int v4)]) rfl (fun ls hl => ?_)
      refine lv_goto hx hb dX3_farthest_78 (tgt := 16) (by decide) ?_
      exact hk16 v1 v2 s0 v4 (v5 + 1) _ _ _ h (lv_sub hl [3, 4, 5, 1, 6, 0] rfl) hf
    · have hf := if_f hc hf
      refine lv_iload_n hx hb dX3_farthest_53 rfl (lv_at hl 3 rfl) ?_
      refine lv_if_eq hx hb dX3_farthest_54 (tgt := 66) (by decide) (fun hc => ?_) (fun hc => ?_)
      · have hf := if_t hc hf
        refine lv_iload hx hb dX3_farthest_66 (lv_at hl 0 rfl) ?_
        refine lv_iload_n hx hb dX3_farthest_68 rfl (lv_at hl 4 rfl) ?_
        refine lv_icmp_ge hx hb dX3_farthest_69 (tgt := 75) (by decide) (fun hc => ?_) (fun hc => ?_)
        · have hf := if_t hc hf
          refine lv_iinc hx hb dX3_farthest_75 hl (k := 6) rfl (kinc_1 _) (by decide) (lv' := [(5, .int (v5 + 1)), (6, .int s0), (0, .ref (g.1 22)), (1, .int v1), (2, .int v2), (3, .int v3), (4, .int v4)]) rfl (fun ls hl => ?_)
          refine lv_goto hx hb dX3_farthest_78 (tgt := 16) (by decide) ?_
          exact hk16 v1 v2 v3 v4 (v5 + 1) _ _ _ h (lv_sub hl [2, 3, 4, 5, 6, 0] rfl) hf
        · have hf := if_f hc hf
          refine lv_iload hx hb dX3_farthest_72 (lv_at hl 0 rfl) ?_
          refine lv_istore_n hx hb dX3_farthest_74 rfl hl (by decide) (lv' := [(3, .int s0), (6, .int s0), (0, .ref (g.1 22)), (1, .int v1), (2, .int v2), (4, .int v4), (5, .int v5)]) rfl (fun ls hl => ?_)
          refine lv_iinc hx hb dX3_farthest_75 hl (k := 6) rfl (kinc_1 _) (by decide) (lv' := [(5, .int (v5 + 1)), (3, .int s0), (6, .int s0), (0, .ref (g.1 22)), (1, .int v1), (2, .int v2), (4, .int v4)]) rfl (fun ls hl => ?_)
          refine lv_goto hx hb dX3_farthest_78 (tgt := 16) (by decide) ?_
          exact hk16 v1 v2 s0 v4 (v5 + 1) _ _ _ h (lv_sub hl [3, 4, 5, 1, 6, 0] rfl) hf
      · have hf := if_f hc hf
        refine lv_iload hx hb dX3_farthest_57 (lv_at hl 0 rfl) ?_
        refine lv_iload_n hx hb dX3_farthest_59 rfl (lv_at hl 4 rfl) ?_
        refine lv_icmp_le hx hb dX3_farthest_60 (tgt := 75) (by decide) (fun hc => ?_) (fun hc => ?_)
        · have hf := if_t hc hf
          refine lv_iinc hx hb dX3_farthest_75 hl (k := 6) rfl (kinc_1 _) (by decide) (lv' := [(5, .int (v5 + 1)), (6, .int s0), (0, .ref (g.1 22)), (1, .int v1), (2, .int v2), (3, .int v3), (4, .int v4)]) rfl (fun ls hl => ?_)
          refine lv_goto hx hb dX3_farthest_78 (tgt := 16) (by decide) ?_
          exact hk16 v1 v2 v3 v4 (v5 + 1) _ _ _ h (lv_sub hl [2, 3, 4, 5, 6, 0] rfl) hf
        · have hf := if_f hc hf
          refine lv_goto hx hb dX3_farthest_63 (tgt := 72) (by decide) ?_
          refine lv_iload hx hb dX3_farthest_72 (lv_at hl 0 rfl) ?_
          refine lv_istore_n hx hb dX3_farthest_74 rfl hl (by decide) (lv' := [(3, .int s0), (6, .int s0), (0, .ref (g.1 22)), (1, .int v1), (2, .int v2), (4, .int v4), (5, .int v5)]) rfl (fun ls hl => ?_)
          refine lv_iinc hx hb dX3_farthest_75 hl (k := 6) rfl (kinc_1 _) (by decide) (lv' := [(5, .int (v5 + 1)), (3, .int s0), (6, .int s0), (0, .ref (g.1 22)), (1, .int v1), (2, .int v2), (4, .int v4)]) rfl (fun ls hl => ?_)
          refine lv_goto hx hb dX3_farthest_78 (tgt := 16) (by decide) ?_
          exact hk16 v1 v2 s0 v4 (v5 + 1) _ _ _ h (lv_sub hl [3, 4, 5, 1, 6, 0] rfl) hf
set_option maxHeartbeats 4000000 in
set_option maxRecDepth 100000 in
theorem w_X3_farthest_L16 (X : fb_X p m c cX3_farthest 7 s args RX3 g ks (fb_A g ks)) (hks : ∀ k ∈ ([22, 26] : List Nat), k ∈ ks) (hr : meth.sig.returnType = (some .int)) (hlk : meth.locks = false) (N : Nat) (σ : fb_S) (k6 : Int32 → Int32 → Int32 → Int32 → Option Int32)  {res : Int32} (hk6 : ∀ (v1 : Int32) (v2 : Int32) (v3 : Int32) (v4 : Int32) (H : Heap) (locs : List Loc) (ls : Array Slot), fb_H g ks (fb_A g ks) s.heap σ H locs → lv_has ls 7 [(0, .ref (g.1 22)), (1, .int v1), (2, .int v2), (3, .int v3), (4, .int v4)] → k6 v1 v2 v3 v4 = some res → W p l e (fb_R 1 22) s m args below meth c H locs 0 0 (MQ below (fb_Qi g ks res σ) args s 0 0 (fb_A g ks)) (F0 m 6 ls [])) : ∀ (n : Nat) (v1 : Int32) (v2 : Int32) (v3 : Int32) (v4 : Int32) (v5 : Int32) (H : Heap) (locs : List Loc) (ls : Array Slot), fb_H g ks (fb_A g ks) s.heap σ H locs → lv_has ls 7 [(0, .ref (g.1 22)), (1, .int v1), (2, .int v2), (3, .int v3), (4, .int v4), (5, .int v5)] → f_X3_farthest_L16 N σ k6 n v1 v2 v3 v4 v5 = some res → W p l e (fb_R 1 22) s m args below meth c H locs 0 0 (MQ below (fb_Qi g ks res σ) args s 0 0 (fb_A g ks)) (F0 m 16 ls []) := by
  have hx := X.1.1
  have hb := X.1.2.1
  intro n
  induction n with
  | zero => intro v1 v2 v3 v4 v5 H locs ls h hl hf; cases hf
  | succ n ih =>
    intro v1 v2 v3 v4 v5 H locs ls h hl hf
    unfold f_X3_farthest_L16 at hf
    refine lv_iload hx hb dX3_farthest_16 (lv_at hl 5 rfl) ?_
    refine lv_bipush hx hb dX3_farthest_18 kb_50 ?_
    refine lv_icmp_gt hx hb dX3_farthest_20 (tgt := 81) (by decide) (fun hc => ?_) (fun hc => ?_)
    · have hf := if_t hc hf
      refine lv_iinc hx hb dX3_farthest_81 hl (k := 4) rfl (kinc_1 _) (by decide) (lv' := [(4, .int (v4 + 1)), (0, .ref (g.1 22)), (1, .int v1), (2, .int v2), (3, .int v3), (5, .int v5)]) rfl (fun ls hl => ?_)
      refine lv_goto hx hb dX3_farthest_84 (tgt := 6) (by decide) ?_
      exact hk6 v1 v2 v3 (v4 + 1) _ _ _ h (lv_sub hl [1, 2, 3, 4, 0] rfl) hf
    · have hf := if_f hc hf
      refine lv_iload_n hx hb dX3_farthest_23 rfl (lv_at hl 1 rfl) ?_
      refine lv_if_eq hx hb dX3_farthest_24 (tgt := 32) (by decide) (fun hc => ?_) (fun hc => ?_)
      · have hf := if_t hc hf
        refine lv_iload hx hb dX3_farthest_32 (lv_at hl 5 rfl) ?_
        exact w_X3_farthest_L34 X hks hr hlk N σ k6 (f_X3_farthest_L16 N σ k6 n) hk6 ih v1 v2 v3 v4 v5 v5 _ _ _ h (lv_sub hl [0, 1, 2, 3, 4, 5] rfl) hf
      · have hf := if_f hc hf
        refine lv_iload hx hb dX3_farthest_27 (lv_at hl 4 rfl) ?_
        refine lv_goto hx hb dX3_farthest_29 (tgt := 34) (by decide) ?_
        exact w_X3_farthest_L34 X hks hr hlk N σ k6 (f_X3_farthest_L16 N σ k6 n) hk6 ih v1 v2 v3 v4 v5 v4 _ _ _ h (lv_sub hl [0, 1, 2, 3, 4, 5] rfl) hf
set_option maxHeartbeats 4000000 in
set_option maxRecDepth 100000 in
theorem w_X3_farthest_L6 (X : fb_X p m c cX3_farthest 7 s args RX3 g ks (fb_A g ks)) (hks : ∀ k ∈ ([22, 26] : List Nat), k ∈ ks) (hr : meth.sig.returnType = (some .int)) (hlk : meth.locks = false) (N : Nat) (σ : fb_S)  {res : Int32} : ∀ (n : Nat) (v1 : Int32) (v2 : Int32) (v3 : Int32) (v4 : Int32) (H : Heap) (locs : List Loc) (ls : Array Slot), fb_H g ks (fb_A g ks) s.heap σ H locs → lv_has ls 7 [(0, .ref (g.1 22)), (1, .int v1), (2, .int v2), (3, .int v3), (4, .int v4)] → f_X3_farthest_L6 N σ n v1 v2 v3 v4 = some res → W p l e (fb_R 1 22) s m args below meth c H locs 0 0 (MQ below (fb_Qi g ks res σ) args s 0 0 (fb_A g ks)) (F0 m 6 ls []) := by
  have hx := X.1.1
  have hb := X.1.2.1
  intro n
  induction n with
  | zero => intro v1 v2 v3 v4 H locs ls h hl hf; cases hf
  | succ n ih =>
    intro v1 v2 v3 v4 H locs ls h hl hf
    unfold f_X3_farthest_L6 at hf
    refine lv_iload hx hb dX3_farthest_6 (lv_at hl 4 rfl) ?_
    refine lv_bipush hx hb dX3_farthest_8 kb_49 ?_
    refine lv_icmp_gt hx hb dX3_farthest_10 (tgt := 87) (by decide) (fun hc => ?_) (fun hc => ?_)
    · have hf := if_t hc hf
      refine lv_iload_n hx hb dX3_farthest_87 rfl (lv_at hl 3 rfl) ?_
      have e9 := Option.some.inj hf
      subst e9
      exact fb_ir X h hr hlk dX3_farthest_88
    · have hf := if_f hc hf
      refine lv_iconst hx hb dX3_farthest_13 ki_1 ?_
      refine lv_istore hx hb dX3_farthest_14 hl (by decide) (lv' := [(5, .int (1)), (0, .ref (g.1 22)), (1, .int v1), (2, .int v2), (3, .int v3), (4, .int v4)]) rfl (fun ls hl => ?_)
      exact w_X3_farthest_L16 X hks hr hlk N σ (f_X3_farthest_L6 N σ n) ih N v1 v2 v3 v4 (1 : Int32) _ _ _ h (lv_sub hl [1, 2, 3, 4, 5, 0] rfl) hf
set_option maxHeartbeats 4000000 in
set_option maxRecDepth 100000 in
theorem c_X3_farthest (l : Launch) {g : fb_G} {ks : List Nat} (hI : fb_I g ks) (hks : ∀ k ∈ ([22, 26] : List Nat), k ∈ ks) (N : Nat) (a1 : Int32) (a2 : Int32) (σ : fb_S) {res : Int32} (hf : f_X3_farthest N a1 a2 σ = some res) : fb_M l yX3_farthest cX3_farthest 7 (some .int) 1 22 g ks [.ref (g.1 22), .int a1, .int a2] σ (fb_Qi g ks res σ) := by
  refine fb_met (by decide +kernel) hI (Nat.le_of_ble_eq_true rfl) (fun p e s m below meth c ls X h hr hlk hl => ?_)
  have X : fb_X p m c cX3_farthest 7 s _ RX3 g ks (fb_A g ks) := X
  have hl : lv_has ls 7 [(0, .ref (g.1 22)), (1, .int a1), (2, .int a2)] := hl
  have hx := X.1.1
  have hb := X.1.2.1
  unfold f_X3_farthest at hf
  refine lv_bipush hx hb dX3_farthest_0 kb_m9 ?_
  refine lv_istore_n hx hb dX3_farthest_2 rfl hl (by decide) (lv' := [(3, .int (-9)), (0, .ref (g.1 22)), (1, .int a1), (2, .int a2)]) rfl (fun ls hl => ?_)
  refine lv_iconst hx hb dX3_farthest_3 ki_0 ?_
  refine lv_istore hx hb dX3_farthest_4 hl (by decide) (lv' := [(4, .int (0)), (3, .int (-9)), (0, .ref (g.1 22)), (1, .int a1), (2, .int a2)]) rfl (fun ls hl => ?_)
  exact w_X3_farthest_L6 X hks hr hlk N σ N a1 a2 (-9 : Int32) (0 : Int32) _ _ _ h (lv_sub hl [2, 3, 4, 1, 0] rfl) hf
def f_X5_among (N : Nat) (a1 : Int32) (a2 : Int32) (σ : fb_S) : Option Int32 :=
  if (σ.1 22 7) = 0 then (
    some (-9 : Int32)
  ) else (
    (f_X3_farthest N a1 a2 σ).bind fun q1 =>
    some q1
  )
set_option maxHeartbeats 4000000 in
set_option maxRecDepth 100000 in
theorem c_X5_among (l : Launch) {g : fb_G} {ks : List Nat} (hI : fb_I g ks) (hks : ∀ k ∈ ([0, 22, 26] : List Nat), k ∈ ks) (N : Nat) (a1 : Int32) (a2 : Int32) (σ : fb_S) {res : Int32} (hf : f_X5_among N a1 a2 σ = some res) : fb_M l yX5_among cX5_among 3 (some .int) 2 48 g ks [.ref (g.1 0), .int a1, .int a2] σ (fb_Qi g ks res σ) := by
  refine fb_met (by decide +kernel) hI (Nat.le_of_ble_eq_true rfl) (fun p e s m below meth c ls X h hr hlk hl => ?_)
  have X : fb_X p m c cX5_among 3 s _ RX5 g ks (fb_A g ks) := X
  have hl : lv_has ls 3 [(0, .ref (g.1 0)), (1, .int a1), (2, .int a2)] := hl
  have hx := X.1.1
  have hb := X.1.2.1
  unfold f_X5_among at hf
  refine lv_aload_n hx hb dX5_among_0 rfl (lv_at hl 0 rfl) ?_
  refine gt_RX5_44 X h (hks 0 (by decide)) dX5_among_1 ?_
  refine gt_RX5_209 X h (hks 22 (by decide)) dX5_among_4 ?_
  refine lv_if_ne hx hb dX5_among_7 (tgt := 15) (by decide) (fun hc => ?_) (fun hc => ?_)
  · have hf := if_f hc hf
    refine lv_aload_n hx hb dX5_among_15 rfl (lv_at hl 0 rfl) ?_
    refine gt_RX5_44 X h (hks 0 (by decide)) dX5_among_16 ?_
    refine lv_iload_n hx hb dX5_among_19 rfl (lv_at hl 1 rfl) ?_
    refine lv_iload_n hx hb dX5_among_20 rfl (lv_at hl 2 rfl) ?_
    obtain ⟨q1, hq1, hf⟩ := bd_s hf
    refine fb_ci X h (fb_runVN (As := [.int a1, .int a2]) (rest := []) (k := 22) X h (c_X3_farthest l X.2.2.1 (fun k hk => hks k ((by decide : ∀ k ∈ ([22, 26] : List Nat), k ∈ ([0, 22, 26] : List Nat)) k hk)) N a1 a2 σ hq1) mf_yX3_farthest lm_RX5_215 (hks 22 (by decide)) rfl rfl ⟨Nat.le_of_ble_eq_true rfl, Nat.le_of_ble_eq_true rfl⟩ ⟨Nat.le_refl _, Nat.le_refl _⟩ rfl hl.1 rfl (Nat.le_of_ble_eq_true rfl) dX5_among_21) (fun H locs h => ?_)
    have e9 := Option.some.inj hf
    subst e9
    exact fb_ir X h hr hlk dX5_among_24
  · have hf := if_t hc hf
    refine lv_bipush hx hb dX5_among_10 kb_m9 ?_
    refine lv_goto hx hb dX5_among_12 (tgt := 24) (by decide) ?_
    have e9 := Option.some.inj hf
    subst e9
    exact fb_ir X h hr hlk dX5_among_24
def f_X5_breaks (N : Nat) (a1 : Int32) (σ : fb_S) : Option Int32 :=
  nm_ (a1 / (100 : Int32)) fun x1 =>
  nm_ (a1 - a1 / (100 : Int32) * (100 : Int32)) fun x2 =>
  (f_X5_isWithin x1 (0 : Int32) (49 : Int32)).bind fun q3 =>
  if q3 = 0 then (
    some (-2 : Int32)
  ) else (
    (f_X5_isWithin x2 (1 : Int32) (50 : Int32)).bind fun q4 =>
    if q4 = 0 then (
      some (-2 : Int32)
    ) else (
      (f_X3_firstBroken N x1 x2 σ).bind fun q5 =>
      some q5
    )
  )
set_option maxHeartbeats 4000000 in
set_option maxRecDepth 100000 in
theorem c_X5_breaks (l : Launch) {g : fb_G} {ks : List Nat} (hI : fb_I g ks) (hks : ∀ k ∈ ([0, 22, 23, 24, 25] : List Nat), k ∈ ks) (N : Nat) (a1 : Int32) (σ : fb_S) {res : Int32} (hf : f_X5_breaks N a1 σ = some res) : fb_M l yX5_breaks cX5_breaks 4 (some .int) 2 46 g ks [.ref (g.1 0), .int a1] σ (fb_Qi g ks res σ) := by
  refine fb_met (by decide +kernel) hI (Nat.le_of_ble_eq_true rfl) (fun p e s m below meth c ls X h hr hlk hl => ?_)
  have X : fb_X p m c cX5_breaks 4 s _ RX5 g ks (fb_A g ks) := X
  have hl : lv_has ls 4 [(0, .ref (g.1 0)), (1, .int a1)] := hl
  have hx := X.1.1
  have hb := X.1.2.1
  unfold f_X5_breaks at hf
  refine lv_iload_n hx hb dX5_breaks_0 rfl (lv_at hl 1 rfl) ?_
  refine lv_bipush hx hb dX5_breaks_1 kb_100 ?_
  refine lv_idiv hx hb dX5_breaks_3 (by decide) ?_
  obtain ⟨x1, ex1, hf⟩ := nm_s hf
  refine fb_topi ex1 ?_
  refine lv_istore_n hx hb dX5_breaks_4 rfl hl (by decide) (lv' := [(2, .int x1), (0, .ref (g.1 0)), (1, .int a1)]) rfl (fun ls hl => ?_)
  refine lv_iload_n hx hb dX5_breaks_5 rfl (lv_at hl 2 rfl) ?_
  refine lv_bipush hx hb dX5_breaks_6 kb_100 ?_
  refine lv_irem hx hb dX5_breaks_8 (by decide) ?_
  obtain ⟨x2, ex2, hf⟩ := nm_s hf
  refine fb_topi ex2 ?_
  refine lv_istore_n hx hb dX5_breaks_9 rfl hl (by decide) (lv' := [(3, .int x2), (2, .int x1), (0, .ref (g.1 0)), (1, .int a1)]) rfl (fun ls hl => ?_)
  refine lv_iload_n hx hb dX5_breaks_10 rfl (lv_at hl 1 rfl) ?_
  refine lv_iconst hx hb dX5_breaks_11 ki_0 ?_
  refine lv_bipush hx hb dX5_breaks_12 kb_49 ?_
  obtain ⟨q3, hq3, hf⟩ := bd_s hf
  refine fb_ci X h (fb_runS (As := [.int x1, .int (0), .int (49)]) (rest := []) X h (c_X5_isWithin l X.2.2.1 (fun k hk => absurd hk List.not_mem_nil) x1 (0 : Int32) (49 : Int32) σ hq3) mf_yX5_isWithin lm_RX5_48 ⟨Nat.le_of_ble_eq_true rfl, Nat.le_of_ble_eq_true rfl⟩ ⟨Nat.le_refl _, Nat.le_refl _⟩ rfl hl.1 rfl (Nat.le_of_ble_eq_true rfl) dX5_breaks_14) (fun H locs h => ?_)
  refine lv_if_eq hx hb dX5_breaks_17 (tgt := 30) (by decide) (fun hc => ?_) (fun hc => ?_)
  · have hf := if_t hc hf
    refine lv_bipush hx hb dX5_breaks_30 kb_m2 ?_
    have e9 := Option.some.inj hf
    subst e9
    exact fb_ir X h hr hlk dX5_breaks_32
  · have hf := if_f hc hf
    refine lv_iload_n hx hb dX5_breaks_20 rfl (lv_at hl 0 rfl) ?_
    refine lv_iconst hx hb dX5_breaks_21 ki_1 ?_
    refine lv_bipush hx hb dX5_breaks_22 kb_50 ?_
    obtain ⟨q4, hq4, hf⟩ := bd_s hf
    refine fb_ci X h (fb_runS (As := [.int x2, .int (1), .int (50)]) (rest := []) X h (c_X5_isWithin l X.2.2.1 (fun k hk => absurd hk List.not_mem_nil) x2 (1 : Int32) (50 : Int32) σ hq4) mf_yX5_isWithin lm_RX5_48 ⟨Nat.le_of_ble_eq_true rfl, Nat.le_of_ble_eq_true rfl⟩ ⟨Nat.le_refl _, Nat.le_refl _⟩ rfl hl.1 rfl (Nat.le_of_ble_eq_true rfl) dX5_breaks_24) (fun H locs h => ?_)
    refine lv_if_ne hx hb dX5_breaks_27 (tgt := 33) (by decide) (fun hc => ?_) (fun hc => ?_)
    · have hf := if_f hc hf
      refine lv_aload_n hx hb dX5_breaks_33 rfl (lv_at hl 2 rfl) ?_
      refine gt_RX5_44 X h (hks 0 (by decide)) dX5_breaks_34 ?_
      refine lv_iload_n hx hb dX5_breaks_37 rfl (lv_at hl 1 rfl) ?_
      refine lv_iload_n hx hb dX5_breaks_38 rfl (lv_at hl 0 rfl) ?_
      obtain ⟨q5, hq5, hf⟩ := bd_s hf
      refine fb_ci X h (fb_runVN (As := [.int x1, .int x2]) (rest := []) (k := 22) X h (c_X3_firstBroken l X.2.2.1 (fun k hk => hks k ((by decide : ∀ k ∈ ([22, 23, 24, 25] : List Nat), k ∈ ([0, 22, 23, 24, 25] : List Nat)) k hk)) N x1 x2 σ hq5) mf_yX3_firstBroken lm_RX5_219 (hks 22 (by decide)) rfl rfl ⟨Nat.le_of_ble_eq_true rfl, Nat.le_of_ble_eq_true rfl⟩ ⟨Nat.le_refl _, Nat.le_refl _⟩ rfl hl.1 rfl (Nat.le_of_ble_eq_true rfl) dX5_breaks_39) (fun H locs h => ?_)
      have e9 := Option.some.inj hf
      subst e9
      exact fb_ir X h hr hlk dX5_breaks_42
    · have hf := if_t hc hf
      refine lv_bipush hx hb dX5_breaks_30 kb_m2 ?_
      have e9 := Option.some.inj hf
      subst e9
      exact fb_ir X h hr hlk dX5_breaks_32
def f_X3_sureness_L13 (N : Nat) (σ : fb_S) (k4 : Int32 → Int32 → Int32 → Option Int32) : Nat → Int32 → Int32 → Int32 → Int32 → Option Int32
  | 0, _, _, _, _ => none
  | n + 1, v1, v2, v3, v4 => 
    if (50 : Int32) < v4 then (
      k4 v1 v2 (v3 + 1)
    ) else (
      (f_X3_isFitting v3 v4 σ).bind fun q1 =>
      if q1 = 0 then (
        f_X3_sureness_L13 N σ k4 n v1 v2 v3 (v4 + 1)
      ) else (
        (f_X3_lawNet v1 v3 v4).bind fun q2 =>
        if 0 ≤ q2 then (
          f_X3_sureness_L13 N σ k4 n v1 v2 v3 (v4 + 1)
        ) else (
          f_X3_sureness_L13 N σ k4 n v1 (v2 + 1) v3 (v4 + 1)
        )
      )
    )
def f_X3_sureness_L4 (N : Nat) (σ : fb_S) : Nat → Int32 → Int32 → Int32 → Option Int32
  | 0, _, _, _ => none
  | n + 1, v1, v2, v3 => 
    if (49 : Int32) < v3 then (
      if v2 = 0 then (
        some (0 : Int32)
      ) else (
        if v2 = (σ.1 22 7) then (
          some (2 : Int32)
        ) else (
          some (1 : Int32)
        )
      )
    ) else (
      f_X3_sureness_L13 N σ (f_X3_sureness_L4 N σ n) N v1 v2 v3 (1 : Int32)
    )
def f_X3_sureness (N : Nat) (a1 : Int32) (σ : fb_S) : Option Int32 :=
  f_X3_sureness_L4 N σ N a1 (0 : Int32) (0 : Int32)
set_option maxHeartbeats 4000000 in
set_option maxRecDepth 100000 in
theorem w_X3_sureness_L13 (X : fb_X p m c cX3_sureness 5 s args RX3 g ks (fb_A g ks)) (hks : ∀ k ∈ ([22, 26] : List Nat), k ∈ ks) (hr : meth.sig.returnType = (some .int)) (hlk : meth.locks = false) (N : Nat) (σ : fb_S) (k4 : Int32 → Int32 → Int32 → Option Int32)  {res : Int32} (hk4 : ∀ (v1 : Int32) (v2 : Int32) (v3 : Int32) (H : Heap) (locs : List Loc) (ls : Array Slot), fb_H g ks (fb_A g ks) s.heap σ H locs → lv_has ls 5 [(0, .ref (g.1 22)), (1, .int v1), (2, .int v2), (3, .int v3)] → k4 v1 v2 v3 = some res → W p l e (fb_R 1 22) s m args below meth c H locs 0 0 (MQ below (fb_Qi g ks res σ) args s 0 0 (fb_A g ks)) (F0 m 4 ls [])) : ∀ (n : Nat) (v1 : Int32) (v2 : Int32) (v3 : Int32) (v4 : Int32) (H : Heap) (locs : List Loc) (ls : Array Slot), fb_H g ks (fb_A g ks) s.heap σ H locs → lv_has ls 5 [(0, .ref (g.1 22)), (1, .int v1), (2, .int v2), (3, .int v3), (4, .int v4)] → f_X3_sureness_L13 N σ k4 n v1 v2 v3 v4 = some res → W p l e (fb_R 1 22) s m args below meth c H locs 0 0 (MQ below (fb_Qi g ks res σ) args s 0 0 (fb_A g ks)) (F0 m 13 ls []) := by
  have hx := X.1.1
  have hb := X.1.2.1
  intro n
  induction n with
  | zero => intro v1 v2 v3 v4 H locs ls h hl hf; cases hf
  | succ n ih =>
    intro v1 v2 v3 v4 H locs ls h hl hf
    unfold f_X3_sureness_L13 at hf
    refine lv_iload hx hb dX3_sureness_13 (lv_at hl 4 rfl) ?_
    refine lv_bipush hx hb dX3_sureness_15 kb_50 ?_
    refine lv_icmp_gt hx hb dX3_sureness_17 (tgt := 49) (by decide) (fun hc => ?_) (fun hc => ?_)
    · have hf := if_t hc hf
      refine lv_iinc hx hb dX3_sureness_49 hl (k := 3) rfl (kinc_1 _) (by decide) (lv' := [(3, .int (v3 + 1)), (0, .ref (g.1 22)), (1, .int v1), (2, .int v2), (4, .int v4)]) rfl (fun ls hl => ?_)
      refine lv_goto hx hb dX3_sureness_52 (tgt := 4) (by decide) ?_
      exact hk4 v1 v2 (v3 + 1) _ _ _ h (lv_sub hl [1, 2, 3, 0] rfl) hf
    · have hf := if_f hc hf
      refine lv_aload_n hx hb dX3_sureness_20 rfl (lv_at hl 0 rfl) ?_
      refine lv_iload_n hx hb dX3_sureness_21 rfl (lv_at hl 3 rfl) ?_
      refine lv_iload hx hb dX3_sureness_22 (lv_at hl 4 rfl) ?_
      obtain ⟨q1, hq1, hf⟩ := bd_s hf
      refine fb_ci X h (fb_runV (As := [.int v3, .int v4]) (rest := []) (k := 22) X h (c_X3_isFitting l X.2.2.1 (fun k hk => hks k ((by decide : ∀ k ∈ ([22, 26] : List Nat), k ∈ ([22, 26] : List Nat)) k hk)) v3 v4 σ hq1) mf_yX3_isFitting lm_RX3_57 (hks 22 (by decide)) rfl rfl ⟨Nat.le_of_ble_eq_true rfl, Nat.le_of_ble_eq_true rfl⟩ ⟨Nat.le_refl _, Nat.le_refl _⟩ rfl hl.1 rfl (Nat.le_of_ble_eq_true rfl) dX3_sureness_24) (fun H locs h => ?_)
      refine lv_if_eq hx hb dX3_sureness_27 (tgt := 43) (by decide) (fun hc => ?_) (fun hc => ?_)
      · have hf := if_t hc hf
        refine lv_iinc hx hb dX3_sureness_43 hl (k := 4) rfl (kinc_1 _) (by decide) (lv' := [(4, .int (v4 + 1)), (0, .ref (g.1 22)), (1, .int v1), (2, .int v2), (3, .int v3)]) rfl (fun ls hl => ?_)
        refine lv_goto hx hb dX3_sureness_46 (tgt := 13) (by decide) ?_
        exact ih v1 v2 v3 (v4 + 1) _ _ _ h (lv_sub hl [1, 2, 3, 4, 0] rfl) hf
      · have hf := if_f hc hf
        refine lv_iload_n hx hb dX3_sureness_30 rfl (lv_at hl 1 rfl) ?_
        refine lv_iload_n hx hb dX3_sureness_31 rfl (lv_at hl 3 rfl) ?_
        refine lv_iload hx hb dX3_sureness_32 (lv_at hl 4 rfl) ?_
        obtain ⟨q2, hq2, hf⟩ := bd_s hf
        refine fb_ci X h (fb_runS (As := [.int v1, .int v3, .int v4]) (rest := []) X h (c_X3_lawNet l X.2.2.1 (fun k hk => absurd hk List.not_mem_nil) v1 v3 v4 σ hq2) mf_yX3_lawNet lm_RX3_61 ⟨Nat.le_of_ble_eq_true rfl, Nat.le_of_ble_eq_true rfl⟩ ⟨Nat.le_refl _, Nat.le_refl _⟩ rfl hl.1 rfl (Nat.le_of_ble_eq_true rfl) dX3_sureness_34) (fun H locs h => ?_)
        refine lv_if_ge hx hb dX3_sureness_37 (tgt := 43) (by decide) (fun hc => ?_) (fun hc => ?_)
        · have hf := if_t hc hf
          refine lv_iinc hx hb dX3_sureness_43 hl (k := 4) rfl (kinc_1 _) (by decide) (lv' := [(4, .int (v4 + 1)), (0, .ref (g.1 22)), (1, .int v1), (2, .int v2), (3, .int v3)]) rfl (fun ls hl => ?_)
          refine lv_goto hx hb dX3_sureness_46 (tgt := 13) (by decide) ?_
          exact ih v1 v2 v3 (v4 + 1) _ _ _ h (lv_sub hl [1, 2, 3, 4, 0] rfl) hf
        · have hf := if_f hc hf
          refine lv_iinc hx hb dX3_sureness_40 hl (k := 2) rfl (kinc_1 _) (by decide) (lv' := [(2, .int (v2 + 1)), (0, .ref (g.1 22)), (1, .int v1), (3, .int v3), (4, .int v4)]) rfl (fun ls hl => ?_)
          refine lv_iinc hx hb dX3_sureness_43 hl (k := 4) rfl (kinc_1 _) (by decide) (lv' := [(4, .int (v4 + 1)), (2, .int (v2 + 1)), (0, .ref (g.1 22)), (1, .int v1), (3, .int v3)]) rfl (fun ls hl => ?_)
          refine lv_goto hx hb dX3_sureness_46 (tgt := 13) (by decide) ?_
          exact ih v1 (v2 + 1) v3 (v4 + 1) _ _ _ h (lv_sub hl [2, 3, 1, 4, 0] rfl) hf
set_option maxHeartbeats 4000000 in
set_option maxRecDepth 100000 in
theorem w_X3_sureness_L4 (X : fb_X p m c cX3_sureness 5 s args RX3 g ks (fb_A g ks)) (hks : ∀ k ∈ ([22, 26] : List Nat), k ∈ ks) (hr : meth.sig.returnType = (some .int)) (hlk : meth.locks = false) (N : Nat) (σ : fb_S)  {res : Int32} : ∀ (n : Nat) (v1 : Int32) (v2 : Int32) (v3 : Int32) (H : Heap) (locs : List Loc) (ls : Array Slot), fb_H g ks (fb_A g ks) s.heap σ H locs → lv_has ls 5 [(0, .ref (g.1 22)), (1, .int v1), (2, .int v2), (3, .int v3)] → f_X3_sureness_L4 N σ n v1 v2 v3 = some res → W p l e (fb_R 1 22) s m args below meth c H locs 0 0 (MQ below (fb_Qi g ks res σ) args s 0 0 (fb_A g ks)) (F0 m 4 ls []) := by
  have hx := X.1.1
  have hb := X.1.2.1
  intro n
  induction n with
  | zero => intro v1 v2 v3 H locs ls h hl hf; cases hf
  | succ n ih =>
    intro v1 v2 v3 H locs ls h hl hf
    unfold f_X3_sureness_L4 at hf
    refine lv_iload_n hx hb dX3_sureness_4 rfl (lv_at hl 3 rfl) ?_
    refine lv_bipush hx hb dX3_sureness_5 kb_49 ?_
    refine lv_icmp_gt hx hb dX3_sureness_7 (tgt := 55) (by decide) (fun hc => ?_) (fun hc => ?_)
    · have hf := if_t hc hf
      refine lv_iload_n hx hb dX3_sureness_55 rfl (lv_at hl 2 rfl) ?_
      refine lv_if_ne hx hb dX3_sureness_56 (tgt := 61) (by decide) (fun hc => ?_) (fun hc => ?_)
      · have hf := if_f hc hf
        refine lv_iload_n hx hb dX3_sureness_61 rfl (lv_at hl 2 rfl) ?_
        refine lv_aload_n hx hb dX3_sureness_62 rfl (lv_at hl 0 rfl) ?_
        refine gt_RX3_51 X h (hks 22 (by decide)) dX3_sureness_63 ?_
        refine lv_icmp_ne hx hb dX3_sureness_66 (tgt := 73) (by decide) (fun hc => ?_) (fun hc => ?_)
        · have hf := if_f hc hf
          refine lv_iconst hx hb dX3_sureness_73 ki_1 ?_
          have e9 := Option.some.inj hf
          subst e9
          exact fb_ir X h hr hlk dX3_sureness_74
        · have hf := if_t hc hf
          refine lv_iconst hx hb dX3_sureness_69 ki_2 ?_
          refine lv_goto hx hb dX3_sureness_70 (tgt := 74) (by decide) ?_
          have e9 := Option.some.inj hf
          subst e9
          exact fb_ir X h hr hlk dX3_sureness_74
      · have hf := if_t hc hf
        refine lv_iconst hx hb dX3_sureness_59 ki_0 ?_
        have e9 := Option.some.inj hf
        subst e9
        exact fb_ir X h hr hlk dX3_sureness_60
    · have hf := if_f hc hf
      refine lv_iconst hx hb dX3_sureness_10 ki_1 ?_
      refine lv_istore hx hb dX3_sureness_11 hl (by decide) (lv' := [(4, .int (1)), (0, .ref (g.1 22)), (1, .int v1), (2, .int v2), (3, .int v3)]) rfl (fun ls hl => ?_)
      exact w_X3_sureness_L13 X hks hr hlk N σ (f_X3_sureness_L4 N σ n) ih N v1 v2 v3 (1 : Int32) _ _ _ h (lv_sub hl [1, 2, 3, 4, 0] rfl) hf
set_option maxHeartbeats 4000000 in
set_option maxRecDepth 100000 in
theorem c_X3_sureness (l : Launch) {g : fb_G} {ks : List Nat} (hI : fb_I g ks) (hks : ∀ k ∈ ([22, 26] : List Nat), k ∈ ks) (N : Nat) (a1 : Int32) (σ : fb_S) {res : Int32} (hf : f_X3_sureness N a1 σ = some res) : fb_M l yX3_sureness cX3_sureness 5 (some .int) 1 22 g ks [.ref (g.1 22), .int a1] σ (fb_Qi g ks res σ) := by
  refine fb_met (by decide +kernel) hI (Nat.le_of_ble_eq_true rfl) (fun p e s m below meth c ls X h hr hlk hl => ?_)
  have X : fb_X p m c cX3_sureness 5 s _ RX3 g ks (fb_A g ks) := X
  have hl : lv_has ls 5 [(0, .ref (g.1 22)), (1, .int a1)] := hl
  have hx := X.1.1
  have hb := X.1.2.1
  unfold f_X3_sureness at hf
  refine lv_iconst hx hb dX3_sureness_0 ki_0 ?_
  refine lv_istore_n hx hb dX3_sureness_1 rfl hl (by decide) (lv' := [(2, .int (0)), (0, .ref (g.1 22)), (1, .int a1)]) rfl (fun ls hl => ?_)
  refine lv_iconst hx hb dX3_sureness_2 ki_0 ?_
  refine lv_istore_n hx hb dX3_sureness_3 rfl hl (by decide) (lv' := [(3, .int (0)), (2, .int (0)), (0, .ref (g.1 22)), (1, .int a1)]) rfl (fun ls hl => ?_)
  exact w_X3_sureness_L4 X hks hr hlk N σ N a1 (0 : Int32) (0 : Int32) _ _ _ h (lv_sub hl [2, 3, 1, 0] rfl) hf
def f_X5_sure (N : Nat) (a1 : Int32) (σ : fb_S) : Option Int32 :=
  (f_X5_isWithin a1 (0 : Int32) (999 : Int32)).bind fun q1 =>
  if q1 = 0 then (
    some (-2 : Int32)
  ) else (
    (f_X3_sureness N a1 σ).bind fun q2 =>
    some q2
  )
set_option maxHeartbeats 4000000 in
set_option maxRecDepth 100000 in
theorem c_X5_sure (l : Launch) {g : fb_G} {ks : List Nat} (hI : fb_I g ks) (hks : ∀ k ∈ ([0, 22, 26] : List Nat), k ∈ ks) (N : Nat) (a1 : Int32) (σ : fb_S) {res : Int32} (hf : f_X5_sure N a1 σ = some res) : fb_M l yX5_sure cX5_sure 2 (some .int) 2 46 g ks [.ref (g.1 0), .int a1] σ (fb_Qi g ks res σ) := by
  refine fb_met (by decide +kernel) hI (Nat.le_of_ble_eq_true rfl) (fun p e s m below meth c ls X h hr hlk hl => ?_)
  have X : fb_X p m c cX5_sure 2 s _ RX5 g ks (fb_A g ks) := X
  have hl : lv_has ls 2 [(0, .ref (g.1 0)), (1, .int a1)] := hl
  have hx := X.1.1
  have hb := X.1.2.1
  unfold f_X5_sure at hf
  refine lv_iload_n hx hb dX5_sure_0 rfl (lv_at hl 1 rfl) ?_
  refine lv_iconst hx hb dX5_sure_1 ki_0 ?_
  refine lv_sipush hx hb dX5_sure_2 ks_999 ?_
  obtain ⟨q1, hq1, hf⟩ := bd_s hf
  refine fb_ci X h (fb_runS (As := [.int a1, .int (0), .int (999)]) (rest := []) X h (c_X5_isWithin l X.2.2.1 (fun k hk => absurd hk List.not_mem_nil) a1 (0 : Int32) (999 : Int32) σ hq1) mf_yX5_isWithin lm_RX5_48 ⟨Nat.le_of_ble_eq_true rfl, Nat.le_of_ble_eq_true rfl⟩ ⟨Nat.le_refl _, Nat.le_refl _⟩ rfl hl.1 rfl (Nat.le_of_ble_eq_true rfl) dX5_sure_5) (fun H locs h => ?_)
  refine lv_if_eq hx hb dX5_sure_8 (tgt := 22) (by decide) (fun hc => ?_) (fun hc => ?_)
  · have hf := if_t hc hf
    refine lv_bipush hx hb dX5_sure_22 kb_m2 ?_
    have e9 := Option.some.inj hf
    subst e9
    exact fb_ir X h hr hlk dX5_sure_24
  · have hf := if_f hc hf
    refine lv_aload_n hx hb dX5_sure_11 rfl (lv_at hl 0 rfl) ?_
    refine gt_RX5_44 X h (hks 0 (by decide)) dX5_sure_12 ?_
    refine lv_iload_n hx hb dX5_sure_15 rfl (lv_at hl 1 rfl) ?_
    obtain ⟨q2, hq2, hf⟩ := bd_s hf
    refine fb_ci X h (fb_runVN (As := [.int a1]) (rest := []) (k := 22) X h (c_X3_sureness l X.2.2.1 (fun k hk => hks k ((by decide : ∀ k ∈ ([22, 26] : List Nat), k ∈ ([0, 22, 26] : List Nat)) k hk)) N a1 σ hq2) mf_yX3_sureness lm_RX5_222 (hks 22 (by decide)) rfl rfl ⟨Nat.le_of_ble_eq_true rfl, Nat.le_of_ble_eq_true rfl⟩ ⟨Nat.le_refl _, Nat.le_refl _⟩ rfl hl.1 rfl (Nat.le_of_ble_eq_true rfl) dX5_sure_16) (fun H locs h => ?_)
    refine lv_goto hx hb dX5_sure_19 (tgt := 24) (by decide) ?_
    have e9 := Option.some.inj hf
    subst e9
    exact fb_ir X h hr hlk dX5_sure_24
def f_X3_mostSafe_L14 (N : Nat) (σ : fb_S) (k6 : Int32 → Int32 → Option Int32) : Nat → Int32 → Int32 → Int32 → Option Int32
  | 0, _, _, _ => none
  | n + 1, v1, v2, v3 => 
    if (50 : Int32) < v3 then (
      k6 v1 (v2 + 1)
    ) else (
      (f_X3_isFitting v2 v3 σ).bind fun q1 =>
      if q1 = 0 then (
        f_X3_mostSafe_L14 N σ k6 n v1 v2 (v3 + 1)
      ) else (
        ck_ (v2 != 0) <|
        nm_ (mn_ v1 ((((100 : Int32) * v3) - (1 : Int32)) / v2)) fun x2 =>
        f_X3_mostSafe_L14 N σ k6 n x2 v2 (v3 + 1)
      )
    )
def f_X3_mostSafe_L6 (N : Nat) (σ : fb_S) : Nat → Int32 → Int32 → Option Int32
  | 0, _, _ => none
  | n + 1, v1, v2 => 
    if (49 : Int32) < v2 then (
      some v1
    ) else (
      f_X3_mostSafe_L14 N σ (f_X3_mostSafe_L6 N σ n) N v1 v2 (1 : Int32)
    )
def f_X3_mostSafe (N : Nat)  (σ : fb_S) : Option Int32 :=
  f_X3_mostSafe_L6 N σ N (999 : Int32) (1 : Int32)
set_option maxHeartbeats 4000000 in
set_option maxRecDepth 100000 in
theorem w_X3_mostSafe_L14 (X : fb_X p m c cX3_mostSafe 4 s args RX3 g ks (fb_A g ks)) (hks : ∀ k ∈ ([22, 26] : List Nat), k ∈ ks) (hr : meth.sig.returnType = (some .int)) (hlk : meth.locks = false) (N : Nat) (σ : fb_S) (k6 : Int32 → Int32 → Option Int32)  {res : Int32} (hk6 : ∀ (v1 : Int32) (v2 : Int32) (H : Heap) (locs : List Loc) (ls : Array Slot), fb_H g ks (fb_A g ks) s.heap σ H locs → lv_has ls 4 [(0, .ref (g.1 22)), (1, .int v1), (2, .int v2)] → k6 v1 v2 = some res → W p l e (fb_R 1 22) s m args below meth c H locs 0 0 (MQ below (fb_Qi g ks res σ) args s 0 0 (fb_A g ks)) (F0 m 6 ls [])) : ∀ (n : Nat) (v1 : Int32) (v2 : Int32) (v3 : Int32) (H : Heap) (locs : List Loc) (ls : Array Slot), fb_H g ks (fb_A g ks) s.heap σ H locs → lv_has ls 4 [(0, .ref (g.1 22)), (1, .int v1), (2, .int v2), (3, .int v3)] → f_X3_mostSafe_L14 N σ k6 n v1 v2 v3 = some res → W p l e (fb_R 1 22) s m args below meth c H locs 0 0 (MQ below (fb_Qi g ks res σ) args s 0 0 (fb_A g ks)) (F0 m 14 ls []) := by
  have hx := X.1.1
  have hb := X.1.2.1
  intro n
  induction n with
  | zero => intro v1 v2 v3 H locs ls h hl hf; cases hf
  | succ n ih =>
    intro v1 v2 v3 H locs ls h hl hf
    unfold f_X3_mostSafe_L14 at hf
    refine lv_iload_n hx hb dX3_mostSafe_14 rfl (lv_at hl 3 rfl) ?_
    refine lv_bipush hx hb dX3_mostSafe_15 kb_50 ?_
    refine lv_icmp_gt hx hb dX3_mostSafe_17 (tgt := 48) (by decide) (fun hc => ?_) (fun hc => ?_)
    · have hf := if_t hc hf
      refine lv_iinc hx hb dX3_mostSafe_48 hl (k := 2) rfl (kinc_1 _) (by decide) (lv' := [(2, .int (v2 + 1)), (0, .ref (g.1 22)), (1, .int v1), (3, .int v3)]) rfl (fun ls hl => ?_)
      refine lv_goto hx hb dX3_mostSafe_51 (tgt := 6) (by decide) ?_
      exact hk6 v1 (v2 + 1) _ _ _ h (lv_sub hl [1, 2, 0] rfl) hf
    · have hf := if_f hc hf
      refine lv_aload_n hx hb dX3_mostSafe_20 rfl (lv_at hl 0 rfl) ?_
      refine lv_iload_n hx hb dX3_mostSafe_21 rfl (lv_at hl 2 rfl) ?_
      refine lv_iload_n hx hb dX3_mostSafe_22 rfl (lv_at hl 3 rfl) ?_
      obtain ⟨q1, hq1, hf⟩ := bd_s hf
      refine fb_ci X h (fb_runV (As := [.int v2, .int v3]) (rest := []) (k := 22) X h (c_X3_isFitting l X.2.2.1 (fun k hk => hks k ((by decide : ∀ k ∈ ([22, 26] : List Nat), k ∈ ([22, 26] : List Nat)) k hk)) v2 v3 σ hq1) mf_yX3_isFitting lm_RX3_57 (hks 22 (by decide)) rfl rfl ⟨Nat.le_of_ble_eq_true rfl, Nat.le_of_ble_eq_true rfl⟩ ⟨Nat.le_refl _, Nat.le_refl _⟩ rfl hl.1 rfl (Nat.le_of_ble_eq_true rfl) dX3_mostSafe_23) (fun H locs h => ?_)
      refine lv_if_eq hx hb dX3_mostSafe_26 (tgt := 42) (by decide) (fun hc => ?_) (fun hc => ?_)
      · have hf := if_t hc hf
        refine lv_iinc hx hb dX3_mostSafe_42 hl (k := 3) rfl (kinc_1 _) (by decide) (lv' := [(3, .int (v3 + 1)), (0, .ref (g.1 22)), (1, .int v1), (2, .int v2)]) rfl (fun ls hl => ?_)
        refine lv_goto hx hb dX3_mostSafe_45 (tgt := 14) (by decide) ?_
        exact ih v1 v2 (v3 + 1) _ _ _ h (lv_sub hl [1, 2, 3, 0] rfl) hf
      · have hf := if_f hc hf
        refine lv_iload_n hx hb dX3_mostSafe_29 rfl (lv_at hl 1 rfl) ?_
        refine lv_bipush hx hb dX3_mostSafe_30 kb_100 ?_
        refine lv_iload_n hx hb dX3_mostSafe_32 rfl (lv_at hl 3 rfl) ?_
        refine lv_imul hx hb dX3_mostSafe_33 ?_
        refine lv_iconst hx hb dX3_mostSafe_34 ki_1 ?_
        refine lv_isub hx hb dX3_mostSafe_35 ?_
        refine lv_iload_n hx hb dX3_mostSafe_36 rfl (lv_at hl 2 rfl) ?_
        obtain ⟨hz0, hf⟩ := ck_s hf
        refine lv_idiv hx hb dX3_mostSafe_37 (fb_nz hz0) ?_
        refine fb_mnr X hl.1 lm_RX3_64 (Nat.le_of_ble_eq_true rfl) (Nat.le_of_ble_eq_true rfl) ⟨Nat.le_refl _, Nat.le_refl _⟩ dX3_mostSafe_38 ?_
        obtain ⟨x2, ex2, hf⟩ := nm_s hf
        refine fb_topi ex2 ?_
        refine lv_istore_n hx hb dX3_mostSafe_41 rfl hl (by decide) (lv' := [(1, .int x2), (0, .ref (g.1 22)), (2, .int v2), (3, .int v3)]) rfl (fun ls hl => ?_)
        refine lv_iinc hx hb dX3_mostSafe_42 hl (k := 3) rfl (kinc_1 _) (by decide) (lv' := [(3, .int (v3 + 1)), (1, .int x2), (0, .ref (g.1 22)), (2, .int v2)]) rfl (fun ls hl => ?_)
        refine lv_goto hx hb dX3_mostSafe_45 (tgt := 14) (by decide) ?_
        exact ih x2 v2 (v3 + 1) _ _ _ h (lv_sub hl [2, 1, 3, 0] rfl) hf
set_option maxHeartbeats 4000000 in
set_option maxRecDepth 100000 in
theorem w_X3_mostSafe_L6 (X : fb_X p m c cX3_mostSafe 4 s args RX3 g ks (fb_A g ks)) (hks : ∀ k ∈ ([22, 26] : List Nat), k ∈ ks) (hr : meth.sig.returnType = (some .int)) (hlk : meth.locks = false) (N : Nat) (σ : fb_S)  {res : Int32} : ∀ (n : Nat) (v1 : Int32) (v2 : Int32) (H : Heap) (locs : List Loc) (ls : Array Slot), fb_H g ks (fb_A g ks) s.heap σ H locs → lv_has ls 4 [(0, .ref (g.1 22)), (1, .int v1), (2, .int v2)] → f_X3_mostSafe_L6 N σ n v1 v2 = some res → W p l e (fb_R 1 22) s m args below meth c H locs 0 0 (MQ below (fb_Qi g ks res σ) args s 0 0 (fb_A g ks)) (F0 m 6 ls []) := by
  have hx := X.1.1
  have hb := X.1.2.1
  intro n
  induction n with
  | zero => intro v1 v2 H locs ls h hl hf; cases hf
  | succ n ih =>
    intro v1 v2 H locs ls h hl hf
    unfold f_X3_mostSafe_L6 at hf
    refine lv_iload_n hx hb dX3_mostSafe_6 rfl (lv_at hl 2 rfl) ?_
    refine lv_bipush hx hb dX3_mostSafe_7 kb_49 ?_
    refine lv_icmp_gt hx hb dX3_mostSafe_9 (tgt := 54) (by decide) (fun hc => ?_) (fun hc => ?_)
    · have hf := if_t hc hf
      refine lv_iload_n hx hb dX3_mostSafe_54 rfl (lv_at hl 1 rfl) ?_
      have e9 := Option.some.inj hf
      subst e9
      exact fb_ir X h hr hlk dX3_mostSafe_55
    · have hf := if_f hc hf
      refine lv_iconst hx hb dX3_mostSafe_12 ki_1 ?_
      refine lv_istore_n hx hb dX3_mostSafe_13 rfl hl (by decide) (lv' := [(3, .int (1)), (0, .ref (g.1 22)), (1, .int v1), (2, .int v2)]) rfl (fun ls hl => ?_)
      exact w_X3_mostSafe_L14 X hks hr hlk N σ (f_X3_mostSafe_L6 N σ n) ih N v1 v2 (1 : Int32) _ _ _ h (lv_sub hl [1, 2, 3, 0] rfl) hf
set_option maxHeartbeats 4000000 in
set_option maxRecDepth 100000 in
theorem c_X3_mostSafe (l : Launch) {g : fb_G} {ks : List Nat} (hI : fb_I g ks) (hks : ∀ k ∈ ([22, 26] : List Nat), k ∈ ks) (N : Nat) (σ : fb_S) {res : Int32} (hf : f_X3_mostSafe N σ = some res) : fb_M l yX3_mostSafe cX3_mostSafe 4 (some .int) 1 22 g ks [.ref (g.1 22)] σ (fb_Qi g ks res σ) := by
  refine fb_met (by decide +kernel) hI (Nat.le_of_ble_eq_true rfl) (fun p e s m below meth c ls X h hr hlk hl => ?_)
  have X : fb_X p m c cX3_mostSafe 4 s _ RX3 g ks (fb_A g ks) := X
  have hl : lv_has ls 4 [(0, .ref (g.1 22))] := hl
  have hx := X.1.1
  have hb := X.1.2.1
  unfold f_X3_mostSafe at hf
  refine lv_sipush hx hb dX3_mostSafe_0 ks_999 ?_
  refine lv_istore_n hx hb dX3_mostSafe_3 rfl hl (by decide) (lv' := [(1, .int (999)), (0, .ref (g.1 22))]) rfl (fun ls hl => ?_)
  refine lv_iconst hx hb dX3_mostSafe_4 ki_1 ?_
  refine lv_istore_n hx hb dX3_mostSafe_5 rfl hl (by decide) (lv' := [(2, .int (1)), (1, .int (999)), (0, .ref (g.1 22))]) rfl (fun ls hl => ?_)
  exact w_X3_mostSafe_L6 X hks hr hlk N σ N (999 : Int32) (1 : Int32) _ _ _ h (lv_sub hl [2, 1, 0] rfl) hf
def f_X5_safe (N : Nat)  (σ : fb_S) : Option Int32 :=
  if (σ.1 22 7) = 0 then (
    some (-9 : Int32)
  ) else (
    (f_X3_mostSafe N σ).bind fun q1 =>
    some q1
  )
set_option maxHeartbeats 4000000 in
set_option maxRecDepth 100000 in
theorem c_X5_safe (l : Launch) {g : fb_G} {ks : List Nat} (hI : fb_I g ks) (hks : ∀ k ∈ ([0, 22, 26] : List Nat), k ∈ ks) (N : Nat) (σ : fb_S) {res : Int32} (hf : f_X5_safe N σ = some res) : fb_M l yX5_safe cX5_safe 1 (some .int) 2 45 g ks [.ref (g.1 0)] σ (fb_Qi g ks res σ) := by
  refine fb_met (by decide +kernel) hI (Nat.le_of_ble_eq_true rfl) (fun p e s m below meth c ls X h hr hlk hl => ?_)
  have X : fb_X p m c cX5_safe 1 s _ RX5 g ks (fb_A g ks) := X
  have hl : lv_has ls 1 [(0, .ref (g.1 0))] := hl
  have hx := X.1.1
  have hb := X.1.2.1
  unfold f_X5_safe at hf
  refine lv_aload_n hx hb dX5_safe_0 rfl (lv_at hl 0 rfl) ?_
  refine gt_RX5_44 X h (hks 0 (by decide)) dX5_safe_1 ?_
  refine gt_RX5_209 X h (hks 22 (by decide)) dX5_safe_4 ?_
  refine lv_if_ne hx hb dX5_safe_7 (tgt := 15) (by decide) (fun hc => ?_) (fun hc => ?_)
  · have hf := if_f hc hf
    refine lv_aload_n hx hb dX5_safe_15 rfl (lv_at hl 0 rfl) ?_
    refine gt_RX5_44 X h (hks 0 (by decide)) dX5_safe_16 ?_
    obtain ⟨q1, hq1, hf⟩ := bd_s hf
    refine fb_ci X h (fb_runVN (As := []) (rest := []) (k := 22) X h (c_X3_mostSafe l X.2.2.1 (fun k hk => hks k ((by decide : ∀ k ∈ ([22, 26] : List Nat), k ∈ ([0, 22, 26] : List Nat)) k hk)) N σ hq1) mf_yX3_mostSafe lm_RX5_225 (hks 22 (by decide)) rfl rfl ⟨Nat.le_of_ble_eq_true rfl, Nat.le_of_ble_eq_true rfl⟩ ⟨Nat.le_refl _, Nat.le_refl _⟩ rfl hl.1 rfl (Nat.le_of_ble_eq_true rfl) dX5_safe_19) (fun H locs h => ?_)
    have e9 := Option.some.inj hf
    subst e9
    exact fb_ir X h hr hlk dX5_safe_22
  · have hf := if_t hc hf
    refine lv_bipush hx hb dX5_safe_10 kb_m9 ?_
    refine lv_goto hx hb dX5_safe_12 (tgt := 22) (by decide) ?_
    have e9 := Option.some.inj hf
    subst e9
    exact fb_ir X h hr hlk dX5_safe_22
def f_X3_groupNets_L46 (N : Nat) (k14 : Int32 → Int32 → Int32 → Int32 → Int32 → fb_S → Option fb_S) (v1 : Int32) (v2 : Int32) (v3 : Int32) (v5 : Int32) (v6 : Int32) (σ : fb_S) : Option fb_S :=
  ck_ (fb_in v5 98) <|
  nm_ (fb_up σ 27 (v5.toNatClampNeg) v3) fun t1 =>
  k14 v1 v2 v3 v6 (v5 + 1) t1
def f_X3_groupNets_L14 (N : Nat) : Nat → Int32 → Int32 → Int32 → Int32 → Int32 → fb_S → Option fb_S
  | 0, _, _, _, _, _, _ => none
  | n + 1, v1, v2, v3, v4, v5, σ => 
    if (nI 98) ≤ v5 then (
      some σ
    ) else (
      (f_X3_swayByNet N v1 ((-50 : Int32) + v5) v2).bind fun q2 =>
      if q2 = v4 then (
        f_X3_groupNets_L46 N (f_X3_groupNets_L14 N n) v1 v2 v3 v5 q2 σ
      ) else (
        f_X3_groupNets_L46 N (f_X3_groupNets_L14 N n) v1 v2 (v3 + 1) v5 q2 σ
      )
    )
def f_X3_groupNets (N : Nat) (a1 : Int32) (a2 : Int32) (σ : fb_S) : Option fb_S :=
  (f_X3_swayByNet N a1 (-50 : Int32) a2).bind fun q3 =>
  f_X3_groupNets_L14 N N a1 a2 (0 : Int32) q3 (0 : Int32) σ
set_option maxHeartbeats 4000000 in
set_option maxRecDepth 100000 in
theorem w_X3_groupNets_L46 (X : fb_X p m c cX3_groupNets 7 s args RX3 g ks (fb_A g ks)) (hks : ∀ k ∈ ([22, 27] : List Nat), k ∈ ks) (hr : meth.sig.returnType = none) (hlk : meth.locks = false) (N : Nat) (k14 : Int32 → Int32 → Int32 → Int32 → Int32 → fb_S → Option fb_S)  {res : fb_S} (hk14 : ∀ (v1 : Int32) (v2 : Int32) (v3 : Int32) (v4 : Int32) (v5 : Int32) (σ : fb_S) (H : Heap) (locs : List Loc) (ls : Array Slot), fb_H g ks (fb_A g ks) s.heap σ H locs → lv_has ls 7 [(0, .ref (g.1 22)), (1, .int v1), (2, .int v2), (3, .int v3), (4, .int v4), (5, .int v5)] → k14 v1 v2 v3 v4 v5 σ = some res → W p l e (fb_R 3 68) s m args below meth c H locs 0 0 (MQ below (fb_Qv g ks res) args s 0 0 (fb_A g ks)) (F0 m 14 ls [])) : ∀ (v1 : Int32) (v2 : Int32) (v3 : Int32) (v5 : Int32) (v6 : Int32) (σ : fb_S) (H : Heap) (locs : List Loc) (ls : Array Slot), fb_H g ks (fb_A g ks) s.heap σ H locs → lv_has ls 7 [(0, .ref (g.1 22)), (1, .int v1), (2, .int v2), (3, .int v3), (5, .int v5), (6, .int v6)] → f_X3_groupNets_L46 N k14 v1 v2 v3 v5 v6 σ = some res → W p l e (fb_R 3 68) s m args below meth c H locs 0 0 (MQ below (fb_Qv g ks res) args s 0 0 (fb_A g ks)) (F0 m 46 ls []) := by
  have hx := X.1.1
  have hb := X.1.2.1
  intro v1 v2 v3 v5 v6 σ H locs ls h hl hf
  unfold f_X3_groupNets_L46 at hf
  refine lv_aload_n hx hb dX3_groupNets_46 rfl (lv_at hl 0 rfl) ?_
  refine gt_RX3_25 X h (hks 22 (by decide)) dX3_groupNets_47 ?_
  refine lv_iload hx hb dX3_groupNets_50 (lv_at hl 4 rfl) ?_
  refine lv_iload_n hx hb dX3_groupNets_52 rfl (lv_at hl 3 rfl) ?_
  obtain ⟨hi0, hf⟩ := ck_s hf
  obtain ⟨t1, et1, hf⟩ := nm_s hf
  refine fb_iast X h (hks 27 (by decide)) (fun _ => rfl) hi0 dX3_groupNets_53 (fun H locs h => ?_)
  have h := fb_H.nm et1 h
  refine lv_iload hx hb dX3_groupNets_54 (lv_at hl 5 rfl) ?_
  refine lv_istore hx hb dX3_groupNets_56 hl (by decide) (lv' := [(4, .int v6), (0, .ref (g.1 22)), (1, .int v1), (2, .int v2), (3, .int v3), (5, .int v5), (6, .int v6)]) rfl (fun ls hl => ?_)
  refine lv_iinc hx hb dX3_groupNets_58 hl (k := 5) rfl (kinc_1 _) (by decide) (lv' := [(5, .int (v5 + 1)), (4, .int v6), (0, .ref (g.1 22)), (1, .int v1), (2, .int v2), (3, .int v3), (6, .int v6)]) rfl (fun ls hl => ?_)
  refine lv_goto hx hb dX3_groupNets_61 (tgt := 14) (by decide) ?_
  exact hk14 v1 v2 v3 v6 (v5 + 1) t1 _ _ _ h (lv_sub hl [2, 3, 4, 5, 1, 0] rfl) hf
set_option maxHeartbeats 4000000 in
set_option maxRecDepth 100000 in
theorem w_X3_groupNets_L14 (X : fb_X p m c cX3_groupNets 7 s args RX3 g ks (fb_A g ks)) (hks : ∀ k ∈ ([22, 27] : List Nat), k ∈ ks) (hr : meth.sig.returnType = none) (hlk : meth.locks = false) (N : Nat)  {res : fb_S} : ∀ (n : Nat) (v1 : Int32) (v2 : Int32) (v3 : Int32) (v4 : Int32) (v5 : Int32) (σ : fb_S) (H : Heap) (locs : List Loc) (ls : Array Slot), fb_H g ks (fb_A g ks) s.heap σ H locs → lv_has ls 7 [(0, .ref (g.1 22)), (1, .int v1), (2, .int v2), (3, .int v3), (4, .int v4), (5, .int v5)] → f_X3_groupNets_L14 N n v1 v2 v3 v4 v5 σ = some res → W p l e (fb_R 3 68) s m args below meth c H locs 0 0 (MQ below (fb_Qv g ks res) args s 0 0 (fb_A g ks)) (F0 m 14 ls []) := by
  have hx := X.1.1
  have hb := X.1.2.1
  intro n
  induction n with
  | zero => intro v1 v2 v3 v4 v5 σ H locs ls h hl hf; cases hf
  | succ n ih =>
    intro v1 v2 v3 v4 v5 σ H locs ls h hl hf
    unfold f_X3_groupNets_L14 at hf
    refine lv_iload hx hb dX3_groupNets_14 (lv_at hl 5 rfl) ?_
    refine lv_aload_n hx hb dX3_groupNets_16 rfl (lv_at hl 0 rfl) ?_
    refine gt_RX3_25 X h (hks 22 (by decide)) dX3_groupNets_17 ?_
    refine fb_alen X h (hks 27 (by decide)) rfl dX3_groupNets_20 ?_
    refine lv_icmp_ge hx hb dX3_groupNets_21 (tgt := 64) (by decide) (fun hc => ?_) (fun hc => ?_)
    · have hf := if_t hc hf
      have e9 := Option.some.inj hf
      subst e9
      exact fb_vr X h hr hlk dX3_groupNets_64
    · have hf := if_f hc hf
      refine lv_iload_n hx hb dX3_groupNets_24 rfl (lv_at hl 1 rfl) ?_
      refine lv_bipush hx hb dX3_groupNets_25 kb_m50 ?_
      refine lv_iload hx hb dX3_groupNets_27 (lv_at hl 5 rfl) ?_
      refine lv_iadd hx hb dX3_groupNets_29 ?_
      refine lv_iload_n hx hb dX3_groupNets_30 rfl (lv_at hl 2 rfl) ?_
      obtain ⟨q2, hq2, hf⟩ := bd_s hf
      refine fb_ci X h (fb_runS (As := [.int v1, .int ((-50 : Int32) + v5), .int v2]) (rest := []) X h (c_X3_swayByNet l X.2.2.1 (fun k hk => absurd hk List.not_mem_nil) N v1 ((-50 : Int32) + v5) v2 σ hq2) mf_yX3_swayByNet lm_RX3_38 ⟨Nat.le_of_ble_eq_true rfl, Nat.le_of_ble_eq_true rfl⟩ ⟨Nat.le_refl _, Nat.le_refl _⟩ rfl hl.1 rfl (Nat.le_of_ble_eq_true rfl) dX3_groupNets_31) (fun H locs h => ?_)
      refine lv_istore hx hb dX3_groupNets_34 hl (by decide) (lv' := [(6, .int q2), (0, .ref (g.1 22)), (1, .int v1), (2, .int v2), (3, .int v3), (4, .int v4), (5, .int v5)]) rfl (fun ls hl => ?_)
      refine lv_iload hx hb dX3_groupNets_36 (lv_at hl 0 rfl) ?_
      refine lv_iload hx hb dX3_groupNets_38 (lv_at hl 5 rfl) ?_
      refine lv_icmp_eq hx hb dX3_groupNets_40 (tgt := 46) (by decide) (fun hc => ?_) (fun hc => ?_)
      · have hf := if_t hc hf
        exact w_X3_groupNets_L46 X hks hr hlk N (f_X3_groupNets_L14 N n) ih v1 v2 v3 v5 q2 σ _ _ _ h (lv_sub hl [1, 2, 3, 4, 6, 0] rfl) hf
      · have hf := if_f hc hf
        refine lv_iinc hx hb dX3_groupNets_43 hl (k := 4) rfl (kinc_1 _) (by decide) (lv' := [(3, .int (v3 + 1)), (6, .int q2), (0, .ref (g.1 22)), (1, .int v1), (2, .int v2), (4, .int v4), (5, .int v5)]) rfl (fun ls hl => ?_)
        exact w_X3_groupNets_L46 X hks hr hlk N (f_X3_groupNets_L14 N n) ih v1 v2 (v3 + 1) v5 q2 σ _ _ _ h (lv_sub hl [2, 3, 4, 0, 6, 1] rfl) hf
set_option maxHeartbeats 4000000 in
set_option maxRecDepth 100000 in
theorem c_X3_groupNets (l : Launch) {g : fb_G} {ks : List Nat} (hI : fb_I g ks) (hks : ∀ k ∈ ([22, 27] : List Nat), k ∈ ks) (N : Nat) (a1 : Int32) (a2 : Int32) (σ : fb_S) {res : fb_S} (hf : f_X3_groupNets N a1 a2 σ = some res) : fb_M l yX3_groupNets cX3_groupNets 7 none 3 68 g ks [.ref (g.1 22), .int a1, .int a2] σ (fb_Qv g ks res) := by
  refine fb_met (by decide +kernel) hI (Nat.le_of_ble_eq_true rfl) (fun p e s m below meth c ls X h hr hlk hl => ?_)
  have X : fb_X p m c cX3_groupNets 7 s _ RX3 g ks (fb_A g ks) := X
  have hl : lv_has ls 7 [(0, .ref (g.1 22)), (1, .int a1), (2, .int a2)] := hl
  have hx := X.1.1
  have hb := X.1.2.1
  unfold f_X3_groupNets at hf
  refine lv_iconst hx hb dX3_groupNets_0 ki_0 ?_
  refine lv_istore_n hx hb dX3_groupNets_1 rfl hl (by decide) (lv' := [(3, .int (0)), (0, .ref (g.1 22)), (1, .int a1), (2, .int a2)]) rfl (fun ls hl => ?_)
  refine lv_iload_n hx hb dX3_groupNets_2 rfl (lv_at hl 2 rfl) ?_
  refine lv_bipush hx hb dX3_groupNets_3 kb_m50 ?_
  refine lv_iload_n hx hb dX3_groupNets_5 rfl (lv_at hl 3 rfl) ?_
  obtain ⟨q3, hq3, hf⟩ := bd_s hf
  refine fb_ci X h (fb_runS (As := [.int a1, .int (-50), .int a2]) (rest := []) X h (c_X3_swayByNet l X.2.2.1 (fun k hk => absurd hk List.not_mem_nil) N a1 (-50 : Int32) a2 σ hq3) mf_yX3_swayByNet lm_RX3_38 ⟨Nat.le_of_ble_eq_true rfl, Nat.le_of_ble_eq_true rfl⟩ ⟨Nat.le_refl _, Nat.le_refl _⟩ rfl hl.1 rfl (Nat.le_of_ble_eq_true rfl) dX3_groupNets_6) (fun H locs h => ?_)
  refine lv_istore hx hb dX3_groupNets_9 hl (by decide) (lv' := [(4, .int q3), (3, .int (0)), (0, .ref (g.1 22)), (1, .int a1), (2, .int a2)]) rfl (fun ls hl => ?_)
  refine lv_iconst hx hb dX3_groupNets_11 ki_0 ?_
  refine lv_istore hx hb dX3_groupNets_12 hl (by decide) (lv' := [(5, .int (0)), (4, .int q3), (3, .int (0)), (0, .ref (g.1 22)), (1, .int a1), (2, .int a2)]) rfl (fun ls hl => ?_)
  exact w_X3_groupNets_L14 X hks hr hlk N N a1 a2 (0 : Int32) q3 (0 : Int32) σ _ _ _ h (lv_sub hl [3, 4, 5, 2, 1, 0] rfl) hf
def f_X3_mostAlike_L28 (N : Nat) (k13 : Int32 → Int32 → Int32 → Int32 → fb_S → Option (Int32 × fb_S)) : Nat → Int32 → Int32 → Int32 → Int32 → Int32 → fb_S → Option (Int32 × fb_S)
  | 0, _, _, _, _, _, _ => none
  | n + 1, v1, v2, v3, v4, v5, σ => 
    if (50 : Int32) < v5 then (
      k13 v1 v2 v3 (v4 + 1) σ
    ) else (
      (f_X3_isFitting v4 v5 σ).bind fun q1 =>
      if q1 = 0 then (
        f_X3_mostAlike_L28 N k13 n v1 v2 v3 v4 (v5 + 1) σ
      ) else (
        (f_X3_lawNet v1 v4 v5).bind fun q2 =>
        ck_ (fb_in (q2 - (-50 : Int32)) 98) <|
        nm_ (σ.1 27 (q2 - (-50 : Int32)).toNatClampNeg) fun x3 =>
        ck_ (fb_in x3 98) <|
        ck_ (fb_in x3 98) <|
        nm_ (fb_up σ 28 (x3.toNatClampNeg) ((σ.1 28 x3.toNatClampNeg) + (1 : Int32))) fun t4 =>
        ck_ (fb_in x3 98) <|
        nm_ (mx_ v3 (t4.1 28 x3.toNatClampNeg)) fun x5 =>
        f_X3_mostAlike_L28 N k13 n v1 v2 x5 v4 (v5 + 1) t4
      )
    )
def f_X3_mostAlike_L13 (N : Nat) : Nat → Int32 → Int32 → Int32 → Int32 → fb_S → Option (Int32 × fb_S)
  | 0, _, _, _, _, _ => none
  | n + 1, v1, v2, v3, v4, σ => 
    if (49 : Int32) < v4 then (
      some (v3, σ)
    ) else (
      if v2 ≤ v3 then (
        some (v3, σ)
      ) else (
        f_X3_mostAlike_L28 N (f_X3_mostAlike_L13 N n) N v1 v2 v3 v4 (1 : Int32) σ
      )
    )
def f_X3_mostAlike (N : Nat) (a1 : Int32) (a2 : Int32) (σ : fb_S) : Option (Int32 × fb_S) :=
  (f_J7_fill_53178 N 28 (0 : Int32) σ).bind fun q6 =>
  f_X3_mostAlike_L13 N N a1 a2 (0 : Int32) (0 : Int32) q6
set_option maxHeartbeats 4000000 in
set_option maxRecDepth 100000 in
theorem w_X3_mostAlike_L28 (X : fb_X p m c cX3_mostAlike 7 s args RX3 g ks (fb_A g ks)) (hks : ∀ k ∈ ([22, 26, 27, 28] : List Nat), k ∈ ks) (hr : meth.sig.returnType = (some .int)) (hlk : meth.locks = false) (N : Nat) (k13 : Int32 → Int32 → Int32 → Int32 → fb_S → Option (Int32 × fb_S))  {res : (Int32 × fb_S)} (hk13 : ∀ (v1 : Int32) (v2 : Int32) (v3 : Int32) (v4 : Int32) (σ : fb_S) (H : Heap) (locs : List Loc) (ls : Array Slot), fb_H g ks (fb_A g ks) s.heap σ H locs → lv_has ls 7 [(0, .ref (g.1 22)), (1, .int v1), (2, .int v2), (3, .int v3), (4, .int v4)] → k13 v1 v2 v3 v4 σ = some res → W p l e (fb_R 1 23) s m args below meth c H locs 0 0 (MQ below (fb_Qi g ks res.1 res.2) args s 0 0 (fb_A g ks)) (F0 m 13 ls [])) : ∀ (n : Nat) (v1 : Int32) (v2 : Int32) (v3 : Int32) (v4 : Int32) (v5 : Int32) (σ : fb_S) (H : Heap) (locs : List Loc) (ls : Array Slot), fb_H g ks (fb_A g ks) s.heap σ H locs → lv_has ls 7 [(0, .ref (g.1 22)), (1, .int v1), (2, .int v2), (3, .int v3), (4, .int v4), (5, .int v5)] → f_X3_mostAlike_L28 N k13 n v1 v2 v3 v4 v5 σ = some res → W p l e (fb_R 1 23) s m args below meth c H locs 0 0 (MQ below (fb_Qi g ks res.1 res.2) args s 0 0 (fb_A g ks)) (F0 m 28 ls []) := by
  have hx := X.1.1
  have hb := X.1.2.1
  intro n
  induction n with
  | zero => intro v1 v2 v3 v4 v5 σ H locs ls h hl hf; cases hf
  | succ n ih =>
    intro v1 v2 v3 v4 v5 σ H locs ls h hl hf
    unfold f_X3_mostAlike_L28 at hf
    refine lv_iload hx hb dX3_mostAlike_28 (lv_at hl 5 rfl) ?_
    refine lv_bipush hx hb dX3_mostAlike_30 kb_50 ?_
    refine lv_icmp_gt hx hb dX3_mostAlike_32 (tgt := 93) (by decide) (fun hc => ?_) (fun hc => ?_)
    · have hf := if_t hc hf
      refine lv_iinc hx hb dX3_mostAlike_93 hl (k := 4) rfl (kinc_1 _) (by decide) (lv' := [(4, .int (v4 + 1)), (0, .ref (g.1 22)), (1, .int v1), (2, .int v2), (3, .int v3), (5, .int v5)]) rfl (fun ls hl => ?_)
      refine lv_goto hx hb dX3_mostAlike_96 (tgt := 13) (by decide) ?_
      exact hk13 v1 v2 v3 (v4 + 1) σ _ _ _ h (lv_sub hl [1, 2, 3, 4, 0] rfl) hf
    · have hf := if_f hc hf
      refine lv_aload_n hx hb dX3_mostAlike_35 rfl (lv_at hl 0 rfl) ?_
      refine lv_iload hx hb dX3_mostAlike_36 (lv_at hl 4 rfl) ?_
      refine lv_iload hx hb dX3_mostAlike_38 (lv_at hl 5 rfl) ?_
      obtain ⟨q1, hq1, hf⟩ := bd_s hf
      refine fb_ci X h (fb_runV (As := [.int v4, .int v5]) (rest := []) (k := 22) X h (c_X3_isFitting l X.2.2.1 (fun k hk => hks k ((by decide : ∀ k ∈ ([22, 26] : List Nat), k ∈ ([22, 26, 27, 28] : List Nat)) k hk)) v4 v5 σ hq1) mf_yX3_isFitting lm_RX3_57 (hks 22 (by decide)) rfl rfl ⟨Nat.le_of_ble_eq_true rfl, Nat.le_of_ble_eq_true rfl⟩ ⟨Nat.le_refl _, Nat.le_refl _⟩ rfl hl.1 rfl (Nat.le_of_ble_eq_true rfl) dX3_mostAlike_40) (fun H locs h => ?_)
      refine lv_if_eq hx hb dX3_mostAlike_43 (tgt := 87) (by decide) (fun hc => ?_) (fun hc => ?_)
      · have hf := if_t hc hf
        refine lv_iinc hx hb dX3_mostAlike_87 hl (k := 5) rfl (kinc_1 _) (by decide) (lv' := [(5, .int (v5 + 1)), (0, .ref (g.1 22)), (1, .int v1), (2, .int v2), (3, .int v3), (4, .int v4)]) rfl (fun ls hl => ?_)
        refine lv_goto hx hb dX3_mostAlike_90 (tgt := 28) (by decide) ?_
        exact ih v1 v2 v3 v4 (v5 + 1) σ _ _ _ h (lv_sub hl [1, 2, 3, 4, 5, 0] rfl) hf
      · have hf := if_f hc hf
        refine lv_aload_n hx hb dX3_mostAlike_46 rfl (lv_at hl 0 rfl) ?_
        refine gt_RX3_25 X h (hks 22 (by decide)) dX3_mostAlike_47 ?_
        refine lv_iload_n hx hb dX3_mostAlike_50 rfl (lv_at hl 1 rfl) ?_
        refine lv_iload hx hb dX3_mostAlike_51 (lv_at hl 4 rfl) ?_
        refine lv_iload hx hb dX3_mostAlike_53 (lv_at hl 5 rfl) ?_
        obtain ⟨q2, hq2, hf⟩ := bd_s hf
        refine fb_ci X h (fb_runS (As := [.int v1, .int v4, .int v5]) (rest := [.ref (g.1 27)]) X h (c_X3_lawNet l X.2.2.1 (fun k hk => absurd hk List.not_mem_nil) v1 v4 v5 σ hq2) mf_yX3_lawNet lm_RX3_61 ⟨Nat.le_of_ble_eq_true rfl, Nat.le_of_ble_eq_true rfl⟩ ⟨Nat.le_refl _, Nat.le_refl _⟩ rfl hl.1 rfl (Nat.le_of_ble_eq_true rfl) dX3_mostAlike_55) (fun H locs h => ?_)
        refine lv_bipush hx hb dX3_mostAlike_58 kb_m50 ?_
        refine lv_isub hx hb dX3_mostAlike_60 ?_
        obtain ⟨hi0, hf⟩ := ck_s hf
        refine fb_iald X h (hks 27 (by decide)) rfl hi0 dX3_mostAlike_61 ?_
        obtain ⟨x3, ex3, hf⟩ := nm_s hf
        refine fb_topi ex3 ?_
        refine lv_istore hx hb dX3_mostAlike_62 hl (by decide) (lv' := [(6, .int x3), (0, .ref (g.1 22)), (1, .int v1), (2, .int v2), (3, .int v3), (4, .int v4), (5, .int v5)]) rfl (fun ls hl => ?_)
        refine lv_aload_n hx hb dX3_mostAlike_64 rfl (lv_at hl 1 rfl) ?_
        refine gt_RX3_28 X h (hks 22 (by decide)) dX3_mostAlike_65 ?_
        refine lv_iload hx hb dX3_mostAlike_68 (lv_at hl 0 rfl) ?_
        refine lv_dup2_11 hx hb dX3_mostAlike_70 rfl rfl ?_
        obtain ⟨hi0, hf⟩ := ck_s hf
        refine fb_iald X h (hks 28 (by decide)) rfl hi0 dX3_mostAlike_71 ?_
        refine lv_iconst hx hb dX3_mostAlike_72 ki_1 ?_
        refine lv_iadd hx hb dX3_mostAlike_73 ?_
        obtain ⟨hi0, hf⟩ := ck_s hf
        obtain ⟨t4, et4, hf⟩ := nm_s hf
        refine fb_iast X h (hks 28 (by decide)) (fun _ => rfl) hi0 dX3_mostAlike_74 (fun H locs h => ?_)
        have h := fb_H.nm et4 h
        refine lv_iload_n hx hb dX3_mostAlike_75 rfl (lv_at hl 4 rfl) ?_
        refine lv_aload_n hx hb dX3_mostAlike_76 rfl (lv_at hl 1 rfl) ?_
        refine gt_RX3_28 X h (hks 22 (by decide)) dX3_mostAlike_77 ?_
        refine lv_iload hx hb dX3_mostAlike_80 (lv_at hl 0 rfl) ?_
        obtain ⟨hi0, hf⟩ := ck_s hf
        refine fb_iald X h (hks 28 (by decide)) rfl hi0 dX3_mostAlike_82 ?_
        refine fb_mxr X hl.1 lm_RX3_42 (Nat.le_of_ble_eq_true rfl) (Nat.le_of_ble_eq_true rfl) ⟨Nat.le_refl _, Nat.le_refl _⟩ dX3_mostAlike_83 ?_
        obtain ⟨x5, ex5, hf⟩ := nm_s hf
        refine fb_topi ex5 ?_
        refine lv_istore_n hx hb dX3_mostAlike_86 rfl hl (by decide) (lv' := [(3, .int x5), (6, .int x3), (0, .ref (g.1 22)), (1, .int v1), (2, .int v2), (4, .int v4), (5, .int v5)]) rfl (fun ls hl => ?_)
        refine lv_iinc hx hb dX3_mostAlike_87 hl (k := 6) rfl (kinc_1 _) (by decide) (lv' := [(5, .int (v5 + 1)), (3, .int x5), (6, .int x3), (0, .ref (g.1 22)), (1, .int v1), (2, .int v2), (4, .int v4)]) rfl (fun ls hl => ?_)
        refine lv_goto hx hb dX3_mostAlike_90 (tgt := 28) (by decide) ?_
        exact ih v1 v2 x5 v4 (v5 + 1) t4 _ _ _ h (lv_sub hl [3, 4, 5, 1, 6, 0] rfl) hf
set_option maxHeartbeats 4000000 in
set_option maxRecDepth 100000 in
theorem w_X3_mostAlike_L13 (X : fb_X p m c cX3_mostAlike 7 s args RX3 g ks (fb_A g ks)) (hks : ∀ k ∈ ([22, 26, 27, 28] : List Nat), k ∈ ks) (hr : meth.sig.returnType = (some .int)) (hlk : meth.locks = false) (N : Nat)  {res : (Int32 × fb_S)} : ∀ (n : Nat) (v1 : Int32) (v2 : Int32) (v3 : Int32) (v4 : Int32) (σ : fb_S) (H : Heap) (locs : List Loc) (ls : Array Slot), fb_H g ks (fb_A g ks) s.heap σ H locs → lv_has ls 7 [(0, .ref (g.1 22)), (1, .int v1), (2, .int v2), (3, .int v3), (4, .int v4)] → f_X3_mostAlike_L13 N n v1 v2 v3 v4 σ = some res → W p l e (fb_R 1 23) s m args below meth c H locs 0 0 (MQ below (fb_Qi g ks res.1 res.2) args s 0 0 (fb_A g ks)) (F0 m 13 ls []) := by
  have hx := X.1.1
  have hb := X.1.2.1
  intro n
  induction n with
  | zero => intro v1 v2 v3 v4 σ H locs ls h hl hf; cases hf
  | succ n ih =>
    intro v1 v2 v3 v4 σ H locs ls h hl hf
    unfold f_X3_mostAlike_L13 at hf
    refine lv_iload hx hb dX3_mostAlike_13 (lv_at hl 4 rfl) ?_
    refine lv_bipush hx hb dX3_mostAlike_15 kb_49 ?_
    refine lv_icmp_gt hx hb dX3_mostAlike_17 (tgt := 99) (by decide) (fun hc => ?_) (fun hc => ?_)
    · have hf := if_t hc hf
      refine lv_iload_n hx hb dX3_mostAlike_99 rfl (lv_at hl 3 rfl) ?_
      have e9 := Option.some.inj hf
      subst e9
      exact fb_ir X h hr hlk dX3_mostAlike_100
    · have hf := if_f hc hf
      refine lv_iload_n hx hb dX3_mostAlike_20 rfl (lv_at hl 3 rfl) ?_
      refine lv_iload_n hx hb dX3_mostAlike_21 rfl (lv_at hl 2 rfl) ?_
      refine lv_icmp_ge hx hb dX3_mostAlike_22 (tgt := 99) (by decide) (fun hc => ?_) (fun hc => ?_)
      · have hf := if_t hc hf
        refine lv_iload_n hx hb dX3_mostAlike_99 rfl (lv_at hl 3 rfl) ?_
        have e9 := Option.some.inj hf
        subst e9
        exact fb_ir X h hr hlk dX3_mostAlike_100
      · have hf := if_f hc hf
        refine lv_iconst hx hb dX3_mostAlike_25 ki_1 ?_
        refine lv_istore hx hb dX3_mostAlike_26 hl (by decide) (lv' := [(5, .int (1)), (0, .ref (g.1 22)), (1, .int v1), (2, .int v2), (3, .int v3), (4, .int v4)]) rfl (fun ls hl => ?_)
        exact w_X3_mostAlike_L28 X hks hr hlk N (f_X3_mostAlike_L13 N n) ih N v1 v2 v3 v4 (1 : Int32) σ _ _ _ h (lv_sub hl [1, 2, 3, 4, 5, 0] rfl) hf
set_option maxHeartbeats 4000000 in
set_option maxRecDepth 100000 in
theorem c_X3_mostAlike (l : Launch) {g : fb_G} {ks : List Nat} (hI : fb_I g ks) (hks : ∀ k ∈ ([22, 26, 27, 28] : List Nat), k ∈ ks) (N : Nat) (a1 : Int32) (a2 : Int32) (σ : fb_S) {res : (Int32 × fb_S)} (hf : f_X3_mostAlike N a1 a2 σ = some res) : fb_M l yX3_mostAlike cX3_mostAlike 7 (some .int) 1 23 g ks [.ref (g.1 22), .int a1, .int a2] σ (fb_Qi g ks res.1 res.2) := by
  refine fb_met (by decide +kernel) hI (Nat.le_of_ble_eq_true rfl) (fun p e s m below meth c ls X h hr hlk hl => ?_)
  have X : fb_X p m c cX3_mostAlike 7 s _ RX3 g ks (fb_A g ks) := X
  have hl : lv_has ls 7 [(0, .ref (g.1 22)), (1, .int a1), (2, .int a2)] := hl
  have hx := X.1.1
  have hb := X.1.2.1
  unfold f_X3_mostAlike at hf
  refine lv_aload_n hx hb dX3_mostAlike_0 rfl (lv_at hl 0 rfl) ?_
  refine gt_RX3_28 X h (hks 22 (by decide)) dX3_mostAlike_1 ?_
  refine lv_iconst hx hb dX3_mostAlike_4 ki_0 ?_
  obtain ⟨q6, hq6, hf⟩ := bd_s hf
  refine fb_cv X h (fb_runS (As := [.ref (g.1 28), .int (0)]) (rest := []) X h (c_J7_fill_53178 l X.2.2.1 (fun k hk => absurd hk List.not_mem_nil) (ka := 28) (by decide) (hks 28 (by decide)) N 28 (0 : Int32) σ hq6) mf_yJ7_fill_53178 lm_RX3_74 ⟨Nat.le_of_ble_eq_true rfl, Nat.le_of_ble_eq_true rfl⟩ ⟨Nat.le_refl _, Nat.le_refl _⟩ rfl hl.1 rfl (Nat.le_of_ble_eq_true rfl) dX3_mostAlike_5) (fun H locs h => ?_)
  refine lv_iconst hx hb dX3_mostAlike_8 ki_0 ?_
  refine lv_istore_n hx hb dX3_mostAlike_9 rfl hl (by decide) (lv' := [(3, .int (0)), (0, .ref (g.1 22)), (1, .int a1), (2, .int a2)]) rfl (fun ls hl => ?_)
  refine lv_iconst hx hb dX3_mostAlike_10 ki_0 ?_
  refine lv_istore hx hb dX3_mostAlike_11 hl (by decide) (lv' := [(4, .int (0)), (3, .int (0)), (0, .ref (g.1 22)), (1, .int a1), (2, .int a2)]) rfl (fun ls hl => ?_)
  exact w_X3_mostAlike_L13 X hks hr hlk N N a1 a2 (0 : Int32) (0 : Int32) q6 _ _ _ h (lv_sub hl [2, 3, 4, 1, 0] rfl) hf
def f_X3_bestParting_L20 (N : Nat) : Nat → Int32 → Int32 → Int32 → fb_S → Option (Int32 × fb_S)
  | 0, _, _, _, _ => none
  | n + 1, v3, v4, v5, σ => 
    if (99 : Int32) < v5 then (
      some (v3, σ)
    ) else (
      (f_X3_mostAlike N v5 v4 σ).bind fun q1 =>
      if v4 ≤ q1.1 then (
        f_X3_bestParting_L20 N n v3 v4 (v5 + 1) q1.2
      ) else (
        f_X3_bestParting_L20 N n v5 q1.1 (v5 + 1) q1.2
      )
    )
def f_X3_bestParting (N : Nat) (a1 : Int32) (a2 : Int32) (σ : fb_S) : Option (Int32 × fb_S) :=
  (f_X3_groupNets N a1 a2 σ).bind fun q2 =>
  nm_ ((q2.1 22 7) + (1 : Int32)) fun x3 =>
  f_X3_bestParting_L20 N N (-9 : Int32) x3 (0 : Int32) q2
set_option maxHeartbeats 4000000 in
set_option maxRecDepth 100000 in
theorem w_X3_bestParting_L20 (X : fb_X p m c cX3_bestParting 7 s args RX3 g ks (fb_A g ks)) (hks : ∀ k ∈ ([22, 26, 27, 28] : List Nat), k ∈ ks) (hr : meth.sig.returnType = (some .int)) (hlk : meth.locks = false) (N : Nat)  {res : (Int32 × fb_S)} : ∀ (n : Nat) (v3 : Int32) (v4 : Int32) (v5 : Int32) (σ : fb_S) (H : Heap) (locs : List Loc) (ls : Array Slot), fb_H g ks (fb_A g ks) s.heap σ H locs → lv_has ls 7 [(0, .ref (g.1 22)), (3, .int v3), (4, .int v4), (5, .int v5)] → f_X3_bestParting_L20 N n v3 v4 v5 σ = some res → W p l e (fb_R 4 94) s m args below meth c H locs 0 0 (MQ below (fb_Qi g ks res.1 res.2) args s 0 0 (fb_A g ks)) (F0 m 20 ls []) := by
  have hx := X.1.1
  have hb := X.1.2.1
  intro n
  induction n with
  | zero => intro v3 v4 v5 σ H locs ls h hl hf; cases hf
  | succ n ih =>
    intro v3 v4 v5 σ H locs ls h hl hf
    unfold f_X3_bestParting_L20 at hf
    refine lv_iload hx hb dX3_bestParting_20 (lv_at hl 3 rfl) ?_
    refine lv_bipush hx hb dX3_bestParting_22 kb_99 ?_
    refine lv_icmp_gt hx hb dX3_bestParting_24 (tgt := 57) (by decide) (fun hc => ?_) (fun hc => ?_)
    · have hf := if_t hc hf
      refine lv_iload_n hx hb dX3_bestParting_57 rfl (lv_at hl 1 rfl) ?_
      have e9 := Option.some.inj hf
      subst e9
      exact fb_ir X h hr hlk dX3_bestParting_58
    · have hf := if_f hc hf
      refine lv_aload_n hx hb dX3_bestParting_27 rfl (lv_at hl 0 rfl) ?_
      refine lv_iload hx hb dX3_bestParting_28 (lv_at hl 3 rfl) ?_
      refine lv_iload hx hb dX3_bestParting_30 (lv_at hl 2 rfl) ?_
      obtain ⟨q1, hq1, hf⟩ := bd_s hf
      refine fb_ci X h (fb_runV (As := [.int v5, .int v4]) (rest := []) (k := 22) X h (c_X3_mostAlike l X.2.2.1 (fun k hk => hks k ((by decide : ∀ k ∈ ([22, 26, 27, 28] : List Nat), k ∈ ([22, 26, 27, 28] : List Nat)) k hk)) N v5 v4 σ hq1) mf_yX3_mostAlike lm_RX3_71 (hks 22 (by decide)) rfl rfl ⟨Nat.le_of_ble_eq_true rfl, Nat.le_of_ble_eq_true rfl⟩ ⟨Nat.le_refl _, Nat.le_refl _⟩ rfl hl.1 rfl (Nat.le_of_ble_eq_true rfl) dX3_bestParting_32) (fun H locs h => ?_)
      refine lv_istore hx hb dX3_bestParting_35 hl (by decide) (lv' := [(6, .int q1.1), (0, .ref (g.1 22)), (3, .int v3), (4, .int v4), (5, .int v5)]) rfl (fun ls hl => ?_)
      refine lv_iload hx hb dX3_bestParting_37 (lv_at hl 0 rfl) ?_
      refine lv_iload hx hb dX3_bestParting_39 (lv_at hl 3 rfl) ?_
      refine lv_icmp_ge hx hb dX3_bestParting_41 (tgt := 51) (by decide) (fun hc => ?_) (fun hc => ?_)
      · have hf := if_t hc hf
        refine lv_iinc hx hb dX3_bestParting_51 hl (k := 4) rfl (kinc_1 _) (by decide) (lv' := [(5, .int (v5 + 1)), (6, .int q1.1), (0, .ref (g.1 22)), (3, .int v3), (4, .int v4)]) rfl (fun ls hl => ?_)
        refine lv_goto hx hb dX3_bestParting_54 (tgt := 20) (by decide) ?_
        exact ih v3 v4 (v5 + 1) q1.2 _ _ _ h (lv_sub hl [2, 3, 4, 0] rfl) hf
      · have hf := if_f hc hf
        refine lv_iload hx hb dX3_bestParting_44 (lv_at hl 0 rfl) ?_
        refine lv_istore hx hb dX3_bestParting_46 hl (by decide) (lv' := [(4, .int q1.1), (6, .int q1.1), (0, .ref (g.1 22)), (3, .int v3), (5, .int v5)]) rfl (fun ls hl => ?_)
        refine lv_iload hx hb dX3_bestParting_48 (lv_at hl 4 rfl) ?_
        refine lv_istore_n hx hb dX3_bestParting_50 rfl hl (by decide) (lv' := [(3, .int v5), (4, .int q1.1), (6, .int q1.1), (0, .ref (g.1 22)), (5, .int v5)]) rfl (fun ls hl => ?_)
        refine lv_iinc hx hb dX3_bestParting_51 hl (k := 4) rfl (kinc_1 _) (by decide) (lv' := [(5, .int (v5 + 1)), (3, .int v5), (4, .int q1.1), (6, .int q1.1), (0, .ref (g.1 22))]) rfl (fun ls hl => ?_)
        refine lv_goto hx hb dX3_bestParting_54 (tgt := 20) (by decide) ?_
        exact ih v5 q1.1 (v5 + 1) q1.2 _ _ _ h (lv_sub hl [4, 1, 2, 0] rfl) hf
set_option maxHeartbeats 4000000 in
set_option maxRecDepth 100000 in
theorem c_X3_bestParting (l : Launch) {g : fb_G} {ks : List Nat} (hI : fb_I g ks) (hks : ∀ k ∈ ([22, 26, 27, 28] : List Nat), k ∈ ks) (N : Nat) (a1 : Int32) (a2 : Int32) (σ : fb_S) {res : (Int32 × fb_S)} (hf : f_X3_bestParting N a1 a2 σ = some res) : fb_M l yX3_bestParting cX3_bestParting 7 (some .int) 4 94 g ks [.ref (g.1 22), .int a1, .int a2] σ (fb_Qi g ks res.1 res.2) := by
  refine fb_met (by decide +kernel) hI (Nat.le_of_ble_eq_true rfl) (fun p e s m below meth c ls X h hr hlk hl => ?_)
  have X : fb_X p m c cX3_bestParting 7 s _ RX3 g ks (fb_A g ks) := X
  have hl : lv_has ls 7 [(0, .ref (g.1 22)), (1, .int a1), (2, .int a2)] := hl
  have hx := X.1.1
  have hb := X.1.2.1
  unfold f_X3_bestParting at hf
  refine lv_aload_n hx hb dX3_bestParting_0 rfl (lv_at hl 0 rfl) ?_
  refine lv_iload_n hx hb dX3_bestParting_1 rfl (lv_at hl 1 rfl) ?_
  refine lv_iload_n hx hb dX3_bestParting_2 rfl (lv_at hl 2 rfl) ?_
  obtain ⟨q2, hq2, hf⟩ := bd_s hf
  refine fb_cv X h (fb_runV (As := [.int a1, .int a2]) (rest := []) (k := 22) X h (c_X3_groupNets l X.2.2.1 (fun k hk => hks k ((by decide : ∀ k ∈ ([22, 27] : List Nat), k ∈ ([22, 26, 27, 28] : List Nat)) k hk)) N a1 a2 σ hq2) mf_yX3_groupNets lm_RX3_67 (hks 22 (by decide)) rfl rfl ⟨Nat.le_of_ble_eq_true rfl, Nat.le_of_ble_eq_true rfl⟩ ⟨Nat.le_refl _, Nat.le_refl _⟩ rfl hl.1 rfl (Nat.le_of_ble_eq_true rfl) dX3_bestParting_3) (fun H locs h => ?_)
  refine lv_bipush hx hb dX3_bestParting_6 kb_m9 ?_
  refine lv_istore_n hx hb dX3_bestParting_8 rfl hl (by decide) (lv' := [(3, .int (-9)), (0, .ref (g.1 22)), (1, .int a1), (2, .int a2)]) rfl (fun ls hl => ?_)
  refine lv_aload_n hx hb dX3_bestParting_9 rfl (lv_at hl 1 rfl) ?_
  refine gt_RX3_51 X h (hks 22 (by decide)) dX3_bestParting_10 ?_
  refine lv_iconst hx hb dX3_bestParting_13 ki_1 ?_
  refine lv_iadd hx hb dX3_bestParting_14 ?_
  obtain ⟨x3, ex3, hf⟩ := nm_s hf
  refine fb_topi ex3 ?_
  refine lv_istore hx hb dX3_bestParting_15 hl (by decide) (lv' := [(4, .int x3), (3, .int (-9)), (0, .ref (g.1 22)), (1, .int a1), (2, .int a2)]) rfl (fun ls hl => ?_)
  refine lv_iconst hx hb dX3_bestParting_17 ki_0 ?_
  refine lv_istore hx hb dX3_bestParting_18 hl (by decide) (lv' := [(5, .int (0)), (4, .int x3), (3, .int (-9)), (0, .ref (g.1 22)), (1, .int a1), (2, .int a2)]) rfl (fun ls hl => ?_)
  exact w_X3_bestParting_L20 X hks hr hlk N N (-9 : Int32) x3 (0 : Int32) q2 _ _ _ h (lv_sub hl [3, 2, 1, 0] rfl) hf
def f_X5_next (N : Nat) (a1 : Int32) (σ : fb_S) : Option (Int32 × fb_S) :=
  (f_X5_isBeatsOfTest a1).bind fun q1 =>
  if q1 = 0 then (
    some ((-2 : Int32), σ)
  ) else (
    if (2 : Int32) ≤ (σ.1 22 7) then (
      (f_X3_bestParting N (σ.1 1 1) a1 σ).bind fun q2 =>
      some (q2.1, q2.2)
    ) else (
      some ((-9 : Int32), σ)
    )
  )
set_option maxHeartbeats 4000000 in
set_option maxRecDepth 100000 in
theorem c_X5_next (l : Launch) {g : fb_G} {ks : List Nat} (hI : fb_I g ks) (hks : ∀ k ∈ ([0, 1, 22, 26, 27, 28] : List Nat), k ∈ ks) (N : Nat) (a1 : Int32) (σ : fb_S) {res : (Int32 × fb_S)} (hf : f_X5_next N a1 σ = some res) : fb_M l yX5_next cX5_next 2 (some .int) 5 120 g ks [.ref (g.1 0), .int a1] σ (fb_Qi g ks res.1 res.2) := by
  refine fb_met (by decide +kernel) hI (Nat.le_of_ble_eq_true rfl) (fun p e s m below meth c ls X h hr hlk hl => ?_)
  have X : fb_X p m c cX5_next 2 s _ RX5 g ks (fb_A g ks) := X
  have hl : lv_has ls 2 [(0, .ref (g.1 0)), (1, .int a1)] := hl
  have hx := X.1.1
  have hb := X.1.2.1
  unfold f_X5_next at hf
  refine lv_iload_n hx hb dX5_next_0 rfl (lv_at hl 1 rfl) ?_
  obtain ⟨q1, hq1, hf⟩ := bd_s hf
  refine fb_ci X h (fb_runS (As := [.int a1]) (rest := []) X h (c_X5_isBeatsOfTest l X.2.2.1 (fun k hk => absurd hk List.not_mem_nil) a1 σ hq1) mf_yX5_isBeatsOfTest lm_RX5_199 ⟨Nat.le_of_ble_eq_true rfl, Nat.le_of_ble_eq_true rfl⟩ ⟨Nat.le_refl _, Nat.le_refl _⟩ rfl hl.1 rfl (Nat.le_of_ble_eq_true rfl) dX5_next_1) (fun H locs h => ?_)
  refine lv_if_ne hx hb dX5_next_4 (tgt := 10) (by decide) (fun hc => ?_) (fun hc => ?_)
  · have hf := if_f hc hf
    refine lv_aload_n hx hb dX5_next_10 rfl (lv_at hl 0 rfl) ?_
    refine gt_RX5_44 X h (hks 0 (by decide)) dX5_next_11 ?_
    refine gt_RX5_209 X h (hks 22 (by decide)) dX5_next_14 ?_
    refine lv_iconst hx hb dX5_next_17 ki_2 ?_
    refine lv_icmp_ge hx hb dX5_next_18 (tgt := 26) (by decide) (fun hc => ?_) (fun hc => ?_)
    · have hf := if_t hc hf
      refine lv_aload_n hx hb dX5_next_26 rfl (lv_at hl 0 rfl) ?_
      refine gt_RX5_44 X h (hks 0 (by decide)) dX5_next_27 ?_
      refine lv_aload_n hx hb dX5_next_30 rfl (lv_at hl 0 rfl) ?_
      refine gt_RX5_7 X h (hks 0 (by decide)) dX5_next_31 ?_
      refine lv_iconst hx hb dX5_next_34 ki_1 ?_
      refine fb_ialdL X h (hks 1 (by decide)) rfl (by decide) kn_1 dX5_next_35 ?_
      refine lv_iload_n hx hb dX5_next_36 rfl (lv_at hl 1 rfl) ?_
      obtain ⟨q2, hq2, hf⟩ := bd_s hf
      refine fb_ci X h (fb_runVN (As := [.int (σ.1 1 1), .int a1]) (rest := []) (k := 22) X h (c_X3_bestParting l X.2.2.1 (fun k hk => hks k ((by decide : ∀ k ∈ ([22, 26, 27, 28] : List Nat), k ∈ ([0, 1, 22, 26, 27, 28] : List Nat)) k hk)) N (σ.1 1 1) a1 σ hq2) mf_yX3_bestParting lm_RX5_228 (hks 22 (by decide)) rfl rfl ⟨Nat.le_of_ble_eq_true rfl, Nat.le_of_ble_eq_true rfl⟩ ⟨Nat.le_refl _, Nat.le_refl _⟩ rfl hl.1 rfl (Nat.le_of_ble_eq_true rfl) dX5_next_37) (fun H locs h => ?_)
      have e9 := Option.some.inj hf
      subst e9
      exact fb_ir X h hr hlk dX5_next_40
    · have hf := if_f hc hf
      refine lv_bipush hx hb dX5_next_21 kb_m9 ?_
      refine lv_goto hx hb dX5_next_23 (tgt := 40) (by decide) ?_
      have e9 := Option.some.inj hf
      subst e9
      exact fb_ir X h hr hlk dX5_next_40
  · have hf := if_t hc hf
    refine lv_bipush hx hb dX5_next_7 kb_m2 ?_
    have e9 := Option.some.inj hf
    subst e9
    exact fb_ir X h hr hlk dX5_next_9
def f_X5_sum_L10 (ka : Nat) (N : Nat) (σ : fb_S) : Nat → Int32 → Int32 → Int32 → Option Int32
  | 0, _, _, _ => none
  | n + 1, v1, v3, v4 => 
    if v3 ≤ v4 then (
      some v1
    ) else (
      ck_ (fb_in v4 (fb_len ka)) <|
      nm_ (σ.1 ka v4.toNatClampNeg) fun x1 =>
      nm_ (v1 + x1) fun x2 =>
      f_X5_sum_L10 ka N σ n x2 v3 (v4 + 1)
    )
def f_X5_sum (N : Nat) (ka : Nat) (σ : fb_S) : Option Int32 :=
  nm_ (nI (fb_len ka)) fun x3 =>
  f_X5_sum_L10 ka N σ N (0 : Int32) x3 (0 : Int32)
set_option maxHeartbeats 4000000 in
set_option maxRecDepth 100000 in
theorem w_X5_sum_L10 (X : fb_X p m c cX5_sum 6 s args RX5 g ks (fb_A g ks)) (hks : ∀ k ∈ ([] : List Nat), k ∈ ks) (hr : meth.sig.returnType = (some .int)) (hlk : meth.locks = false) {ka : Nat} (hka : ka ∈ fb_ints) (hkk : ka ∈ ks) (N : Nat) (σ : fb_S)  {res : Int32} : ∀ (n : Nat) (v1 : Int32) (v3 : Int32) (v4 : Int32) (H : Heap) (locs : List Loc) (ls : Array Slot), fb_H g ks (fb_A g ks) s.heap σ H locs → lv_has ls 6 [(1, .int v1), (2, .ref (g.1 ka)), (3, .int v3), (4, .int v4)] → f_X5_sum_L10 ka N σ n v1 v3 v4 = some res → W p l e (fb_R 0 0) s m args below meth c H locs 0 0 (MQ below (fb_Qi g ks res σ) args s 0 0 (fb_A g ks)) (F0 m 10 ls []) := by
  have hx := X.1.1
  have hb := X.1.2.1
  intro n
  induction n with
  | zero => intro v1 v3 v4 H locs ls h hl hf; cases hf
  | succ n ih =>
    intro v1 v3 v4 H locs ls h hl hf
    unfold f_X5_sum_L10 at hf
    refine lv_iload hx hb dX5_sum_10 (lv_at hl 3 rfl) ?_
    refine lv_iload_n hx hb dX5_sum_12 rfl (lv_at hl 2 rfl) ?_
    refine lv_icmp_ge hx hb dX5_sum_13 (tgt := 33) (by decide) (fun hc => ?_) (fun hc => ?_)
    · have hf := if_t hc hf
      refine lv_iload_n hx hb dX5_sum_33 rfl (lv_at hl 0 rfl) ?_
      have e9 := Option.some.inj hf
      subst e9
      exact fb_ir X h hr hlk dX5_sum_34
    · have hf := if_f hc hf
      refine lv_aload_n hx hb dX5_sum_16 rfl (lv_at hl 1 rfl) ?_
      refine lv_iload hx hb dX5_sum_17 (lv_at hl 3 rfl) ?_
      obtain ⟨hi0, hf⟩ := ck_s hf
      refine fb_iald X h hkk (fb_int hka _ _ _) hi0 dX5_sum_19 ?_
      obtain ⟨x1, ex1, hf⟩ := nm_s hf
      refine fb_topi ex1 ?_
      refine lv_istore hx hb dX5_sum_20 hl (by decide) (lv' := [(5, .int x1), (1, .int v1), (2, .ref (g.1 ka)), (3, .int v3), (4, .int v4)]) rfl (fun ls hl => ?_)
      refine lv_iload_n hx hb dX5_sum_22 rfl (lv_at hl 1 rfl) ?_
      refine lv_iload hx hb dX5_sum_23 (lv_at hl 0 rfl) ?_
      refine lv_iadd hx hb dX5_sum_25 ?_
      obtain ⟨x2, ex2, hf⟩ := nm_s hf
      refine fb_topi ex2 ?_
      refine lv_istore_n hx hb dX5_sum_26 rfl hl (by decide) (lv' := [(1, .int x2), (5, .int x1), (2, .ref (g.1 ka)), (3, .int v3), (4, .int v4)]) rfl (fun ls hl => ?_)
      refine lv_iinc hx hb dX5_sum_27 hl (k := 4) rfl (kinc_1 _) (by decide) (lv' := [(4, .int (v4 + 1)), (1, .int x2), (5, .int x1), (2, .ref (g.1 ka)), (3, .int v3)]) rfl (fun ls hl => ?_)
      refine lv_goto hx hb dX5_sum_30 (tgt := 10) (by decide) ?_
      exact ih x2 v3 (v4 + 1) _ _ _ h (lv_sub hl [1, 3, 4, 0] rfl) hf
set_option maxHeartbeats 4000000 in
set_option maxRecDepth 100000 in
theorem c_X5_sum (l : Launch) {g : fb_G} {ks : List Nat} (hI : fb_I g ks) (hks : ∀ k ∈ ([] : List Nat), k ∈ ks) {ka : Nat} (hka : ka ∈ fb_ints) (hkk : ka ∈ ks) (N : Nat) (ka9 : Nat) (σ : fb_S) {res : Int32} (hf : f_X5_sum N ka σ = some res) : fb_M l yX5_sum cX5_sum 6 (some .int) 0 0 g ks [.ref (g.1 ka)] σ (fb_Qi g ks res σ) := by
  refine fb_met (by decide +kernel) hI (Nat.le_of_ble_eq_true rfl) (fun p e s m below meth c ls X h hr hlk hl => ?_)
  have X : fb_X p m c cX5_sum 6 s _ RX5 g ks (fb_A g ks) := X
  have hl : lv_has ls 6 [(0, .ref (g.1 ka))] := hl
  have hx := X.1.1
  have hb := X.1.2.1
  unfold f_X5_sum at hf
  refine lv_iconst hx hb dX5_sum_0 ki_0 ?_
  refine lv_istore_n hx hb dX5_sum_1 rfl hl (by decide) (lv' := [(1, .int (0)), (0, .ref (g.1 ka))]) rfl (fun ls hl => ?_)
  refine lv_aload_n hx hb dX5_sum_2 rfl (lv_at hl 1 rfl) ?_
  refine lv_astore_n hx hb dX5_sum_3 rfl hl (by decide) (lv' := [(2, .ref (g.1 ka)), (1, .int (0)), (0, .ref (g.1 ka))]) rfl (fun ls hl => ?_)
  refine lv_aload_n hx hb dX5_sum_4 rfl (lv_at hl 0 rfl) ?_
  refine fb_alen X h hkk (fb_int hka _ _ _) dX5_sum_5 ?_
  obtain ⟨x3, ex3, hf⟩ := nm_s hf
  refine fb_topi ex3 ?_
  refine lv_istore_n hx hb dX5_sum_6 rfl hl (by decide) (lv' := [(3, .int x3), (2, .ref (g.1 ka)), (1, .int (0)), (0, .ref (g.1 ka))]) rfl (fun ls hl => ?_)
  refine lv_iconst hx hb dX5_sum_7 ki_0 ?_
  refine lv_istore hx hb dX5_sum_8 hl (by decide) (lv' := [(4, .int (0)), (3, .int x3), (2, .ref (g.1 ka)), (1, .int (0)), (0, .ref (g.1 ka))]) rfl (fun ls hl => ?_)
  exact w_X5_sum_L10 X hks hr hlk hka hkk N σ N (0 : Int32) x3 (0 : Int32) _ _ _ h (lv_sub hl [3, 2, 1, 0] rfl) hf
def f_X5_count (N : Nat) (a1 : Int32) (σ : fb_S) : Option Int32 :=
  if a1 = 0 then (
    some (σ.1 2 3)
  ) else (
    if a1 = 1 then (
      some (σ.1 11 5)
    ) else (
      if a1 = 2 then (
        (f_X5_sum N 15 σ).bind fun q1 =>
        some q1
      ) else (
        if a1 = 3 then (
          some (σ.1 22 6)
        ) else (
          if a1 = 4 then (
            (f_X5_sum N 10 σ).bind fun q2 =>
            some q2
          ) else (
            if a1 = 5 then (
              (f_X5_sum N 19 σ).bind fun q3 =>
              some q3
            ) else (
              some (-2 : Int32)
  ))))))
set_option maxHeartbeats 4000000 in
set_option maxRecDepth 100000 in
theorem c_X5_count (l : Launch) {g : fb_G} {ks : List Nat} (hI : fb_I g ks) (hks : ∀ k ∈ ([0, 2, 6, 10, 11, 15, 17, 19, 22] : List Nat), k ∈ ks) (N : Nat) (a1 : Int32) (σ : fb_S) {res : Int32} (hf : f_X5_count N a1 σ = some res) : fb_M l yX5_count cX5_count 2 (some .int) 1 25 g ks [.ref (g.1 0), .int a1] σ (fb_Qi g ks res σ) := by
  refine fb_met (by decide +kernel) hI (Nat.le_of_ble_eq_true rfl) (fun p e s m below meth c ls X h hr hlk hl => ?_)
  have X : fb_X p m c cX5_count 2 s _ RX5 g ks (fb_A g ks) := X
  have hl : lv_has ls 2 [(0, .ref (g.1 0)), (1, .int a1)] := hl
  have hx := X.1.1
  have hb := X.1.2.1
  unfold f_X5_count at hf
  refine lv_iload_n hx hb dX5_count_0 rfl (lv_at hl 1 rfl) ?_
  by_cases hc0 : a1 = 0
  · have hf := if_t hc0 hf
    refine lv_tableIn hx hb dX5_count_1 (off := 39) (tgt := 40) (by rw [hc0]; decide) (by rw [hc0]; decide) (by rw [hc0]; decide) (by decide) ?_
    refine lv_aload_n hx hb dX5_count_40 rfl (lv_at hl 0 rfl) ?_
    refine gt_RX5_16 X h (hks 0 (by decide)) dX5_count_41 ?_
    refine gt_RX5_52 X h (hks 2 (by decide)) dX5_count_44 ?_
    have e9 := Option.some.inj hf
    subst e9
    exact fb_ir X h hr hlk dX5_count_47
  have hf := if_f hc0 hf
  by_cases hc1 : a1 = 1
  · have hf := if_t hc1 hf
    refine lv_tableIn hx hb dX5_count_1 (off := 47) (tgt := 48) (by rw [hc1]; decide) (by rw [hc1]; decide) (by rw [hc1]; decide) (by decide) ?_
    refine lv_aload_n hx hb dX5_count_48 rfl (lv_at hl 0 rfl) ?_
    refine gt_RX5_30 X h (hks 0 (by decide)) dX5_count_49 ?_
    refine gt_RX5_137 X h (hks 11 (by decide)) dX5_count_52 ?_
    have e9 := Option.some.inj hf
    subst e9
    exact fb_ir X h hr hlk dX5_count_55
  have hf := if_f hc1 hf
  by_cases hc2 : a1 = 2
  · have hf := if_t hc2 hf
    refine lv_tableIn hx hb dX5_count_1 (off := 55) (tgt := 56) (by rw [hc2]; decide) (by rw [hc2]; decide) (by rw [hc2]; decide) (by decide) ?_
    refine lv_aload_n hx hb dX5_count_56 rfl (lv_at hl 0 rfl) ?_
    refine gt_RX5_30 X h (hks 0 (by decide)) dX5_count_57 ?_
    refine gt_RX5_143 X h (hks 11 (by decide)) dX5_count_60 ?_
    obtain ⟨q1, hq1, hf⟩ := bd_s hf
    refine fb_ci X h (fb_runS (As := [.ref (g.1 15)]) (rest := []) X h (c_X5_sum l X.2.2.1 (fun k hk => absurd hk List.not_mem_nil) (ka := 15) (by decide) (hks 15 (by decide)) N 15 σ hq1) mf_yX5_sum lm_RX5_231 ⟨Nat.le_of_ble_eq_true rfl, Nat.le_of_ble_eq_true rfl⟩ ⟨Nat.le_refl _, Nat.le_refl _⟩ rfl hl.1 rfl (Nat.le_of_ble_eq_true rfl) dX5_count_63) (fun H locs h => ?_)
    have e9 := Option.some.inj hf
    subst e9
    exact fb_ir X h hr hlk dX5_count_66
  have hf := if_f hc2 hf
  by_cases hc3 : a1 = 3
  · have hf := if_t hc3 hf
    refine lv_tableIn hx hb dX5_count_1 (off := 66) (tgt := 67) (by rw [hc3]; decide) (by rw [hc3]; decide) (by rw [hc3]; decide) (by decide) ?_
    refine lv_aload_n hx hb dX5_count_67 rfl (lv_at hl 0 rfl) ?_
    refine gt_RX5_44 X h (hks 0 (by decide)) dX5_count_68 ?_
    refine gt_RX5_202 X h (hks 22 (by decide)) dX5_count_71 ?_
    have e9 := Option.some.inj hf
    subst e9
    exact fb_ir X h hr hlk dX5_count_74
  have hf := if_f hc3 hf
  by_cases hc4 : a1 = 4
  · have hf := if_t hc4 hf
    refine lv_tableIn hx hb dX5_count_1 (off := 74) (tgt := 75) (by rw [hc4]; decide) (by rw [hc4]; decide) (by rw [hc4]; decide) (by decide) ?_
    refine lv_aload_n hx hb dX5_count_75 rfl (lv_at hl 0 rfl) ?_
    refine gt_RX5_23 X h (hks 0 (by decide)) dX5_count_76 ?_
    refine gt_RX5_103 X h (hks 6 (by decide)) dX5_count_79 ?_
    obtain ⟨q2, hq2, hf⟩ := bd_s hf
    refine fb_ci X h (fb_runS (As := [.ref (g.1 10)]) (rest := []) X h (c_X5_sum l X.2.2.1 (fun k hk => absurd hk List.not_mem_nil) (ka := 10) (by decide) (hks 10 (by decide)) N 10 σ hq2) mf_yX5_sum lm_RX5_231 ⟨Nat.le_of_ble_eq_true rfl, Nat.le_of_ble_eq_true rfl⟩ ⟨Nat.le_refl _, Nat.le_refl _⟩ rfl hl.1 rfl (Nat.le_of_ble_eq_true rfl) dX5_count_82) (fun H locs h => ?_)
    have e9 := Option.some.inj hf
    subst e9
    exact fb_ir X h hr hlk dX5_count_85
  have hf := if_f hc4 hf
  by_cases hc5 : a1 = 5
  · have hf := if_t hc5 hf
    refine lv_tableIn hx hb dX5_count_1 (off := 85) (tgt := 86) (by rw [hc5]; decide) (by rw [hc5]; decide) (by rw [hc5]; decide) (by decide) ?_
    refine lv_aload_n hx hb dX5_count_86 rfl (lv_at hl 0 rfl) ?_
    refine gt_RX5_37 X h (hks 0 (by decide)) dX5_count_87 ?_
    refine gt_RX5_165 X h (hks 17 (by decide)) dX5_count_90 ?_
    obtain ⟨q3, hq3, hf⟩ := bd_s hf
    refine fb_ci X h (fb_runS (As := [.ref (g.1 19)]) (rest := []) X h (c_X5_sum l X.2.2.1 (fun k hk => absurd hk List.not_mem_nil) (ka := 19) (by decide) (hks 19 (by decide)) N 19 σ hq3) mf_yX5_sum lm_RX5_231 ⟨Nat.le_of_ble_eq_true rfl, Nat.le_of_ble_eq_true rfl⟩ ⟨Nat.le_refl _, Nat.le_refl _⟩ rfl hl.1 rfl (Nat.le_of_ble_eq_true rfl) dX5_count_93) (fun H locs h => ?_)
    have e9 := Option.some.inj hf
    subst e9
    exact fb_ir X h hr hlk dX5_count_96
  have hf := if_f hc5 hf
  refine lv_tableOut hx hb dX5_count_1 (tgt := 97) (by have h9 := fb_swn (x := a1) 6 (by decide) (fun j hj => match j, hj with | 0, _ => hc0 | 1, _ => hc1 | 2, _ => hc2 | 3, _ => hc3 | 4, _ => hc4 | 5, _ => hc5); omega) (by decide) ?_
  refine lv_bipush hx hb dX5_count_97 kb_m2 ?_
  have e9 := Option.some.inj hf
  subst e9
  exact fb_ir X h hr hlk dX5_count_99
end MW
