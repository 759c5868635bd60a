section MW
variable {p : Program} {l : Launch} {e : Env} {s : State} {m : MethodId} {args : Array Value} {below : List Frame} {meth : Method} {c : Code} {g : fb_G} {ks : List Nat}
def f_X4_moreToChangeNetAt (N : Nat) (a1 : Int32) (a2 : Int32) (σ : fb_S) : Option Int32 :=
  ck_ (fb_in a2 4) <|
  if (σ.1 7 a2.toNatClampNeg) = 0 then (
    some (1000 : Int32)
  ) else (
    (f_X4_isInStep a2 a1 σ).bind fun q1 =>
    if q1 = 0 then (
      some (1000 : Int32)
    ) else (
      (f_X4_pushAt N a1 σ).bind fun q2 =>
      nm_ ((100 : Int32) - (q2 - q2 / (100 : Int32) * (100 : Int32))) fun x3 =>
      ck_ (fb_in a2 4) <|
      ck_ (fb_in a2 4) <|
      ck_ ((σ.1 7 a2.toNatClampNeg) != 0) <|
      some (((x3 + (σ.1 7 a2.toNatClampNeg)) - (1 : Int32)) / (σ.1 7 a2.toNatClampNeg))
    )
  )
set_option maxHeartbeats 4000000 in
set_option maxRecDepth 100000 in
theorem c_X4_moreToChangeNetAt (l : Launch) {g : fb_G} {ks : List Nat} (hI : fb_I g ks) (hks : ∀ k ∈ ([6, 7, 8, 9, 10] : List Nat), k ∈ ks) (N : Nat) (a1 : Int32) (a2 : Int32) (σ : fb_S) {res : Int32} (hf : f_X4_moreToChangeNetAt N a1 a2 σ = some res) : fb_M l yX4_moreToChangeNetAt cX4_moreToChangeNetAt 4 (some .int) 2 45 g ks [.ref (g.1 6), .int a1, .int a2] σ (fb_Qi g ks res σ) := by
  refine fb_met (by decide +kernel) hI (Nat.le_of_ble_eq_true rfl) (fun p e s m below meth c ls X h hr hlk hl => ?_)
  have X : fb_X p m c cX4_moreToChangeNetAt 4 s _ RX4 g ks (fb_A g ks) := X
  have hl : lv_has ls 4 [(0, .ref (g.1 6)), (1, .int a1), (2, .int a2)] := hl
  have hx := X.1.1
  have hb := X.1.2.1
  unfold f_X4_moreToChangeNetAt at hf
  refine lv_aload_n hx hb dX4_moreToChangeNetAt_0 rfl (lv_at hl 0 rfl) ?_
  refine gt_RX4_11 X h (hks 6 (by decide)) dX4_moreToChangeNetAt_1 ?_
  refine lv_iload_n hx hb dX4_moreToChangeNetAt_4 rfl (lv_at hl 2 rfl) ?_
  obtain ⟨hi0, hf⟩ := ck_s hf
  refine fb_iald X h (hks 7 (by decide)) rfl hi0 dX4_moreToChangeNetAt_5 ?_
  refine lv_if_eq hx hb dX4_moreToChangeNetAt_6 (tgt := 18) (by decide) (fun hc => ?_) (fun hc => ?_)
  · have hf := if_t hc hf
    refine lv_sipush hx hb dX4_moreToChangeNetAt_18 ks_1000 ?_
    have e9 := Option.some.inj hf
    subst e9
    exact fb_ir X h hr hlk dX4_moreToChangeNetAt_21
  · have hf := if_f hc hf
    refine lv_aload_n hx hb dX4_moreToChangeNetAt_9 rfl (lv_at hl 0 rfl) ?_
    refine lv_iload_n hx hb dX4_moreToChangeNetAt_10 rfl (lv_at hl 2 rfl) ?_
    refine lv_iload_n hx hb dX4_moreToChangeNetAt_11 rfl (lv_at hl 1 rfl) ?_
    obtain ⟨q1, hq1, hf⟩ := bd_s hf
    refine fb_ci X h (fb_runV (As := [.int a2, .int a1]) (rest := []) (k := 6) X h (c_X4_isInStep l X.2.2.1 (fun k hk => hks k ((by decide : ∀ k ∈ ([6, 8, 9] : List Nat), k ∈ ([6, 7, 8, 9, 10] : List Nat)) k hk)) a2 a1 σ hq1) mf_yX4_isInStep lm_RX4_24 (hks 6 (by decide)) rfl rfl ⟨Nat.le_of_ble_eq_true rfl, Nat.le_of_ble_eq_true rfl⟩ ⟨Nat.le_refl _, Nat.le_refl _⟩ rfl hl.1 rfl (Nat.le_of_ble_eq_true rfl) dX4_moreToChangeNetAt_12) (fun H locs h => ?_)
    refine lv_if_ne hx hb dX4_moreToChangeNetAt_15 (tgt := 22) (by decide) (fun hc => ?_) (fun hc => ?_)
    · have hf := if_f hc hf
      refine lv_bipush hx hb dX4_moreToChangeNetAt_22 kb_100 ?_
      refine lv_aload_n hx hb dX4_moreToChangeNetAt_24 rfl (lv_at hl 0 rfl) ?_
      refine lv_iload_n hx hb dX4_moreToChangeNetAt_25 rfl (lv_at hl 1 rfl) ?_
      obtain ⟨q2, hq2, hf⟩ := bd_s hf
      refine fb_ci X h (fb_runV (As := [.int a1]) (rest := [.int (100)]) (k := 6) X h (c_X4_pushAt l X.2.2.1 (fun k hk => hks k ((by decide : ∀ k ∈ ([6, 7, 8, 9, 10] : List Nat), k ∈ ([6, 7, 8, 9, 10] : List Nat)) k hk)) N a1 σ hq2) mf_yX4_pushAt lm_RX4_28 (hks 6 (by decide)) rfl rfl ⟨Nat.le_of_ble_eq_true rfl, Nat.le_of_ble_eq_true rfl⟩ ⟨Nat.le_refl _, Nat.le_refl _⟩ rfl hl.1 rfl (Nat.le_of_ble_eq_true rfl) dX4_moreToChangeNetAt_26) (fun H locs h => ?_)
      refine lv_bipush hx hb dX4_moreToChangeNetAt_29 kb_100 ?_
      refine lv_irem hx hb dX4_moreToChangeNetAt_31 (by decide) ?_
      refine lv_isub hx hb dX4_moreToChangeNetAt_32 ?_
      obtain ⟨x3, ex3, hf⟩ := nm_s hf
      refine fb_topi ex3 ?_
      refine lv_istore_n hx hb dX4_moreToChangeNetAt_33 rfl hl (by decide) (lv' := [(3, .int x3), (0, .ref (g.1 6)), (1, .int a1), (2, .int a2)]) rfl (fun ls hl => ?_)
      refine lv_iload_n hx hb dX4_moreToChangeNetAt_34 rfl (lv_at hl 0 rfl) ?_
      refine lv_aload_n hx hb dX4_moreToChangeNetAt_35 rfl (lv_at hl 1 rfl) ?_
      refine gt_RX4_11 X h (hks 6 (by decide)) dX4_moreToChangeNetAt_36 ?_
      refine lv_iload_n hx hb dX4_moreToChangeNetAt_39 rfl (lv_at hl 3 rfl) ?_
      obtain ⟨hi0, hf⟩ := ck_s hf
      refine fb_iald X h (hks 7 (by decide)) rfl hi0 dX4_moreToChangeNetAt_40 ?_
      refine lv_iadd hx hb dX4_moreToChangeNetAt_41 ?_
      refine lv_iconst hx hb dX4_moreToChangeNetAt_42 ki_1 ?_
      refine lv_isub hx hb dX4_moreToChangeNetAt_43 ?_
      refine lv_aload_n hx hb dX4_moreToChangeNetAt_44 rfl (lv_at hl 1 rfl) ?_
      refine gt_RX4_11 X h (hks 6 (by decide)) dX4_moreToChangeNetAt_45 ?_
      refine lv_iload_n hx hb dX4_moreToChangeNetAt_48 rfl (lv_at hl 3 rfl) ?_
      obtain ⟨hi0, hf⟩ := ck_s hf
      refine fb_iald X h (hks 7 (by decide)) rfl hi0 dX4_moreToChangeNetAt_49 ?_
      obtain ⟨hz0, hf⟩ := ck_s hf
      refine lv_idiv hx hb dX4_moreToChangeNetAt_50 (fb_nz hz0) ?_
      have e9 := Option.some.inj hf
      subst e9
      exact fb_ir X h hr hlk dX4_moreToChangeNetAt_51
    · have hf := if_t hc hf
      refine lv_sipush hx hb dX4_moreToChangeNetAt_18 ks_1000 ?_
      have e9 := Option.some.inj hf
      subst e9
      exact fb_ir X h hr hlk dX4_moreToChangeNetAt_21
def f_X4_moreToChangeNet_L6 (N : Nat) (σ : fb_S) : Nat → Int32 → Int32 → Int32 → Option Int32
  | 0, _, _, _ => none
  | n + 1, v1, v2, v3 => 
    if (4 : Int32) ≤ v3 then (
      some v2
    ) else (
      ck_ (fb_in v3 4) <|
      (f_X4_moreToChangeNetAt N (σ.1 8 v3.toNatClampNeg) v1 σ).bind fun q1 =>
      nm_ (mn_ v2 q1) fun x2 =>
      ck_ (fb_in v3 4) <|
      (f_X4_moreToChangeNetAt N ((σ.1 9 v3.toNatClampNeg) + (1 : Int32)) v1 σ).bind fun q3 =>
      nm_ (mn_ x2 q3) fun x4 =>
      f_X4_moreToChangeNet_L6 N σ n v1 x4 (v3 + 1)
    )
def f_X4_moreToChangeNet (N : Nat) (a1 : Int32) (σ : fb_S) : Option Int32 :=
  f_X4_moreToChangeNet_L6 N σ N a1 (1000 : Int32) (0 : Int32)
set_option maxHeartbeats 4000000 in
set_option maxRecDepth 100000 in
theorem w_X4_moreToChangeNet_L6 (X : fb_X p m c cX4_moreToChangeNet 4 s args RX4 g ks (fb_A g ks)) (hks : ∀ k ∈ ([6, 7, 8, 9, 10] : List Nat), k ∈ ks) (hr : meth.sig.returnType = (some .int)) (hlk : meth.locks = false) (N : Nat) (σ : fb_S)  {res : Int32} : ∀ (n : Nat) (v1 : Int32) (v2 : Int32) (v3 : Int32) (H : Heap) (locs : List Loc) (ls : Array Slot), fb_H g ks (fb_A g ks) s.heap σ H locs → lv_has ls 4 [(0, .ref (g.1 6)), (1, .int v1), (2, .int v2), (3, .int v3)] → f_X4_moreToChangeNet_L6 N σ n v1 v2 v3 = some res → W p l e (fb_R 3 68) s m args below meth c H locs 0 0 (MQ below (fb_Qi g ks res σ) args s 0 0 (fb_A g ks)) (F0 m 6 ls []) := by
  have hx := X.1.1
  have hb := X.1.2.1
  intro n
  induction n with
  | zero => intro v1 v2 v3 H locs ls h hl hf; cases hf
  | succ n ih =>
    intro v1 v2 v3 H locs ls h hl hf
    unfold f_X4_moreToChangeNet_L6 at hf
    refine lv_iload_n hx hb dX4_moreToChangeNet_6 rfl (lv_at hl 3 rfl) ?_
    refine lv_iconst hx hb dX4_moreToChangeNet_7 ki_4 ?_
    refine lv_icmp_ge hx hb dX4_moreToChangeNet_8 (tgt := 51) (by decide) (fun hc => ?_) (fun hc => ?_)
    · have hf := if_t hc hf
      refine lv_iload_n hx hb dX4_moreToChangeNet_51 rfl (lv_at hl 2 rfl) ?_
      have e9 := Option.some.inj hf
      subst e9
      exact fb_ir X h hr hlk dX4_moreToChangeNet_52
    · have hf := if_f hc hf
      refine lv_iload_n hx hb dX4_moreToChangeNet_11 rfl (lv_at hl 2 rfl) ?_
      refine lv_aload_n hx hb dX4_moreToChangeNet_12 rfl (lv_at hl 0 rfl) ?_
      refine lv_aload_n hx hb dX4_moreToChangeNet_13 rfl (lv_at hl 0 rfl) ?_
      refine gt_RX4_15 X h (hks 6 (by decide)) dX4_moreToChangeNet_14 ?_
      refine lv_iload_n hx hb dX4_moreToChangeNet_17 rfl (lv_at hl 3 rfl) ?_
      obtain ⟨hi0, hf⟩ := ck_s hf
      refine fb_iald X h (hks 8 (by decide)) rfl hi0 dX4_moreToChangeNet_18 ?_
      refine lv_iload_n hx hb dX4_moreToChangeNet_19 rfl (lv_at hl 1 rfl) ?_
      obtain ⟨q1, hq1, hf⟩ := bd_s hf
      refine fb_ci X h (fb_runV (As := [.int (σ.1 8 v3.toNatClampNeg), .int v1]) (rest := [.int v2]) (k := 6) X h (c_X4_moreToChangeNetAt l X.2.2.1 (fun k hk => hks k ((by decide : ∀ k ∈ ([6, 7, 8, 9, 10] : List Nat), k ∈ ([6, 7, 8, 9, 10] : List Nat)) k hk)) N (σ.1 8 v3.toNatClampNeg) v1 σ hq1) mf_yX4_moreToChangeNetAt lm_RX4_71 (hks 6 (by decide)) rfl rfl ⟨Nat.le_of_ble_eq_true rfl, Nat.le_of_ble_eq_true rfl⟩ ⟨Nat.le_refl _, Nat.le_refl _⟩ rfl hl.1 rfl (Nat.le_of_ble_eq_true rfl) dX4_moreToChangeNet_20) (fun H locs h => ?_)
      refine fb_mnr X hl.1 lm_RX4_62 (Nat.le_of_ble_eq_true rfl) (Nat.le_of_ble_eq_true rfl) ⟨Nat.le_refl _, Nat.le_refl _⟩ dX4_moreToChangeNet_23 ?_
      obtain ⟨x2, ex2, hf⟩ := nm_s hf
      refine fb_topi ex2 ?_
      refine lv_istore_n hx hb dX4_moreToChangeNet_26 rfl hl (by decide) (lv' := [(2, .int x2), (0, .ref (g.1 6)), (1, .int v1), (3, .int v3)]) rfl (fun ls hl => ?_)
      refine lv_iload_n hx hb dX4_moreToChangeNet_27 rfl (lv_at hl 0 rfl) ?_
      refine lv_aload_n hx hb dX4_moreToChangeNet_28 rfl (lv_at hl 1 rfl) ?_
      refine lv_aload_n hx hb dX4_moreToChangeNet_29 rfl (lv_at hl 1 rfl) ?_
      refine gt_RX4_18 X h (hks 6 (by decide)) dX4_moreToChangeNet_30 ?_
      refine lv_iload_n hx hb dX4_moreToChangeNet_33 rfl (lv_at hl 3 rfl) ?_
      obtain ⟨hi0, hf⟩ := ck_s hf
      refine fb_iald X h (hks 9 (by decide)) rfl hi0 dX4_moreToChangeNet_34 ?_
      refine lv_iconst hx hb dX4_moreToChangeNet_35 ki_1 ?_
      refine lv_iadd hx hb dX4_moreToChangeNet_36 ?_
      refine lv_iload_n hx hb dX4_moreToChangeNet_37 rfl (lv_at hl 2 rfl) ?_
      obtain ⟨q3, hq3, hf⟩ := bd_s hf
      refine fb_ci X h (fb_runV (As := [.int ((σ.1 9 v3.toNatClampNeg) + (1 : Int32)), .int v1]) (rest := [.int x2]) (k := 6) X h (c_X4_moreToChangeNetAt l X.2.2.1 (fun k hk => hks k ((by decide : ∀ k ∈ ([6, 7, 8, 9, 10] : List Nat), k ∈ ([6, 7, 8, 9, 10] : List Nat)) k hk)) N ((σ.1 9 v3.toNatClampNeg) + (1 : Int32)) v1 σ hq3) mf_yX4_moreToChangeNetAt lm_RX4_71 (hks 6 (by decide)) rfl rfl ⟨Nat.le_of_ble_eq_true rfl, Nat.le_of_ble_eq_true rfl⟩ ⟨Nat.le_refl _, Nat.le_refl _⟩ rfl hl.1 rfl (Nat.le_of_ble_eq_true rfl) dX4_moreToChangeNet_38) (fun H locs h => ?_)
      refine fb_mnr X hl.1 lm_RX4_62 (Nat.le_of_ble_eq_true rfl) (Nat.le_of_ble_eq_true rfl) ⟨Nat.le_refl _, Nat.le_refl _⟩ dX4_moreToChangeNet_41 ?_
      obtain ⟨x4, ex4, hf⟩ := nm_s hf
      refine fb_topi ex4 ?_
      refine lv_istore_n hx hb dX4_moreToChangeNet_44 rfl hl (by decide) (lv' := [(2, .int x4), (0, .ref (g.1 6)), (1, .int v1), (3, .int v3)]) rfl (fun ls hl => ?_)
      refine lv_iinc hx hb dX4_moreToChangeNet_45 hl (k := 3) rfl (kinc_1 _) (by decide) (lv' := [(3, .int (v3 + 1)), (2, .int x4), (0, .ref (g.1 6)), (1, .int v1)]) rfl (fun ls hl => ?_)
      refine lv_goto hx hb dX4_moreToChangeNet_48 (tgt := 6) (by decide) ?_
      exact ih v1 x4 (v3 + 1) _ _ _ h (lv_sub hl [2, 3, 1, 0] rfl) hf
set_option maxHeartbeats 4000000 in
set_option maxRecDepth 100000 in
theorem c_X4_moreToChangeNet (l : Launch) {g : fb_G} {ks : List Nat} (hI : fb_I g ks) (hks : ∀ k ∈ ([6, 7, 8, 9, 10] : List Nat), k ∈ ks) (N : Nat) (a1 : Int32) (σ : fb_S) {res : Int32} (hf : f_X4_moreToChangeNet N a1 σ = some res) : fb_M l yX4_moreToChangeNet cX4_moreToChangeNet 4 (some .int) 3 68 g ks [.ref (g.1 6), .int a1] σ (fb_Qi g ks res σ) := by
  refine fb_met (by decide +kernel) hI (Nat.le_of_ble_eq_true rfl) (fun p e s m below meth c ls X h hr hlk hl => ?_)
  have X : fb_X p m c cX4_moreToChangeNet 4 s _ RX4 g ks (fb_A g ks) := X
  have hl : lv_has ls 4 [(0, .ref (g.1 6)), (1, .int a1)] := hl
  have hx := X.1.1
  have hb := X.1.2.1
  unfold f_X4_moreToChangeNet at hf
  refine lv_sipush hx hb dX4_moreToChangeNet_0 ks_1000 ?_
  refine lv_istore_n hx hb dX4_moreToChangeNet_3 rfl hl (by decide) (lv' := [(2, .int (1000)), (0, .ref (g.1 6)), (1, .int a1)]) rfl (fun ls hl => ?_)
  refine lv_iconst hx hb dX4_moreToChangeNet_4 ki_0 ?_
  refine lv_istore_n hx hb dX4_moreToChangeNet_5 rfl hl (by decide) (lv' := [(3, .int (0)), (2, .int (1000)), (0, .ref (g.1 6)), (1, .int a1)]) rfl (fun ls hl => ?_)
  exact w_X4_moreToChangeNet_L6 X hks hr hlk N σ N a1 (1000 : Int32) (0 : Int32) _ _ _ h (lv_sub hl [2, 3, 1, 0] rfl) hf
def f_X4_fewestTooMany_L83 (N : Nat) (v1 : Int32) (v4 : Int32) (v5 : Int32) (σ : fb_S) : Option (Int32 × fb_S) :=
  ck_ (fb_in v1 4) <|
  nm_ (fb_up σ 10 (v1.toNatClampNeg) v4) fun t1 =>
  some (v5, t1)
def f_X4_fewestTooMany_L18 (N : Nat) : Nat → Int32 → Int32 → Int32 → Int32 → Int32 → Int32 → Int32 → fb_S → Option (Int32 × fb_S)
  | 0, _, _, _, _, _, _, _, _ => none
  | n + 1, v1, v2, v3, v4, v5, v6, v7, σ => 
    if (999 : Int32) < v7 then (
      f_X4_fewestTooMany_L83 N v1 v4 v5 σ
    ) else (
      if (999 : Int32) < v6 then (
        f_X4_fewestTooMany_L83 N v1 v4 v5 σ
      ) else (
        if v5 = (-9 : Int32) then (
          ck_ (fb_in v1 4) <|
          nm_ (fb_up σ 10 (v1.toNatClampNeg) v6) fun t2 =>
          (f_X4_beatsTillStill N v2 v3 t2).bind fun q3 =>
          if q3.1 = (-9 : Int32) then (
            f_X4_fewestTooMany_L18 N n v1 v2 v3 v4 v6 v6 (v7 + 1) q3.2
          ) else (
            (f_X4_moreToChangeNet N v1 q3.2).bind fun q4 =>
            nm_ (v6 + q4) fun x5 =>
            f_X4_fewestTooMany_L18 N n v1 v2 v3 v4 v5 x5 (v7 + 1) q3.2
          )
        ) else (
          f_X4_fewestTooMany_L83 N v1 v4 v5 σ
        )
      )
    )
def f_X4_fewestTooMany (N : Nat) (a1 : Int32) (a2 : Int32) (a3 : Int32) (σ : fb_S) : Option (Int32 × fb_S) :=
  ck_ (fb_in a1 4) <|
  nm_ (σ.1 10 a1.toNatClampNeg) fun x6 =>
  f_X4_fewestTooMany_L18 N N a1 a2 a3 x6 (-9 : Int32) (0 : Int32) (0 : Int32) σ
set_option maxHeartbeats 4000000 in
set_option maxRecDepth 100000 in
theorem w_X4_fewestTooMany_L83 (X : fb_X p m c cX4_fewestTooMany 8 s args RX4 g ks (fb_A g ks)) (hks : ∀ k ∈ ([6, 7, 8, 9, 10] : List Nat), k ∈ ks) (hr : meth.sig.returnType = (some .int)) (hlk : meth.locks = false) (N : Nat)  {res : (Int32 × fb_S)} : ∀ (v1 : Int32) (v4 : Int32) (v5 : Int32) (σ : fb_S) (H : Heap) (locs : List Loc) (ls : Array Slot), fb_H g ks (fb_A g ks) s.heap σ H locs → lv_has ls 8 [(0, .ref (g.1 6)), (1, .int v1), (4, .int v4), (5, .int v5)] → f_X4_fewestTooMany_L83 N v1 v4 v5 σ = some res → W p l e (fb_R 4 92) s m args below meth c H locs 0 0 (MQ below (fb_Qi g ks res.1 res.2) args s 0 0 (fb_A g ks)) (F0 m 83 ls []) := by
  have hx := X.1.1
  have hb := X.1.2.1
  intro v1 v4 v5 σ H locs ls h hl hf
  unfold f_X4_fewestTooMany_L83 at hf
  refine lv_aload_n hx hb dX4_fewestTooMany_83 rfl (lv_at hl 0 rfl) ?_
  refine gt_RX4_21 X h (hks 6 (by decide)) dX4_fewestTooMany_84 ?_
  refine lv_iload_n hx hb dX4_fewestTooMany_87 rfl (lv_at hl 1 rfl) ?_
  refine lv_iload hx hb dX4_fewestTooMany_88 (lv_at hl 2 rfl) ?_
  obtain ⟨hi0, hf⟩ := ck_s hf
  obtain ⟨t1, et1, hf⟩ := nm_s hf
  refine fb_iast X h (hks 10 (by decide)) (fun _ => rfl) hi0 dX4_fewestTooMany_90 (fun H locs h => ?_)
  have h := fb_H.nm et1 h
  refine lv_iload hx hb dX4_fewestTooMany_91 (lv_at hl 3 rfl) ?_
  have e9 := Option.some.inj hf
  subst e9
  exact fb_ir X h hr hlk dX4_fewestTooMany_93
set_option maxHeartbeats 4000000 in
set_option maxRecDepth 100000 in
theorem w_X4_fewestTooMany_L18 (X : fb_X p m c cX4_fewestTooMany 8 s args RX4 g ks (fb_A g ks)) (hks : ∀ k ∈ ([6, 7, 8, 9, 10] : List Nat), k ∈ ks) (hr : meth.sig.returnType = (some .int)) (hlk : meth.locks = false) (N : Nat)  {res : (Int32 × fb_S)} : ∀ (n : Nat) (v1 : Int32) (v2 : Int32) (v3 : Int32) (v4 : Int32) (v5 : Int32) (v6 : Int32) (v7 : Int32) (σ : fb_S) (H : Heap) (locs : List Loc) (ls : Array Slot), fb_H g ks (fb_A g ks) s.heap σ H locs → lv_has ls 8 [(0, .ref (g.1 6)), (1, .int v1), (2, .int v2), (3, .int v3), (4, .int v4), (5, .int v5), (6, .int v6), (7, .int v7)] → f_X4_fewestTooMany_L18 N n v1 v2 v3 v4 v5 v6 v7 σ = some res → W p l e (fb_R 4 92) s m args below meth c H locs 0 0 (MQ below (fb_Qi g ks res.1 res.2) args s 0 0 (fb_A g ks)) (F0 m 18 ls []) := by
  have hx := X.1.1
  have hb := X.1.2.1
  intro n
  induction n with
  | zero => intro v1 v2 v3 v4 v5 v6 v7 σ H locs ls h hl hf; cases hf
  | succ n ih =>
    intro v1 v2 v3 v4 v5 v6 v7 σ H locs ls h hl hf
    unfold f_X4_fewestTooMany_L18 at hf
    refine lv_iload hx hb dX4_fewestTooMany_18 (lv_at hl 7 rfl) ?_
    refine lv_sipush hx hb dX4_fewestTooMany_20 ks_999 ?_
    refine lv_icmp_gt hx hb dX4_fewestTooMany_23 (tgt := 83) (by decide) (fun hc => ?_) (fun hc => ?_)
    · have hf := if_t hc hf
      exact w_X4_fewestTooMany_L83 X hks hr hlk N v1 v4 v5 σ _ _ _ h (lv_sub hl [0, 1, 4, 5] rfl) hf
    · have hf := if_f hc hf
      refine lv_iload hx hb dX4_fewestTooMany_26 (lv_at hl 6 rfl) ?_
      refine lv_sipush hx hb dX4_fewestTooMany_28 ks_999 ?_
      refine lv_icmp_gt hx hb dX4_fewestTooMany_31 (tgt := 83) (by decide) (fun hc => ?_) (fun hc => ?_)
      · have hf := if_t hc hf
        exact w_X4_fewestTooMany_L83 X hks hr hlk N v1 v4 v5 σ _ _ _ h (lv_sub hl [0, 1, 4, 5] rfl) hf
      · have hf := if_f hc hf
        refine lv_iload hx hb dX4_fewestTooMany_34 (lv_at hl 5 rfl) ?_
        refine lv_bipush hx hb dX4_fewestTooMany_36 kb_m9 ?_
        refine lv_icmp_ne hx hb dX4_fewestTooMany_38 (tgt := 83) (by decide) (fun hc => ?_) (fun hc => ?_)
        · have hf := if_f hc hf
          exact w_X4_fewestTooMany_L83 X hks hr hlk N v1 v4 v5 σ _ _ _ h (lv_sub hl [0, 1, 4, 5] rfl) hf
        · have hf := if_t hc hf
          refine lv_aload_n hx hb dX4_fewestTooMany_41 rfl (lv_at hl 0 rfl) ?_
          refine gt_RX4_21 X h (hks 6 (by decide)) dX4_fewestTooMany_42 ?_
          refine lv_iload_n hx hb dX4_fewestTooMany_45 rfl (lv_at hl 1 rfl) ?_
          refine lv_iload hx hb dX4_fewestTooMany_46 (lv_at hl 6 rfl) ?_
          obtain ⟨hi0, hf⟩ := ck_s hf
          obtain ⟨t2, et2, hf⟩ := nm_s hf
          refine fb_iast X h (hks 10 (by decide)) (fun _ => rfl) hi0 dX4_fewestTooMany_48 (fun H locs h => ?_)
          have h := fb_H.nm et2 h
          refine lv_aload_n hx hb dX4_fewestTooMany_49 rfl (lv_at hl 0 rfl) ?_
          refine lv_iload_n hx hb dX4_fewestTooMany_50 rfl (lv_at hl 2 rfl) ?_
          refine lv_iload_n hx hb dX4_fewestTooMany_51 rfl (lv_at hl 3 rfl) ?_
          obtain ⟨q3, hq3, hf⟩ := bd_s hf
          refine fb_ci X h (fb_runV (As := [.int v2, .int v3]) (rest := []) (k := 6) X h (c_X4_beatsTillStill l X.2.2.1 (fun k hk => hks k ((by decide : ∀ k ∈ ([6, 7, 8, 9, 10] : List Nat), k ∈ ([6, 7, 8, 9, 10] : List Nat)) k hk)) N v2 v3 t2 hq3) mf_yX4_beatsTillStill lm_RX4_43 (hks 6 (by decide)) rfl rfl ⟨Nat.le_of_ble_eq_true rfl, Nat.le_of_ble_eq_true rfl⟩ ⟨Nat.le_refl _, Nat.le_refl _⟩ rfl hl.1 rfl (Nat.le_of_ble_eq_true rfl) dX4_fewestTooMany_52) (fun H locs h => ?_)
          refine lv_bipush hx hb dX4_fewestTooMany_55 kb_m9 ?_
          refine lv_icmp_ne hx hb dX4_fewestTooMany_57 (tgt := 67) (by decide) (fun hc => ?_) (fun hc => ?_)
          · have hf := if_f hc hf
            refine lv_iload hx hb dX4_fewestTooMany_67 (lv_at hl 6 rfl) ?_
            refine lv_aload_n hx hb dX4_fewestTooMany_69 rfl (lv_at hl 0 rfl) ?_
            refine lv_iload_n hx hb dX4_fewestTooMany_70 rfl (lv_at hl 1 rfl) ?_
            obtain ⟨q4, hq4, hf⟩ := bd_s hf
            refine fb_ci X h (fb_runV (As := [.int v1]) (rest := [.int v6]) (k := 6) X h (c_X4_moreToChangeNet l X.2.2.1 (fun k hk => hks k ((by decide : ∀ k ∈ ([6, 7, 8, 9, 10] : List Nat), k ∈ ([6, 7, 8, 9, 10] : List Nat)) k hk)) N v1 q3.2 hq4) mf_yX4_moreToChangeNet lm_RX4_68 (hks 6 (by decide)) rfl rfl ⟨Nat.le_of_ble_eq_true rfl, Nat.le_of_ble_eq_true rfl⟩ ⟨Nat.le_refl _, Nat.le_refl _⟩ rfl hl.1 rfl (Nat.le_of_ble_eq_true rfl) dX4_fewestTooMany_71) (fun H locs h => ?_)
            refine lv_iadd hx hb dX4_fewestTooMany_74 ?_
            obtain ⟨x5, ex5, hf⟩ := nm_s hf
            refine fb_topi ex5 ?_
            refine lv_istore hx hb dX4_fewestTooMany_75 hl (by decide) (lv' := [(6, .int x5), (0, .ref (g.1 6)), (1, .int v1), (2, .int v2), (3, .int v3), (4, .int v4), (5, .int v5), (7, .int v7)]) rfl (fun ls hl => ?_)
            refine lv_iinc hx hb dX4_fewestTooMany_77 hl (k := 7) rfl (kinc_1 _) (by decide) (lv' := [(7, .int (v7 + 1)), (6, .int x5), (0, .ref (g.1 6)), (1, .int v1), (2, .int v2), (3, .int v3), (4, .int v4), (5, .int v5)]) rfl (fun ls hl => ?_)
            refine lv_goto hx hb dX4_fewestTooMany_80 (tgt := 18) (by decide) ?_
            exact ih v1 v2 v3 v4 v5 x5 (v7 + 1) q3.2 _ _ _ h (lv_sub hl [2, 3, 4, 5, 6, 7, 1, 0] rfl) hf
          · have hf := if_t hc hf
            refine lv_iload hx hb dX4_fewestTooMany_60 (lv_at hl 6 rfl) ?_
            refine lv_istore hx hb dX4_fewestTooMany_62 hl (by decide) (lv' := [(5, .int v6), (0, .ref (g.1 6)), (1, .int v1), (2, .int v2), (3, .int v3), (4, .int v4), (6, .int v6), (7, .int v7)]) rfl (fun ls hl => ?_)
            refine lv_goto hx hb dX4_fewestTooMany_64 (tgt := 77) (by decide) ?_
            refine lv_iinc hx hb dX4_fewestTooMany_77 hl (k := 7) rfl (kinc_1 _) (by decide) (lv' := [(7, .int (v7 + 1)), (5, .int v6), (0, .ref (g.1 6)), (1, .int v1), (2, .int v2), (3, .int v3), (4, .int v4), (6, .int v6)]) rfl (fun ls hl => ?_)
            refine lv_goto hx hb dX4_fewestTooMany_80 (tgt := 18) (by decide) ?_
            exact ih v1 v2 v3 v4 v6 v6 (v7 + 1) q3.2 _ _ _ h (lv_sub hl [2, 3, 4, 5, 6, 1, 7, 0] rfl) hf
set_option maxHeartbeats 4000000 in
set_option maxRecDepth 100000 in
theorem c_X4_fewestTooMany (l : Launch) {g : fb_G} {ks : List Nat} (hI : fb_I g ks) (hks : ∀ k ∈ ([6, 7, 8, 9, 10] : List Nat), k ∈ ks) (N : Nat) (a1 : Int32) (a2 : Int32) (a3 : Int32) (σ : fb_S) {res : (Int32 × fb_S)} (hf : f_X4_fewestTooMany N a1 a2 a3 σ = some res) : fb_M l yX4_fewestTooMany cX4_fewestTooMany 8 (some .int) 4 92 g ks [.ref (g.1 6), .int a1, .int a2, .int a3] σ (fb_Qi g ks res.1 res.2) := by
  refine fb_met (by decide +kernel) hI (Nat.le_of_ble_eq_true rfl) (fun p e s m below meth c ls X h hr hlk hl => ?_)
  have X : fb_X p m c cX4_fewestTooMany 8 s _ RX4 g ks (fb_A g ks) := X
  have hl : lv_has ls 8 [(0, .ref (g.1 6)), (1, .int a1), (2, .int a2), (3, .int a3)] := hl
  have hx := X.1.1
  have hb := X.1.2.1
  unfold f_X4_fewestTooMany at hf
  refine lv_aload_n hx hb dX4_fewestTooMany_0 rfl (lv_at hl 0 rfl) ?_
  refine gt_RX4_21 X h (hks 6 (by decide)) dX4_fewestTooMany_1 ?_
  refine lv_iload_n hx hb dX4_fewestTooMany_4 rfl (lv_at hl 1 rfl) ?_
  obtain ⟨hi0, hf⟩ := ck_s hf
  refine fb_iald X h (hks 10 (by decide)) rfl hi0 dX4_fewestTooMany_5 ?_
  obtain ⟨x6, ex6, hf⟩ := nm_s hf
  refine fb_topi ex6 ?_
  refine lv_istore hx hb dX4_fewestTooMany_6 hl (by decide) (lv' := [(4, .int x6), (0, .ref (g.1 6)), (1, .int a1), (2, .int a2), (3, .int a3)]) rfl (fun ls hl => ?_)
  refine lv_bipush hx hb dX4_fewestTooMany_8 kb_m9 ?_
  refine lv_istore hx hb dX4_fewestTooMany_10 hl (by decide) (lv' := [(5, .int (-9)), (4, .int x6), (0, .ref (g.1 6)), (1, .int a1), (2, .int a2), (3, .int a3)]) rfl (fun ls hl => ?_)
  refine lv_iconst hx hb dX4_fewestTooMany_12 ki_0 ?_
  refine lv_istore hx hb dX4_fewestTooMany_13 hl (by decide) (lv' := [(6, .int (0)), (5, .int (-9)), (4, .int x6), (0, .ref (g.1 6)), (1, .int a1), (2, .int a2), (3, .int a3)]) rfl (fun ls hl => ?_)
  refine lv_iconst hx hb dX4_fewestTooMany_15 ki_0 ?_
  refine lv_istore hx hb dX4_fewestTooMany_16 hl (by decide) (lv' := [(7, .int (0)), (6, .int (0)), (5, .int (-9)), (4, .int x6), (0, .ref (g.1 6)), (1, .int a1), (2, .int a2), (3, .int a3)]) rfl (fun ls hl => ?_)
  exact w_X4_fewestTooMany_L18 X hks hr hlk N N a1 a2 a3 x6 (-9 : Int32) (0 : Int32) (0 : Int32) σ _ _ _ h (lv_sub hl [4, 5, 6, 7, 3, 2, 1, 0] rfl) hf
def f_X5_tooMany (N : Nat) (a1 : Int32) (σ : fb_S) : Option (Int32 × fb_S) :=
  (f_X5_isSort a1).bind fun q1 =>
  if q1 = 0 then (
    some ((-1 : Int32), σ)
  ) else (
    (f_X5_allDamping N σ).bind fun q2 =>
    (f_X4_fewestTooMany N a1 (σ.1 1 1) q2 σ).bind fun q3 =>
    some (q3.1, q3.2)
  )
set_option maxHeartbeats 4000000 in
set_option maxRecDepth 100000 in
theorem c_X5_tooMany (l : Launch) {g : fb_G} {ks : List Nat} (hI : fb_I g ks) (hks : ∀ k ∈ ([0, 1, 6, 7, 8, 9, 10, 11, 12, 15] : List Nat), k ∈ ks) (N : Nat) (a1 : Int32) (σ : fb_S) {res : (Int32 × fb_S)} (hf : f_X5_tooMany N a1 σ = some res) : fb_M l yX5_tooMany cX5_tooMany 2 (some .int) 5 119 g ks [.ref (g.1 0), .int a1] σ (fb_Qi g ks res.1 res.2) := by
  refine fb_met (by decide +kernel) hI (Nat.le_of_ble_eq_true rfl) (fun p e s m below meth c ls X h hr hlk hl => ?_)
  have X : fb_X p m c cX5_tooMany 2 s _ RX5 g ks (fb_A g ks) := X
  have hl : lv_has ls 2 [(0, .ref (g.1 0)), (1, .int a1)] := hl
  have hx := X.1.1
  have hb := X.1.2.1
  unfold f_X5_tooMany at hf
  refine lv_iload_n hx hb dX5_tooMany_0 rfl (lv_at hl 1 rfl) ?_
  obtain ⟨q1, hq1, hf⟩ := bd_s hf
  refine fb_ci X h (fb_runS (As := [.int a1]) (rest := []) X h (c_X5_isSort l X.2.2.1 (fun k hk => absurd hk List.not_mem_nil) a1 σ hq1) mf_yX5_isSort lm_RX5_85 ⟨Nat.le_of_ble_eq_true rfl, Nat.le_of_ble_eq_true rfl⟩ ⟨Nat.le_refl _, Nat.le_refl _⟩ rfl hl.1 rfl (Nat.le_of_ble_eq_true rfl) dX5_tooMany_1) (fun H locs h => ?_)
  refine lv_if_eq hx hb dX5_tooMany_4 (tgt := 28) (by decide) (fun hc => ?_) (fun hc => ?_)
  · have hf := if_t hc hf
    refine lv_iconst hx hb dX5_tooMany_28 ki_m1 ?_
    have e9 := Option.some.inj hf
    subst e9
    exact fb_ir X h hr hlk dX5_tooMany_29
  · have hf := if_f hc hf
    refine lv_aload_n hx hb dX5_tooMany_7 rfl (lv_at hl 0 rfl) ?_
    refine gt_RX5_23 X h (hks 0 (by decide)) dX5_tooMany_8 ?_
    refine lv_iload_n hx hb dX5_tooMany_11 rfl (lv_at hl 1 rfl) ?_
    refine lv_aload_n hx hb dX5_tooMany_12 rfl (lv_at hl 0 rfl) ?_
    refine gt_RX5_7 X h (hks 0 (by decide)) dX5_tooMany_13 ?_
    refine lv_iconst hx hb dX5_tooMany_16 ki_1 ?_
    refine fb_ialdL X h (hks 1 (by decide)) rfl (by decide) kn_1 dX5_tooMany_17 ?_
    refine lv_aload_n hx hb dX5_tooMany_18 rfl (lv_at hl 0 rfl) ?_
    obtain ⟨q2, hq2, hf⟩ := bd_s hf
    refine fb_ci X h (fb_runV (As := []) (rest := [.int (σ.1 1 1), .int a1, .ref (g.1 6)]) (k := 0) X h (c_X5_allDamping l X.2.2.1 (fun k hk => hks k ((by decide : ∀ k ∈ ([0, 1, 11, 12, 15] : List Nat), k ∈ ([0, 1, 6, 7, 8, 9, 10, 11, 12, 15] : List Nat)) k hk)) N σ hq2) mf_yX5_allDamping lm_RX5_112 (hks 0 (by decide)) rfl rfl ⟨Nat.le_of_ble_eq_true rfl, Nat.le_of_ble_eq_true rfl⟩ ⟨Nat.le_refl _, Nat.le_refl _⟩ rfl hl.1 rfl (Nat.le_of_ble_eq_true rfl) dX5_tooMany_19) (fun H locs h => ?_)
    obtain ⟨q3, hq3, hf⟩ := bd_s hf
    refine fb_ci X h (fb_runVN (As := [.int a1, .int (σ.1 1 1), .int q2]) (rest := []) (k := 6) X h (c_X4_fewestTooMany l X.2.2.1 (fun k hk => hks k ((by decide : ∀ k ∈ ([6, 7, 8, 9, 10] : List Nat), k ∈ ([0, 1, 6, 7, 8, 9, 10, 11, 12, 15] : List Nat)) k hk)) N a1 (σ.1 1 1) q2 σ hq3) mf_yX4_fewestTooMany lm_RX5_131 (hks 6 (by decide)) rfl rfl ⟨Nat.le_of_ble_eq_true rfl, Nat.le_of_ble_eq_true rfl⟩ ⟨Nat.le_refl _, Nat.le_refl _⟩ rfl hl.1 rfl (Nat.le_of_ble_eq_true rfl) dX5_tooMany_22) (fun H locs h => ?_)
    refine lv_goto hx hb dX5_tooMany_25 (tgt := 29) (by decide) ?_
    have e9 := Option.some.inj hf
    subst e9
    exact fb_ir X h hr hlk dX5_tooMany_29
def f_X4_countInStep_L4 (N : Nat) (σ : fb_S) : Nat → Int32 → Int32 → Int32 → Option Int32
  | 0, _, _, _ => none
  | n + 1, v1, v2, v3 => 
    if (4 : Int32) ≤ v3 then (
      some v2
    ) else (
      (f_X4_isInStep v3 v1 σ).bind fun q1 =>
      if q1 = 0 then (
        f_X4_countInStep_L4 N σ n v1 v2 (v3 + 1)
      ) else (
        ck_ (fb_in v3 4) <|
        nm_ (v2 + (σ.1 10 v3.toNatClampNeg)) fun x2 =>
        f_X4_countInStep_L4 N σ n v1 x2 (v3 + 1)
      )
    )
def f_X4_countInStep (N : Nat) (a1 : Int32) (σ : fb_S) : Option Int32 :=
  f_X4_countInStep_L4 N σ N a1 (0 : Int32) (0 : Int32)
set_option maxHeartbeats 4000000 in
set_option maxRecDepth 100000 in
theorem w_X4_countInStep_L4 (X : fb_X p m c cX4_countInStep 4 s args RX4 g ks (fb_A g ks)) (hks : ∀ k ∈ ([6, 8, 9, 10] : List Nat), k ∈ ks) (hr : meth.sig.returnType = (some .int)) (hlk : meth.locks = false) (N : Nat) (σ : fb_S)  {res : Int32} : ∀ (n : Nat) (v1 : Int32) (v2 : Int32) (v3 : Int32) (H : Heap) (locs : List Loc) (ls : Array Slot), fb_H g ks (fb_A g ks) s.heap σ H locs → lv_has ls 4 [(0, .ref (g.1 6)), (1, .int v1), (2, .int v2), (3, .int v3)] → f_X4_countInStep_L4 N σ n v1 v2 v3 = some res → W p l e (fb_R 1 22) s m args below meth c H locs 0 0 (MQ below (fb_Qi g ks res σ) args s 0 0 (fb_A g ks)) (F0 m 4 ls []) := by
  have hx := X.1.1
  have hb := X.1.2.1
  intro n
  induction n with
  | zero => intro v1 v2 v3 H locs ls h hl hf; cases hf
  | succ n ih =>
    intro v1 v2 v3 H locs ls h hl hf
    unfold f_X4_countInStep_L4 at hf
    refine lv_iload_n hx hb dX4_countInStep_4 rfl (lv_at hl 3 rfl) ?_
    refine lv_iconst hx hb dX4_countInStep_5 ki_4 ?_
    refine lv_icmp_ge hx hb dX4_countInStep_6 (tgt := 33) (by decide) (fun hc => ?_) (fun hc => ?_)
    · have hf := if_t hc hf
      refine lv_iload_n hx hb dX4_countInStep_33 rfl (lv_at hl 2 rfl) ?_
      have e9 := Option.some.inj hf
      subst e9
      exact fb_ir X h hr hlk dX4_countInStep_34
    · have hf := if_f hc hf
      refine lv_aload_n hx hb dX4_countInStep_9 rfl (lv_at hl 0 rfl) ?_
      refine lv_iload_n hx hb dX4_countInStep_10 rfl (lv_at hl 3 rfl) ?_
      refine lv_iload_n hx hb dX4_countInStep_11 rfl (lv_at hl 1 rfl) ?_
      obtain ⟨q1, hq1, hf⟩ := bd_s hf
      refine fb_ci X h (fb_runV (As := [.int v3, .int v1]) (rest := []) (k := 6) X h (c_X4_isInStep l X.2.2.1 (fun k hk => hks k ((by decide : ∀ k ∈ ([6, 8, 9] : List Nat), k ∈ ([6, 8, 9, 10] : List Nat)) k hk)) v3 v1 σ hq1) mf_yX4_isInStep lm_RX4_24 (hks 6 (by decide)) rfl rfl ⟨Nat.le_of_ble_eq_true rfl, Nat.le_of_ble_eq_true rfl⟩ ⟨Nat.le_refl _, Nat.le_refl _⟩ rfl hl.1 rfl (Nat.le_of_ble_eq_true rfl) dX4_countInStep_12) (fun H locs h => ?_)
      refine lv_if_eq hx hb dX4_countInStep_15 (tgt := 27) (by decide) (fun hc => ?_) (fun hc => ?_)
      · have hf := if_t hc hf
        refine lv_iinc hx hb dX4_countInStep_27 hl (k := 3) rfl (kinc_1 _) (by decide) (lv' := [(3, .int (v3 + 1)), (0, .ref (g.1 6)), (1, .int v1), (2, .int v2)]) rfl (fun ls hl => ?_)
        refine lv_goto hx hb dX4_countInStep_30 (tgt := 4) (by decide) ?_
        exact ih v1 v2 (v3 + 1) _ _ _ h (lv_sub hl [1, 2, 3, 0] rfl) hf
      · have hf := if_f hc hf
        refine lv_iload_n hx hb dX4_countInStep_18 rfl (lv_at hl 2 rfl) ?_
        refine lv_aload_n hx hb dX4_countInStep_19 rfl (lv_at hl 0 rfl) ?_
        refine gt_RX4_21 X h (hks 6 (by decide)) dX4_countInStep_20 ?_
        refine lv_iload_n hx hb dX4_countInStep_23 rfl (lv_at hl 3 rfl) ?_
        obtain ⟨hi0, hf⟩ := ck_s hf
        refine fb_iald X h (hks 10 (by decide)) rfl hi0 dX4_countInStep_24 ?_
        refine lv_iadd hx hb dX4_countInStep_25 ?_
        obtain ⟨x2, ex2, hf⟩ := nm_s hf
        refine fb_topi ex2 ?_
        refine lv_istore_n hx hb dX4_countInStep_26 rfl hl (by decide) (lv' := [(2, .int x2), (0, .ref (g.1 6)), (1, .int v1), (3, .int v3)]) rfl (fun ls hl => ?_)
        refine lv_iinc hx hb dX4_countInStep_27 hl (k := 3) rfl (kinc_1 _) (by decide) (lv' := [(3, .int (v3 + 1)), (2, .int x2), (0, .ref (g.1 6)), (1, .int v1)]) rfl (fun ls hl => ?_)
        refine lv_goto hx hb dX4_countInStep_30 (tgt := 4) (by decide) ?_
        exact ih v1 x2 (v3 + 1) _ _ _ h (lv_sub hl [2, 3, 1, 0] rfl) hf
set_option maxHeartbeats 4000000 in
set_option maxRecDepth 100000 in
theorem c_X4_countInStep (l : Launch) {g : fb_G} {ks : List Nat} (hI : fb_I g ks) (hks : ∀ k ∈ ([6, 8, 9, 10] : List Nat), k ∈ ks) (N : Nat) (a1 : Int32) (σ : fb_S) {res : Int32} (hf : f_X4_countInStep N a1 σ = some res) : fb_M l yX4_countInStep cX4_countInStep 4 (some .int) 1 22 g ks [.ref (g.1 6), .int a1] σ (fb_Qi g ks res σ) := by
  refine fb_met (by decide +kernel) hI (Nat.le_of_ble_eq_true rfl) (fun p e s m below meth c ls X h hr hlk hl => ?_)
  have X : fb_X p m c cX4_countInStep 4 s _ RX4 g ks (fb_A g ks) := X
  have hl : lv_has ls 4 [(0, .ref (g.1 6)), (1, .int a1)] := hl
  have hx := X.1.1
  have hb := X.1.2.1
  unfold f_X4_countInStep at hf
  refine lv_iconst hx hb dX4_countInStep_0 ki_0 ?_
  refine lv_istore_n hx hb dX4_countInStep_1 rfl hl (by decide) (lv' := [(2, .int (0)), (0, .ref (g.1 6)), (1, .int a1)]) rfl (fun ls hl => ?_)
  refine lv_iconst hx hb dX4_countInStep_2 ki_0 ?_
  refine lv_istore_n hx hb dX4_countInStep_3 rfl hl (by decide) (lv' := [(3, .int (0)), (2, .int (0)), (0, .ref (g.1 6)), (1, .int a1)]) rfl (fun ls hl => ?_)
  exact w_X4_countInStep_L4 X hks hr hlk N σ N a1 (0 : Int32) (0 : Int32) _ _ _ h (lv_sub hl [2, 3, 1, 0] rfl) hf
def f_X5_inStep (N : Nat) (a1 : Int32) (σ : fb_S) : Option Int32 :=
  (f_X5_isSway a1).bind fun q1 =>
  if q1 = 0 then (
    some (-2 : Int32)
  ) else (
    (f_X4_countInStep N a1 σ).bind fun q2 =>
    some q2
  )
set_option maxHeartbeats 4000000 in
set_option maxRecDepth 100000 in
theorem c_X5_inStep (l : Launch) {g : fb_G} {ks : List Nat} (hI : fb_I g ks) (hks : ∀ k ∈ ([0, 6, 8, 9, 10] : List Nat), k ∈ ks) (N : Nat) (a1 : Int32) (σ : fb_S) {res : Int32} (hf : f_X5_inStep N a1 σ = some res) : fb_M l yX5_inStep cX5_inStep 2 (some .int) 2 45 g ks [.ref (g.1 0), .int a1] σ (fb_Qi g ks res σ) := by
  refine fb_met (by decide +kernel) hI (Nat.le_of_ble_eq_true rfl) (fun p e s m below meth c ls X h hr hlk hl => ?_)
  have X : fb_X p m c cX5_inStep 2 s _ RX5 g ks (fb_A g ks) := X
  have hl : lv_has ls 2 [(0, .ref (g.1 0)), (1, .int a1)] := hl
  have hx := X.1.1
  have hb := X.1.2.1
  unfold f_X5_inStep at hf
  refine lv_iload_n hx hb dX5_inStep_0 rfl (lv_at hl 1 rfl) ?_
  obtain ⟨q1, hq1, hf⟩ := bd_s hf
  refine fb_ci X h (fb_runS (As := [.int a1]) (rest := []) X h (c_X5_isSway l X.2.2.1 (fun k hk => absurd hk List.not_mem_nil) a1 σ hq1) mf_yX5_isSway lm_RX5_88 ⟨Nat.le_of_ble_eq_true rfl, Nat.le_of_ble_eq_true rfl⟩ ⟨Nat.le_refl _, Nat.le_refl _⟩ rfl hl.1 rfl (Nat.le_of_ble_eq_true rfl) dX5_inStep_1) (fun H locs h => ?_)
  refine lv_if_eq hx hb dX5_inStep_4 (tgt := 18) (by decide) (fun hc => ?_) (fun hc => ?_)
  · have hf := if_t hc hf
    refine lv_bipush hx hb dX5_inStep_18 kb_m2 ?_
    have e9 := Option.some.inj hf
    subst e9
    exact fb_ir X h hr hlk dX5_inStep_20
  · have hf := if_f hc hf
    refine lv_aload_n hx hb dX5_inStep_7 rfl (lv_at hl 0 rfl) ?_
    refine gt_RX5_23 X h (hks 0 (by decide)) dX5_inStep_8 ?_
    refine lv_iload_n hx hb dX5_inStep_11 rfl (lv_at hl 1 rfl) ?_
    obtain ⟨q2, hq2, hf⟩ := bd_s hf
    refine fb_ci X h (fb_runVN (As := [.int a1]) (rest := []) (k := 6) X h (c_X4_countInStep l X.2.2.1 (fun k hk => hks k ((by decide : ∀ k ∈ ([6, 8, 9, 10] : List Nat), k ∈ ([0, 6, 8, 9, 10] : List Nat)) k hk)) N a1 σ hq2) mf_yX4_countInStep lm_RX5_134 (hks 6 (by decide)) rfl rfl ⟨Nat.le_of_ble_eq_true rfl, Nat.le_of_ble_eq_true rfl⟩ ⟨Nat.le_refl _, Nat.le_refl _⟩ rfl hl.1 rfl (Nat.le_of_ble_eq_true rfl) dX5_inStep_12) (fun H locs h => ?_)
    refine lv_goto hx hb dX5_inStep_15 (tgt := 20) (by decide) ?_
    have e9 := Option.some.inj hf
    subst e9
    exact fb_ir X h hr hlk dX5_inStep_20
def f_X1_putNew (a1 : Int32) (a2 : Int32) (a3 : Int32) (σ : fb_S) : Option (Int32 × fb_S) :=
  (f_X1_forgetChoice σ).bind fun q1 =>
  ck_ (fb_in (q1.1 11 5) 10) <|
  nm_ (fb_up q1 12 ((q1.1 11 5).toNatClampNeg) a1) fun t2 =>
  ck_ (fb_in (t2.1 11 5) 10) <|
  nm_ (fb_up t2 13 ((t2.1 11 5).toNatClampNeg) a2) fun t3 =>
  ck_ (fb_in (t3.1 11 5) 10) <|
  nm_ (fb_up t3 14 ((t3.1 11 5).toNatClampNeg) a3) fun t4 =>
  nm_ (fb_up t4 11 5 ((t4.1 11 5) + (1 : Int32))) fun t5 =>
  some ((t5.1 11 5) - (1 : Int32), t5)
set_option maxHeartbeats 4000000 in
set_option maxRecDepth 100000 in
theorem c_X1_putNew (l : Launch) {g : fb_G} {ks : List Nat} (hI : fb_I g ks) (hks : ∀ k ∈ ([11, 12, 13, 14] : List Nat), k ∈ ks) (a1 : Int32) (a2 : Int32) (a3 : Int32) (σ : fb_S) {res : (Int32 × fb_S)} (hf : f_X1_putNew a1 a2 a3 σ = some res) : fb_M l yX1_putNew cX1_putNew 4 (some .int) 1 20 g ks [.ref (g.1 11), .int a1, .int a2, .int a3] σ (fb_Qi g ks res.1 res.2) := by
  refine fb_met (by decide +kernel) hI (Nat.le_of_ble_eq_true rfl) (fun p e s m below meth c ls X h hr hlk hl => ?_)
  have X : fb_X p m c cX1_putNew 4 s _ RX1 g ks (fb_A g ks) := X
  have hl : lv_has ls 4 [(0, .ref (g.1 11)), (1, .int a1), (2, .int a2), (3, .int a3)] := hl
  have hx := X.1.1
  have hb := X.1.2.1
  unfold f_X1_putNew at hf
  refine lv_aload_n hx hb dX1_putNew_0 rfl (lv_at hl 0 rfl) ?_
  obtain ⟨q1, hq1, hf⟩ := bd_s hf
  refine fb_cv X h (fb_runV (As := []) (rest := []) (k := 11) X h (c_X1_forgetChoice l X.2.2.1 (fun k hk => hks k ((by decide : ∀ k ∈ ([11] : List Nat), k ∈ ([11, 12, 13, 14] : List Nat)) k hk))  σ hq1) mf_yX1_forgetChoice lm_RX1_31 (hks 11 (by decide)) rfl rfl ⟨Nat.le_of_ble_eq_true rfl, Nat.le_of_ble_eq_true rfl⟩ ⟨Nat.le_refl _, Nat.le_refl _⟩ rfl hl.1 rfl (Nat.le_of_ble_eq_true rfl) dX1_putNew_1) (fun H locs h => ?_)
  refine lv_aload_n hx hb dX1_putNew_4 rfl (lv_at hl 0 rfl) ?_
  refine gt_RX1_11 X h (hks 11 (by decide)) dX1_putNew_5 ?_
  refine lv_aload_n hx hb dX1_putNew_8 rfl (lv_at hl 0 rfl) ?_
  refine gt_RX1_34 X h (hks 11 (by decide)) dX1_putNew_9 ?_
  refine lv_iload_n hx hb dX1_putNew_12 rfl (lv_at hl 1 rfl) ?_
  obtain ⟨hi0, hf⟩ := ck_s hf
  obtain ⟨t2, et2, hf⟩ := nm_s hf
  refine fb_iast X h (hks 12 (by decide)) (fun _ => rfl) hi0 dX1_putNew_13 (fun H locs h => ?_)
  have h := fb_H.nm et2 h
  refine lv_aload_n hx hb dX1_putNew_14 rfl (lv_at hl 0 rfl) ?_
  refine gt_RX1_15 X h (hks 11 (by decide)) dX1_putNew_15 ?_
  refine lv_aload_n hx hb dX1_putNew_18 rfl (lv_at hl 0 rfl) ?_
  refine gt_RX1_34 X h (hks 11 (by decide)) dX1_putNew_19 ?_
  refine lv_iload_n hx hb dX1_putNew_22 rfl (lv_at hl 2 rfl) ?_
  obtain ⟨hi0, hf⟩ := ck_s hf
  obtain ⟨t3, et3, hf⟩ := nm_s hf
  refine fb_iast X h (hks 13 (by decide)) (fun _ => rfl) hi0 dX1_putNew_23 (fun H locs h => ?_)
  have h := fb_H.nm et3 h
  refine lv_aload_n hx hb dX1_putNew_24 rfl (lv_at hl 0 rfl) ?_
  refine gt_RX1_18 X h (hks 11 (by decide)) dX1_putNew_25 ?_
  refine lv_aload_n hx hb dX1_putNew_28 rfl (lv_at hl 0 rfl) ?_
  refine gt_RX1_34 X h (hks 11 (by decide)) dX1_putNew_29 ?_
  refine lv_iload_n hx hb dX1_putNew_32 rfl (lv_at hl 3 rfl) ?_
  obtain ⟨hi0, hf⟩ := ck_s hf
  obtain ⟨t4, et4, hf⟩ := nm_s hf
  refine fb_iast X h (hks 14 (by decide)) (fun _ => rfl) hi0 dX1_putNew_33 (fun H locs h => ?_)
  have h := fb_H.nm et4 h
  refine lv_aload_n hx hb dX1_putNew_34 rfl (lv_at hl 0 rfl) ?_
  refine lv_dup hx hb dX1_putNew_35 rfl ?_
  refine gt_RX1_34 X h (hks 11 (by decide)) dX1_putNew_36 ?_
  refine lv_iconst hx hb dX1_putNew_39 ki_1 ?_
  refine lv_iadd hx hb dX1_putNew_40 ?_
  obtain ⟨t5, et5, hf⟩ := nm_s hf
  refine pt_RX1_34 X h (hks 11 (by decide)) dX1_putNew_41 (fun H locs h => ?_)
  have h := fb_H.nm et5 h
  refine lv_aload_n hx hb dX1_putNew_44 rfl (lv_at hl 0 rfl) ?_
  refine gt_RX1_34 X h (hks 11 (by decide)) dX1_putNew_45 ?_
  refine lv_iconst hx hb dX1_putNew_48 ki_1 ?_
  refine lv_isub hx hb dX1_putNew_49 ?_
  have e9 := Option.some.inj hf
  subst e9
  exact fb_ir X h hr hlk dX1_putNew_50
def f_X5_damper (a1 : Int32) (a2 : Int32) (a3 : Int32) (σ : fb_S) : Option (Int32 × fb_S) :=
  (f_X5_isWithin a1 (1 : Int32) (500 : Int32)).bind fun q1 =>
  if q1 = 0 then (
    some ((-2 : Int32), σ)
  ) else (
    (f_X5_isWithin a2 (0 : Int32) (9999 : Int32)).bind fun q2 =>
    if q2 = 0 then (
      some ((-2 : Int32), σ)
    ) else (
      (f_X5_isWithin a3 (0 : Int32) (99 : Int32)).bind fun q3 =>
      if q3 = 0 then (
        some ((-2 : Int32), σ)
      ) else (
        if (10 : Int32) ≤ (σ.1 11 5) then (
          some ((-4 : Int32), σ)
        ) else (
          (f_X1_putNew a1 a2 a3 σ).bind fun q4 =>
          some (q4.1, q4.2)
        )
      )
    )
  )
set_option maxHeartbeats 4000000 in
set_option maxRecDepth 100000 in
theorem c_X5_damper (l : Launch) {g : fb_G} {ks : List Nat} (hI : fb_I g ks) (hks : ∀ k ∈ ([0, 11, 12, 13, 14] : List Nat), k ∈ ks) (a1 : Int32) (a2 : Int32) (a3 : Int32) (σ : fb_S) {res : (Int32 × fb_S)} (hf : f_X5_damper a1 a2 a3 σ = some res) : fb_M l yX5_damper cX5_damper 4 (some .int) 2 43 g ks [.ref (g.1 0), .int a1, .int a2, .int a3] σ (fb_Qi g ks res.1 res.2) := by
  refine fb_met (by decide +kernel) hI (Nat.le_of_ble_eq_true rfl) (fun p e s m below meth c ls X h hr hlk hl => ?_)
  have X : fb_X p m c cX5_damper 4 s _ RX5 g ks (fb_A g ks) := X
  have hl : lv_has ls 4 [(0, .ref (g.1 0)), (1, .int a1), (2, .int a2), (3, .int a3)] := hl
  have hx := X.1.1
  have hb := X.1.2.1
  unfold f_X5_damper at hf
  refine lv_iload_n hx hb dX5_damper_0 rfl (lv_at hl 1 rfl) ?_
  refine lv_iconst hx hb dX5_damper_1 ki_1 ?_
  refine lv_sipush hx hb dX5_damper_2 ks_500 ?_
  obtain ⟨q1, hq1, hf⟩ := bd_s hf
  refine fb_ci X h (fb_runS (As := [.int a1, .int (1), .int (500)]) (rest := []) X h (c_X5_isWithin l X.2.2.1 (fun k hk => absurd hk List.not_mem_nil) a1 (1 : Int32) (500 : Int32) σ hq1) mf_yX5_isWithin lm_RX5_48 ⟨Nat.le_of_ble_eq_true rfl, Nat.le_of_ble_eq_true rfl⟩ ⟨Nat.le_refl _, Nat.le_refl _⟩ rfl hl.1 rfl (Nat.le_of_ble_eq_true rfl) dX5_damper_5) (fun H locs h => ?_)
  refine lv_if_eq hx hb dX5_damper_8 (tgt := 32) (by decide) (fun hc => ?_) (fun hc => ?_)
  · have hf := if_t hc hf
    refine lv_bipush hx hb dX5_damper_32 kb_m2 ?_
    have e9 := Option.some.inj hf
    subst e9
    exact fb_ir X h hr hlk dX5_damper_34
  · have hf := if_f hc hf
    refine lv_iload_n hx hb dX5_damper_11 rfl (lv_at hl 2 rfl) ?_
    refine lv_iconst hx hb dX5_damper_12 ki_0 ?_
    refine lv_sipush hx hb dX5_damper_13 ks_9999 ?_
    obtain ⟨q2, hq2, hf⟩ := bd_s hf
    refine fb_ci X h (fb_runS (As := [.int a2, .int (0), .int (9999)]) (rest := []) X h (c_X5_isWithin l X.2.2.1 (fun k hk => absurd hk List.not_mem_nil) a2 (0 : Int32) (9999 : Int32) σ hq2) mf_yX5_isWithin lm_RX5_48 ⟨Nat.le_of_ble_eq_true rfl, Nat.le_of_ble_eq_true rfl⟩ ⟨Nat.le_refl _, Nat.le_refl _⟩ rfl hl.1 rfl (Nat.le_of_ble_eq_true rfl) dX5_damper_16) (fun H locs h => ?_)
    refine lv_if_eq hx hb dX5_damper_19 (tgt := 32) (by decide) (fun hc => ?_) (fun hc => ?_)
    · have hf := if_t hc hf
      refine lv_bipush hx hb dX5_damper_32 kb_m2 ?_
      have e9 := Option.some.inj hf
      subst e9
      exact fb_ir X h hr hlk dX5_damper_34
    · have hf := if_f hc hf
      refine lv_iload_n hx hb dX5_damper_22 rfl (lv_at hl 3 rfl) ?_
      refine lv_iconst hx hb dX5_damper_23 ki_0 ?_
      refine lv_bipush hx hb dX5_damper_24 kb_99 ?_
      obtain ⟨q3, hq3, hf⟩ := bd_s hf
      refine fb_ci X h (fb_runS (As := [.int a3, .int (0), .int (99)]) (rest := []) X h (c_X5_isWithin l X.2.2.1 (fun k hk => absurd hk List.not_mem_nil) a3 (0 : Int32) (99 : Int32) σ hq3) mf_yX5_isWithin lm_RX5_48 ⟨Nat.le_of_ble_eq_true rfl, Nat.le_of_ble_eq_true rfl⟩ ⟨Nat.le_refl _, Nat.le_refl _⟩ rfl hl.1 rfl (Nat.le_of_ble_eq_true rfl) dX5_damper_26) (fun H locs h => ?_)
      refine lv_if_ne hx hb dX5_damper_29 (tgt := 35) (by decide) (fun hc => ?_) (fun hc => ?_)
      · have hf := if_f hc hf
        refine lv_aload_n hx hb dX5_damper_35 rfl (lv_at hl 0 rfl) ?_
        refine gt_RX5_30 X h (hks 0 (by decide)) dX5_damper_36 ?_
        refine gt_RX5_137 X h (hks 11 (by decide)) dX5_damper_39 ?_
        refine lv_bipush hx hb dX5_damper_42 kb_10 ?_
        refine lv_icmp_ge hx hb dX5_damper_44 (tgt := 60) (by decide) (fun hc => ?_) (fun hc => ?_)
        · have hf := if_t hc hf
          refine lv_bipush hx hb dX5_damper_60 kb_m4 ?_
          have e9 := Option.some.inj hf
          subst e9
          exact fb_ir X h hr hlk dX5_damper_62
        · have hf := if_f hc hf
          refine lv_aload_n hx hb dX5_damper_47 rfl (lv_at hl 0 rfl) ?_
          refine gt_RX5_30 X h (hks 0 (by decide)) dX5_damper_48 ?_
          refine lv_iload_n hx hb dX5_damper_51 rfl (lv_at hl 1 rfl) ?_
          refine lv_iload_n hx hb dX5_damper_52 rfl (lv_at hl 2 rfl) ?_
          refine lv_iload_n hx hb dX5_damper_53 rfl (lv_at hl 3 rfl) ?_
          obtain ⟨q4, hq4, hf⟩ := bd_s hf
          refine fb_ci X h (fb_runVN (As := [.int a1, .int a2, .int a3]) (rest := []) (k := 11) X h (c_X1_putNew l X.2.2.1 (fun k hk => hks k ((by decide : ∀ k ∈ ([11, 12, 13, 14] : List Nat), k ∈ ([0, 11, 12, 13, 14] : List Nat)) k hk)) a1 a2 a3 σ hq4) mf_yX1_putNew lm_RX5_140 (hks 11 (by decide)) rfl rfl ⟨Nat.le_of_ble_eq_true rfl, Nat.le_of_ble_eq_true rfl⟩ ⟨Nat.le_refl _, Nat.le_refl _⟩ rfl hl.1 rfl (Nat.le_of_ble_eq_true rfl) dX5_damper_54) (fun H locs h => ?_)
          refine lv_goto hx hb dX5_damper_57 (tgt := 62) (by decide) ?_
          have e9 := Option.some.inj hf
          subst e9
          exact fb_ir X h hr hlk dX5_damper_62
      · have hf := if_t hc hf
        refine lv_bipush hx hb dX5_damper_32 kb_m2 ?_
        have e9 := Option.some.inj hf
        subst e9
        exact fb_ir X h hr hlk dX5_damper_34
def f_X5_build (a1 : Int32) (a2 : Int32) (σ : fb_S) : Option (Int32 × fb_S) :=
  (f_X5_isWithin a1 (0 : Int32) ((σ.1 11 5) - (1 : Int32))).bind fun q1 =>
  if q1 = 0 then (
    some ((-1 : Int32), σ)
  ) else (
    (f_X5_asNumber a2).bind fun q2 =>
    (f_X5_exchange 15 a1 q2 σ).bind fun q3 =>
    some (q3.1, q3.2)
  )
set_option maxHeartbeats 4000000 in
set_option maxRecDepth 100000 in
theorem c_X5_build (l : Launch) {g : fb_G} {ks : List Nat} (hI : fb_I g ks) (hks : ∀ k ∈ ([0, 11, 15] : List Nat), k ∈ ks) (a1 : Int32) (a2 : Int32) (σ : fb_S) {res : (Int32 × fb_S)} (hf : f_X5_build a1 a2 σ = some res) : fb_M l yX5_build cX5_build 3 (some .int) 1 23 g ks [.ref (g.1 0), .int a1, .int a2] σ (fb_Qi g ks res.1 res.2) := by
  refine fb_met (by decide +kernel) hI (Nat.le_of_ble_eq_true rfl) (fun p e s m below meth c ls X h hr hlk hl => ?_)
  have X : fb_X p m c cX5_build 3 s _ RX5 g ks (fb_A g ks) := X
  have hl : lv_has ls 3 [(0, .ref (g.1 0)), (1, .int a1), (2, .int a2)] := hl
  have hx := X.1.1
  have hb := X.1.2.1
  unfold f_X5_build at hf
  refine lv_iload_n hx hb dX5_build_0 rfl (lv_at hl 1 rfl) ?_
  refine lv_iconst hx hb dX5_build_1 ki_0 ?_
  refine lv_aload_n hx hb dX5_build_2 rfl (lv_at hl 0 rfl) ?_
  refine gt_RX5_30 X h (hks 0 (by decide)) dX5_build_3 ?_
  refine gt_RX5_137 X h (hks 11 (by decide)) dX5_build_6 ?_
  refine lv_iconst hx hb dX5_build_9 ki_1 ?_
  refine lv_isub hx hb dX5_build_10 ?_
  obtain ⟨q1, hq1, hf⟩ := bd_s hf
  refine fb_ci X h (fb_runS (As := [.int a1, .int (0), .int ((σ.1 11 5) - (1 : Int32))]) (rest := []) X h (c_X5_isWithin l X.2.2.1 (fun k hk => absurd hk List.not_mem_nil) a1 (0 : Int32) ((σ.1 11 5) - (1 : Int32)) σ hq1) mf_yX5_isWithin lm_RX5_48 ⟨Nat.le_of_ble_eq_true rfl, Nat.le_of_ble_eq_true rfl⟩ ⟨Nat.le_refl _, Nat.le_refl _⟩ rfl hl.1 rfl (Nat.le_of_ble_eq_true rfl) dX5_build_11) (fun H locs h => ?_)
  refine lv_if_ne hx hb dX5_build_14 (tgt := 19) (by decide) (fun hc => ?_) (fun hc => ?_)
  · have hf := if_f hc hf
    refine lv_aload_n hx hb dX5_build_19 rfl (lv_at hl 0 rfl) ?_
    refine gt_RX5_30 X h (hks 0 (by decide)) dX5_build_20 ?_
    refine gt_RX5_143 X h (hks 11 (by decide)) dX5_build_23 ?_
    refine lv_iload_n hx hb dX5_build_26 rfl (lv_at hl 1 rfl) ?_
    refine lv_iload_n hx hb dX5_build_27 rfl (lv_at hl 2 rfl) ?_
    obtain ⟨q2, hq2, hf⟩ := bd_s hf
    refine fb_ci X h (fb_runS (As := [.int a2]) (rest := [.int a1, .ref (g.1 15)]) X h (c_X5_asNumber l X.2.2.1 (fun k hk => absurd hk List.not_mem_nil) a2 σ hq2) mf_yX5_asNumber lm_RX5_81 ⟨Nat.le_of_ble_eq_true rfl, Nat.le_of_ble_eq_true rfl⟩ ⟨Nat.le_refl _, Nat.le_refl _⟩ rfl hl.1 rfl (Nat.le_of_ble_eq_true rfl) dX5_build_28) (fun H locs h => ?_)
    obtain ⟨q3, hq3, hf⟩ := bd_s hf
    refine fb_ci X h (fb_runS (As := [.ref (g.1 15), .int a1, .int q2]) (rest := []) X h (c_X5_exchange l X.2.2.1 (fun k hk => absurd hk List.not_mem_nil) (ka := 15) (by decide) (hks 15 (by decide)) 15 a1 q2 σ hq3) mf_yX5_exchange lm_RX5_63 ⟨Nat.le_of_ble_eq_true rfl, Nat.le_of_ble_eq_true rfl⟩ ⟨Nat.le_refl _, Nat.le_refl _⟩ rfl hl.1 rfl (Nat.le_of_ble_eq_true rfl) dX5_build_31) (fun H locs h => ?_)
    have e9 := Option.some.inj hf
    subst e9
    exact fb_ir X h hr hlk dX5_build_34
  · have hf := if_t hc hf
    refine lv_iconst hx hb dX5_build_17 ki_m1 ?_
    have e9 := Option.some.inj hf
    subst e9
    exact fb_ir X h hr hlk dX5_build_18
def f_J7_fill_d0a16_L6 (ka : Nat) (N : Nat) : Nat → Int64 → Int32 → Int32 → fb_S → Option fb_S
  | 0, _, _, _, _ => none
  | n + 1, v1, v3, v4, σ => 
    if v4 ≤ v3 then (
      some σ
    ) else (
      ck_ (fb_in v3 (fb_len ka)) <|
      nm_ (fb_upH σ ka (v3.toNatClampNeg) v1) fun t1 =>
      f_J7_fill_d0a16_L6 ka N n v1 (v3 + 1) v4 t1
    )
def f_J7_fill_d0a16 (N : Nat) (ka : Nat) (a2 : Int64) (σ : fb_S) : Option fb_S :=
  nm_ (nI (fb_len ka)) fun x2 =>
  f_J7_fill_d0a16_L6 ka N N a2 (0 : Int32) x2 σ
set_option maxHeartbeats 4000000 in
set_option maxRecDepth 100000 in
theorem w_J7_fill_d0a16_L6 (X : fb_X p m c cJ7_fill_d0a16 5 s args RJ7 g ks (fb_A g ks)) (hks : ∀ k ∈ ([] : List Nat), k ∈ ks) (hr : meth.sig.returnType = none) (hlk : meth.locks = false) {ka : Nat} (hka : ka ∈ fb_lngs) (hkk : ka ∈ ks) (N : Nat)  {res : fb_S} : ∀ (n : Nat) (v1 : Int64) (v3 : Int32) (v4 : Int32) (σ : fb_S) (H : Heap) (locs : List Loc) (ls : Array Slot), fb_H g ks (fb_A g ks) s.heap σ H locs → lv_has ls 5 [(0, .ref (g.1 ka)), (1, .long v1), (3, .int v3), (4, .int v4)] → f_J7_fill_d0a16_L6 ka N n v1 v3 v4 σ = some res → W p l e (fb_R 0 0) s m args below meth c H locs 0 0 (MQ below (fb_Qv g ks res) args s 0 0 (fb_A g ks)) (F0 m 6 ls []) := by
  have hx := X.1.1
  have hb := X.1.2.1
  intro n
  induction n with
  | zero => intro v1 v3 v4 σ H locs ls h hl hf; cases hf
  | succ n ih =>
    intro v1 v3 v4 σ H locs ls h hl hf
    unfold f_J7_fill_d0a16_L6 at hf
    refine lv_iload_n hx hb dJ7_fill_d0a16_6 rfl (lv_at hl 2 rfl) ?_
    refine lv_iload hx hb dJ7_fill_d0a16_7 (lv_at hl 3 rfl) ?_
    refine lv_icmp_ge hx hb dJ7_fill_d0a16_9 (tgt := 22) (by decide) (fun hc => ?_) (fun hc => ?_)
    · have hf := if_t hc hf
      have e9 := Option.some.inj hf
      subst e9
      exact fb_vr X h hr hlk dJ7_fill_d0a16_22
    · have hf := if_f hc hf
      refine lv_aload_n hx hb dJ7_fill_d0a16_12 rfl (lv_at hl 0 rfl) ?_
      refine lv_iload_n hx hb dJ7_fill_d0a16_13 rfl (lv_at hl 2 rfl) ?_
      refine lv_lload_n hx hb dJ7_fill_d0a16_14 rfl (lv_at hl 1 rfl) ?_
      obtain ⟨hi0, hf⟩ := ck_s hf
      obtain ⟨t1, et1, hf⟩ := nm_s hf
      refine fb_hast X h hkk (fun r => fb_lng hka _ r _) hi0 dJ7_fill_d0a16_15 (fun H locs h => ?_)
      have h := fb_H.nm et1 h
      refine lv_iinc hx hb dJ7_fill_d0a16_16 hl (k := 2) rfl (kinc_1 _) (by decide) (lv' := [(3, .int (v3 + 1)), (0, .ref (g.1 ka)), (1, .long v1), (4, .int v4)]) rfl (fun ls hl => ?_)
      refine lv_goto hx hb dJ7_fill_d0a16_19 (tgt := 6) (by decide) ?_
      exact ih v1 (v3 + 1) v4 t1 _ _ _ h (lv_sub hl [1, 2, 0, 3] rfl) hf
set_option maxHeartbeats 4000000 in
set_option maxRecDepth 100000 in
theorem c_J7_fill_d0a16 (l : Launch) {g : fb_G} {ks : List Nat} (hI : fb_I g ks) (hks : ∀ k ∈ ([] : List Nat), k ∈ ks) {ka : Nat} (hka : ka ∈ fb_lngs) (hkk : ka ∈ ks) (N : Nat) (ka9 : Nat) (a2 : Int64) (σ : fb_S) {res : fb_S} (hf : f_J7_fill_d0a16 N ka a2 σ = some res) : fb_M l yJ7_fill_d0a16 cJ7_fill_d0a16 5 none 0 0 g ks [.ref (g.1 ka), .long a2] σ (fb_Qv g ks res) := by
  refine fb_met (by decide +kernel) hI (Nat.le_of_ble_eq_true rfl) (fun p e s m below meth c ls X h hr hlk hl => ?_)
  have X : fb_X p m c cJ7_fill_d0a16 5 s _ RJ7 g ks (fb_A g ks) := X
  have hl : lv_has ls 5 [(0, .ref (g.1 ka)), (1, .long a2)] := hl
  have hx := X.1.1
  have hb := X.1.2.1
  unfold f_J7_fill_d0a16 at hf
  refine lv_iconst hx hb dJ7_fill_d0a16_0 ki_0 ?_
  refine lv_istore_n hx hb dJ7_fill_d0a16_1 rfl hl (by decide) (lv' := [(3, .int (0)), (0, .ref (g.1 ka)), (1, .long a2)]) rfl (fun ls hl => ?_)
  refine lv_aload_n hx hb dJ7_fill_d0a16_2 rfl (lv_at hl 1 rfl) ?_
  refine fb_alenH X h hkk (fb_lng hka _ _ _) dJ7_fill_d0a16_3 ?_
  obtain ⟨x2, ex2, hf⟩ := nm_s hf
  refine fb_topi ex2 ?_
  refine lv_istore hx hb dJ7_fill_d0a16_4 hl (by decide) (lv' := [(4, .int x2), (3, .int (0)), (0, .ref (g.1 ka)), (1, .long a2)]) rfl (fun ls hl => ?_)
  exact w_J7_fill_d0a16_L6 X hks hr hlk hka hkk N N a2 (0 : Int32) x2 σ _ _ _ h (lv_sub hl [2, 3, 1, 0] rfl) hf
def f_X1_isIn (a1 : Int32) (a2 : Int32) (σ : fb_S) : Option Int32 :=
  if ((a2 >>> ((((σ.1 11 5) - (1 : Int32)) - a1) &&& 31)) &&& (1 : Int32)) = (1 : Int32) then (
    some (1 : Int32)
  ) else (
    some (0 : Int32)
  )
set_option maxHeartbeats 4000000 in
set_option maxRecDepth 100000 in
theorem c_X1_isIn (l : Launch) {g : fb_G} {ks : List Nat} (hI : fb_I g ks) (hks : ∀ k ∈ ([11] : List Nat), k ∈ ks) (a1 : Int32) (a2 : Int32) (σ : fb_S) {res : Int32} (hf : f_X1_isIn a1 a2 σ = some res) : fb_M l yX1_isIn cX1_isIn 3 (some .boolean) 0 0 g ks [.ref (g.1 11), .int a1, .int a2] σ (fb_Qi g ks res σ) := by
  refine fb_met (by decide +kernel) hI (Nat.le_of_ble_eq_true rfl) (fun p e s m below meth c ls X h hr hlk hl => ?_)
  have X : fb_X p m c cX1_isIn 3 s _ RX1 g ks (fb_A g ks) := X
  have hl : lv_has ls 3 [(0, .ref (g.1 11)), (1, .int a1), (2, .int a2)] := hl
  have hx := X.1.1
  have hb := X.1.2.1
  unfold f_X1_isIn at hf
  refine lv_iload_n hx hb dX1_isIn_0 rfl (lv_at hl 2 rfl) ?_
  refine lv_aload_n hx hb dX1_isIn_1 rfl (lv_at hl 0 rfl) ?_
  refine gt_RX1_34 X h (hks 11 (by decide)) dX1_isIn_2 ?_
  refine lv_iconst hx hb dX1_isIn_5 ki_1 ?_
  refine lv_isub hx hb dX1_isIn_6 ?_
  refine lv_iload_n hx hb dX1_isIn_7 rfl (lv_at hl 1 rfl) ?_
  refine lv_isub hx hb dX1_isIn_8 ?_
  refine lv_ishr hx hb dX1_isIn_9 ?_
  refine lv_iconst hx hb dX1_isIn_10 ki_1 ?_
  refine lv_iand hx hb dX1_isIn_11 ?_
  refine lv_iconst hx hb dX1_isIn_12 ki_1 ?_
  refine lv_icmp_ne hx hb dX1_isIn_13 (tgt := 20) (by decide) (fun hc => ?_) (fun hc => ?_)
  · have hf := if_f hc hf
    refine lv_iconst hx hb dX1_isIn_20 ki_0 ?_
    have e9 := Option.some.inj hf
    subst e9
    exact fb_zr (r := (0 : Int32)) X h hr rfl hlk dX1_isIn_21
  · have hf := if_t hc hf
    refine lv_iconst hx hb dX1_isIn_16 ki_1 ?_
    refine lv_goto hx hb dX1_isIn_17 (tgt := 21) (by decide) ?_
    have e9 := Option.some.inj hf
    subst e9
    exact fb_zr (r := (1 : Int32)) X h hr rfl hlk dX1_isIn_21
def f_X1_total_L5 (ka : Nat) (N : Nat) (σ : fb_S) : Nat → Int32 → Int32 → Int32 → Option Int32
  | 0, _, _, _ => none
  | n + 1, v2, v3, v4 => 
    if (σ.1 11 5) ≤ v4 then (
      some v3
    ) else (
      (f_X1_isIn v4 v2 σ).bind fun q1 =>
      if q1 = 0 then (
        f_X1_total_L5 ka N σ n v2 v3 (v4 + 1)
      ) else (
        ck_ (fb_in v4 (fb_len ka)) <|
        nm_ (v3 + (σ.1 ka v4.toNatClampNeg)) fun x2 =>
        f_X1_total_L5 ka N σ n v2 x2 (v4 + 1)
      )
    )
def f_X1_total (N : Nat) (ka : Nat) (a2 : Int32) (σ : fb_S) : Option Int32 :=
  f_X1_total_L5 ka N σ N a2 (0 : Int32) (0 : Int32)
set_option maxHeartbeats 4000000 in
set_option maxRecDepth 100000 in
theorem w_X1_total_L5 (X : fb_X p m c cX1_total 5 s args RX1 g ks (fb_A g ks)) (hks : ∀ k ∈ ([11] : List Nat), k ∈ ks) (hr : meth.sig.returnType = (some .int)) (hlk : meth.locks = false) {ka : Nat} (hka : ka ∈ fb_ints) (hkk : ka ∈ ks) (N : Nat) (σ : fb_S)  {res : Int32} : ∀ (n : Nat) (v2 : Int32) (v3 : Int32) (v4 : Int32) (H : Heap) (locs : List Loc) (ls : Array Slot), fb_H g ks (fb_A g ks) s.heap σ H locs → lv_has ls 5 [(0, .ref (g.1 11)), (1, .ref (g.1 ka)), (2, .int v2), (3, .int v3), (4, .int v4)] → f_X1_total_L5 ka N σ n v2 v3 v4 = some res → W p l e (fb_R 1 22) s m args below meth c H locs 0 0 (MQ below (fb_Qi g ks res σ) args s 0 0 (fb_A g ks)) (F0 m 5 ls []) := by
  have hx := X.1.1
  have hb := X.1.2.1
  intro n
  induction n with
  | zero => intro v2 v3 v4 H locs ls h hl hf; cases hf
  | succ n ih =>
    intro v2 v3 v4 H locs ls h hl hf
    unfold f_X1_total_L5 at hf
    refine lv_iload hx hb dX1_total_5 (lv_at hl 4 rfl) ?_
    refine lv_aload_n hx hb dX1_total_7 rfl (lv_at hl 0 rfl) ?_
    refine gt_RX1_34 X h (hks 11 (by decide)) dX1_total_8 ?_
    refine lv_icmp_ge hx hb dX1_total_11 (tgt := 37) (by decide) (fun hc => ?_) (fun hc => ?_)
    · have hf := if_t hc hf
      refine lv_iload_n hx hb dX1_total_37 rfl (lv_at hl 3 rfl) ?_
      have e9 := Option.some.inj hf
      subst e9
      exact fb_ir X h hr hlk dX1_total_38
    · have hf := if_f hc hf
      refine lv_aload_n hx hb dX1_total_14 rfl (lv_at hl 0 rfl) ?_
      refine lv_iload hx hb dX1_total_15 (lv_at hl 4 rfl) ?_
      refine lv_iload_n hx hb dX1_total_17 rfl (lv_at hl 2 rfl) ?_
      obtain ⟨q1, hq1, hf⟩ := bd_s hf
      refine fb_ci X h (fb_runV (As := [.int v4, .int v2]) (rest := []) (k := 11) X h (c_X1_isIn l X.2.2.1 (fun k hk => hks k ((by decide : ∀ k ∈ ([11] : List Nat), k ∈ ([11] : List Nat)) k hk)) v4 v2 σ hq1) mf_yX1_isIn lm_RX1_49 (hks 11 (by decide)) rfl rfl ⟨Nat.le_of_ble_eq_true rfl, Nat.le_of_ble_eq_true rfl⟩ ⟨Nat.le_refl _, Nat.le_refl _⟩ rfl hl.1 rfl (Nat.le_of_ble_eq_true rfl) dX1_total_18) (fun H locs h => ?_)
      refine lv_if_eq hx hb dX1_total_21 (tgt := 31) (by decide) (fun hc => ?_) (fun hc => ?_)
      · have hf := if_t hc hf
        refine lv_iinc hx hb dX1_total_31 hl (k := 4) rfl (kinc_1 _) (by decide) (lv' := [(4, .int (v4 + 1)), (0, .ref (g.1 11)), (1, .ref (g.1 ka)), (2, .int v2), (3, .int v3)]) rfl (fun ls hl => ?_)
        refine lv_goto hx hb dX1_total_34 (tgt := 5) (by decide) ?_
        exact ih v2 v3 (v4 + 1) _ _ _ h (lv_sub hl [1, 2, 3, 4, 0] rfl) hf
      · have hf := if_f hc hf
        refine lv_iload_n hx hb dX1_total_24 rfl (lv_at hl 3 rfl) ?_
        refine lv_aload_n hx hb dX1_total_25 rfl (lv_at hl 1 rfl) ?_
        refine lv_iload hx hb dX1_total_26 (lv_at hl 4 rfl) ?_
        obtain ⟨hi0, hf⟩ := ck_s hf
        refine fb_iald X h hkk (fb_int hka _ _ _) hi0 dX1_total_28 ?_
        refine lv_iadd hx hb dX1_total_29 ?_
        obtain ⟨x2, ex2, hf⟩ := nm_s hf
        refine fb_topi ex2 ?_
        refine lv_istore_n hx hb dX1_total_30 rfl hl (by decide) (lv' := [(3, .int x2), (0, .ref (g.1 11)), (1, .ref (g.1 ka)), (2, .int v2), (4, .int v4)]) rfl (fun ls hl => ?_)
        refine lv_iinc hx hb dX1_total_31 hl (k := 4) rfl (kinc_1 _) (by decide) (lv' := [(4, .int (v4 + 1)), (3, .int x2), (0, .ref (g.1 11)), (1, .ref (g.1 ka)), (2, .int v2)]) rfl (fun ls hl => ?_)
        refine lv_goto hx hb dX1_total_34 (tgt := 5) (by decide) ?_
        exact ih v2 x2 (v4 + 1) _ _ _ h (lv_sub hl [2, 3, 4, 1, 0] rfl) hf
set_option maxHeartbeats 4000000 in
set_option maxRecDepth 100000 in
theorem c_X1_total (l : Launch) {g : fb_G} {ks : List Nat} (hI : fb_I g ks) (hks : ∀ k ∈ ([11] : List Nat), k ∈ ks) {ka : Nat} (hka : ka ∈ fb_ints) (hkk : ka ∈ ks) (N : Nat) (ka9 : Nat) (a2 : Int32) (σ : fb_S) {res : Int32} (hf : f_X1_total N ka a2 σ = some res) : fb_M l yX1_total cX1_total 5 (some .int) 1 22 g ks [.ref (g.1 11), .ref (g.1 ka), .int a2] σ (fb_Qi g ks res σ) := by
  refine fb_met (by decide +kernel) hI (Nat.le_of_ble_eq_true rfl) (fun p e s m below meth c ls X h hr hlk hl => ?_)
  have X : fb_X p m c cX1_total 5 s _ RX1 g ks (fb_A g ks) := X
  have hl : lv_has ls 5 [(0, .ref (g.1 11)), (1, .ref (g.1 ka)), (2, .int a2)] := hl
  have hx := X.1.1
  have hb := X.1.2.1
  unfold f_X1_total at hf
  refine lv_iconst hx hb dX1_total_0 ki_0 ?_
  refine lv_istore_n hx hb dX1_total_1 rfl hl (by decide) (lv' := [(3, .int (0)), (0, .ref (g.1 11)), (1, .ref (g.1 ka)), (2, .int a2)]) rfl (fun ls hl => ?_)
  refine lv_iconst hx hb dX1_total_2 ki_0 ?_
  refine lv_istore hx hb dX1_total_3 hl (by decide) (lv' := [(4, .int (0)), (3, .int (0)), (0, .ref (g.1 11)), (1, .ref (g.1 ka)), (2, .int a2)]) rfl (fun ls hl => ?_)
  exact w_X1_total_L5 X hks hr hlk hka hkk N σ N a2 (0 : Int32) (0 : Int32) _ _ _ h (lv_sub hl [2, 3, 4, 1, 0] rfl) hf
def f_J6_bitCount_0f7a4 (a1 : Int32) : Option Int32 :=
  nm_ (a1 - ((((a1).toUInt32 >>> (((1 : Int32)).toUInt32 &&& Int32.toUInt32 31)).toInt32) &&& (1431655765 : Int32))) fun x1 =>
  nm_ ((x1 &&& (858993459 : Int32)) + ((((x1).toUInt32 >>> (((2 : Int32)).toUInt32 &&& Int32.toUInt32 31)).toInt32) &&& (858993459 : Int32))) fun x2 =>
  nm_ ((x2 + (((x2).toUInt32 >>> (((4 : Int32)).toUInt32 &&& Int32.toUInt32 31)).toInt32)) &&& (252645135 : Int32)) fun x3 =>
  nm_ (x3 + (((x3).toUInt32 >>> (((8 : Int32)).toUInt32 &&& Int32.toUInt32 31)).toInt32)) fun x4 =>
  nm_ (x4 + (((x4).toUInt32 >>> (((16 : Int32)).toUInt32 &&& Int32.toUInt32 31)).toInt32)) fun x5 =>
  some (x5 &&& (63 : Int32))
set_option maxHeartbeats 4000000 in
set_option maxRecDepth 100000 in
theorem c_J6_bitCount_0f7a4 (l : Launch) {g : fb_G} {ks : List Nat} (hI : fb_I g ks) (hks : ∀ k ∈ ([] : List Nat), k ∈ ks) (a1 : Int32) (σ : fb_S) {res : Int32} (hf : f_J6_bitCount_0f7a4 a1 = some res) : fb_M l yJ6_bitCount_0f7a4 cJ6_bitCount_0f7a4 1 (some .int) 0 0 g ks [.int a1] σ (fb_Qi g ks res σ) := by
  refine fb_met (by decide +kernel) hI (Nat.le_of_ble_eq_true rfl) (fun p e s m below meth c ls X h hr hlk hl => ?_)
  have X : fb_X p m c cJ6_bitCount_0f7a4 1 s _ RJ6 g ks (fb_A g ks) := X
  have hl : lv_has ls 1 [(0, .int a1)] := hl
  have hx := X.1.1
  have hb := X.1.2.1
  unfold f_J6_bitCount_0f7a4 at hf
  refine lv_iload_n hx hb dJ6_bitCount_0f7a4_0 rfl (lv_at hl 0 rfl) ?_
  refine lv_iload_n hx hb dJ6_bitCount_0f7a4_1 rfl (lv_at hl 0 rfl) ?_
  refine lv_iconst hx hb dJ6_bitCount_0f7a4_2 ki_1 ?_
  refine lv_iushr hx hb dJ6_bitCount_0f7a4_3 (v := ((a1).toUInt32 >>> (((1 : Int32)).toUInt32 &&& Int32.toUInt32 31)).toInt32) rfl ?_
  refine lv_ldcw hx hb X.1.2.2.2.1 (X.1.2.2.2.2 _ lc_RJ6_265) dJ6_bitCount_0f7a4_4 ?_
  refine lv_iand hx hb dJ6_bitCount_0f7a4_7 ?_
  refine lv_isub hx hb dJ6_bitCount_0f7a4_8 ?_
  obtain ⟨x1, ex1, hf⟩ := nm_s hf
  refine fb_topi ex1 ?_
  refine lv_istore_n hx hb dJ6_bitCount_0f7a4_9 rfl hl (by decide) (lv' := [(0, .int x1)]) rfl (fun ls hl => ?_)
  refine lv_iload_n hx hb dJ6_bitCount_0f7a4_10 rfl (lv_at hl 0 rfl) ?_
  refine lv_ldcw hx hb X.1.2.2.2.1 (X.1.2.2.2.2 _ lc_RJ6_266) dJ6_bitCount_0f7a4_11 ?_
  refine lv_iand hx hb dJ6_bitCount_0f7a4_14 ?_
  refine lv_iload_n hx hb dJ6_bitCount_0f7a4_15 rfl (lv_at hl 0 rfl) ?_
  refine lv_iconst hx hb dJ6_bitCount_0f7a4_16 ki_2 ?_
  refine lv_iushr hx hb dJ6_bitCount_0f7a4_17 (v := ((x1).toUInt32 >>> (((2 : Int32)).toUInt32 &&& Int32.toUInt32 31)).toInt32) rfl ?_
  refine lv_ldcw hx hb X.1.2.2.2.1 (X.1.2.2.2.2 _ lc_RJ6_266) dJ6_bitCount_0f7a4_18 ?_
  refine lv_iand hx hb dJ6_bitCount_0f7a4_21 ?_
  refine lv_iadd hx hb dJ6_bitCount_0f7a4_22 ?_
  obtain ⟨x2, ex2, hf⟩ := nm_s hf
  refine fb_topi ex2 ?_
  refine lv_istore_n hx hb dJ6_bitCount_0f7a4_23 rfl hl (by decide) (lv' := [(0, .int x2)]) rfl (fun ls hl => ?_)
  refine lv_iload_n hx hb dJ6_bitCount_0f7a4_24 rfl (lv_at hl 0 rfl) ?_
  refine lv_iload_n hx hb dJ6_bitCount_0f7a4_25 rfl (lv_at hl 0 rfl) ?_
  refine lv_iconst hx hb dJ6_bitCount_0f7a4_26 ki_4 ?_
  refine lv_iushr hx hb dJ6_bitCount_0f7a4_27 (v := ((x2).toUInt32 >>> (((4 : Int32)).toUInt32 &&& Int32.toUInt32 31)).toInt32) rfl ?_
  refine lv_iadd hx hb dJ6_bitCount_0f7a4_28 ?_
  refine lv_ldcw hx hb X.1.2.2.2.1 (X.1.2.2.2.2 _ lc_RJ6_267) dJ6_bitCount_0f7a4_29 ?_
  refine lv_iand hx hb dJ6_bitCount_0f7a4_32 ?_
  obtain ⟨x3, ex3, hf⟩ := nm_s hf
  refine fb_topi ex3 ?_
  refine lv_istore_n hx hb dJ6_bitCount_0f7a4_33 rfl hl (by decide) (lv' := [(0, .int x3)]) rfl (fun ls hl => ?_)
  refine lv_iload_n hx hb dJ6_bitCount_0f7a4_34 rfl (lv_at hl 0 rfl) ?_
  refine lv_iload_n hx hb dJ6_bitCount_0f7a4_35 rfl (lv_at hl 0 rfl) ?_
  refine lv_bipush hx hb dJ6_bitCount_0f7a4_36 kb_8 ?_
  refine lv_iushr hx hb dJ6_bitCount_0f7a4_38 (v := ((x3).toUInt32 >>> (((8 : Int32)).toUInt32 &&& Int32.toUInt32 31)).toInt32) rfl ?_
  refine lv_iadd hx hb dJ6_bitCount_0f7a4_39 ?_
  obtain ⟨x4, ex4, hf⟩ := nm_s hf
  refine fb_topi ex4 ?_
  refine lv_istore_n hx hb dJ6_bitCount_0f7a4_40 rfl hl (by decide) (lv' := [(0, .int x4)]) rfl (fun ls hl => ?_)
  refine lv_iload_n hx hb dJ6_bitCount_0f7a4_41 rfl (lv_at hl 0 rfl) ?_
  refine lv_iload_n hx hb dJ6_bitCount_0f7a4_42 rfl (lv_at hl 0 rfl) ?_
  refine lv_bipush hx hb dJ6_bitCount_0f7a4_43 kb_16 ?_
  refine lv_iushr hx hb dJ6_bitCount_0f7a4_45 (v := ((x4).toUInt32 >>> (((16 : Int32)).toUInt32 &&& Int32.toUInt32 31)).toInt32) rfl ?_
  refine lv_iadd hx hb dJ6_bitCount_0f7a4_46 ?_
  obtain ⟨x5, ex5, hf⟩ := nm_s hf
  refine fb_topi ex5 ?_
  refine lv_istore_n hx hb dJ6_bitCount_0f7a4_47 rfl hl (by decide) (lv' := [(0, .int x5)]) rfl (fun ls hl => ?_)
  refine lv_iload_n hx hb dJ6_bitCount_0f7a4_48 rfl (lv_at hl 0 rfl) ?_
  refine lv_bipush hx hb dJ6_bitCount_0f7a4_49 kb_63 ?_
  refine lv_iand hx hb dJ6_bitCount_0f7a4_51 ?_
  have e9 := Option.some.inj hf
  subst e9
  exact fb_ir X h hr hlk dJ6_bitCount_0f7a4_52
def f_X1_isBetter (N : Nat) (a1 : Int32) (σ : fb_S) : Option Int32 :=
  if (σ.1 11 7) = (-9 : Int32) then (
    some (1 : Int32)
  ) else (
    (f_X1_total N 13 a1 σ).bind fun q1 =>
    (f_X1_total N 13 (σ.1 11 7) σ).bind fun q2 =>
    nm_ (q1 - q2) fun x3 =>
    if x3 < 0 then (
      some (1 : Int32)
    ) else (
      if x3 = 0 then (
        (f_J6_bitCount_0f7a4 a1).bind fun q4 =>
        (f_J6_bitCount_0f7a4 (σ.1 11 7)).bind fun q5 =>
        if q5 ≤ q4 then (
          some (0 : Int32)
        ) else (
          some (1 : Int32)
        )
      ) else (
        some (0 : Int32)
      )
    )
  )
set_option maxHeartbeats 4000000 in
set_option maxRecDepth 100000 in
theorem c_X1_isBetter (l : Launch) {g : fb_G} {ks : List Nat} (hI : fb_I g ks) (hks : ∀ k ∈ ([11, 13] : List Nat), k ∈ ks) (N : Nat) (a1 : Int32) (σ : fb_S) {res : Int32} (hf : f_X1_isBetter N a1 σ = some res) : fb_M l yX1_isBetter cX1_isBetter 3 (some .boolean) 2 46 g ks [.ref (g.1 11), .int a1] σ (fb_Qi g ks res σ) := by
  refine fb_met (by decide +kernel) hI (Nat.le_of_ble_eq_true rfl) (fun p e s m below meth c ls X h hr hlk hl => ?_)
  have X : fb_X p m c cX1_isBetter 3 s _ RX1 g ks (fb_A g ks) := X
  have hl : lv_has ls 3 [(0, .ref (g.1 11)), (1, .int a1)] := hl
  have hx := X.1.1
  have hb := X.1.2.1
  unfold f_X1_isBetter at hf
  refine lv_aload_n hx hb dX1_isBetter_0 rfl (lv_at hl 0 rfl) ?_
  refine gt_RX1_42 X h (hks 11 (by decide)) dX1_isBetter_1 ?_
  refine lv_bipush hx hb dX1_isBetter_4 kb_m9 ?_
  refine lv_icmp_ne hx hb dX1_isBetter_6 (tgt := 11) (by decide) (fun hc => ?_) (fun hc => ?_)
  · have hf := if_f hc hf
    refine lv_aload_n hx hb dX1_isBetter_11 rfl (lv_at hl 0 rfl) ?_
    refine lv_aload_n hx hb dX1_isBetter_12 rfl (lv_at hl 0 rfl) ?_
    refine gt_RX1_15 X h (hks 11 (by decide)) dX1_isBetter_13 ?_
    refine lv_iload_n hx hb dX1_isBetter_16 rfl (lv_at hl 1 rfl) ?_
    obtain ⟨q1, hq1, hf⟩ := bd_s hf
    refine fb_ci X h (fb_runV (As := [.ref (g.1 13), .int a1]) (rest := []) (k := 11) X h (c_X1_total l X.2.2.1 (fun k hk => hks k ((by decide : ∀ k ∈ ([11] : List Nat), k ∈ ([11, 13] : List Nat)) k hk)) (ka := 13) (by decide) (hks 13 (by decide)) N 13 a1 σ hq1) mf_yX1_total lm_RX1_45 (hks 11 (by decide)) rfl rfl ⟨Nat.le_of_ble_eq_true rfl, Nat.le_of_ble_eq_true rfl⟩ ⟨Nat.le_refl _, Nat.le_refl _⟩ rfl hl.1 rfl (Nat.le_of_ble_eq_true rfl) dX1_isBetter_17) (fun H locs h => ?_)
    refine lv_aload_n hx hb dX1_isBetter_20 rfl (lv_at hl 0 rfl) ?_
    refine lv_aload_n hx hb dX1_isBetter_21 rfl (lv_at hl 0 rfl) ?_
    refine gt_RX1_15 X h (hks 11 (by decide)) dX1_isBetter_22 ?_
    refine lv_aload_n hx hb dX1_isBetter_25 rfl (lv_at hl 0 rfl) ?_
    refine gt_RX1_42 X h (hks 11 (by decide)) dX1_isBetter_26 ?_
    obtain ⟨q2, hq2, hf⟩ := bd_s hf
    refine fb_ci X h (fb_runV (As := [.ref (g.1 13), .int (σ.1 11 7)]) (rest := [.int q1]) (k := 11) X h (c_X1_total l X.2.2.1 (fun k hk => hks k ((by decide : ∀ k ∈ ([11] : List Nat), k ∈ ([11, 13] : List Nat)) k hk)) (ka := 13) (by decide) (hks 13 (by decide)) N 13 (σ.1 11 7) σ hq2) mf_yX1_total lm_RX1_45 (hks 11 (by decide)) rfl rfl ⟨Nat.le_of_ble_eq_true rfl, Nat.le_of_ble_eq_true rfl⟩ ⟨Nat.le_refl _, Nat.le_refl _⟩ rfl hl.1 rfl (Nat.le_of_ble_eq_true rfl) dX1_isBetter_29) (fun H locs h => ?_)
    refine lv_isub hx hb dX1_isBetter_32 ?_
    obtain ⟨x3, ex3, hf⟩ := nm_s hf
    refine fb_topi ex3 ?_
    refine lv_istore_n hx hb dX1_isBetter_33 rfl hl (by decide) (lv' := [(2, .int x3), (0, .ref (g.1 11)), (1, .int a1)]) rfl (fun ls hl => ?_)
    refine lv_iload_n hx hb dX1_isBetter_34 rfl (lv_at hl 0 rfl) ?_
    refine lv_if_lt hx hb dX1_isBetter_35 (tgt := 56) (by decide) (fun hc => ?_) (fun hc => ?_)
    · have hf := if_t hc hf
      refine lv_iconst hx hb dX1_isBetter_56 ki_1 ?_
      refine lv_goto hx hb dX1_isBetter_57 (tgt := 61) (by decide) ?_
      have e9 := Option.some.inj hf
      subst e9
      exact fb_zr (r := (1 : Int32)) X h hr rfl hlk dX1_isBetter_61
    · have hf := if_f hc hf
      refine lv_iload_n hx hb dX1_isBetter_38 rfl (lv_at hl 0 rfl) ?_
      refine lv_if_ne hx hb dX1_isBetter_39 (tgt := 60) (by decide) (fun hc => ?_) (fun hc => ?_)
      · have hf := if_f hc hf
        refine lv_iconst hx hb dX1_isBetter_60 ki_0 ?_
        have e9 := Option.some.inj hf
        subst e9
        exact fb_zr (r := (0 : Int32)) X h hr rfl hlk dX1_isBetter_61
      · have hf := if_t hc hf
        refine lv_iload_n hx hb dX1_isBetter_42 rfl (lv_at hl 2 rfl) ?_
        obtain ⟨q4, hq4, hf⟩ := bd_s hf
        refine fb_ci X h (fb_runS (As := [.int a1]) (rest := []) X h (c_J6_bitCount_0f7a4 l X.2.2.1 (fun k hk => absurd hk List.not_mem_nil) a1 σ hq4) mf_yJ6_bitCount_0f7a4 lm_RX1_67 ⟨Nat.le_of_ble_eq_true rfl, Nat.le_of_ble_eq_true rfl⟩ ⟨Nat.le_refl _, Nat.le_refl _⟩ rfl hl.1 rfl (Nat.le_of_ble_eq_true rfl) dX1_isBetter_43) (fun H locs h => ?_)
        refine lv_aload_n hx hb dX1_isBetter_46 rfl (lv_at hl 1 rfl) ?_
        refine gt_RX1_42 X h (hks 11 (by decide)) dX1_isBetter_47 ?_
        obtain ⟨q5, hq5, hf⟩ := bd_s hf
        refine fb_ci X h (fb_runS (As := [.int (σ.1 11 7)]) (rest := [.int q4]) X h (c_J6_bitCount_0f7a4 l X.2.2.1 (fun k hk => absurd hk List.not_mem_nil) (σ.1 11 7) σ hq5) mf_yJ6_bitCount_0f7a4 lm_RX1_67 ⟨Nat.le_of_ble_eq_true rfl, Nat.le_of_ble_eq_true rfl⟩ ⟨Nat.le_refl _, Nat.le_refl _⟩ rfl hl.1 rfl (Nat.le_of_ble_eq_true rfl) dX1_isBetter_50) (fun H locs h => ?_)
        refine lv_icmp_ge hx hb dX1_isBetter_53 (tgt := 60) (by decide) (fun hc => ?_) (fun hc => ?_)
        · have hf := if_t hc hf
          refine lv_iconst hx hb dX1_isBetter_60 ki_0 ?_
          have e9 := Option.some.inj hf
          subst e9
          exact fb_zr (r := (0 : Int32)) X h hr rfl hlk dX1_isBetter_61
        · have hf := if_f hc hf
          refine lv_iconst hx hb dX1_isBetter_56 ki_1 ?_
          refine lv_goto hx hb dX1_isBetter_57 (tgt := 61) (by decide) ?_
          have e9 := Option.some.inj hf
          subst e9
          exact fb_zr (r := (1 : Int32)) X h hr rfl hlk dX1_isBetter_61
  · have hf := if_t hc hf
    refine lv_iconst hx hb dX1_isBetter_9 ki_1 ?_
    have e9 := Option.some.inj hf
    subst e9
    exact fb_zr (r := (1 : Int32)) X h hr rfl hlk dX1_isBetter_10
def f_X1_settlesWith_L70 (N : Nat) (v4 : Int32) (v5 : Int64) (σ : fb_S) : Option (Int32 × fb_S) :=
  ck_ (fb_in v4 79) <|
  if (lg_cmp ((hjf (σ.1 50) v4.toNatClampNeg) &&& v5) (0 : Int64)) = 0 then (
    some ((0 : Int32), σ)
  ) else (
    some ((1 : Int32), σ)
  )
def f_X1_settlesWith (N : Nat) (a1 : Int32) (σ : fb_S) : Option (Int32 × fb_S) :=
  nm_ (a1 / (64 : Int32)) fun x1 =>
  nm_ ((1 : Int64) <<< ((a1 - a1 / (64 : Int32) * (64 : Int32)).toInt64 &&& 63)) fun x2 =>
  ck_ (fb_in x1 79) <|
  if (lg_cmp ((hjf (σ.1 16) x1.toNatClampNeg) &&& x2) (0 : Int64)) = 0 then (
    ck_ (fb_in x1 79) <|
    ck_ (fb_in x1 79) <|
    nm_ (fb_upH σ 16 (x1.toNatClampNeg) ((hjf (σ.1 16) x1.toNatClampNeg) ||| x2)) fun t3 =>
    (f_X4_beatsTillStill N (t3.1 1 1) ((t3.1 1 0) + a1) t3).bind fun q4 =>
    if q4.1 = (-9 : Int32) then (
      f_X1_settlesWith_L70 N x1 x2 q4.2
    ) else (
      ck_ (fb_in x1 79) <|
      ck_ (fb_in x1 79) <|
      nm_ (fb_upH q4.2 50 (x1.toNatClampNeg) ((hjf (q4.2.1 50) x1.toNatClampNeg) ||| x2)) fun t5 =>
      f_X1_settlesWith_L70 N x1 x2 t5
    )
  ) else (
    f_X1_settlesWith_L70 N x1 x2 σ
  )
set_option maxHeartbeats 4000000 in
set_option maxRecDepth 100000 in
theorem w_X1_settlesWith_L70 (X : fb_X p m c cX1_settlesWith 7 s args RX1 g ks (fb_A g ks)) (hks : ∀ k ∈ ([1, 6, 7, 8, 9, 10, 11, 16, 50] : List Nat), k ∈ ks) (hr : meth.sig.returnType = (some .boolean)) (hlk : meth.locks = false) (N : Nat)  {res : (Int32 × fb_S)} : ∀ (v4 : Int32) (v5 : Int64) (σ : fb_S) (H : Heap) (locs : List Loc) (ls : Array Slot), fb_H g ks (fb_A g ks) s.heap σ H locs → lv_has ls 7 [(0, .ref (g.1 11)), (4, .int v4), (5, .long v5)] → f_X1_settlesWith_L70 N v4 v5 σ = some res → W p l e (fb_R 4 92) s m args below meth c H locs 0 0 (MQ below (fb_Qi g ks res.1 res.2) args s 0 0 (fb_A g ks)) (F0 m 70 ls []) := by
  have hx := X.1.1
  have hb := X.1.2.1
  intro v4 v5 σ H locs ls h hl hf
  unfold f_X1_settlesWith_L70 at hf
  refine lv_aload_n hx hb dX1_settlesWith_70 rfl (lv_at hl 0 rfl) ?_
  refine gt_RX1_28 X h (hks 11 (by decide)) dX1_settlesWith_71 ?_
  refine lv_iload hx hb dX1_settlesWith_74 (lv_at hl 1 rfl) ?_
  obtain ⟨hi0, hf⟩ := ck_s hf
  refine fb_hald X h (hks 50 (by decide)) rfl hi0 dX1_settlesWith_76 ?_
  refine lv_lload hx hb dX1_settlesWith_77 (lv_at hl 2 rfl) ?_
  refine lv_land hx hb dX1_settlesWith_79 ?_
  refine lv_lconst hx hb dX1_settlesWith_80 kl_0 ?_
  refine W.lcmp hx hb dX1_settlesWith_81 ?_
  refine lv_if_eq hx hb dX1_settlesWith_82 (tgt := 89) (by decide) (fun hc => ?_) (fun hc => ?_)
  · have hf := if_t hc hf
    refine lv_iconst hx hb dX1_settlesWith_89 ki_0 ?_
    have e9 := Option.some.inj hf
    subst e9
    exact fb_zr (r := (0 : Int32)) X h hr rfl hlk dX1_settlesWith_90
  · have hf := if_f hc hf
    refine lv_iconst hx hb dX1_settlesWith_85 ki_1 ?_
    refine lv_goto hx hb dX1_settlesWith_86 (tgt := 90) (by decide) ?_
    have e9 := Option.some.inj hf
    subst e9
    exact fb_zr (r := (1 : Int32)) X h hr rfl hlk dX1_settlesWith_90
set_option maxHeartbeats 4000000 in
set_option maxRecDepth 100000 in
theorem c_X1_settlesWith (l : Launch) {g : fb_G} {ks : List Nat} (hI : fb_I g ks) (hks : ∀ k ∈ ([1, 6, 7, 8, 9, 10, 11, 16, 50] : List Nat), k ∈ ks) (N : Nat) (a1 : Int32) (σ : fb_S) {res : (Int32 × fb_S)} (hf : f_X1_settlesWith N a1 σ = some res) : fb_M l yX1_settlesWith cX1_settlesWith 7 (some .boolean) 4 92 g ks [.ref (g.1 11), .int a1, .ref (g.1 6), .ref (g.1 1)] σ (fb_Qi g ks res.1 res.2) := by
  refine fb_met (by decide +kernel) hI (Nat.le_of_ble_eq_true rfl) (fun p e s m below meth c ls X h hr hlk hl => ?_)
  have X : fb_X p m c cX1_settlesWith 7 s _ RX1 g ks (fb_A g ks) := X
  have hl : lv_has ls 7 [(0, .ref (g.1 11)), (1, .int a1), (2, .ref (g.1 6)), (3, .ref (g.1 1))] := hl
  have hx := X.1.1
  have hb := X.1.2.1
  unfold f_X1_settlesWith at hf
  refine lv_iload_n hx hb dX1_settlesWith_0 rfl (lv_at hl 1 rfl) ?_
  refine lv_bipush hx hb dX1_settlesWith_1 kb_64 ?_
  refine lv_idiv hx hb dX1_settlesWith_3 (by decide) ?_
  obtain ⟨x1, ex1, hf⟩ := nm_s hf
  refine fb_topi ex1 ?_
  refine lv_istore hx hb dX1_settlesWith_4 hl (by decide) (lv' := [(4, .int x1), (0, .ref (g.1 11)), (1, .int a1), (2, .ref (g.1 6)), (3, .ref (g.1 1))]) rfl (fun ls hl => ?_)
  refine lv_lconst hx hb dX1_settlesWith_6 kl_1 ?_
  refine lv_iload_n hx hb dX1_settlesWith_7 rfl (lv_at hl 2 rfl) ?_
  refine lv_bipush hx hb dX1_settlesWith_8 kb_64 ?_
  refine lv_irem hx hb dX1_settlesWith_10 (by decide) ?_
  refine lv_lshl hx hb dX1_settlesWith_11 (v := (1 : Int64) <<< ((a1 - a1 / (64 : Int32) * (64 : Int32)).toInt64 &&& 63)) rfl ?_
  obtain ⟨x2, ex2, hf⟩ := nm_s hf
  refine fb_topl ex2 ?_
  refine lv_lstore hx hb dX1_settlesWith_12 hl (by decide) (lv' := [(5, .long x2), (4, .int x1), (0, .ref (g.1 11)), (1, .int a1), (2, .ref (g.1 6)), (3, .ref (g.1 1))]) rfl (fun ls hl => ?_)
  refine lv_aload_n hx hb dX1_settlesWith_14 rfl (lv_at hl 2 rfl) ?_
  refine gt_RX1_24 X h (hks 11 (by decide)) dX1_settlesWith_15 ?_
  refine lv_iload hx hb dX1_settlesWith_18 (lv_at hl 1 rfl) ?_
  obtain ⟨hi0, hf⟩ := ck_s hf
  refine fb_hald X h (hks 16 (by decide)) rfl hi0 dX1_settlesWith_20 ?_
  refine lv_lload hx hb dX1_settlesWith_21 (lv_at hl 0 rfl) ?_
  refine lv_land hx hb dX1_settlesWith_23 ?_
  refine lv_lconst hx hb dX1_settlesWith_24 kl_0 ?_
  refine W.lcmp hx hb dX1_settlesWith_25 ?_
  refine lv_if_ne hx hb dX1_settlesWith_26 (tgt := 70) (by decide) (fun hc => ?_) (fun hc => ?_)
  · have hf := if_f hc hf
    exact w_X1_settlesWith_L70 X hks hr hlk N x1 x2 σ _ _ _ h (lv_sub hl [2, 1, 0] rfl) hf
  · have hf := if_t hc hf
    refine lv_aload_n hx hb dX1_settlesWith_29 rfl (lv_at hl 2 rfl) ?_
    refine gt_RX1_24 X h (hks 11 (by decide)) dX1_settlesWith_30 ?_
    refine lv_iload hx hb dX1_settlesWith_33 (lv_at hl 1 rfl) ?_
    refine lv_dup2_11 hx hb dX1_settlesWith_35 rfl rfl ?_
    obtain ⟨hi0, hf⟩ := ck_s hf
    refine fb_hald X h (hks 16 (by decide)) rfl hi0 dX1_settlesWith_36 ?_
    refine lv_lload hx hb dX1_settlesWith_37 (lv_at hl 0 rfl) ?_
    refine lv_lor hx hb dX1_settlesWith_39 ?_
    obtain ⟨hi0, hf⟩ := ck_s hf
    obtain ⟨t3, et3, hf⟩ := nm_s hf
    refine fb_hast X h (hks 16 (by decide)) (fun _ => rfl) hi0 dX1_settlesWith_40 (fun H locs h => ?_)
    have h := fb_H.nm et3 h
    refine lv_aload_n hx hb dX1_settlesWith_41 rfl (lv_at hl 4 rfl) ?_
    refine lv_aload_n hx hb dX1_settlesWith_42 rfl (lv_at hl 5 rfl) ?_
    refine lv_iconst hx hb dX1_settlesWith_43 ki_1 ?_
    refine fb_ialdL X h (hks 1 (by decide)) rfl (by decide) kn_1 dX1_settlesWith_44 ?_
    refine lv_aload_n hx hb dX1_settlesWith_45 rfl (lv_at hl 5 rfl) ?_
    refine lv_iconst hx hb dX1_settlesWith_46 ki_0 ?_
    refine fb_ialdL X h (hks 1 (by decide)) rfl (by decide) kn_0 dX1_settlesWith_47 ?_
    refine lv_iload_n hx hb dX1_settlesWith_48 rfl (lv_at hl 3 rfl) ?_
    refine lv_iadd hx hb dX1_settlesWith_49 ?_
    obtain ⟨q4, hq4, hf⟩ := bd_s hf
    refine fb_ci X h (fb_runVN (As := [.int (t3.1 1 1), .int ((t3.1 1 0) + a1)]) (rest := []) (k := 6) X h (c_X4_beatsTillStill l X.2.2.1 (fun k hk => hks k ((by decide : ∀ k ∈ ([6, 7, 8, 9, 10] : List Nat), k ∈ ([1, 6, 7, 8, 9, 10, 11, 16, 50] : List Nat)) k hk)) N (t3.1 1 1) ((t3.1 1 0) + a1) t3 hq4) mf_yX4_beatsTillStill lm_RX1_73 (hks 6 (by decide)) rfl rfl ⟨Nat.le_of_ble_eq_true rfl, Nat.le_of_ble_eq_true rfl⟩ ⟨Nat.le_refl _, Nat.le_refl _⟩ rfl hl.1 rfl (Nat.le_of_ble_eq_true rfl) dX1_settlesWith_50) (fun H locs h => ?_)
    refine lv_bipush hx hb dX1_settlesWith_53 kb_m9 ?_
    refine lv_icmp_eq hx hb dX1_settlesWith_55 (tgt := 70) (by decide) (fun hc => ?_) (fun hc => ?_)
    · have hf := if_t hc hf
      exact w_X1_settlesWith_L70 X hks hr hlk N x1 x2 q4.2 _ _ _ h (lv_sub hl [2, 1, 0] rfl) hf
    · have hf := if_f hc hf
      refine lv_aload_n hx hb dX1_settlesWith_58 rfl (lv_at hl 2 rfl) ?_
      refine gt_RX1_28 X h (hks 11 (by decide)) dX1_settlesWith_59 ?_
      refine lv_iload hx hb dX1_settlesWith_62 (lv_at hl 1 rfl) ?_
      refine lv_dup2_11 hx hb dX1_settlesWith_64 rfl rfl ?_
      obtain ⟨hi0, hf⟩ := ck_s hf
      refine fb_hald X h (hks 50 (by decide)) rfl hi0 dX1_settlesWith_65 ?_
      refine lv_lload hx hb dX1_settlesWith_66 (lv_at hl 0 rfl) ?_
      refine lv_lor hx hb dX1_settlesWith_68 ?_
      obtain ⟨hi0, hf⟩ := ck_s hf
      obtain ⟨t5, et5, hf⟩ := nm_s hf
      refine fb_hast X h (hks 50 (by decide)) (fun _ => rfl) hi0 dX1_settlesWith_69 (fun H locs h => ?_)
      have h := fb_H.nm et5 h
      exact w_X1_settlesWith_L70 X hks hr hlk N x1 x2 t5 _ _ _ h (lv_sub hl [2, 1, 0] rfl) hf
def f_X1_choose_L39 (N : Nat) : Nat → Int32 → fb_S → Option fb_S
  | 0, _, _ => none
  | n + 1, v3, σ => 
    if v3 < 0 then (
      nm_ (fb_up σ 11 6 (1 : Int32)) fun t1 =>
      some t1
    ) else (
      (f_X1_total N 14 v3 σ).bind fun q2 =>
      if (σ.1 1 2) < q2 then (
        f_X1_choose_L39 N n (v3 + (-1)) σ
      ) else (
        (f_X1_isBetter N v3 σ).bind fun q3 =>
        if q3 = 0 then (
          f_X1_choose_L39 N n (v3 + (-1)) σ
        ) else (
          (f_X1_total N 12 v3 σ).bind fun q4 =>
          (f_X1_settlesWith N q4 σ).bind fun q5 =>
          if q5.1 = 0 then (
            f_X1_choose_L39 N n (v3 + (-1)) q5.2
          ) else (
            nm_ (fb_up q5.2 11 7 v3) fun t6 =>
            f_X1_choose_L39 N n (v3 + (-1)) t6
          )
        )
      )
    )
def f_X1_choose (N : Nat)  (σ : fb_S) : Option fb_S :=
  if (σ.1 11 6) = 0 then (
    (f_J7_fill_d0a16 N 16 (0 : Int64) σ).bind fun q7 =>
    (f_J7_fill_d0a16 N 50 (0 : Int64) q7).bind fun q8 =>
    nm_ (fb_up q8 11 7 (-9 : Int32)) fun t9 =>
    nm_ (((1 : Int32) <<< ((t9.1 11 5) &&& 31)) - (1 : Int32)) fun x10 =>
    f_X1_choose_L39 N N x10 t9
  ) else (
    some σ
  )
set_option maxHeartbeats 4000000 in
set_option maxRecDepth 100000 in
theorem w_X1_choose_L39 (X : fb_X p m c cX1_choose 4 s args RX1 g ks (fb_A g ks)) (hks : ∀ k ∈ ([1, 6, 7, 8, 9, 10, 11, 12, 13, 14, 16, 50] : List Nat), k ∈ ks) (hr : meth.sig.returnType = none) (hlk : meth.locks = false) (N : Nat)  {res : fb_S} : ∀ (n : Nat) (v3 : Int32) (σ : fb_S) (H : Heap) (locs : List Loc) (ls : Array Slot), fb_H g ks (fb_A g ks) s.heap σ H locs → lv_has ls 4 [(0, .ref (g.1 11)), (1, .ref (g.1 6)), (2, .ref (g.1 1)), (3, .int v3)] → f_X1_choose_L39 N n v3 σ = some res → W p l e (fb_R 5 118) s m args below meth c H locs 0 0 (MQ below (fb_Qv g ks res) args s 0 0 (fb_A g ks)) (F0 m 39 ls []) := by
  have hx := X.1.1
  have hb := X.1.2.1
  intro n
  induction n with
  | zero => intro v3 σ H locs ls h hl hf; cases hf
  | succ n ih =>
    intro v3 σ H locs ls h hl hf
    unfold f_X1_choose_L39 at hf
    refine lv_iload_n hx hb dX1_choose_39 rfl (lv_at hl 3 rfl) ?_
    refine lv_if_lt hx hb dX1_choose_40 (tgt := 95) (by decide) (fun hc => ?_) (fun hc => ?_)
    · have hf := if_t hc hf
      refine lv_aload_n hx hb dX1_choose_95 rfl (lv_at hl 0 rfl) ?_
      refine lv_iconst hx hb dX1_choose_96 ki_1 ?_
      obtain ⟨t1, et1, hf⟩ := nm_s hf
      refine pt_RX1_38 X h (hks 11 (by decide)) rfl rfl dX1_choose_97 (fun H locs h => ?_)
      have h := fb_H.nm et1 h
      have e9 := Option.some.inj hf
      subst e9
      exact fb_vr X h hr hlk dX1_choose_100
    · have hf := if_f hc hf
      refine lv_aload_n hx hb dX1_choose_43 rfl (lv_at hl 0 rfl) ?_
      refine lv_aload_n hx hb dX1_choose_44 rfl (lv_at hl 0 rfl) ?_
      refine gt_RX1_18 X h (hks 11 (by decide)) dX1_choose_45 ?_
      refine lv_iload_n hx hb dX1_choose_48 rfl (lv_at hl 3 rfl) ?_
      obtain ⟨q2, hq2, hf⟩ := bd_s hf
      refine fb_ci X h (fb_runV (As := [.ref (g.1 14), .int v3]) (rest := []) (k := 11) X h (c_X1_total l X.2.2.1 (fun k hk => hks k ((by decide : ∀ k ∈ ([11] : List Nat), k ∈ ([1, 6, 7, 8, 9, 10, 11, 12, 13, 14, 16, 50] : List Nat)) k hk)) (ka := 14) (by decide) (hks 14 (by decide)) N 14 v3 σ hq2) mf_yX1_total lm_RX1_45 (hks 11 (by decide)) rfl rfl ⟨Nat.le_of_ble_eq_true rfl, Nat.le_of_ble_eq_true rfl⟩ ⟨Nat.le_refl _, Nat.le_refl _⟩ rfl hl.1 rfl (Nat.le_of_ble_eq_true rfl) dX1_choose_49) (fun H locs h => ?_)
      refine lv_aload_n hx hb dX1_choose_52 rfl (lv_at hl 2 rfl) ?_
      refine lv_iconst hx hb dX1_choose_53 ki_2 ?_
      refine fb_ialdL X h (hks 1 (by decide)) rfl (by decide) kn_2 dX1_choose_54 ?_
      refine lv_icmp_gt hx hb dX1_choose_55 (tgt := 89) (by decide) (fun hc => ?_) (fun hc => ?_)
      · have hf := if_t hc hf
        refine lv_iinc hx hb dX1_choose_89 hl (k := 3) rfl (kinc_m1 _) (by decide) (lv' := [(3, .int (v3 + (-1))), (0, .ref (g.1 11)), (1, .ref (g.1 6)), (2, .ref (g.1 1))]) rfl (fun ls hl => ?_)
        refine lv_goto hx hb dX1_choose_92 (tgt := 39) (by decide) ?_
        exact ih (v3 + (-1)) σ _ _ _ h (lv_sub hl [1, 2, 3, 0] rfl) hf
      · have hf := if_f hc hf
        refine lv_aload_n hx hb dX1_choose_58 rfl (lv_at hl 0 rfl) ?_
        refine lv_iload_n hx hb dX1_choose_59 rfl (lv_at hl 3 rfl) ?_
        obtain ⟨q3, hq3, hf⟩ := bd_s hf
        refine fb_ci X h (fb_runV (As := [.int v3]) (rest := []) (k := 11) X h (c_X1_isBetter l X.2.2.1 (fun k hk => hks k ((by decide : ∀ k ∈ ([11, 13] : List Nat), k ∈ ([1, 6, 7, 8, 9, 10, 11, 12, 13, 14, 16, 50] : List Nat)) k hk)) N v3 σ hq3) mf_yX1_isBetter lm_RX1_59 (hks 11 (by decide)) rfl rfl ⟨Nat.le_of_ble_eq_true rfl, Nat.le_of_ble_eq_true rfl⟩ ⟨Nat.le_refl _, Nat.le_refl _⟩ rfl hl.1 rfl (Nat.le_of_ble_eq_true rfl) dX1_choose_60) (fun H locs h => ?_)
        refine lv_if_eq hx hb dX1_choose_63 (tgt := 89) (by decide) (fun hc => ?_) (fun hc => ?_)
        · have hf := if_t hc hf
          refine lv_iinc hx hb dX1_choose_89 hl (k := 3) rfl (kinc_m1 _) (by decide) (lv' := [(3, .int (v3 + (-1))), (0, .ref (g.1 11)), (1, .ref (g.1 6)), (2, .ref (g.1 1))]) rfl (fun ls hl => ?_)
          refine lv_goto hx hb dX1_choose_92 (tgt := 39) (by decide) ?_
          exact ih (v3 + (-1)) σ _ _ _ h (lv_sub hl [1, 2, 3, 0] rfl) hf
        · have hf := if_f hc hf
          refine lv_aload_n hx hb dX1_choose_66 rfl (lv_at hl 0 rfl) ?_
          refine lv_aload_n hx hb dX1_choose_67 rfl (lv_at hl 0 rfl) ?_
          refine lv_aload_n hx hb dX1_choose_68 rfl (lv_at hl 0 rfl) ?_
          refine gt_RX1_11 X h (hks 11 (by decide)) dX1_choose_69 ?_
          refine lv_iload_n hx hb dX1_choose_72 rfl (lv_at hl 3 rfl) ?_
          obtain ⟨q4, hq4, hf⟩ := bd_s hf
          refine fb_ci X h (fb_runV (As := [.ref (g.1 12), .int v3]) (rest := [.ref (g.1 11)]) (k := 11) X h (c_X1_total l X.2.2.1 (fun k hk => hks k ((by decide : ∀ k ∈ ([11] : List Nat), k ∈ ([1, 6, 7, 8, 9, 10, 11, 12, 13, 14, 16, 50] : List Nat)) k hk)) (ka := 12) (by decide) (hks 12 (by decide)) N 12 v3 σ hq4) mf_yX1_total lm_RX1_45 (hks 11 (by decide)) rfl rfl ⟨Nat.le_of_ble_eq_true rfl, Nat.le_of_ble_eq_true rfl⟩ ⟨Nat.le_refl _, Nat.le_refl _⟩ rfl hl.1 rfl (Nat.le_of_ble_eq_true rfl) dX1_choose_73) (fun H locs h => ?_)
          refine lv_aload_n hx hb dX1_choose_76 rfl (lv_at hl 1 rfl) ?_
          refine lv_aload_n hx hb dX1_choose_77 rfl (lv_at hl 2 rfl) ?_
          obtain ⟨q5, hq5, hf⟩ := bd_s hf
          refine fb_ci X h (fb_runV (As := [.int q4, .ref (g.1 6), .ref (g.1 1)]) (rest := []) (k := 11) X h (c_X1_settlesWith l X.2.2.1 (fun k hk => hks k ((by decide : ∀ k ∈ ([1, 6, 7, 8, 9, 10, 11, 16, 50] : List Nat), k ∈ ([1, 6, 7, 8, 9, 10, 11, 12, 13, 14, 16, 50] : List Nat)) k hk)) N q4 σ hq5) mf_yX1_settlesWith lm_RX1_63 (hks 11 (by decide)) rfl rfl ⟨Nat.le_of_ble_eq_true rfl, Nat.le_of_ble_eq_true rfl⟩ ⟨Nat.le_refl _, Nat.le_refl _⟩ rfl hl.1 rfl (Nat.le_of_ble_eq_true rfl) dX1_choose_78) (fun H locs h => ?_)
          refine lv_if_eq hx hb dX1_choose_81 (tgt := 89) (by decide) (fun hc => ?_) (fun hc => ?_)
          · have hf := if_t hc hf
            refine lv_iinc hx hb dX1_choose_89 hl (k := 3) rfl (kinc_m1 _) (by decide) (lv' := [(3, .int (v3 + (-1))), (0, .ref (g.1 11)), (1, .ref (g.1 6)), (2, .ref (g.1 1))]) rfl (fun ls hl => ?_)
            refine lv_goto hx hb dX1_choose_92 (tgt := 39) (by decide) ?_
            exact ih (v3 + (-1)) q5.2 _ _ _ h (lv_sub hl [1, 2, 3, 0] rfl) hf
          · have hf := if_f hc hf
            refine lv_aload_n hx hb dX1_choose_84 rfl (lv_at hl 0 rfl) ?_
            refine lv_iload_n hx hb dX1_choose_85 rfl (lv_at hl 3 rfl) ?_
            obtain ⟨t6, et6, hf⟩ := nm_s hf
            refine pt_RX1_42 X h (hks 11 (by decide)) dX1_choose_86 (fun H locs h => ?_)
            have h := fb_H.nm et6 h
            refine lv_iinc hx hb dX1_choose_89 hl (k := 3) rfl (kinc_m1 _) (by decide) (lv' := [(3, .int (v3 + (-1))), (0, .ref (g.1 11)), (1, .ref (g.1 6)), (2, .ref (g.1 1))]) rfl (fun ls hl => ?_)
            refine lv_goto hx hb dX1_choose_92 (tgt := 39) (by decide) ?_
            exact ih (v3 + (-1)) t6 _ _ _ h (lv_sub hl [1, 2, 3, 0] rfl) hf
set_option maxHeartbeats 4000000 in
set_option maxRecDepth 100000 in
theorem c_X1_choose (l : Launch) {g : fb_G} {ks : List Nat} (hI : fb_I g ks) (hks : ∀ k ∈ ([1, 6, 7, 8, 9, 10, 11, 12, 13, 14, 16, 50] : List Nat), k ∈ ks) (N : Nat) (σ : fb_S) {res : fb_S} (hf : f_X1_choose N σ = some res) : fb_M l yX1_choose cX1_choose 4 none 5 118 g ks [.ref (g.1 11), .ref (g.1 6), .ref (g.1 1)] σ (fb_Qv g ks res) := by
  refine fb_met (by decide +kernel) hI (Nat.le_of_ble_eq_true rfl) (fun p e s m below meth c ls X h hr hlk hl => ?_)
  have X : fb_X p m c cX1_choose 4 s _ RX1 g ks (fb_A g ks) := X
  have hl : lv_has ls 4 [(0, .ref (g.1 11)), (1, .ref (g.1 6)), (2, .ref (g.1 1))] := hl
  have hx := X.1.1
  have hb := X.1.2.1
  unfold f_X1_choose at hf
  refine lv_aload_n hx hb dX1_choose_0 rfl (lv_at hl 0 rfl) ?_
  refine gt_RX1_38 X h (hks 11 (by decide)) dX1_choose_1 ?_
  refine lv_if_eq hx hb dX1_choose_4 (tgt := 8) (by decide) (fun hc => ?_) (fun hc => ?_)
  · have hf := if_t hc hf
    refine lv_aload_n hx hb dX1_choose_8 rfl (lv_at hl 0 rfl) ?_
    refine gt_RX1_24 X h (hks 11 (by decide)) dX1_choose_9 ?_
    refine lv_lconst hx hb dX1_choose_12 kl_0 ?_
    obtain ⟨q7, hq7, hf⟩ := bd_s hf
    refine fb_cv X h (fb_runS (As := [.ref (g.1 16), .long (0)]) (rest := []) X h (c_J7_fill_d0a16 l X.2.2.1 (fun k hk => absurd hk List.not_mem_nil) (ka := 16) (by decide) (hks 16 (by decide)) N 16 (0 : Int64) σ hq7) mf_yJ7_fill_d0a16 lm_RX1_53 ⟨Nat.le_of_ble_eq_true rfl, Nat.le_of_ble_eq_true rfl⟩ ⟨Nat.le_refl _, Nat.le_refl _⟩ rfl hl.1 rfl (Nat.le_of_ble_eq_true rfl) dX1_choose_13) (fun H locs h => ?_)
    refine lv_aload_n hx hb dX1_choose_16 rfl (lv_at hl 0 rfl) ?_
    refine gt_RX1_28 X h (hks 11 (by decide)) dX1_choose_17 ?_
    refine lv_lconst hx hb dX1_choose_20 kl_0 ?_
    obtain ⟨q8, hq8, hf⟩ := bd_s hf
    refine fb_cv X h (fb_runS (As := [.ref (g.1 50), .long (0)]) (rest := []) X h (c_J7_fill_d0a16 l X.2.2.1 (fun k hk => absurd hk List.not_mem_nil) (ka := 50) (by decide) (hks 50 (by decide)) N 50 (0 : Int64) q7 hq8) mf_yJ7_fill_d0a16 lm_RX1_53 ⟨Nat.le_of_ble_eq_true rfl, Nat.le_of_ble_eq_true rfl⟩ ⟨Nat.le_refl _, Nat.le_refl _⟩ rfl hl.1 rfl (Nat.le_of_ble_eq_true rfl) dX1_choose_21) (fun H locs h => ?_)
    refine lv_aload_n hx hb dX1_choose_24 rfl (lv_at hl 0 rfl) ?_
    refine lv_bipush hx hb dX1_choose_25 kb_m9 ?_
    obtain ⟨t9, et9, hf⟩ := nm_s hf
    refine pt_RX1_42 X h (hks 11 (by decide)) dX1_choose_27 (fun H locs h => ?_)
    have h := fb_H.nm et9 h
    refine lv_iconst hx hb dX1_choose_30 ki_1 ?_
    refine lv_aload_n hx hb dX1_choose_31 rfl (lv_at hl 0 rfl) ?_
    refine gt_RX1_34 X h (hks 11 (by decide)) dX1_choose_32 ?_
    refine lv_ishl hx hb dX1_choose_35 ?_
    refine lv_iconst hx hb dX1_choose_36 ki_1 ?_
    refine lv_isub hx hb dX1_choose_37 ?_
    obtain ⟨x10, ex10, hf⟩ := nm_s hf
    refine fb_topi ex10 ?_
    refine lv_istore_n hx hb dX1_choose_38 rfl hl (by decide) (lv' := [(3, .int x10), (0, .ref (g.1 11)), (1, .ref (g.1 6)), (2, .ref (g.1 1))]) rfl (fun ls hl => ?_)
    exact w_X1_choose_L39 X hks hr hlk N N x10 t9 _ _ _ h (lv_sub hl [1, 2, 3, 0] rfl) hf
  · have hf := if_f hc hf
    have e9 := Option.some.inj hf
    subst e9
    exact fb_vr X h hr hlk dX1_choose_7
def f_X1_chosenPrice (N : Nat)  (σ : fb_S) : Option Int32 :=
  if (σ.1 11 7) = (-9 : Int32) then (
    some (-9 : Int32)
  ) else (
    (f_X1_total N 13 (σ.1 11 7) σ).bind fun q1 =>
    some q1
  )
set_option maxHeartbeats 4000000 in
set_option maxRecDepth 100000 in
theorem c_X1_chosenPrice (l : Launch) {g : fb_G} {ks : List Nat} (hI : fb_I g ks) (hks : ∀ k ∈ ([11, 13] : List Nat), k ∈ ks) (N : Nat) (σ : fb_S) {res : Int32} (hf : f_X1_chosenPrice N σ = some res) : fb_M l yX1_chosenPrice cX1_chosenPrice 1 (some .int) 2 46 g ks [.ref (g.1 11)] σ (fb_Qi g ks res σ) := by
  refine fb_met (by decide +kernel) hI (Nat.le_of_ble_eq_true rfl) (fun p e s m below meth c ls X h hr hlk hl => ?_)
  have X : fb_X p m c cX1_chosenPrice 1 s _ RX1 g ks (fb_A g ks) := X
  have hl : lv_has ls 1 [(0, .ref (g.1 11))] := hl
  have hx := X.1.1
  have hb := X.1.2.1
  unfold f_X1_chosenPrice at hf
  refine lv_aload_n hx hb dX1_chosenPrice_0 rfl (lv_at hl 0 rfl) ?_
  refine gt_RX1_42 X h (hks 11 (by decide)) dX1_chosenPrice_1 ?_
  refine lv_bipush hx hb dX1_chosenPrice_4 kb_m9 ?_
  refine lv_icmp_ne hx hb dX1_chosenPrice_6 (tgt := 14) (by decide) (fun hc => ?_) (fun hc => ?_)
  · have hf := if_f hc hf
    refine lv_aload_n hx hb dX1_chosenPrice_14 rfl (lv_at hl 0 rfl) ?_
    refine lv_aload_n hx hb dX1_chosenPrice_15 rfl (lv_at hl 0 rfl) ?_
    refine gt_RX1_15 X h (hks 11 (by decide)) dX1_chosenPrice_16 ?_
    refine lv_aload_n hx hb dX1_chosenPrice_19 rfl (lv_at hl 0 rfl) ?_
    refine gt_RX1_42 X h (hks 11 (by decide)) dX1_chosenPrice_20 ?_
    obtain ⟨q1, hq1, hf⟩ := bd_s hf
    refine fb_ci X h (fb_runV (As := [.ref (g.1 13), .int (σ.1 11 7)]) (rest := []) (k := 11) X h (c_X1_total l X.2.2.1 (fun k hk => hks k ((by decide : ∀ k ∈ ([11] : List Nat), k ∈ ([11, 13] : List Nat)) k hk)) (ka := 13) (by decide) (hks 13 (by decide)) N 13 (σ.1 11 7) σ hq1) mf_yX1_total lm_RX1_45 (hks 11 (by decide)) rfl rfl ⟨Nat.le_of_ble_eq_true rfl, Nat.le_of_ble_eq_true rfl⟩ ⟨Nat.le_refl _, Nat.le_refl _⟩ rfl hl.1 rfl (Nat.le_of_ble_eq_true rfl) dX1_chosenPrice_23) (fun H locs h => ?_)
    have e9 := Option.some.inj hf
    subst e9
    exact fb_ir X h hr hlk dX1_chosenPrice_26
  · have hf := if_t hc hf
    refine lv_bipush hx hb dX1_chosenPrice_9 kb_m9 ?_
    refine lv_goto hx hb dX1_chosenPrice_11 (tgt := 26) (by decide) ?_
    have e9 := Option.some.inj hf
    subst e9
    exact fb_ir X h hr hlk dX1_chosenPrice_26
def f_X5_cheapest (N : Nat)  (σ : fb_S) : Option (Int32 × fb_S) :=
  (f_X1_choose N σ).bind fun q1 =>
  (f_X1_chosenPrice N q1).bind fun q2 =>
  some (q2, q1)
set_option maxHeartbeats 4000000 in
set_option maxRecDepth 100000 in
theorem c_X5_cheapest (l : Launch) {g : fb_G} {ks : List Nat} (hI : fb_I g ks) (hks : ∀ k ∈ ([0, 1, 6, 7, 8, 9, 10, 11, 12, 13, 14, 16, 50] : List Nat), k ∈ ks) (N : Nat) (σ : fb_S) {res : (Int32 × fb_S)} (hf : f_X5_cheapest N σ = some res) : fb_M l yX5_cheapest cX5_cheapest 1 (some .int) 6 141 g ks [.ref (g.1 0)] σ (fb_Qi g ks res.1 res.2) := by
  refine fb_met (by decide +kernel) hI (Nat.le_of_ble_eq_true rfl) (fun p e s m below meth c ls X h hr hlk hl => ?_)
  have X : fb_X p m c cX5_cheapest 1 s _ RX5 g ks (fb_A g ks) := X
  have hl : lv_has ls 1 [(0, .ref (g.1 0))] := hl
  have hx := X.1.1
  have hb := X.1.2.1
  unfold f_X5_cheapest at hf
  refine lv_aload_n hx hb dX5_cheapest_0 rfl (lv_at hl 0 rfl) ?_
  refine gt_RX5_30 X h (hks 0 (by decide)) dX5_cheapest_1 ?_
  refine lv_aload_n hx hb dX5_cheapest_4 rfl (lv_at hl 0 rfl) ?_
  refine gt_RX5_23 X h (hks 0 (by decide)) dX5_cheapest_5 ?_
  refine lv_aload_n hx hb dX5_cheapest_8 rfl (lv_at hl 0 rfl) ?_
  refine gt_RX5_7 X h (hks 0 (by decide)) dX5_cheapest_9 ?_
  obtain ⟨q1, hq1, hf⟩ := bd_s hf
  refine fb_cv X h (fb_runVN (As := [.ref (g.1 6), .ref (g.1 1)]) (rest := []) (k := 11) X h (c_X1_choose l X.2.2.1 (fun k hk => hks k ((by decide : ∀ k ∈ ([1, 6, 7, 8, 9, 10, 11, 12, 13, 14, 16, 50] : List Nat), k ∈ ([0, 1, 6, 7, 8, 9, 10, 11, 12, 13, 14, 16, 50] : List Nat)) k hk)) N σ hq1) mf_yX1_choose lm_RX5_146 (hks 11 (by decide)) rfl rfl ⟨Nat.le_of_ble_eq_true rfl, Nat.le_of_ble_eq_true rfl⟩ ⟨Nat.le_refl _, Nat.le_refl _⟩ rfl hl.1 rfl (Nat.le_of_ble_eq_true rfl) dX5_cheapest_12) (fun H locs h => ?_)
  refine lv_aload_n hx hb dX5_cheapest_15 rfl (lv_at hl 0 rfl) ?_
  refine gt_RX5_30 X h (hks 0 (by decide)) dX5_cheapest_16 ?_
  obtain ⟨q2, hq2, hf⟩ := bd_s hf
  refine fb_ci X h (fb_runVN (As := []) (rest := []) (k := 11) X h (c_X1_chosenPrice l X.2.2.1 (fun k hk => hks k ((by decide : ∀ k ∈ ([11, 13] : List Nat), k ∈ ([0, 1, 6, 7, 8, 9, 10, 11, 12, 13, 14, 16, 50] : List Nat)) k hk)) N q1 hq2) mf_yX1_chosenPrice lm_RX5_150 (hks 11 (by decide)) rfl rfl ⟨Nat.le_of_ble_eq_true rfl, Nat.le_of_ble_eq_true rfl⟩ ⟨Nat.le_refl _, Nat.le_refl _⟩ rfl hl.1 rfl (Nat.le_of_ble_eq_true rfl) dX5_cheapest_19) (fun H locs h => ?_)
  have e9 := Option.some.inj hf
  subst e9
  exact fb_ir X h hr hlk dX5_cheapest_22
def f_X1_chosenAt_L20 (N : Nat) (σ : fb_S) : Nat → Int32 → Int32 → Int32 → Option Int32
  | 0, _, _, _ => none
  | n + 1, v1, v2, v3 => 
    if (σ.1 11 5) ≤ v3 then (
      some (-9 : Int32)
    ) else (
      (f_X1_isIn v3 (σ.1 11 7) σ).bind fun q1 =>
      if q1 = 0 then (
        f_X1_chosenAt_L20 N σ n v1 v2 (v3 + 1)
      ) else (
        if v2 = v1 then (
          some v3
        ) else (
          f_X1_chosenAt_L20 N σ n v1 (v2 + 1) (v3 + 1)
        )
      )
    )
def f_X1_chosenAt (N : Nat) (a1 : Int32) (σ : fb_S) : Option Int32 :=
  if (σ.1 11 7) = (-9 : Int32) then (
    some (-9 : Int32)
  ) else (
    if 0 ≤ a1 then (
      f_X1_chosenAt_L20 N σ N a1 (0 : Int32) (0 : Int32)
    ) else (
      some (-9 : Int32)
    )
  )
set_option maxHeartbeats 4000000 in
set_option maxRecDepth 100000 in
theorem w_X1_chosenAt_L20 (X : fb_X p m c cX1_chosenAt 4 s args RX1 g ks (fb_A g ks)) (hks : ∀ k ∈ ([11] : List Nat), k ∈ ks) (hr : meth.sig.returnType = (some .int)) (hlk : meth.locks = false) (N : Nat) (σ : fb_S)  {res : Int32} : ∀ (n : Nat) (v1 : Int32) (v2 : Int32) (v3 : Int32) (H : Heap) (locs : List Loc) (ls : Array Slot), fb_H g ks (fb_A g ks) s.heap σ H locs → lv_has ls 4 [(0, .ref (g.1 11)), (1, .int v1), (2, .int v2), (3, .int v3)] → f_X1_chosenAt_L20 N σ n v1 v2 v3 = some res → W p l e (fb_R 1 22) s m args below meth c H locs 0 0 (MQ below (fb_Qi g ks res σ) args s 0 0 (fb_A g ks)) (F0 m 20 ls []) := by
  have hx := X.1.1
  have hb := X.1.2.1
  intro n
  induction n with
  | zero => intro v1 v2 v3 H locs ls h hl hf; cases hf
  | succ n ih =>
    intro v1 v2 v3 H locs ls h hl hf
    unfold f_X1_chosenAt_L20 at hf
    refine lv_iload_n hx hb dX1_chosenAt_20 rfl (lv_at hl 3 rfl) ?_
    refine lv_aload_n hx hb dX1_chosenAt_21 rfl (lv_at hl 0 rfl) ?_
    refine gt_RX1_34 X h (hks 11 (by decide)) dX1_chosenAt_22 ?_
    refine lv_icmp_ge hx hb dX1_chosenAt_25 (tgt := 56) (by decide) (fun hc => ?_) (fun hc => ?_)
    · have hf := if_t hc hf
      refine lv_bipush hx hb dX1_chosenAt_56 kb_m9 ?_
      have e9 := Option.some.inj hf
      subst e9
      exact fb_ir X h hr hlk dX1_chosenAt_58
    · have hf := if_f hc hf
      refine lv_aload_n hx hb dX1_chosenAt_28 rfl (lv_at hl 0 rfl) ?_
      refine lv_iload_n hx hb dX1_chosenAt_29 rfl (lv_at hl 3 rfl) ?_
      refine lv_aload_n hx hb dX1_chosenAt_30 rfl (lv_at hl 0 rfl) ?_
      refine gt_RX1_42 X h (hks 11 (by decide)) dX1_chosenAt_31 ?_
      obtain ⟨q1, hq1, hf⟩ := bd_s hf
      refine fb_ci X h (fb_runV (As := [.int v3, .int (σ.1 11 7)]) (rest := []) (k := 11) X h (c_X1_isIn l X.2.2.1 (fun k hk => hks k ((by decide : ∀ k ∈ ([11] : List Nat), k ∈ ([11] : List Nat)) k hk)) v3 (σ.1 11 7) σ hq1) mf_yX1_isIn lm_RX1_49 (hks 11 (by decide)) rfl rfl ⟨Nat.le_of_ble_eq_true rfl, Nat.le_of_ble_eq_true rfl⟩ ⟨Nat.le_refl _, Nat.le_refl _⟩ rfl hl.1 rfl (Nat.le_of_ble_eq_true rfl) dX1_chosenAt_34) (fun H locs h => ?_)
      refine lv_if_eq hx hb dX1_chosenAt_37 (tgt := 50) (by decide) (fun hc => ?_) (fun hc => ?_)
      · have hf := if_t hc hf
        refine lv_iinc hx hb dX1_chosenAt_50 hl (k := 3) rfl (kinc_1 _) (by decide) (lv' := [(3, .int (v3 + 1)), (0, .ref (g.1 11)), (1, .int v1), (2, .int v2)]) rfl (fun ls hl => ?_)
        refine lv_goto hx hb dX1_chosenAt_53 (tgt := 20) (by decide) ?_
        exact ih v1 v2 (v3 + 1) _ _ _ h (lv_sub hl [1, 2, 3, 0] rfl) hf
      · have hf := if_f hc hf
        refine lv_iload_n hx hb dX1_chosenAt_40 rfl (lv_at hl 2 rfl) ?_
        refine lv_iload_n hx hb dX1_chosenAt_41 rfl (lv_at hl 1 rfl) ?_
        refine lv_icmp_ne hx hb dX1_chosenAt_42 (tgt := 47) (by decide) (fun hc => ?_) (fun hc => ?_)
        · have hf := if_f hc hf
          refine lv_iinc hx hb dX1_chosenAt_47 hl (k := 2) rfl (kinc_1 _) (by decide) (lv' := [(2, .int (v2 + 1)), (0, .ref (g.1 11)), (1, .int v1), (3, .int v3)]) rfl (fun ls hl => ?_)
          refine lv_iinc hx hb dX1_chosenAt_50 hl (k := 3) rfl (kinc_1 _) (by decide) (lv' := [(3, .int (v3 + 1)), (2, .int (v2 + 1)), (0, .ref (g.1 11)), (1, .int v1)]) rfl (fun ls hl => ?_)
          refine lv_goto hx hb dX1_chosenAt_53 (tgt := 20) (by decide) ?_
          exact ih v1 (v2 + 1) (v3 + 1) _ _ _ h (lv_sub hl [2, 3, 1, 0] rfl) hf
        · have hf := if_t hc hf
          refine lv_iload_n hx hb dX1_chosenAt_45 rfl (lv_at hl 3 rfl) ?_
          have e9 := Option.some.inj hf
          subst e9
          exact fb_ir X h hr hlk dX1_chosenAt_46
set_option maxHeartbeats 4000000 in
set_option maxRecDepth 100000 in
theorem c_X1_chosenAt (l : Launch) {g : fb_G} {ks : List Nat} (hI : fb_I g ks) (hks : ∀ k ∈ ([11] : List Nat), k ∈ ks) (N : Nat) (a1 : Int32) (σ : fb_S) {res : Int32} (hf : f_X1_chosenAt N a1 σ = some res) : fb_M l yX1_chosenAt cX1_chosenAt 4 (some .int) 1 22 g ks [.ref (g.1 11), .int a1] σ (fb_Qi g ks res σ) := by
  refine fb_met (by decide +kernel) hI (Nat.le_of_ble_eq_true rfl) (fun p e s m below meth c ls X h hr hlk hl => ?_)
  have X : fb_X p m c cX1_chosenAt 4 s _ RX1 g ks (fb_A g ks) := X
  have hl : lv_has ls 4 [(0, .ref (g.1 11)), (1, .int a1)] := hl
  have hx := X.1.1
  have hb := X.1.2.1
  unfold f_X1_chosenAt at hf
  refine lv_aload_n hx hb dX1_chosenAt_0 rfl (lv_at hl 0 rfl) ?_
  refine gt_RX1_42 X h (hks 11 (by decide)) dX1_chosenAt_1 ?_
  refine lv_bipush hx hb dX1_chosenAt_4 kb_m9 ?_
  refine lv_icmp_eq hx hb dX1_chosenAt_6 (tgt := 13) (by decide) (fun hc => ?_) (fun hc => ?_)
  · have hf := if_t hc hf
    refine lv_bipush hx hb dX1_chosenAt_13 kb_m9 ?_
    have e9 := Option.some.inj hf
    subst e9
    exact fb_ir X h hr hlk dX1_chosenAt_15
  · have hf := if_f hc hf
    refine lv_iload_n hx hb dX1_chosenAt_9 rfl (lv_at hl 1 rfl) ?_
    refine lv_if_ge hx hb dX1_chosenAt_10 (tgt := 16) (by decide) (fun hc => ?_) (fun hc => ?_)
    · have hf := if_t hc hf
      refine lv_iconst hx hb dX1_chosenAt_16 ki_0 ?_
      refine lv_istore_n hx hb dX1_chosenAt_17 rfl hl (by decide) (lv' := [(2, .int (0)), (0, .ref (g.1 11)), (1, .int a1)]) rfl (fun ls hl => ?_)
      refine lv_iconst hx hb dX1_chosenAt_18 ki_0 ?_
      refine lv_istore_n hx hb dX1_chosenAt_19 rfl hl (by decide) (lv' := [(3, .int (0)), (2, .int (0)), (0, .ref (g.1 11)), (1, .int a1)]) rfl (fun ls hl => ?_)
      exact w_X1_chosenAt_L20 X hks hr hlk N σ N a1 (0 : Int32) (0 : Int32) _ _ _ h (lv_sub hl [2, 3, 1, 0] rfl) hf
    · have hf := if_f hc hf
      refine lv_bipush hx hb dX1_chosenAt_13 kb_m9 ?_
      have e9 := Option.some.inj hf
      subst e9
      exact fb_ir X h hr hlk dX1_chosenAt_15
def f_X5_bought (N : Nat) (a1 : Int32) (σ : fb_S) : Option (Int32 × fb_S) :=
  (f_X1_choose N σ).bind fun q1 =>
  (f_X1_chosenAt N a1 q1).bind fun q2 =>
  some (q2, q1)
set_option maxHeartbeats 4000000 in
set_option maxRecDepth 100000 in
theorem c_X5_bought (l : Launch) {g : fb_G} {ks : List Nat} (hI : fb_I g ks) (hks : ∀ k ∈ ([0, 1, 6, 7, 8, 9, 10, 11, 12, 13, 14, 16, 50] : List Nat), k ∈ ks) (N : Nat) (a1 : Int32) (σ : fb_S) {res : (Int32 × fb_S)} (hf : f_X5_bought N a1 σ = some res) : fb_M l yX5_bought cX5_bought 2 (some .int) 6 141 g ks [.ref (g.1 0), .int a1] σ (fb_Qi g ks res.1 res.2) := by
  refine fb_met (by decide +kernel) hI (Nat.le_of_ble_eq_true rfl) (fun p e s m below meth c ls X h hr hlk hl => ?_)
  have X : fb_X p m c cX5_bought 2 s _ RX5 g ks (fb_A g ks) := X
  have hl : lv_has ls 2 [(0, .ref (g.1 0)), (1, .int a1)] := hl
  have hx := X.1.1
  have hb := X.1.2.1
  unfold f_X5_bought at hf
  refine lv_aload_n hx hb dX5_bought_0 rfl (lv_at hl 0 rfl) ?_
  refine gt_RX5_30 X h (hks 0 (by decide)) dX5_bought_1 ?_
  refine lv_aload_n hx hb dX5_bought_4 rfl (lv_at hl 0 rfl) ?_
  refine gt_RX5_23 X h (hks 0 (by decide)) dX5_bought_5 ?_
  refine lv_aload_n hx hb dX5_bought_8 rfl (lv_at hl 0 rfl) ?_
  refine gt_RX5_7 X h (hks 0 (by decide)) dX5_bought_9 ?_
  obtain ⟨q1, hq1, hf⟩ := bd_s hf
  refine fb_cv X h (fb_runVN (As := [.ref (g.1 6), .ref (g.1 1)]) (rest := []) (k := 11) X h (c_X1_choose l X.2.2.1 (fun k hk => hks k ((by decide : ∀ k ∈ ([1, 6, 7, 8, 9, 10, 11, 12, 13, 14, 16, 50] : List Nat), k ∈ ([0, 1, 6, 7, 8, 9, 10, 11, 12, 13, 14, 16, 50] : List Nat)) k hk)) N σ hq1) mf_yX1_choose lm_RX5_146 (hks 11 (by decide)) rfl rfl ⟨Nat.le_of_ble_eq_true rfl, Nat.le_of_ble_eq_true rfl⟩ ⟨Nat.le_refl _, Nat.le_refl _⟩ rfl hl.1 rfl (Nat.le_of_ble_eq_true rfl) dX5_bought_12) (fun H locs h => ?_)
  refine lv_aload_n hx hb dX5_bought_15 rfl (lv_at hl 0 rfl) ?_
  refine gt_RX5_30 X h (hks 0 (by decide)) dX5_bought_16 ?_
  refine lv_iload_n hx hb dX5_bought_19 rfl (lv_at hl 1 rfl) ?_
  obtain ⟨q2, hq2, hf⟩ := bd_s hf
  refine fb_ci X h (fb_runVN (As := [.int a1]) (rest := []) (k := 11) X h (c_X1_chosenAt l X.2.2.1 (fun k hk => hks k ((by decide : ∀ k ∈ ([11] : List Nat), k ∈ ([0, 1, 6, 7, 8, 9, 10, 11, 12, 13, 14, 16, 50] : List Nat)) k hk)) N a1 q1 hq2) mf_yX1_chosenAt lm_RX5_153 (hks 11 (by decide)) rfl rfl ⟨Nat.le_of_ble_eq_true rfl, Nat.le_of_ble_eq_true rfl⟩ ⟨Nat.le_refl _, Nat.le_refl _⟩ rfl hl.1 rfl (Nat.le_of_ble_eq_true rfl) dX5_bought_20) (fun H locs h => ?_)
  have e9 := Option.some.inj hf
  subst e9
  exact fb_ir X h hr hlk dX5_bought_23
def f_X5_way (a1 : Int32) (a2 : Int32) (σ : fb_S) : Option (Int32 × fb_S) :=
  (f_X5_isWithin a1 (0 : Int32) (5 : Int32)).bind fun q1 =>
  if q1 = 0 then (
    some ((-2 : Int32), σ)
  ) else (
    ck_ (fb_in a1 6) <|
    ck_ (fb_in a1 6) <|
    (f_X5_isWithin a2 (fb_rl 2 a1.toNatClampNeg) (fb_rl 3 a1.toNatClampNeg)).bind fun q2 =>
    if q2 = 0 then (
      some ((-2 : Int32), σ)
    ) else (
      (f_X5_exchange 18 a1 a2 σ).bind fun q3 =>
      some (q3.1, q3.2)
    )
  )
set_option maxHeartbeats 4000000 in
set_option maxRecDepth 100000 in
theorem c_X5_way (l : Launch) {g : fb_G} {ks : List Nat} (hI : fb_I g ks) (hks : ∀ k ∈ ([0, 17, 18] : List Nat), k ∈ ks) (a1 : Int32) (a2 : Int32) (σ : fb_S) {res : (Int32 × fb_S)} (hf : f_X5_way a1 a2 σ = some res) : fb_MZ l yX5_way cX5_way 3 (some .int) 1 23 g ks [.ref (g.1 0), .int a1, .int a2] σ (fb_Qi g ks res.1 res.2) := by
  refine fb_metZ (by decide +kernel) hI (Nat.le_of_ble_eq_true rfl) (fun p e s m below meth c ls tz hz X h hr hlk hl => ?_)
  have X : fb_X p m c cX5_way 3 s _ RX5 g ks (fb_A g ks) := X
  have hl : lv_has ls 3 [(0, .ref (g.1 0)), (1, .int a1), (2, .int a2)] := hl
  have hx := X.1.1
  have hb := X.1.2.1
  unfold f_X5_way at hf
  refine lv_iload_n hx hb dX5_way_0 rfl (lv_at hl 1 rfl) ?_
  refine lv_iconst hx hb dX5_way_1 ki_0 ?_
  refine lv_iconst hx hb dX5_way_2 ki_5 ?_
  obtain ⟨q1, hq1, hf⟩ := bd_s hf
  refine fb_ci X h (fb_runS (As := [.int a1, .int (0), .int (5)]) (rest := []) X h (c_X5_isWithin l X.2.2.1 (fun k hk => absurd hk List.not_mem_nil) a1 (0 : Int32) (5 : Int32) σ hq1) mf_yX5_isWithin lm_RX5_48 ⟨Nat.le_of_ble_eq_true rfl, Nat.le_of_ble_eq_true rfl⟩ ⟨Nat.le_refl _, Nat.le_refl _⟩ rfl hl.1 rfl (Nat.le_of_ble_eq_true rfl) dX5_way_3) (fun H locs h => ?_)
  refine lv_if_eq hx hb dX5_way_6 (tgt := 26) (by decide) (fun hc => ?_) (fun hc => ?_)
  · have hf := if_t hc hf
    refine lv_bipush hx hb dX5_way_26 kb_m2 ?_
    have e9 := Option.some.inj hf
    subst e9
    exact fb_ir X h hr hlk dX5_way_28
  · have hf := if_f hc hf
    refine lv_iload_n hx hb dX5_way_9 rfl (lv_at hl 2 rfl) ?_
    refine va_gets hx hb (hz 2 (by decide)).1 h.2 X.1.2.2.2.1 (X.1.2.2.2.2 _ lf_RX5_156) (fun _ h => h) dX5_way_10 ?_
    refine lv_iload_n hx hb dX5_way_13 rfl (lv_at hl 1 rfl) ?_
    obtain ⟨hi0, hf⟩ := ck_s hf
    refine va_ti hx hb (hz 2 (by decide)).2 h.2 (fb_in_vp hi0) (v := .int (fb_rl 2 a1.toNatClampNeg)) rfl dX5_way_14 ?_
    refine va_gets hx hb (hz 3 (by decide)).1 h.2 X.1.2.2.2.1 (X.1.2.2.2.2 _ lf_RX5_159) (fun _ h => h) dX5_way_15 ?_
    refine lv_iload_n hx hb dX5_way_18 rfl (lv_at hl 1 rfl) ?_
    obtain ⟨hi0, hf⟩ := ck_s hf
    refine va_ti hx hb (hz 3 (by decide)).2 h.2 (fb_in_vp hi0) (v := .int (fb_rl 3 a1.toNatClampNeg)) rfl dX5_way_19 ?_
    obtain ⟨q2, hq2, hf⟩ := bd_s hf
    refine fb_ci X h (fb_runS (As := [.int a2, .int (fb_rl 2 a1.toNatClampNeg), .int (fb_rl 3 a1.toNatClampNeg)]) (rest := []) X h (c_X5_isWithin l X.2.2.1 (fun k hk => absurd hk List.not_mem_nil) a2 (fb_rl 2 a1.toNatClampNeg) (fb_rl 3 a1.toNatClampNeg) σ hq2) mf_yX5_isWithin lm_RX5_48 ⟨Nat.le_of_ble_eq_true rfl, Nat.le_of_ble_eq_true rfl⟩ ⟨Nat.le_refl _, Nat.le_refl _⟩ rfl hl.1 rfl (Nat.le_of_ble_eq_true rfl) dX5_way_20) (fun H locs h => ?_)
    refine lv_if_ne hx hb dX5_way_23 (tgt := 29) (by decide) (fun hc => ?_) (fun hc => ?_)
    · have hf := if_f hc hf
      refine lv_aload_n hx hb dX5_way_29 rfl (lv_at hl 0 rfl) ?_
      refine gt_RX5_37 X h (hks 0 (by decide)) dX5_way_30 ?_
      refine gt_RX5_162 X h (hks 17 (by decide)) dX5_way_33 ?_
      refine lv_iload_n hx hb dX5_way_36 rfl (lv_at hl 1 rfl) ?_
      refine lv_iload_n hx hb dX5_way_37 rfl (lv_at hl 2 rfl) ?_
      obtain ⟨q3, hq3, hf⟩ := bd_s hf
      refine fb_ci X h (fb_runS (As := [.ref (g.1 18), .int a1, .int a2]) (rest := []) X h (c_X5_exchange l X.2.2.1 (fun k hk => absurd hk List.not_mem_nil) (ka := 18) (by decide) (hks 18 (by decide)) 18 a1 a2 σ hq3) mf_yX5_exchange lm_RX5_63 ⟨Nat.le_of_ble_eq_true rfl, Nat.le_of_ble_eq_true rfl⟩ ⟨Nat.le_refl _, Nat.le_refl _⟩ rfl hl.1 rfl (Nat.le_of_ble_eq_true rfl) dX5_way_38) (fun H locs h => ?_)
      have e9 := Option.some.inj hf
      subst e9
      exact fb_ir X h hr hlk dX5_way_41
    · have hf := if_t hc hf
      refine lv_bipush hx hb dX5_way_26 kb_m2 ?_
      have e9 := Option.some.inj hf
      subst e9
      exact fb_ir X h hr hlk dX5_way_28
def f_X5_arrive (a1 : Int32) (a2 : Int32) (σ : fb_S) : Option (Int32 × fb_S) :=
  (f_X5_isWithin a1 (0 : Int32) (59 : Int32)).bind fun q1 =>
  if q1 = 0 then (
    some ((-2 : Int32), σ)
  ) else (
    (f_X5_isWithin a2 (0 : Int32) (99 : Int32)).bind fun q2 =>
    if q2 = 0 then (
      some ((-2 : Int32), σ)
    ) else (
      (f_X5_exchange 19 a1 a2 σ).bind fun q3 =>
      some (q3.1, q3.2)
    )
  )
set_option maxHeartbeats 4000000 in
set_option maxRecDepth 100000 in
theorem c_X5_arrive (l : Launch) {g : fb_G} {ks : List Nat} (hI : fb_I g ks) (hks : ∀ k ∈ ([0, 17, 19] : List Nat), k ∈ ks) (a1 : Int32) (a2 : Int32) (σ : fb_S) {res : (Int32 × fb_S)} (hf : f_X5_arrive a1 a2 σ = some res) : fb_M l yX5_arrive cX5_arrive 3 (some .int) 1 23 g ks [.ref (g.1 0), .int a1, .int a2] σ (fb_Qi g ks res.1 res.2) := by
  refine fb_met (by decide +kernel) hI (Nat.le_of_ble_eq_true rfl) (fun p e s m below meth c ls X h hr hlk hl => ?_)
  have X : fb_X p m c cX5_arrive 3 s _ RX5 g ks (fb_A g ks) := X
  have hl : lv_has ls 3 [(0, .ref (g.1 0)), (1, .int a1), (2, .int a2)] := hl
  have hx := X.1.1
  have hb := X.1.2.1
  unfold f_X5_arrive at hf
  refine lv_iload_n hx hb dX5_arrive_0 rfl (lv_at hl 1 rfl) ?_
  refine lv_iconst hx hb dX5_arrive_1 ki_0 ?_
  refine lv_bipush hx hb dX5_arrive_2 kb_59 ?_
  obtain ⟨q1, hq1, hf⟩ := bd_s hf
  refine fb_ci X h (fb_runS (As := [.int a1, .int (0), .int (59)]) (rest := []) X h (c_X5_isWithin l X.2.2.1 (fun k hk => absurd hk List.not_mem_nil) a1 (0 : Int32) (59 : Int32) σ hq1) mf_yX5_isWithin lm_RX5_48 ⟨Nat.le_of_ble_eq_true rfl, Nat.le_of_ble_eq_true rfl⟩ ⟨Nat.le_refl _, Nat.le_refl _⟩ rfl hl.1 rfl (Nat.le_of_ble_eq_true rfl) dX5_arrive_4) (fun H locs h => ?_)
  refine lv_if_eq hx hb dX5_arrive_7 (tgt := 20) (by decide) (fun hc => ?_) (fun hc => ?_)
  · have hf := if_t hc hf
    refine lv_bipush hx hb dX5_arrive_20 kb_m2 ?_
    have e9 := Option.some.inj hf
    subst e9
    exact fb_ir X h hr hlk dX5_arrive_22
  · have hf := if_f hc hf
    refine lv_iload_n hx hb dX5_arrive_10 rfl (lv_at hl 2 rfl) ?_
    refine lv_iconst hx hb dX5_arrive_11 ki_0 ?_
    refine lv_bipush hx hb dX5_arrive_12 kb_99 ?_
    obtain ⟨q2, hq2, hf⟩ := bd_s hf
    refine fb_ci X h (fb_runS (As := [.int a2, .int (0), .int (99)]) (rest := []) X h (c_X5_isWithin l X.2.2.1 (fun k hk => absurd hk List.not_mem_nil) a2 (0 : Int32) (99 : Int32) σ hq2) mf_yX5_isWithin lm_RX5_48 ⟨Nat.le_of_ble_eq_true rfl, Nat.le_of_ble_eq_true rfl⟩ ⟨Nat.le_refl _, Nat.le_refl _⟩ rfl hl.1 rfl (Nat.le_of_ble_eq_true rfl) dX5_arrive_14) (fun H locs h => ?_)
    refine lv_if_ne hx hb dX5_arrive_17 (tgt := 23) (by decide) (fun hc => ?_) (fun hc => ?_)
    · have hf := if_f hc hf
      refine lv_aload_n hx hb dX5_arrive_23 rfl (lv_at hl 0 rfl) ?_
      refine gt_RX5_37 X h (hks 0 (by decide)) dX5_arrive_24 ?_
      refine gt_RX5_165 X h (hks 17 (by decide)) dX5_arrive_27 ?_
      refine lv_iload_n hx hb dX5_arrive_30 rfl (lv_at hl 1 rfl) ?_
      refine lv_iload_n hx hb dX5_arrive_31 rfl (lv_at hl 2 rfl) ?_
      obtain ⟨q3, hq3, hf⟩ := bd_s hf
      refine fb_ci X h (fb_runS (As := [.ref (g.1 19), .int a1, .int a2]) (rest := []) X h (c_X5_exchange l X.2.2.1 (fun k hk => absurd hk List.not_mem_nil) (ka := 19) (by decide) (hks 19 (by decide)) 19 a1 a2 σ hq3) mf_yX5_exchange lm_RX5_63 ⟨Nat.le_of_ble_eq_true rfl, Nat.le_of_ble_eq_true rfl⟩ ⟨Nat.le_refl _, Nat.le_refl _⟩ rfl hl.1 rfl (Nat.le_of_ble_eq_true rfl) dX5_arrive_32) (fun H locs h => ?_)
      have e9 := Option.some.inj hf
      subst e9
      exact fb_ir X h hr hlk dX5_arrive_35
    · have hf := if_t hc hf
      refine lv_bipush hx hb dX5_arrive_20 kb_m2 ?_
      have e9 := Option.some.inj hf
      subst e9
      exact fb_ir X h hr hlk dX5_arrive_22
def f_X5_isDay (a1 : Int32) : Option Int32 :=
  (f_X5_isWithin a1 (1 : Int32) (60 : Int32)).bind fun q1 =>
  ck_ (fb_bo q1) <|
  some q1
set_option maxHeartbeats 4000000 in
set_option maxRecDepth 100000 in
theorem c_X5_isDay (l : Launch) {g : fb_G} {ks : List Nat} (hI : fb_I g ks) (hks : ∀ k ∈ ([] : List Nat), k ∈ ks) (a1 : Int32) (σ : fb_S) {res : Int32} (hf : f_X5_isDay a1 = some res) : fb_M l yX5_isDay cX5_isDay 1 (some .boolean) 1 22 g ks [.int a1] σ (fb_Qi g ks res σ) := by
  refine fb_met (by decide +kernel) hI (Nat.le_of_ble_eq_true rfl) (fun p e s m below meth c ls X h hr hlk hl => ?_)
  have X : fb_X p m c cX5_isDay 1 s _ RX5 g ks (fb_A g ks) := X
  have hl : lv_has ls 1 [(0, .int a1)] := hl
  have hx := X.1.1
  have hb := X.1.2.1
  unfold f_X5_isDay at hf
  refine lv_iload_n hx hb dX5_isDay_0 rfl (lv_at hl 0 rfl) ?_
  refine lv_iconst hx hb dX5_isDay_1 ki_1 ?_
  refine lv_bipush hx hb dX5_isDay_2 kb_60 ?_
  obtain ⟨q1, hq1, hf⟩ := bd_s hf
  refine fb_ci X h (fb_runS (As := [.int a1, .int (1), .int (60)]) (rest := []) X h (c_X5_isWithin l X.2.2.1 (fun k hk => absurd hk List.not_mem_nil) a1 (1 : Int32) (60 : Int32) σ hq1) mf_yX5_isWithin lm_RX5_48 ⟨Nat.le_of_ble_eq_true rfl, Nat.le_of_ble_eq_true rfl⟩ ⟨Nat.le_refl _, Nat.le_refl _⟩ rfl hl.1 rfl (Nat.le_of_ble_eq_true rfl) dX5_isDay_4) (fun H locs h => ?_)
  obtain ⟨hz0, hf⟩ := ck_s hf
  have e9 := Option.some.inj hf
  subst e9
  exact fb_zr (r := q1) X h hr (fb_bo_n hz0) hlk dX5_isDay_7
def f_X2_clear (N : Nat) (a1 : Int32) (σ : fb_S) : Option fb_S :=
  (f_J7_fill_53178 N 20 (0 : Int32) σ).bind fun q1 =>
  nm_ (fb_up q1 17 4 (0 : Int32)) fun t2 =>
  nm_ (fb_up t2 17 5 (0 : Int32)) fun t3 =>
  nm_ (fb_up t3 17 6 (0 : Int32)) fun t4 =>
  nm_ (fb_up t4 17 7 a1) fun t5 =>
  nm_ (fb_up t5 17 8 (0 : Int32)) fun t6 =>
  nm_ (fb_up t6 17 9 (0 : Int32)) fun t7 =>
  nm_ (fb_up t7 17 10 (1000 : Int32)) fun t8 =>
  some t8
set_option maxHeartbeats 4000000 in
set_option maxRecDepth 100000 in
theorem c_X2_clear (l : Launch) {g : fb_G} {ks : List Nat} (hI : fb_I g ks) (hks : ∀ k ∈ ([17, 20] : List Nat), k ∈ ks) (N : Nat) (a1 : Int32) (σ : fb_S) {res : fb_S} (hf : f_X2_clear N a1 σ = some res) : fb_M l yX2_clear cX2_clear 2 none 1 23 g ks [.ref (g.1 17), .int a1] σ (fb_Qv g ks res) := by
  refine fb_met (by decide +kernel) hI (Nat.le_of_ble_eq_true rfl) (fun p e s m below meth c ls X h hr hlk hl => ?_)
  have X : fb_X p m c cX2_clear 2 s _ RX2 g ks (fb_A g ks) := X
  have hl : lv_has ls 2 [(0, .ref (g.1 17)), (1, .int a1)] := hl
  have hx := X.1.1
  have hb := X.1.2.1
  unfold f_X2_clear at hf
  refine lv_aload_n hx hb dX2_clear_0 rfl (lv_at hl 0 rfl) ?_
  refine gt_RX2_18 X h (hks 17 (by decide)) dX2_clear_1 ?_
  refine lv_iconst hx hb dX2_clear_4 ki_0 ?_
  obtain ⟨q1, hq1, hf⟩ := bd_s hf
  refine fb_cv X h (fb_runS (As := [.ref (g.1 20), .int (0)]) (rest := []) X h (c_J7_fill_53178 l X.2.2.1 (fun k hk => absurd hk List.not_mem_nil) (ka := 20) (by decide) (hks 20 (by decide)) N 20 (0 : Int32) σ hq1) mf_yJ7_fill_53178 lm_RX2_24 ⟨Nat.le_of_ble_eq_true rfl, Nat.le_of_ble_eq_true rfl⟩ ⟨Nat.le_refl _, Nat.le_refl _⟩ rfl hl.1 rfl (Nat.le_of_ble_eq_true rfl) dX2_clear_5) (fun H locs h => ?_)
  refine lv_aload_n hx hb dX2_clear_8 rfl (lv_at hl 0 rfl) ?_
  refine lv_iconst hx hb dX2_clear_9 ki_0 ?_
  obtain ⟨t2, et2, hf⟩ := nm_s hf
  refine pt_RX2_30 X h (hks 17 (by decide)) dX2_clear_10 (fun H locs h => ?_)
  have h := fb_H.nm et2 h
  refine lv_aload_n hx hb dX2_clear_13 rfl (lv_at hl 0 rfl) ?_
  refine lv_iconst hx hb dX2_clear_14 ki_0 ?_
  obtain ⟨t3, et3, hf⟩ := nm_s hf
  refine pt_RX2_34 X h (hks 17 (by decide)) dX2_clear_15 (fun H locs h => ?_)
  have h := fb_H.nm et3 h
  refine lv_aload_n hx hb dX2_clear_18 rfl (lv_at hl 0 rfl) ?_
  refine lv_iconst hx hb dX2_clear_19 ki_0 ?_
  obtain ⟨t4, et4, hf⟩ := nm_s hf
  refine pt_RX2_37 X h (hks 17 (by decide)) dX2_clear_20 (fun H locs h => ?_)
  have h := fb_H.nm et4 h
  refine lv_aload_n hx hb dX2_clear_23 rfl (lv_at hl 0 rfl) ?_
  refine lv_iload_n hx hb dX2_clear_24 rfl (lv_at hl 1 rfl) ?_
  obtain ⟨t5, et5, hf⟩ := nm_s hf
  refine pt_RX2_40 X h (hks 17 (by decide)) dX2_clear_25 (fun H locs h => ?_)
  have h := fb_H.nm et5 h
  refine lv_aload_n hx hb dX2_clear_28 rfl (lv_at hl 0 rfl) ?_
  refine lv_iconst hx hb dX2_clear_29 ki_0 ?_
  obtain ⟨t6, et6, hf⟩ := nm_s hf
  refine pt_RX2_43 X h (hks 17 (by decide)) dX2_clear_30 (fun H locs h => ?_)
  have h := fb_H.nm et6 h
  refine lv_aload_n hx hb dX2_clear_33 rfl (lv_at hl 0 rfl) ?_
  refine lv_iconst hx hb dX2_clear_34 ki_0 ?_
  obtain ⟨t7, et7, hf⟩ := nm_s hf
  refine pt_RX2_46 X h (hks 17 (by decide)) dX2_clear_35 (fun H locs h => ?_)
  have h := fb_H.nm et7 h
  refine lv_aload_n hx hb dX2_clear_38 rfl (lv_at hl 0 rfl) ?_
  refine lv_sipush hx hb dX2_clear_39 ks_1000 ?_
  obtain ⟨t8, et8, hf⟩ := nm_s hf
  refine pt_RX2_49 X h (hks 17 (by decide)) dX2_clear_42 (fun H locs h => ?_)
  have h := fb_H.nm et8 h
  have e9 := Option.some.inj hf
  subst e9
  exact fb_vr X h hr hlk dX2_clear_45
def f_X2_goOn_L59 (N : Nat) : Nat → Int32 → fb_S → Option fb_S
  | 0, _, _ => none
  | n + 1, v3, σ => 
    if v3 < 0 then (
      some σ
    ) else (
      ck_ (fb_in (v3 + (1 : Int32)) 8) <|
      nm_ ((σ.1 18 1) - (σ.1 20 (v3 + (1 : Int32)).toNatClampNeg)) fun x1 =>
      ck_ (fb_in v3 8) <|
      nm_ (mn_ (mn_ (σ.1 20 v3.toNatClampNeg) (σ.1 18 2)) x1) fun x2 =>
      ck_ (fb_in v3 8) <|
      ck_ (fb_in v3 8) <|
      nm_ (fb_up σ 20 (v3.toNatClampNeg) ((σ.1 20 v3.toNatClampNeg) - x2)) fun t3 =>
      ck_ (fb_in (v3 + (1 : Int32)) 8) <|
      ck_ (fb_in (v3 + (1 : Int32)) 8) <|
      nm_ (fb_up t3 20 ((v3 + (1 : Int32)).toNatClampNeg) ((t3.1 20 (v3 + (1 : Int32)).toNatClampNeg) + x2)) fun t4 =>
      f_X2_goOn_L59 N n (v3 + (-1)) t4
    )
def f_X2_goOn (N : Nat)  (σ : fb_S) : Option fb_S :=
  nm_ ((σ.1 18 0) - (1 : Int32)) fun x5 =>
  ck_ (fb_in x5 8) <|
  nm_ (mn_ (σ.1 20 x5.toNatClampNeg) (σ.1 18 2)) fun x6 =>
  ck_ (fb_in x5 8) <|
  ck_ (fb_in x5 8) <|
  nm_ (fb_up σ 20 (x5.toNatClampNeg) ((σ.1 20 x5.toNatClampNeg) - x6)) fun t7 =>
  nm_ (fb_up t7 17 5 ((t7.1 17 5) - x6)) fun t8 =>
  nm_ (fb_up t8 17 4 ((t8.1 17 4) + x6)) fun t9 =>
  nm_ (x5 - (1 : Int32)) fun x10 =>
  f_X2_goOn_L59 N N x10 t9
set_option maxHeartbeats 4000000 in
set_option maxRecDepth 100000 in
theorem w_X2_goOn_L59 (X : fb_X p m c cX2_goOn 6 s args RX2 g ks (fb_A g ks)) (hks : ∀ k ∈ ([17, 18, 20] : List Nat), k ∈ ks) (hr : meth.sig.returnType = none) (hlk : meth.locks = false) (N : Nat)  {res : fb_S} : ∀ (n : Nat) (v3 : Int32) (σ : fb_S) (H : Heap) (locs : List Loc) (ls : Array Slot), fb_H g ks (fb_A g ks) s.heap σ H locs → lv_has ls 6 [(0, .ref (g.1 17)), (3, .int v3)] → f_X2_goOn_L59 N n v3 σ = some res → W p l e (fb_R 1 21) s m args below meth c H locs 0 0 (MQ below (fb_Qv g ks res) args s 0 0 (fb_A g ks)) (F0 m 59 ls []) := by
  have hx := X.1.1
  have hb := X.1.2.1
  intro n
  induction n with
  | zero => intro v3 σ H locs ls h hl hf; cases hf
  | succ n ih =>
    intro v3 σ H locs ls h hl hf
    unfold f_X2_goOn_L59 at hf
    refine lv_iload_n hx hb dX2_goOn_59 rfl (lv_at hl 1 rfl) ?_
    refine lv_if_lt hx hb dX2_goOn_60 (tgt := 132) (by decide) (fun hc => ?_) (fun hc => ?_)
    · have hf := if_t hc hf
      have e9 := Option.some.inj hf
      subst e9
      exact fb_vr X h hr hlk dX2_goOn_132
    · have hf := if_f hc hf
      refine lv_aload_n hx hb dX2_goOn_63 rfl (lv_at hl 0 rfl) ?_
      refine gt_RX2_9 X h (hks 17 (by decide)) dX2_goOn_64 ?_
      refine lv_iconst hx hb dX2_goOn_67 ki_1 ?_
      refine fb_ialdL X h (hks 18 (by decide)) rfl (by decide) kn_1 dX2_goOn_68 ?_
      refine lv_aload_n hx hb dX2_goOn_69 rfl (lv_at hl 0 rfl) ?_
      refine gt_RX2_18 X h (hks 17 (by decide)) dX2_goOn_70 ?_
      refine lv_iload_n hx hb dX2_goOn_73 rfl (lv_at hl 1 rfl) ?_
      refine lv_iconst hx hb dX2_goOn_74 ki_1 ?_
      refine lv_iadd hx hb dX2_goOn_75 ?_
      obtain ⟨hi0, hf⟩ := ck_s hf
      refine fb_iald X h (hks 20 (by decide)) rfl hi0 dX2_goOn_76 ?_
      refine lv_isub hx hb dX2_goOn_77 ?_
      obtain ⟨x1, ex1, hf⟩ := nm_s hf
      refine fb_topi ex1 ?_
      refine lv_istore hx hb dX2_goOn_78 hl (by decide) (lv' := [(4, .int x1), (0, .ref (g.1 17)), (3, .int v3)]) rfl (fun ls hl => ?_)
      refine lv_aload_n hx hb dX2_goOn_80 rfl (lv_at hl 1 rfl) ?_
      refine gt_RX2_18 X h (hks 17 (by decide)) dX2_goOn_81 ?_
      refine lv_iload_n hx hb dX2_goOn_84 rfl (lv_at hl 2 rfl) ?_
      obtain ⟨hi0, hf⟩ := ck_s hf
      refine fb_iald X h (hks 20 (by decide)) rfl hi0 dX2_goOn_85 ?_
      refine lv_aload_n hx hb dX2_goOn_86 rfl (lv_at hl 1 rfl) ?_
      refine gt_RX2_9 X h (hks 17 (by decide)) dX2_goOn_87 ?_
      refine lv_iconst hx hb dX2_goOn_90 ki_2 ?_
      refine fb_ialdL X h (hks 18 (by decide)) rfl (by decide) kn_2 dX2_goOn_91 ?_
      refine fb_mnr X hl.1 lm_RX2_78 (Nat.le_of_ble_eq_true rfl) (Nat.le_of_ble_eq_true rfl) ⟨Nat.le_refl _, Nat.le_refl _⟩ dX2_goOn_92 ?_
      refine lv_iload hx hb dX2_goOn_95 (lv_at hl 0 rfl) ?_
      refine fb_mnr X hl.1 lm_RX2_78 (Nat.le_of_ble_eq_true rfl) (Nat.le_of_ble_eq_true rfl) ⟨Nat.le_refl _, Nat.le_refl _⟩ dX2_goOn_97 ?_
      obtain ⟨x2, ex2, hf⟩ := nm_s hf
      refine fb_topi ex2 ?_
      refine lv_istore hx hb dX2_goOn_100 hl (by decide) (lv' := [(5, .int x2), (4, .int x1), (0, .ref (g.1 17)), (3, .int v3)]) rfl (fun ls hl => ?_)
      refine lv_aload_n hx hb dX2_goOn_102 rfl (lv_at hl 2 rfl) ?_
      refine gt_RX2_18 X h (hks 17 (by decide)) dX2_goOn_103 ?_
      refine lv_iload_n hx hb dX2_goOn_106 rfl (lv_at hl 3 rfl) ?_
      refine lv_dup2_11 hx hb dX2_goOn_107 rfl rfl ?_
      obtain ⟨hi0, hf⟩ := ck_s hf
      refine fb_iald X h (hks 20 (by decide)) rfl hi0 dX2_goOn_108 ?_
      refine lv_iload hx hb dX2_goOn_109 (lv_at hl 0 rfl) ?_
      refine lv_isub hx hb dX2_goOn_111 ?_
      obtain ⟨hi0, hf⟩ := ck_s hf
      obtain ⟨t3, et3, hf⟩ := nm_s hf
      refine fb_iast X h (hks 20 (by decide)) (fun _ => rfl) hi0 dX2_goOn_112 (fun H locs h => ?_)
      have h := fb_H.nm et3 h
      refine lv_aload_n hx hb dX2_goOn_113 rfl (lv_at hl 2 rfl) ?_
      refine gt_RX2_18 X h (hks 17 (by decide)) dX2_goOn_114 ?_
      refine lv_iload_n hx hb dX2_goOn_117 rfl (lv_at hl 3 rfl) ?_
      refine lv_iconst hx hb dX2_goOn_118 ki_1 ?_
      refine lv_iadd hx hb dX2_goOn_119 ?_
      refine lv_dup2_11 hx hb dX2_goOn_120 rfl rfl ?_
      obtain ⟨hi0, hf⟩ := ck_s hf
      refine fb_iald X h (hks 20 (by decide)) rfl hi0 dX2_goOn_121 ?_
      refine lv_iload hx hb dX2_goOn_122 (lv_at hl 0 rfl) ?_
      refine lv_iadd hx hb dX2_goOn_124 ?_
      obtain ⟨hi0, hf⟩ := ck_s hf
      obtain ⟨t4, et4, hf⟩ := nm_s hf
      refine fb_iast X h (hks 20 (by decide)) (fun _ => rfl) hi0 dX2_goOn_125 (fun H locs h => ?_)
      have h := fb_H.nm et4 h
      refine lv_iinc hx hb dX2_goOn_126 hl (k := 3) rfl (kinc_m1 _) (by decide) (lv' := [(3, .int (v3 + (-1))), (5, .int x2), (4, .int x1), (0, .ref (g.1 17))]) rfl (fun ls hl => ?_)
      refine lv_goto hx hb dX2_goOn_129 (tgt := 59) (by decide) ?_
      exact ih (v3 + (-1)) t4 _ _ _ h (lv_sub hl [3, 0] rfl) hf
set_option maxHeartbeats 4000000 in
set_option maxRecDepth 100000 in
theorem c_X2_goOn (l : Launch) {g : fb_G} {ks : List Nat} (hI : fb_I g ks) (hks : ∀ k ∈ ([17, 18, 20] : List Nat), k ∈ ks) (N : Nat) (σ : fb_S) {res : fb_S} (hf : f_X2_goOn N σ = some res) : fb_M l yX2_goOn cX2_goOn 6 none 1 21 g ks [.ref (g.1 17)] σ (fb_Qv g ks res) := by
  refine fb_met (by decide +kernel) hI (Nat.le_of_ble_eq_true rfl) (fun p e s m below meth c ls X h hr hlk hl => ?_)
  have X : fb_X p m c cX2_goOn 6 s _ RX2 g ks (fb_A g ks) := X
  have hl : lv_has ls 6 [(0, .ref (g.1 17))] := hl
  have hx := X.1.1
  have hb := X.1.2.1
  unfold f_X2_goOn at hf
  refine lv_aload_n hx hb dX2_goOn_0 rfl (lv_at hl 0 rfl) ?_
  refine gt_RX2_9 X h (hks 17 (by decide)) dX2_goOn_1 ?_
  refine lv_iconst hx hb dX2_goOn_4 ki_0 ?_
  refine fb_ialdL X h (hks 18 (by decide)) rfl (by decide) kn_0 dX2_goOn_5 ?_
  refine lv_iconst hx hb dX2_goOn_6 ki_1 ?_
  refine lv_isub hx hb dX2_goOn_7 ?_
  obtain ⟨x5, ex5, hf⟩ := nm_s hf
  refine fb_topi ex5 ?_
  refine lv_istore_n hx hb dX2_goOn_8 rfl hl (by decide) (lv' := [(1, .int x5), (0, .ref (g.1 17))]) rfl (fun ls hl => ?_)
  refine lv_aload_n hx hb dX2_goOn_9 rfl (lv_at hl 1 rfl) ?_
  refine gt_RX2_18 X h (hks 17 (by decide)) dX2_goOn_10 ?_
  refine lv_iload_n hx hb dX2_goOn_13 rfl (lv_at hl 0 rfl) ?_
  obtain ⟨hi0, hf⟩ := ck_s hf
  refine fb_iald X h (hks 20 (by decide)) rfl hi0 dX2_goOn_14 ?_
  refine lv_aload_n hx hb dX2_goOn_15 rfl (lv_at hl 1 rfl) ?_
  refine gt_RX2_9 X h (hks 17 (by decide)) dX2_goOn_16 ?_
  refine lv_iconst hx hb dX2_goOn_19 ki_2 ?_
  refine fb_ialdL X h (hks 18 (by decide)) rfl (by decide) kn_2 dX2_goOn_20 ?_
  refine fb_mnr X hl.1 lm_RX2_78 (Nat.le_of_ble_eq_true rfl) (Nat.le_of_ble_eq_true rfl) ⟨Nat.le_refl _, Nat.le_refl _⟩ dX2_goOn_21 ?_
  obtain ⟨x6, ex6, hf⟩ := nm_s hf
  refine fb_topi ex6 ?_
  refine lv_istore_n hx hb dX2_goOn_24 rfl hl (by decide) (lv' := [(2, .int x6), (1, .int x5), (0, .ref (g.1 17))]) rfl (fun ls hl => ?_)
  refine lv_aload_n hx hb dX2_goOn_25 rfl (lv_at hl 2 rfl) ?_
  refine gt_RX2_18 X h (hks 17 (by decide)) dX2_goOn_26 ?_
  refine lv_iload_n hx hb dX2_goOn_29 rfl (lv_at hl 1 rfl) ?_
  refine lv_dup2_11 hx hb dX2_goOn_30 rfl rfl ?_
  obtain ⟨hi0, hf⟩ := ck_s hf
  refine fb_iald X h (hks 20 (by decide)) rfl hi0 dX2_goOn_31 ?_
  refine lv_iload_n hx hb dX2_goOn_32 rfl (lv_at hl 0 rfl) ?_
  refine lv_isub hx hb dX2_goOn_33 ?_
  obtain ⟨hi0, hf⟩ := ck_s hf
  obtain ⟨t7, et7, hf⟩ := nm_s hf
  refine fb_iast X h (hks 20 (by decide)) (fun _ => rfl) hi0 dX2_goOn_34 (fun H locs h => ?_)
  have h := fb_H.nm et7 h
  refine lv_aload_n hx hb dX2_goOn_35 rfl (lv_at hl 2 rfl) ?_
  refine lv_dup hx hb dX2_goOn_36 rfl ?_
  refine gt_RX2_34 X h (hks 17 (by decide)) dX2_goOn_37 ?_
  refine lv_iload_n hx hb dX2_goOn_40 rfl (lv_at hl 0 rfl) ?_
  refine lv_isub hx hb dX2_goOn_41 ?_
  obtain ⟨t8, et8, hf⟩ := nm_s hf
  refine pt_RX2_34 X h (hks 17 (by decide)) dX2_goOn_42 (fun H locs h => ?_)
  have h := fb_H.nm et8 h
  refine lv_aload_n hx hb dX2_goOn_45 rfl (lv_at hl 2 rfl) ?_
  refine lv_dup hx hb dX2_goOn_46 rfl ?_
  refine gt_RX2_30 X h (hks 17 (by decide)) dX2_goOn_47 ?_
  refine lv_iload_n hx hb dX2_goOn_50 rfl (lv_at hl 0 rfl) ?_
  refine lv_iadd hx hb dX2_goOn_51 ?_
  obtain ⟨t9, et9, hf⟩ := nm_s hf
  refine pt_RX2_30 X h (hks 17 (by decide)) dX2_goOn_52 (fun H locs h => ?_)
  have h := fb_H.nm et9 h
  refine lv_iload_n hx hb dX2_goOn_55 rfl (lv_at hl 1 rfl) ?_
  refine lv_iconst hx hb dX2_goOn_56 ki_1 ?_
  refine lv_isub hx hb dX2_goOn_57 ?_
  obtain ⟨x10, ex10, hf⟩ := nm_s hf
  refine fb_topi ex10 ?_
  refine lv_istore_n hx hb dX2_goOn_58 rfl hl (by decide) (lv' := [(3, .int x10), (2, .int x6), (1, .int x5), (0, .ref (g.1 17))]) rfl (fun ls hl => ?_)
  exact w_X2_goOn_L59 X hks hr hlk N N x10 t9 _ _ _ h (lv_sub hl [3, 0] rfl) hf
def f_X2_knownAtGate (a1 : Int32) (σ : fb_S) : Option Int32 :=
  if (σ.1 18 5) = 0 then (
    some (σ.1 17 5)
  ) else (
    nm_ (a1 - (σ.1 18 5)) fun x1 =>
    if 0 ≤ x1 then (
      ck_ (fb_in x1 60) <|
      some (σ.1 21 x1.toNatClampNeg)
    ) else (
      some (0 : Int32)
    )
  )
set_option maxHeartbeats 4000000 in
set_option maxRecDepth 100000 in
theorem c_X2_knownAtGate (l : Launch) {g : fb_G} {ks : List Nat} (hI : fb_I g ks) (hks : ∀ k ∈ ([17, 18, 21] : List Nat), k ∈ ks) (a1 : Int32) (σ : fb_S) {res : Int32} (hf : f_X2_knownAtGate a1 σ = some res) : fb_M l yX2_knownAtGate cX2_knownAtGate 3 (some .int) 0 0 g ks [.ref (g.1 17), .int a1] σ (fb_Qi g ks res σ) := by
  refine fb_met (by decide +kernel) hI (Nat.le_of_ble_eq_true rfl) (fun p e s m below meth c ls X h hr hlk hl => ?_)
  have X : fb_X p m c cX2_knownAtGate 3 s _ RX2 g ks (fb_A g ks) := X
  have hl : lv_has ls 3 [(0, .ref (g.1 17)), (1, .int a1)] := hl
  have hx := X.1.1
  have hb := X.1.2.1
  unfold f_X2_knownAtGate at hf
  refine lv_aload_n hx hb dX2_knownAtGate_0 rfl (lv_at hl 0 rfl) ?_
  refine gt_RX2_9 X h (hks 17 (by decide)) dX2_knownAtGate_1 ?_
  refine lv_iconst hx hb dX2_knownAtGate_4 ki_5 ?_
  refine fb_ialdL X h (hks 18 (by decide)) rfl (by decide) kn_5 dX2_knownAtGate_5 ?_
  refine lv_if_ne hx hb dX2_knownAtGate_6 (tgt := 14) (by decide) (fun hc => ?_) (fun hc => ?_)
  · have hf := if_f hc hf
    refine lv_iload_n hx hb dX2_knownAtGate_14 rfl (lv_at hl 1 rfl) ?_
    refine lv_aload_n hx hb dX2_knownAtGate_15 rfl (lv_at hl 0 rfl) ?_
    refine gt_RX2_9 X h (hks 17 (by decide)) dX2_knownAtGate_16 ?_
    refine lv_iconst hx hb dX2_knownAtGate_19 ki_5 ?_
    refine fb_ialdL X h (hks 18 (by decide)) rfl (by decide) kn_5 dX2_knownAtGate_20 ?_
    refine lv_isub hx hb dX2_knownAtGate_21 ?_
    obtain ⟨x1, ex1, hf⟩ := nm_s hf
    refine fb_topi ex1 ?_
    refine lv_istore_n hx hb dX2_knownAtGate_22 rfl hl (by decide) (lv' := [(2, .int x1), (0, .ref (g.1 17)), (1, .int a1)]) rfl (fun ls hl => ?_)
    refine lv_iload_n hx hb dX2_knownAtGate_23 rfl (lv_at hl 0 rfl) ?_
    refine lv_if_ge hx hb dX2_knownAtGate_24 (tgt := 31) (by decide) (fun hc => ?_) (fun hc => ?_)
    · have hf := if_t hc hf
      refine lv_aload_n hx hb dX2_knownAtGate_31 rfl (lv_at hl 1 rfl) ?_
      refine gt_RX2_21 X h (hks 17 (by decide)) dX2_knownAtGate_32 ?_
      refine lv_iload_n hx hb dX2_knownAtGate_35 rfl (lv_at hl 0 rfl) ?_
      obtain ⟨hi0, hf⟩ := ck_s hf
      refine fb_iald X h (hks 21 (by decide)) rfl hi0 dX2_knownAtGate_36 ?_
      have e9 := Option.some.inj hf
      subst e9
      exact fb_ir X h hr hlk dX2_knownAtGate_37
    · have hf := if_f hc hf
      refine lv_iconst hx hb dX2_knownAtGate_27 ki_0 ?_
      refine lv_goto hx hb dX2_knownAtGate_28 (tgt := 37) (by decide) ?_
      have e9 := Option.some.inj hf
      subst e9
      exact fb_ir X h hr hlk dX2_knownAtGate_37
  · have hf := if_t hc hf
    refine lv_aload_n hx hb dX2_knownAtGate_9 rfl (lv_at hl 0 rfl) ?_
    refine gt_RX2_34 X h (hks 17 (by decide)) dX2_knownAtGate_10 ?_
    have e9 := Option.some.inj hf
    subst e9
    exact fb_ir X h hr hlk dX2_knownAtGate_13
def f_X2_letIn (a1 : Int32) (a2 : Int32) (σ : fb_S) : Option fb_S :=
  (f_X2_knownAtGate a1 σ).bind fun q1 =>
  if q1 < a2 then (
    nm_ ((σ.1 18 1) - (σ.1 20 0)) fun x2 =>
    nm_ (mn_ (mn_ (σ.1 17 6) (σ.1 18 3)) x2) fun x3 =>
    nm_ (fb_up σ 17 6 ((σ.1 17 6) - x3)) fun t4 =>
    nm_ (fb_up t4 20 0 ((t4.1 20 0) + x3)) fun t5 =>
    nm_ (fb_up t5 17 5 ((t5.1 17 5) + x3)) fun t6 =>
    some t6
  ) else (
    nm_ (fb_up σ 17 10 (mn_ (σ.1 17 10) q1)) fun t7 =>
    some t7
  )
set_option maxHeartbeats 4000000 in
set_option maxRecDepth 100000 in
theorem c_X2_letIn (l : Launch) {g : fb_G} {ks : List Nat} (hI : fb_I g ks) (hks : ∀ k ∈ ([17, 18, 20, 21] : List Nat), k ∈ ks) (a1 : Int32) (a2 : Int32) (σ : fb_S) {res : fb_S} (hf : f_X2_letIn a1 a2 σ = some res) : fb_M l yX2_letIn cX2_letIn 6 none 1 22 g ks [.ref (g.1 17), .int a1, .int a2] σ (fb_Qv g ks res) := by
  refine fb_met (by decide +kernel) hI (Nat.le_of_ble_eq_true rfl) (fun p e s m below meth c ls X h hr hlk hl => ?_)
  have X : fb_X p m c cX2_letIn 6 s _ RX2 g ks (fb_A g ks) := X
  have hl : lv_has ls 6 [(0, .ref (g.1 17)), (1, .int a1), (2, .int a2)] := hl
  have hx := X.1.1
  have hb := X.1.2.1
  unfold f_X2_letIn at hf
  refine lv_aload_n hx hb dX2_letIn_0 rfl (lv_at hl 0 rfl) ?_
  refine lv_iload_n hx hb dX2_letIn_1 rfl (lv_at hl 1 rfl) ?_
  obtain ⟨q1, hq1, hf⟩ := bd_s hf
  refine fb_ci X h (fb_runV (As := [.int a1]) (rest := []) (k := 17) X h (c_X2_knownAtGate l X.2.2.1 (fun k hk => hks k ((by decide : ∀ k ∈ ([17, 18, 21] : List Nat), k ∈ ([17, 18, 20, 21] : List Nat)) k hk)) a1 σ hq1) mf_yX2_knownAtGate lm_RX2_81 (hks 17 (by decide)) rfl rfl ⟨Nat.le_of_ble_eq_true rfl, Nat.le_of_ble_eq_true rfl⟩ ⟨Nat.le_refl _, Nat.le_refl _⟩ rfl hl.1 rfl (Nat.le_of_ble_eq_true rfl) dX2_letIn_2) (fun H locs h => ?_)
  refine lv_istore_n hx hb dX2_letIn_5 rfl hl (by decide) (lv' := [(3, .int q1), (0, .ref (g.1 17)), (1, .int a1), (2, .int a2)]) rfl (fun ls hl => ?_)
  refine lv_iload_n hx hb dX2_letIn_6 rfl (lv_at hl 0 rfl) ?_
  refine lv_iload_n hx hb dX2_letIn_7 rfl (lv_at hl 3 rfl) ?_
  refine lv_icmp_lt hx hb dX2_letIn_8 (tgt := 24) (by decide) (fun hc => ?_) (fun hc => ?_)
  · have hf := if_t hc hf
    refine lv_aload_n hx hb dX2_letIn_24 rfl (lv_at hl 1 rfl) ?_
    refine gt_RX2_9 X h (hks 17 (by decide)) dX2_letIn_25 ?_
    refine lv_iconst hx hb dX2_letIn_28 ki_1 ?_
    refine fb_ialdL X h (hks 18 (by decide)) rfl (by decide) kn_1 dX2_letIn_29 ?_
    refine lv_aload_n hx hb dX2_letIn_30 rfl (lv_at hl 1 rfl) ?_
    refine gt_RX2_18 X h (hks 17 (by decide)) dX2_letIn_31 ?_
    refine lv_iconst hx hb dX2_letIn_34 ki_0 ?_
    refine fb_ialdL X h (hks 20 (by decide)) rfl (by decide) kn_0 dX2_letIn_35 ?_
    refine lv_isub hx hb dX2_letIn_36 ?_
    obtain ⟨x2, ex2, hf⟩ := nm_s hf
    refine fb_topi ex2 ?_
    refine lv_istore hx hb dX2_letIn_37 hl (by decide) (lv' := [(4, .int x2), (3, .int q1), (0, .ref (g.1 17)), (1, .int a1), (2, .int a2)]) rfl (fun ls hl => ?_)
    refine lv_aload_n hx hb dX2_letIn_39 rfl (lv_at hl 2 rfl) ?_
    refine gt_RX2_37 X h (hks 17 (by decide)) dX2_letIn_40 ?_
    refine lv_aload_n hx hb dX2_letIn_43 rfl (lv_at hl 2 rfl) ?_
    refine gt_RX2_9 X h (hks 17 (by decide)) dX2_letIn_44 ?_
    refine lv_iconst hx hb dX2_letIn_47 ki_3 ?_
    refine fb_ialdL X h (hks 18 (by decide)) rfl (by decide) kn_3 dX2_letIn_48 ?_
    refine fb_mnr X hl.1 lm_RX2_78 (Nat.le_of_ble_eq_true rfl) (Nat.le_of_ble_eq_true rfl) ⟨Nat.le_refl _, Nat.le_refl _⟩ dX2_letIn_49 ?_
    refine lv_iload hx hb dX2_letIn_52 (lv_at hl 0 rfl) ?_
    refine fb_mnr X hl.1 lm_RX2_78 (Nat.le_of_ble_eq_true rfl) (Nat.le_of_ble_eq_true rfl) ⟨Nat.le_refl _, Nat.le_refl _⟩ dX2_letIn_54 ?_
    obtain ⟨x3, ex3, hf⟩ := nm_s hf
    refine fb_topi ex3 ?_
    refine lv_istore hx hb dX2_letIn_57 hl (by decide) (lv' := [(5, .int x3), (4, .int x2), (3, .int q1), (0, .ref (g.1 17)), (1, .int a1), (2, .int a2)]) rfl (fun ls hl => ?_)
    refine lv_aload_n hx hb dX2_letIn_59 rfl (lv_at hl 3 rfl) ?_
    refine lv_dup hx hb dX2_letIn_60 rfl ?_
    refine gt_RX2_37 X h (hks 17 (by decide)) dX2_letIn_61 ?_
    refine lv_iload hx hb dX2_letIn_64 (lv_at hl 0 rfl) ?_
    refine lv_isub hx hb dX2_letIn_66 ?_
    obtain ⟨t4, et4, hf⟩ := nm_s hf
    refine pt_RX2_37 X h (hks 17 (by decide)) dX2_letIn_67 (fun H locs h => ?_)
    have h := fb_H.nm et4 h
    refine lv_aload_n hx hb dX2_letIn_70 rfl (lv_at hl 3 rfl) ?_
    refine gt_RX2_18 X h (hks 17 (by decide)) dX2_letIn_71 ?_
    refine lv_iconst hx hb dX2_letIn_74 ki_0 ?_
    refine lv_dup2_11 hx hb dX2_letIn_75 rfl rfl ?_
    refine fb_ialdL X h (hks 20 (by decide)) rfl (by decide) kn_0 dX2_letIn_76 ?_
    refine lv_iload hx hb dX2_letIn_77 (lv_at hl 0 rfl) ?_
    refine lv_iadd hx hb dX2_letIn_79 ?_
    obtain ⟨t5, et5, hf⟩ := nm_s hf
    refine fb_iastL X h (hks 20 (by decide)) (fun _ => rfl) (by decide) kn_0 dX2_letIn_80 (fun H locs h => ?_)
    have h := fb_H.nm et5 h
    refine lv_aload_n hx hb dX2_letIn_81 rfl (lv_at hl 3 rfl) ?_
    refine lv_dup hx hb dX2_letIn_82 rfl ?_
    refine gt_RX2_34 X h (hks 17 (by decide)) dX2_letIn_83 ?_
    refine lv_iload hx hb dX2_letIn_86 (lv_at hl 0 rfl) ?_
    refine lv_iadd hx hb dX2_letIn_88 ?_
    obtain ⟨t6, et6, hf⟩ := nm_s hf
    refine pt_RX2_34 X h (hks 17 (by decide)) dX2_letIn_89 (fun H locs h => ?_)
    have h := fb_H.nm et6 h
    have e9 := Option.some.inj hf
    subst e9
    exact fb_vr X h hr hlk dX2_letIn_92
  · have hf := if_f hc hf
    refine lv_aload_n hx hb dX2_letIn_11 rfl (lv_at hl 1 rfl) ?_
    refine lv_aload_n hx hb dX2_letIn_12 rfl (lv_at hl 1 rfl) ?_
    refine gt_RX2_49 X h (hks 17 (by decide)) dX2_letIn_13 ?_
    refine lv_iload_n hx hb dX2_letIn_16 rfl (lv_at hl 0 rfl) ?_
    refine fb_mnr X hl.1 lm_RX2_78 (Nat.le_of_ble_eq_true rfl) (Nat.le_of_ble_eq_true rfl) ⟨Nat.le_refl _, Nat.le_refl _⟩ dX2_letIn_17 ?_
    obtain ⟨t7, et7, hf⟩ := nm_s hf
    refine pt_RX2_49 X h (hks 17 (by decide)) dX2_letIn_20 (fun H locs h => ?_)
    have h := fb_H.nm et7 h
    have e9 := Option.some.inj hf
    subst e9
    exact fb_vr X h hr hlk dX2_letIn_23
def f_X4_netOfFirstSort (a1 : Int32) (a2 : Int32) (a3 : Int32) (σ : fb_S) : Option Int32 :=
  (f_X4_isInStep (0 : Int32) a2 σ).bind fun q1 =>
  if q1 = 0 then (
    some ((0 : Int32) - a3)
  ) else (
    some (((a1 * (σ.1 7 0)) / (100 : Int32)) - a3)
  )
set_option maxHeartbeats 4000000 in
set_option maxRecDepth 100000 in
theorem c_X4_netOfFirstSort (l : Launch) {g : fb_G} {ks : List Nat} (hI : fb_I g ks) (hks : ∀ k ∈ ([6, 7, 8, 9] : List Nat), k ∈ ks) (a1 : Int32) (a2 : Int32) (a3 : Int32) (σ : fb_S) {res : Int32} (hf : f_X4_netOfFirstSort a1 a2 a3 σ = some res) : fb_M l yX4_netOfFirstSort cX4_netOfFirstSort 4 (some .int) 1 22 g ks [.ref (g.1 6), .int a1, .int a2, .int a3] σ (fb_Qi g ks res σ) := by
  refine fb_met (by decide +kernel) hI (Nat.le_of_ble_eq_true rfl) (fun p e s m below meth c ls X h hr hlk hl => ?_)
  have X : fb_X p m c cX4_netOfFirstSort 4 s _ RX4 g ks (fb_A g ks) := X
  have hl : lv_has ls 4 [(0, .ref (g.1 6)), (1, .int a1), (2, .int a2), (3, .int a3)] := hl
  have hx := X.1.1
  have hb := X.1.2.1
  unfold f_X4_netOfFirstSort at hf
  refine lv_aload_n hx hb dX4_netOfFirstSort_0 rfl (lv_at hl 0 rfl) ?_
  refine lv_iconst hx hb dX4_netOfFirstSort_1 ki_0 ?_
  refine lv_iload_n hx hb dX4_netOfFirstSort_2 rfl (lv_at hl 2 rfl) ?_
  obtain ⟨q1, hq1, hf⟩ := bd_s hf
  refine fb_ci X h (fb_runV (As := [.int (0), .int a2]) (rest := []) (k := 6) X h (c_X4_isInStep l X.2.2.1 (fun k hk => hks k ((by decide : ∀ k ∈ ([6, 8, 9] : List Nat), k ∈ ([6, 7, 8, 9] : List Nat)) k hk)) (0 : Int32) a2 σ hq1) mf_yX4_isInStep lm_RX4_24 (hks 6 (by decide)) rfl rfl ⟨Nat.le_of_ble_eq_true rfl, Nat.le_of_ble_eq_true rfl⟩ ⟨Nat.le_refl _, Nat.le_refl _⟩ rfl hl.1 rfl (Nat.le_of_ble_eq_true rfl) dX4_netOfFirstSort_3) (fun H locs h => ?_)
  refine lv_if_eq hx hb dX4_netOfFirstSort_6 (tgt := 23) (by decide) (fun hc => ?_) (fun hc => ?_)
  · have hf := if_t hc hf
    refine lv_iconst hx hb dX4_netOfFirstSort_23 ki_0 ?_
    refine lv_iload_n hx hb dX4_netOfFirstSort_24 rfl (lv_at hl 3 rfl) ?_
    refine lv_isub hx hb dX4_netOfFirstSort_25 ?_
    have e9 := Option.some.inj hf
    subst e9
    exact fb_ir X h hr hlk dX4_netOfFirstSort_26
  · have hf := if_f hc hf
    refine lv_iload_n hx hb dX4_netOfFirstSort_9 rfl (lv_at hl 1 rfl) ?_
    refine lv_aload_n hx hb dX4_netOfFirstSort_10 rfl (lv_at hl 0 rfl) ?_
    refine gt_RX4_11 X h (hks 6 (by decide)) dX4_netOfFirstSort_11 ?_
    refine lv_iconst hx hb dX4_netOfFirstSort_14 ki_0 ?_
    refine fb_ialdL X h (hks 7 (by decide)) rfl (by decide) kn_0 dX4_netOfFirstSort_15 ?_
    refine lv_imul hx hb dX4_netOfFirstSort_16 ?_
    refine lv_bipush hx hb dX4_netOfFirstSort_17 kb_100 ?_
    refine lv_idiv hx hb dX4_netOfFirstSort_19 (by decide) ?_
    refine lv_goto hx hb dX4_netOfFirstSort_20 (tgt := 24) (by decide) ?_
    refine lv_iload_n hx hb dX4_netOfFirstSort_24 rfl (lv_at hl 3 rfl) ?_
    refine lv_isub hx hb dX4_netOfFirstSort_25 ?_
    have e9 := Option.some.inj hf
    subst e9
    exact fb_ir X h hr hlk dX4_netOfFirstSort_26
def f_X2_walkDay_L9 (N : Nat) : Nat → Int32 → Int32 → Int32 → Int32 → Int32 → fb_S → Option fb_S
  | 0, _, _, _, _, _, _ => none
  | n + 1, v1, v2, v3, v6, v7, σ => 
    if v1 ≤ v7 then (
      some σ
    ) else (
      if v3 < (σ.1 17 8) then (
        some σ
      ) else (
        ck_ (fb_in v7 60) <|
        nm_ (fb_up σ 17 6 ((σ.1 17 6) + (σ.1 19 v7.toNatClampNeg))) fun t1 =>
        (f_X2_goOn N t1).bind fun q2 =>
        (f_X2_letIn v7 v2 q2).bind fun q3 =>
        ck_ (fb_in v7 60) <|
        nm_ (fb_up q3 21 (v7.toNatClampNeg) (q3.1 17 5)) fun t4 =>
        nm_ (fb_up t4 17 9 (mx_ (t4.1 17 9) (t4.1 17 5))) fun t5 =>
        (f_X4_netOfFirstSort (t5.1 17 5) (t5.1 17 7) v6 t5).bind fun q6 =>
        (f_X5_beat (t5.1 17 7) q6).bind fun q7 =>
        nm_ (fb_up t5 17 7 q7) fun t8 =>
        nm_ (fb_up t8 17 8 (mx_ (t8.1 17 8) (t8.1 17 7))) fun t9 =>
        f_X2_walkDay_L9 N n v1 v2 v3 v6 (v7 + 1) t9
      )
    )
def f_X2_walkDay (N : Nat) (a1 : Int32) (a2 : Int32) (a3 : Int32) (a5 : Int32) (a6 : Int32) (σ : fb_S) : Option fb_S :=
  (f_X2_clear N a5 σ).bind fun q10 =>
  f_X2_walkDay_L9 N N a1 a2 a3 a6 (0 : Int32) q10
set_option maxHeartbeats 4000000 in
set_option maxRecDepth 100000 in
theorem w_X2_walkDay_L9 (X : fb_X p m c cX2_walkDay 8 s args RX2 g ks (fb_A g ks)) (hks : ∀ k ∈ ([6, 7, 8, 9, 17, 18, 19, 20, 21] : List Nat), k ∈ ks) (hr : meth.sig.returnType = none) (hlk : meth.locks = false) (N : Nat)  {res : fb_S} : ∀ (n : Nat) (v1 : Int32) (v2 : Int32) (v3 : Int32) (v6 : Int32) (v7 : Int32) (σ : fb_S) (H : Heap) (locs : List Loc) (ls : Array Slot), fb_H g ks (fb_A g ks) s.heap σ H locs → lv_has ls 8 [(0, .ref (g.1 17)), (1, .int v1), (2, .int v2), (3, .int v3), (4, .ref (g.1 6)), (6, .int v6), (7, .int v7)] → f_X2_walkDay_L9 N n v1 v2 v3 v6 v7 σ = some res → W p l e (fb_R 2 47) s m args below meth c H locs 0 0 (MQ below (fb_Qv g ks res) args s 0 0 (fb_A g ks)) (F0 m 9 ls []) := by
  have hx := X.1.1
  have hb := X.1.2.1
  intro n
  induction n with
  | zero => intro v1 v2 v3 v6 v7 σ H locs ls h hl hf; cases hf
  | succ n ih =>
    intro v1 v2 v3 v6 v7 σ H locs ls h hl hf
    unfold f_X2_walkDay_L9 at hf
    refine lv_iload hx hb dX2_walkDay_9 (lv_at hl 6 rfl) ?_
    refine lv_iload_n hx hb dX2_walkDay_11 rfl (lv_at hl 1 rfl) ?_
    refine lv_icmp_ge hx hb dX2_walkDay_12 (tgt := 123) (by decide) (fun hc => ?_) (fun hc => ?_)
    · have hf := if_t hc hf
      have e9 := Option.some.inj hf
      subst e9
      exact fb_vr X h hr hlk dX2_walkDay_123
    · have hf := if_f hc hf
      refine lv_aload_n hx hb dX2_walkDay_15 rfl (lv_at hl 0 rfl) ?_
      refine gt_RX2_43 X h (hks 17 (by decide)) dX2_walkDay_16 ?_
      refine lv_iload_n hx hb dX2_walkDay_19 rfl (lv_at hl 3 rfl) ?_
      refine lv_icmp_gt hx hb dX2_walkDay_20 (tgt := 123) (by decide) (fun hc => ?_) (fun hc => ?_)
      · have hf := if_t hc hf
        have e9 := Option.some.inj hf
        subst e9
        exact fb_vr X h hr hlk dX2_walkDay_123
      · have hf := if_f hc hf
        refine lv_aload_n hx hb dX2_walkDay_23 rfl (lv_at hl 0 rfl) ?_
        refine lv_dup hx hb dX2_walkDay_24 rfl ?_
        refine gt_RX2_37 X h (hks 17 (by decide)) dX2_walkDay_25 ?_
        refine lv_aload_n hx hb dX2_walkDay_28 rfl (lv_at hl 0 rfl) ?_
        refine gt_RX2_15 X h (hks 17 (by decide)) dX2_walkDay_29 ?_
        refine lv_iload hx hb dX2_walkDay_32 (lv_at hl 6 rfl) ?_
        obtain ⟨hi0, hf⟩ := ck_s hf
        refine fb_iald X h (hks 19 (by decide)) rfl hi0 dX2_walkDay_34 ?_
        refine lv_iadd hx hb dX2_walkDay_35 ?_
        obtain ⟨t1, et1, hf⟩ := nm_s hf
        refine pt_RX2_37 X h (hks 17 (by decide)) dX2_walkDay_36 (fun H locs h => ?_)
        have h := fb_H.nm et1 h
        refine lv_aload_n hx hb dX2_walkDay_39 rfl (lv_at hl 0 rfl) ?_
        obtain ⟨q2, hq2, hf⟩ := bd_s hf
        refine fb_cv X h (fb_runV (As := []) (rest := []) (k := 17) X h (c_X2_goOn l X.2.2.1 (fun k hk => hks k ((by decide : ∀ k ∈ ([17, 18, 20] : List Nat), k ∈ ([6, 7, 8, 9, 17, 18, 19, 20, 21] : List Nat)) k hk)) N t1 hq2) mf_yX2_goOn lm_RX2_56 (hks 17 (by decide)) rfl rfl ⟨Nat.le_of_ble_eq_true rfl, Nat.le_of_ble_eq_true rfl⟩ ⟨Nat.le_refl _, Nat.le_refl _⟩ rfl hl.1 rfl (Nat.le_of_ble_eq_true rfl) dX2_walkDay_40) (fun H locs h => ?_)
        refine lv_aload_n hx hb dX2_walkDay_43 rfl (lv_at hl 0 rfl) ?_
        refine lv_iload hx hb dX2_walkDay_44 (lv_at hl 6 rfl) ?_
        refine lv_iload_n hx hb dX2_walkDay_46 rfl (lv_at hl 2 rfl) ?_
        obtain ⟨q3, hq3, hf⟩ := bd_s hf
        refine fb_cv X h (fb_runV (As := [.int v7, .int v2]) (rest := []) (k := 17) X h (c_X2_letIn l X.2.2.1 (fun k hk => hks k ((by decide : ∀ k ∈ ([17, 18, 20, 21] : List Nat), k ∈ ([6, 7, 8, 9, 17, 18, 19, 20, 21] : List Nat)) k hk)) v7 v2 q2 hq3) mf_yX2_letIn lm_RX2_59 (hks 17 (by decide)) rfl rfl ⟨Nat.le_of_ble_eq_true rfl, Nat.le_of_ble_eq_true rfl⟩ ⟨Nat.le_refl _, Nat.le_refl _⟩ rfl hl.1 rfl (Nat.le_of_ble_eq_true rfl) dX2_walkDay_47) (fun H locs h => ?_)
        refine lv_aload_n hx hb dX2_walkDay_50 rfl (lv_at hl 0 rfl) ?_
        refine gt_RX2_21 X h (hks 17 (by decide)) dX2_walkDay_51 ?_
        refine lv_iload hx hb dX2_walkDay_54 (lv_at hl 6 rfl) ?_
        refine lv_aload_n hx hb dX2_walkDay_56 rfl (lv_at hl 0 rfl) ?_
        refine gt_RX2_34 X h (hks 17 (by decide)) dX2_walkDay_57 ?_
        obtain ⟨hi0, hf⟩ := ck_s hf
        obtain ⟨t4, et4, hf⟩ := nm_s hf
        refine fb_iast X h (hks 21 (by decide)) (fun _ => rfl) hi0 dX2_walkDay_60 (fun H locs h => ?_)
        have h := fb_H.nm et4 h
        refine lv_aload_n hx hb dX2_walkDay_61 rfl (lv_at hl 0 rfl) ?_
        refine lv_aload_n hx hb dX2_walkDay_62 rfl (lv_at hl 0 rfl) ?_
        refine gt_RX2_46 X h (hks 17 (by decide)) dX2_walkDay_63 ?_
        refine lv_aload_n hx hb dX2_walkDay_66 rfl (lv_at hl 0 rfl) ?_
        refine gt_RX2_34 X h (hks 17 (by decide)) dX2_walkDay_67 ?_
        refine fb_mxr X hl.1 lm_RX2_63 (Nat.le_of_ble_eq_true rfl) (Nat.le_of_ble_eq_true rfl) ⟨Nat.le_refl _, Nat.le_refl _⟩ dX2_walkDay_70 ?_
        obtain ⟨t5, et5, hf⟩ := nm_s hf
        refine pt_RX2_46 X h (hks 17 (by decide)) dX2_walkDay_73 (fun H locs h => ?_)
        have h := fb_H.nm et5 h
        refine lv_aload_n hx hb dX2_walkDay_76 rfl (lv_at hl 0 rfl) ?_
        refine lv_aload_n hx hb dX2_walkDay_77 rfl (lv_at hl 0 rfl) ?_
        refine gt_RX2_40 X h (hks 17 (by decide)) dX2_walkDay_78 ?_
        refine lv_aload hx hb dX2_walkDay_81 (lv_at hl 4 rfl) ?_
        refine lv_aload_n hx hb dX2_walkDay_83 rfl (lv_at hl 0 rfl) ?_
        refine gt_RX2_34 X h (hks 17 (by decide)) dX2_walkDay_84 ?_
        refine lv_aload_n hx hb dX2_walkDay_87 rfl (lv_at hl 0 rfl) ?_
        refine gt_RX2_40 X h (hks 17 (by decide)) dX2_walkDay_88 ?_
        refine lv_iload hx hb dX2_walkDay_91 (lv_at hl 5 rfl) ?_
        obtain ⟨q6, hq6, hf⟩ := bd_s hf
        refine fb_ci X h (fb_runVN (As := [.int (t5.1 17 5), .int (t5.1 17 7), .int v6]) (rest := [.int (t5.1 17 7), .ref (g.1 17)]) (k := 6) X h (c_X4_netOfFirstSort l X.2.2.1 (fun k hk => hks k ((by decide : ∀ k ∈ ([6, 7, 8, 9] : List Nat), k ∈ ([6, 7, 8, 9, 17, 18, 19, 20, 21] : List Nat)) k hk)) (t5.1 17 5) (t5.1 17 7) v6 t5 hq6) mf_yX4_netOfFirstSort lm_RX2_69 (hks 6 (by decide)) rfl rfl ⟨Nat.le_of_ble_eq_true rfl, Nat.le_of_ble_eq_true rfl⟩ ⟨Nat.le_refl _, Nat.le_refl _⟩ rfl hl.1 rfl (Nat.le_of_ble_eq_true rfl) dX2_walkDay_93) (fun H locs h => ?_)
        obtain ⟨q7, hq7, hf⟩ := bd_s hf
        refine fb_ci X h (fb_runSN (As := [.int (t5.1 17 7), .int q6]) (rest := [.ref (g.1 17)]) X h (c_X5_beat l X.2.2.1 (fun k hk => absurd hk List.not_mem_nil) (t5.1 17 7) q6 t5 hq7) mf_yX5_beat lm_RX2_75 ⟨Nat.le_of_ble_eq_true rfl, Nat.le_of_ble_eq_true rfl⟩ ⟨Nat.le_refl _, Nat.le_refl _⟩ rfl hl.1 rfl (Nat.le_of_ble_eq_true rfl) dX2_walkDay_96) (fun H locs h => ?_)
        obtain ⟨t8, et8, hf⟩ := nm_s hf
        refine pt_RX2_40 X h (hks 17 (by decide)) dX2_walkDay_99 (fun H locs h => ?_)
        have h := fb_H.nm et8 h
        refine lv_aload_n hx hb dX2_walkDay_102 rfl (lv_at hl 0 rfl) ?_
        refine lv_aload_n hx hb dX2_walkDay_103 rfl (lv_at hl 0 rfl) ?_
        refine gt_RX2_43 X h (hks 17 (by decide)) dX2_walkDay_104 ?_
        refine lv_aload_n hx hb dX2_walkDay_107 rfl (lv_at hl 0 rfl) ?_
        refine gt_RX2_40 X h (hks 17 (by decide)) dX2_walkDay_108 ?_
        refine fb_mxr X hl.1 lm_RX2_63 (Nat.le_of_ble_eq_true rfl) (Nat.le_of_ble_eq_true rfl) ⟨Nat.le_refl _, Nat.le_refl _⟩ dX2_walkDay_111 ?_
        obtain ⟨t9, et9, hf⟩ := nm_s hf
        refine pt_RX2_43 X h (hks 17 (by decide)) dX2_walkDay_114 (fun H locs h => ?_)
        have h := fb_H.nm et9 h
        refine lv_iinc hx hb dX2_walkDay_117 hl (k := 6) rfl (kinc_1 _) (by decide) (lv' := [(7, .int (v7 + 1)), (0, .ref (g.1 17)), (1, .int v1), (2, .int v2), (3, .int v3), (4, .ref (g.1 6)), (6, .int v6)]) rfl (fun ls hl => ?_)
        refine lv_goto hx hb dX2_walkDay_120 (tgt := 9) (by decide) ?_
        exact ih v1 v2 v3 v6 (v7 + 1) t9 _ _ _ h (lv_sub hl [1, 2, 3, 4, 5, 6, 0] rfl) hf
set_option maxHeartbeats 4000000 in
set_option maxRecDepth 100000 in
theorem c_X2_walkDay (l : Launch) {g : fb_G} {ks : List Nat} (hI : fb_I g ks) (hks : ∀ k ∈ ([6, 7, 8, 9, 17, 18, 19, 20, 21] : List Nat), k ∈ ks) (N : Nat) (a1 : Int32) (a2 : Int32) (a3 : Int32) (a5 : Int32) (a6 : Int32) (σ : fb_S) {res : fb_S} (hf : f_X2_walkDay N a1 a2 a3 a5 a6 σ = some res) : fb_M l yX2_walkDay cX2_walkDay 8 none 2 47 g ks [.ref (g.1 17), .int a1, .int a2, .int a3, .ref (g.1 6), .int a5, .int a6] σ (fb_Qv g ks res) := by
  refine fb_met (by decide +kernel) hI (Nat.le_of_ble_eq_true rfl) (fun p e s m below meth c ls X h hr hlk hl => ?_)
  have X : fb_X p m c cX2_walkDay 8 s _ RX2 g ks (fb_A g ks) := X
  have hl : lv_has ls 8 [(0, .ref (g.1 17)), (1, .int a1), (2, .int a2), (3, .int a3), (4, .ref (g.1 6)), (5, .int a5), (6, .int a6)] := hl
  have hx := X.1.1
  have hb := X.1.2.1
  unfold f_X2_walkDay at hf
  refine lv_aload_n hx hb dX2_walkDay_0 rfl (lv_at hl 0 rfl) ?_
  refine lv_iload hx hb dX2_walkDay_1 (lv_at hl 5 rfl) ?_
  obtain ⟨q10, hq10, hf⟩ := bd_s hf
  refine fb_cv X h (fb_runV (As := [.int a5]) (rest := []) (k := 17) X h (c_X2_clear l X.2.2.1 (fun k hk => hks k ((by decide : ∀ k ∈ ([17, 20] : List Nat), k ∈ ([6, 7, 8, 9, 17, 18, 19, 20, 21] : List Nat)) k hk)) N a5 σ hq10) mf_yX2_clear lm_RX2_52 (hks 17 (by decide)) rfl rfl ⟨Nat.le_of_ble_eq_true rfl, Nat.le_of_ble_eq_true rfl⟩ ⟨Nat.le_refl _, Nat.le_refl _⟩ rfl hl.1 rfl (Nat.le_of_ble_eq_true rfl) dX2_walkDay_3) (fun H locs h => ?_)
  refine lv_iconst hx hb dX2_walkDay_6 ki_0 ?_
  refine lv_istore hx hb dX2_walkDay_7 hl (by decide) (lv' := [(7, .int (0)), (0, .ref (g.1 17)), (1, .int a1), (2, .int a2), (3, .int a3), (4, .ref (g.1 6)), (5, .int a5), (6, .int a6)]) rfl (fun ls hl => ?_)
  exact w_X2_walkDay_L9 X hks hr hlk N N a1 a2 a3 a6 (0 : Int32) q10 _ _ _ h (lv_sub hl [1, 2, 3, 4, 5, 7, 0] rfl) hf
def f_X5_walkDay (N : Nat) (a1 : Int32) (σ : fb_S) : Option fb_S :=
  (f_X5_allDamping N σ).bind fun q1 =>
  (f_X2_walkDay N a1 (σ.1 18 4) (9999 : Int32) (σ.1 1 1) q1 σ).bind fun q2 =>
  some q2
set_option maxHeartbeats 4000000 in
set_option maxRecDepth 100000 in
theorem c_X5_walkDay (l : Launch) {g : fb_G} {ks : List Nat} (hI : fb_I g ks) (hks : ∀ k ∈ ([0, 1, 6, 7, 8, 9, 11, 12, 15, 17, 18, 19, 20, 21] : List Nat), k ∈ ks) (N : Nat) (a1 : Int32) (σ : fb_S) {res : fb_S} (hf : f_X5_walkDay N a1 σ = some res) : fb_M l yX5_walkDay cX5_walkDay 2 none 3 74 g ks [.ref (g.1 0), .int a1] σ (fb_Qv g ks res) := by
  refine fb_met (by decide +kernel) hI (Nat.le_of_ble_eq_true rfl) (fun p e s m below meth c ls X h hr hlk hl => ?_)
  have X : fb_X p m c cX5_walkDay 2 s _ RX5 g ks (fb_A g ks) := X
  have hl : lv_has ls 2 [(0, .ref (g.1 0)), (1, .int a1)] := hl
  have hx := X.1.1
  have hb := X.1.2.1
  unfold f_X5_walkDay at hf
  refine lv_aload_n hx hb dX5_walkDay_0 rfl (lv_at hl 0 rfl) ?_
  refine gt_RX5_37 X h (hks 0 (by decide)) dX5_walkDay_1 ?_
  refine lv_iload_n hx hb dX5_walkDay_4 rfl (lv_at hl 1 rfl) ?_
  refine lv_aload_n hx hb dX5_walkDay_5 rfl (lv_at hl 0 rfl) ?_
  refine gt_RX5_37 X h (hks 0 (by decide)) dX5_walkDay_6 ?_
  refine gt_RX5_162 X h (hks 17 (by decide)) dX5_walkDay_9 ?_
  refine lv_iconst hx hb dX5_walkDay_12 ki_4 ?_
  refine fb_ialdL X h (hks 18 (by decide)) rfl (by decide) kn_4 dX5_walkDay_13 ?_
  refine lv_sipush hx hb dX5_walkDay_14 ks_9999 ?_
  refine lv_aload_n hx hb dX5_walkDay_17 rfl (lv_at hl 0 rfl) ?_
  refine gt_RX5_23 X h (hks 0 (by decide)) dX5_walkDay_18 ?_
  refine lv_aload_n hx hb dX5_walkDay_21 rfl (lv_at hl 0 rfl) ?_
  refine gt_RX5_7 X h (hks 0 (by decide)) dX5_walkDay_22 ?_
  refine lv_iconst hx hb dX5_walkDay_25 ki_1 ?_
  refine fb_ialdL X h (hks 1 (by decide)) rfl (by decide) kn_1 dX5_walkDay_26 ?_
  refine lv_aload_n hx hb dX5_walkDay_27 rfl (lv_at hl 0 rfl) ?_
  obtain ⟨q1, hq1, hf⟩ := bd_s hf
  refine fb_ci X h (fb_runV (As := []) (rest := [.int (σ.1 1 1), .ref (g.1 6), .int (9999), .int (σ.1 18 4), .int a1, .ref (g.1 17)]) (k := 0) X h (c_X5_allDamping l X.2.2.1 (fun k hk => hks k ((by decide : ∀ k ∈ ([0, 1, 11, 12, 15] : List Nat), k ∈ ([0, 1, 6, 7, 8, 9, 11, 12, 15, 17, 18, 19, 20, 21] : List Nat)) k hk)) N σ hq1) mf_yX5_allDamping lm_RX5_112 (hks 0 (by decide)) rfl rfl ⟨Nat.le_of_ble_eq_true rfl, Nat.le_of_ble_eq_true rfl⟩ ⟨Nat.le_refl _, Nat.le_refl _⟩ rfl hl.1 rfl (Nat.le_of_ble_eq_true rfl) dX5_walkDay_28) (fun H locs h => ?_)
  obtain ⟨q2, hq2, hf⟩ := bd_s hf
  refine fb_cv X h (fb_runVN (As := [.int a1, .int (σ.1 18 4), .int (9999), .ref (g.1 6), .int (σ.1 1 1), .int q1]) (rest := []) (k := 17) X h (c_X2_walkDay l X.2.2.1 (fun k hk => hks k ((by decide : ∀ k ∈ ([6, 7, 8, 9, 17, 18, 19, 20, 21] : List Nat), k ∈ ([0, 1, 6, 7, 8, 9, 11, 12, 15, 17, 18, 19, 20, 21] : List Nat)) k hk)) N a1 (σ.1 18 4) (9999 : Int32) (σ.1 1 1) q1 σ hq2) mf_yX2_walkDay lm_RX5_238 (hks 17 (by decide)) rfl rfl ⟨Nat.le_of_ble_eq_true rfl, Nat.le_of_ble_eq_true rfl⟩ ⟨Nat.le_refl _, Nat.le_refl _⟩ rfl hl.1 rfl (Nat.le_of_ble_eq_true rfl) dX5_walkDay_31) (fun H locs h => ?_)
  have e9 := Option.some.inj hf
  subst e9
  exact fb_vr X h hr hlk dX5_walkDay_34
end MW
