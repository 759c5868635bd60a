section MW
variable {p : Program} {l : Launch} {e : Env} {s : State} {m : MethodId} {args : Array Value} {below : List Frame} {meth : Method} {c : Code} {g : fb_G} {ks : List Nat}
def f_J7_fill_53178_L5 (ka : Nat) (N : Nat) : Nat → Int32 → Int32 → Int32 → fb_S → Option fb_S
  | 0, _, _, _, _ => none
  | n + 1, v1, v2, v3, σ => 
    if v3 ≤ v2 then (
      some σ
    ) else (
      ck_ (fb_in v2 (fb_len ka)) <|
      nm_ (fb_up σ ka (v2.toNatClampNeg) v1) fun t1 =>
      f_J7_fill_53178_L5 ka N n v1 (v2 + 1) v3 t1
    )
def f_J7_fill_53178 (N : Nat) (ka : Nat) (a2 : Int32) (σ : fb_S) : Option fb_S :=
  nm_ (nI (fb_len ka)) fun x2 =>
  f_J7_fill_53178_L5 ka N N a2 (0 : Int32) x2 σ
set_option maxHeartbeats 4000000 in
set_option maxRecDepth 100000 in
theorem w_J7_fill_53178_L5 (X : fb_X p m c cJ7_fill_53178 4 s args RJ7 g ks (fb_A g ks)) (hks : ∀ k ∈ ([] : List Nat), k ∈ ks) (hr : meth.sig.returnType = none) (hlk : meth.locks = false) {ka : Nat} (hka : ka ∈ fb_ints) (hkk : ka ∈ ks) (N : Nat)  {res : fb_S} : ∀ (n : Nat) (v1 : Int32) (v2 : Int32) (v3 : Int32) (σ : fb_S) (H : Heap) (locs : List Loc) (ls : Array Slot), fb_H g ks (fb_A g ks) s.heap σ H locs → lv_has ls 4 [(0, .ref (g.1 ka)), (1, .int v1), (2, .int v2), (3, .int v3)] → f_J7_fill_53178_L5 ka N n v1 v2 v3 σ = some res → W p l e (fb_R 0 0) s m args below meth c H locs 0 0 (MQ below (fb_Qv g ks res) args s 0 0 (fb_A g ks)) (F0 m 5 ls []) := by
  have hx := X.1.1
  have hb := X.1.2.1
  intro n
  induction n with
  | zero => intro v1 v2 v3 σ H locs ls h hl hf; cases hf
  | succ n ih =>
    intro v1 v2 v3 σ H locs ls h hl hf
    unfold f_J7_fill_53178_L5 at hf
    refine lv_iload_n hx hb dJ7_fill_53178_5 rfl (lv_at hl 2 rfl) ?_
    refine lv_iload_n hx hb dJ7_fill_53178_6 rfl (lv_at hl 3 rfl) ?_
    refine lv_icmp_ge hx hb dJ7_fill_53178_7 (tgt := 20) (by decide) (fun hc => ?_) (fun hc => ?_)
    · have hf := if_t hc hf
      have e9 := Option.some.inj hf
      subst e9
      exact fb_vr X h hr hlk dJ7_fill_53178_20
    · have hf := if_f hc hf
      refine lv_aload_n hx hb dJ7_fill_53178_10 rfl (lv_at hl 0 rfl) ?_
      refine lv_iload_n hx hb dJ7_fill_53178_11 rfl (lv_at hl 2 rfl) ?_
      refine lv_iload_n hx hb dJ7_fill_53178_12 rfl (lv_at hl 1 rfl) ?_
      obtain ⟨hi0, hf⟩ := ck_s hf
      obtain ⟨t1, et1, hf⟩ := nm_s hf
      refine fb_iast X h hkk (fun r => fb_int hka _ r _) hi0 dJ7_fill_53178_13 (fun H locs h => ?_)
      have h := fb_H.nm et1 h
      refine lv_iinc hx hb dJ7_fill_53178_14 hl (k := 2) rfl (kinc_1 _) (by decide) (lv' := [(2, .int (v2 + 1)), (0, .ref (g.1 ka)), (1, .int v1), (3, .int v3)]) rfl (fun ls hl => ?_)
      refine lv_goto hx hb dJ7_fill_53178_17 (tgt := 5) (by decide) ?_
      exact ih v1 (v2 + 1) v3 t1 _ _ _ h (lv_sub hl [1, 2, 0, 3] rfl) hf
set_option maxHeartbeats 4000000 in
set_option maxRecDepth 100000 in
theorem c_J7_fill_53178 (l : Launch) {g : fb_G} {ks : List Nat} (hI : fb_I g ks) (hks : ∀ k ∈ ([] : List Nat), k ∈ ks) {ka : Nat} (hka : ka ∈ fb_ints) (hkk : ka ∈ ks) (N : Nat) (ka9 : Nat) (a2 : Int32) (σ : fb_S) {res : fb_S} (hf : f_J7_fill_53178 N ka a2 σ = some res) : fb_M l yJ7_fill_53178 cJ7_fill_53178 4 none 0 0 g ks [.ref (g.1 ka), .int a2] σ (fb_Qv g ks res) := by
  refine fb_met (by decide +kernel) hI (Nat.le_of_ble_eq_true rfl) (fun p e s m below meth c ls X h hr hlk hl => ?_)
  have X : fb_X p m c cJ7_fill_53178 4 s _ RJ7 g ks (fb_A g ks) := X
  have hl : lv_has ls 4 [(0, .ref (g.1 ka)), (1, .int a2)] := hl
  have hx := X.1.1
  have hb := X.1.2.1
  unfold f_J7_fill_53178 at hf
  refine lv_iconst hx hb dJ7_fill_53178_0 ki_0 ?_
  refine lv_istore_n hx hb dJ7_fill_53178_1 rfl hl (by decide) (lv' := [(2, .int (0)), (0, .ref (g.1 ka)), (1, .int a2)]) rfl (fun ls hl => ?_)
  refine lv_aload_n hx hb dJ7_fill_53178_2 rfl (lv_at hl 1 rfl) ?_
  refine fb_alen X h hkk (fb_int hka _ _ _) dJ7_fill_53178_3 ?_
  obtain ⟨x2, ex2, hf⟩ := nm_s hf
  refine fb_topi ex2 ?_
  refine lv_istore_n hx hb dJ7_fill_53178_4 rfl hl (by decide) (lv' := [(3, .int x2), (2, .int (0)), (0, .ref (g.1 ka)), (1, .int a2)]) rfl (fun ls hl => ?_)
  exact w_J7_fill_53178_L5 X hks hr hlk hka hkk N N a2 (0 : Int32) x2 σ _ _ _ h (lv_sub hl [2, 3, 1, 0] rfl) hf
def f_X0_makeAnew (N : Nat) (a1 : Int32) (σ : fb_S) : Option fb_S :=
  nm_ (fb_up σ 2 3 a1) fun t1 =>
  (f_J7_fill_53178 N 3 (1 : Int32) t1).bind fun q2 =>
  (f_J7_fill_53178 N 4 (1 : Int32) q2).bind fun q3 =>
  some q3
set_option maxHeartbeats 4000000 in
set_option maxRecDepth 100000 in
theorem c_X0_makeAnew (l : Launch) {g : fb_G} {ks : List Nat} (hI : fb_I g ks) (hks : ∀ k ∈ ([2, 3, 4] : List Nat), k ∈ ks) (N : Nat) (a1 : Int32) (σ : fb_S) {res : fb_S} (hf : f_X0_makeAnew N a1 σ = some res) : fb_M l yX0_makeAnew cX0_makeAnew 2 none 1 23 g ks [.ref (g.1 2), .int a1] σ (fb_Qv g ks res) := by
  refine fb_met (by decide +kernel) hI (Nat.le_of_ble_eq_true rfl) (fun p e s m below meth c ls X h hr hlk hl => ?_)
  have X : fb_X p m c cX0_makeAnew 2 s _ RX0 g ks (fb_A g ks) := X
  have hl : lv_has ls 2 [(0, .ref (g.1 2)), (1, .int a1)] := hl
  have hx := X.1.1
  have hb := X.1.2.1
  unfold f_X0_makeAnew at hf
  refine lv_aload_n hx hb dX0_makeAnew_0 rfl (lv_at hl 0 rfl) ?_
  refine lv_iload_n hx hb dX0_makeAnew_1 rfl (lv_at hl 1 rfl) ?_
  obtain ⟨t1, et1, hf⟩ := nm_s hf
  refine pt_RX0_26 X h (hks 2 (by decide)) dX0_makeAnew_2 (fun H locs h => ?_)
  have h := fb_H.nm et1 h
  refine lv_aload_n hx hb dX0_makeAnew_5 rfl (lv_at hl 0 rfl) ?_
  refine gt_RX0_11 X h (hks 2 (by decide)) dX0_makeAnew_6 ?_
  refine lv_iconst hx hb dX0_makeAnew_9 ki_1 ?_
  obtain ⟨q2, hq2, hf⟩ := bd_s hf
  refine fb_cv X h (fb_runS (As := [.ref (g.1 3), .int (1)]) (rest := []) X h (c_J7_fill_53178 l X.2.2.1 (fun k hk => absurd hk List.not_mem_nil) (ka := 3) (by decide) (hks 3 (by decide)) N 3 (1 : Int32) t1 hq2) mf_yJ7_fill_53178 lm_RX0_30 ⟨Nat.le_of_ble_eq_true rfl, Nat.le_of_ble_eq_true rfl⟩ ⟨Nat.le_refl _, Nat.le_refl _⟩ rfl hl.1 rfl (Nat.le_of_ble_eq_true rfl) dX0_makeAnew_10) (fun H locs h => ?_)
  refine lv_aload_n hx hb dX0_makeAnew_13 rfl (lv_at hl 0 rfl) ?_
  refine gt_RX0_15 X h (hks 2 (by decide)) dX0_makeAnew_14 ?_
  refine lv_iconst hx hb dX0_makeAnew_17 ki_1 ?_
  obtain ⟨q3, hq3, hf⟩ := bd_s hf
  refine fb_cv X h (fb_runS (As := [.ref (g.1 4), .int (1)]) (rest := []) X h (c_J7_fill_53178 l X.2.2.1 (fun k hk => absurd hk List.not_mem_nil) (ka := 4) (by decide) (hks 4 (by decide)) N 4 (1 : Int32) q2 hq3) mf_yJ7_fill_53178 lm_RX0_30 ⟨Nat.le_of_ble_eq_true rfl, Nat.le_of_ble_eq_true rfl⟩ ⟨Nat.le_refl _, Nat.le_refl _⟩ rfl hl.1 rfl (Nat.le_of_ble_eq_true rfl) dX0_makeAnew_18) (fun H locs h => ?_)
  have e9 := Option.some.inj hf
  subst e9
  exact fb_vr X h hr hlk dX0_makeAnew_21
def f_X3_lawNet (a1 : Int32) (a2 : Int32) (a3 : Int32) : Option Int32 :=
  some (((a1 * a2) / (100 : Int32)) - a3)
set_option maxHeartbeats 4000000 in
set_option maxRecDepth 100000 in
theorem c_X3_lawNet (l : Launch) {g : fb_G} {ks : List Nat} (hI : fb_I g ks) (hks : ∀ k ∈ ([] : List Nat), k ∈ ks) (a1 : Int32) (a2 : Int32) (a3 : Int32) (σ : fb_S) {res : Int32} (hf : f_X3_lawNet a1 a2 a3 = some res) : fb_M l yX3_lawNet cX3_lawNet 3 (some .int) 0 0 g ks [.int a1, .int a2, .int a3] σ (fb_Qi g ks res σ) := by
  refine fb_met (by decide +kernel) hI (Nat.le_of_ble_eq_true rfl) (fun p e s m below meth c ls X h hr hlk hl => ?_)
  have X : fb_X p m c cX3_lawNet 3 s _ RX3 g ks (fb_A g ks) := X
  have hl : lv_has ls 3 [(0, .int a1), (1, .int a2), (2, .int a3)] := hl
  have hx := X.1.1
  have hb := X.1.2.1
  unfold f_X3_lawNet at hf
  refine lv_iload_n hx hb dX3_lawNet_0 rfl (lv_at hl 0 rfl) ?_
  refine lv_iload_n hx hb dX3_lawNet_1 rfl (lv_at hl 1 rfl) ?_
  refine lv_imul hx hb dX3_lawNet_2 ?_
  refine lv_bipush hx hb dX3_lawNet_3 kb_100 ?_
  refine lv_idiv hx hb dX3_lawNet_5 (by decide) ?_
  refine lv_iload_n hx hb dX3_lawNet_6 rfl (lv_at hl 2 rfl) ?_
  refine lv_isub hx hb dX3_lawNet_7 ?_
  have e9 := Option.some.inj hf
  subst e9
  exact fb_ir X h hr hlk dX3_lawNet_8
def f_X3_firstBroken_L2 (N : Nat) (σ : fb_S) : Nat → Int32 → Int32 → Int32 → Option Int32
  | 0, _, _, _ => none
  | n + 1, v1, v2, v3 => 
    if (σ.1 22 6) ≤ v3 then (
      some (-9 : Int32)
    ) else (
      ck_ (fb_in v3 20) <|
      (f_X3_lawNet (σ.1 23 v3.toNatClampNeg) v1 v2).bind fun q1 =>
      ck_ (fb_in v3 20) <|
      if q1 < (σ.1 24 v3.toNatClampNeg) then (
        some v3
      ) else (
        ck_ (fb_in v3 20) <|
        if q1 ≤ (σ.1 25 v3.toNatClampNeg) then (
          f_X3_firstBroken_L2 N σ n v1 v2 (v3 + 1)
        ) else (
          some v3
        )
      )
    )
def f_X3_firstBroken (N : Nat) (a1 : Int32) (a2 : Int32) (σ : fb_S) : Option Int32 :=
  f_X3_firstBroken_L2 N σ N a1 a2 (0 : Int32)
set_option maxHeartbeats 4000000 in
set_option maxRecDepth 100000 in
theorem w_X3_firstBroken_L2 (X : fb_X p m c cX3_firstBroken 5 s args RX3 g ks (fb_A g ks)) (hks : ∀ k ∈ ([22, 23, 24, 25] : List Nat), k ∈ ks) (hr : meth.sig.returnType = (some .int)) (hlk : meth.locks = false) (N : Nat) (σ : fb_S)  {res : Int32} : ∀ (n : Nat) (v1 : Int32) (v2 : Int32) (v3 : Int32) (H : Heap) (locs : List Loc) (ls : Array Slot), fb_H g ks (fb_A g ks) s.heap σ H locs → lv_has ls 5 [(0, .ref (g.1 22)), (1, .int v1), (2, .int v2), (3, .int v3)] → f_X3_firstBroken_L2 N σ n v1 v2 v3 = some res → W p l e (fb_R 1 22) s m args below meth c H locs 0 0 (MQ below (fb_Qi g ks res σ) args s 0 0 (fb_A g ks)) (F0 m 2 ls []) := by
  have hx := X.1.1
  have hb := X.1.2.1
  intro n
  induction n with
  | zero => intro v1 v2 v3 H locs ls h hl hf; cases hf
  | succ n ih =>
    intro v1 v2 v3 H locs ls h hl hf
    unfold f_X3_firstBroken_L2 at hf
    refine lv_iload_n hx hb dX3_firstBroken_2 rfl (lv_at hl 3 rfl) ?_
    refine lv_aload_n hx hb dX3_firstBroken_3 rfl (lv_at hl 0 rfl) ?_
    refine gt_RX3_47 X h (hks 22 (by decide)) dX3_firstBroken_4 ?_
    refine lv_icmp_ge hx hb dX3_firstBroken_7 (tgt := 53) (by decide) (fun hc => ?_) (fun hc => ?_)
    · have hf := if_t hc hf
      refine lv_bipush hx hb dX3_firstBroken_53 kb_m9 ?_
      have e9 := Option.some.inj hf
      subst e9
      exact fb_ir X h hr hlk dX3_firstBroken_55
    · have hf := if_f hc hf
      refine lv_aload_n hx hb dX3_firstBroken_10 rfl (lv_at hl 0 rfl) ?_
      refine gt_RX3_11 X h (hks 22 (by decide)) dX3_firstBroken_11 ?_
      refine lv_iload_n hx hb dX3_firstBroken_14 rfl (lv_at hl 3 rfl) ?_
      obtain ⟨hi0, hf⟩ := ck_s hf
      refine fb_iald X h (hks 23 (by decide)) rfl hi0 dX3_firstBroken_15 ?_
      refine lv_iload_n hx hb dX3_firstBroken_16 rfl (lv_at hl 1 rfl) ?_
      refine lv_iload_n hx hb dX3_firstBroken_17 rfl (lv_at hl 2 rfl) ?_
      obtain ⟨q1, hq1, hf⟩ := bd_s hf
      refine fb_ci X h (fb_runS (As := [.int (σ.1 23 v3.toNatClampNeg), .int v1, .int v2]) (rest := []) X h (c_X3_lawNet l X.2.2.1 (fun k hk => absurd hk List.not_mem_nil) (σ.1 23 v3.toNatClampNeg) v1 v2 σ hq1) mf_yX3_lawNet lm_RX3_61 ⟨Nat.le_of_ble_eq_true rfl, Nat.le_of_ble_eq_true rfl⟩ ⟨Nat.le_refl _, Nat.le_refl _⟩ rfl hl.1 rfl (Nat.le_of_ble_eq_true rfl) dX3_firstBroken_18) (fun H locs h => ?_)
      refine lv_istore hx hb dX3_firstBroken_21 hl (by decide) (lv' := [(4, .int q1), (0, .ref (g.1 22)), (1, .int v1), (2, .int v2), (3, .int v3)]) rfl (fun ls hl => ?_)
      refine lv_iload hx hb dX3_firstBroken_23 (lv_at hl 0 rfl) ?_
      refine lv_aload_n hx hb dX3_firstBroken_25 rfl (lv_at hl 1 rfl) ?_
      refine gt_RX3_15 X h (hks 22 (by decide)) dX3_firstBroken_26 ?_
      refine lv_iload_n hx hb dX3_firstBroken_29 rfl (lv_at hl 4 rfl) ?_
      obtain ⟨hi0, hf⟩ := ck_s hf
      refine fb_iald X h (hks 24 (by decide)) rfl hi0 dX3_firstBroken_30 ?_
      refine lv_icmp_lt hx hb dX3_firstBroken_31 (tgt := 45) (by decide) (fun hc => ?_) (fun hc => ?_)
      · have hf := if_t hc hf
        refine lv_iload_n hx hb dX3_firstBroken_45 rfl (lv_at hl 4 rfl) ?_
        have e9 := Option.some.inj hf
        subst e9
        exact fb_ir X h hr hlk dX3_firstBroken_46
      · have hf := if_f hc hf
        refine lv_iload hx hb dX3_firstBroken_34 (lv_at hl 0 rfl) ?_
        refine lv_aload_n hx hb dX3_firstBroken_36 rfl (lv_at hl 1 rfl) ?_
        refine gt_RX3_18 X h (hks 22 (by decide)) dX3_firstBroken_37 ?_
        refine lv_iload_n hx hb dX3_firstBroken_40 rfl (lv_at hl 4 rfl) ?_
        obtain ⟨hi0, hf⟩ := ck_s hf
        refine fb_iald X h (hks 25 (by decide)) rfl hi0 dX3_firstBroken_41 ?_
        refine lv_icmp_le hx hb dX3_firstBroken_42 (tgt := 47) (by decide) (fun hc => ?_) (fun hc => ?_)
        · have hf := if_t hc hf
          refine lv_iinc hx hb dX3_firstBroken_47 hl (k := 4) rfl (kinc_1 _) (by decide) (lv' := [(3, .int (v3 + 1)), (4, .int q1), (0, .ref (g.1 22)), (1, .int v1), (2, .int v2)]) rfl (fun ls hl => ?_)
          refine lv_goto hx hb dX3_firstBroken_50 (tgt := 2) (by decide) ?_
          exact ih v1 v2 (v3 + 1) _ _ _ h (lv_sub hl [2, 3, 4, 0] rfl) hf
        · have hf := if_f hc hf
          refine lv_iload_n hx hb dX3_firstBroken_45 rfl (lv_at hl 4 rfl) ?_
          have e9 := Option.some.inj hf
          subst e9
          exact fb_ir X h hr hlk dX3_firstBroken_46
set_option maxHeartbeats 4000000 in
set_option maxRecDepth 100000 in
theorem c_X3_firstBroken (l : Launch) {g : fb_G} {ks : List Nat} (hI : fb_I g ks) (hks : ∀ k ∈ ([22, 23, 24, 25] : List Nat), k ∈ ks) (N : Nat) (a1 : Int32) (a2 : Int32) (σ : fb_S) {res : Int32} (hf : f_X3_firstBroken N a1 a2 σ = some res) : fb_M l yX3_firstBroken cX3_firstBroken 5 (some .int) 1 22 g ks [.ref (g.1 22), .int a1, .int a2] σ (fb_Qi g ks res σ) := by
  refine fb_met (by decide +kernel) hI (Nat.le_of_ble_eq_true rfl) (fun p e s m below meth c ls X h hr hlk hl => ?_)
  have X : fb_X p m c cX3_firstBroken 5 s _ RX3 g ks (fb_A g ks) := X
  have hl : lv_has ls 5 [(0, .ref (g.1 22)), (1, .int a1), (2, .int a2)] := hl
  have hx := X.1.1
  have hb := X.1.2.1
  unfold f_X3_firstBroken at hf
  refine lv_iconst hx hb dX3_firstBroken_0 ki_0 ?_
  refine lv_istore_n hx hb dX3_firstBroken_1 rfl hl (by decide) (lv' := [(3, .int (0)), (0, .ref (g.1 22)), (1, .int a1), (2, .int a2)]) rfl (fun ls hl => ?_)
  exact w_X3_firstBroken_L2 X hks hr hlk N σ N a1 a2 (0 : Int32) _ _ _ h (lv_sub hl [1, 2, 3, 0] rfl) hf
def f_X3_findFitting_L22 (N : Nat) (k7 : Int32 → fb_S → Option fb_S) : Nat → Int32 → Int32 → fb_S → Option fb_S
  | 0, _, _, _ => none
  | n + 1, v1, v2, σ => 
    if (50 : Int32) < v2 then (
      k7 (v1 + 1) σ
    ) else (
      (f_X3_firstBroken N v1 v2 σ).bind fun q1 =>
      if q1 = (-9 : Int32) then (
        ck_ (fb_in v1 50) <|
        ck_ (fb_in v1 50) <|
        nm_ (fb_upH σ 26 (v1.toNatClampNeg) ((hjf (σ.1 26) v1.toNatClampNeg) ||| ((1 : Int64) <<< (v2.toInt64 &&& 63)))) fun t2 =>
        nm_ (fb_up t2 22 7 ((t2.1 22 7) + (1 : Int32))) fun t3 =>
        f_X3_findFitting_L22 N k7 n v1 (v2 + 1) t3
      ) else (
        f_X3_findFitting_L22 N k7 n v1 (v2 + 1) σ
      )
    )
def f_X3_findFitting_L7 (N : Nat) : Nat → Int32 → fb_S → Option fb_S
  | 0, _, _ => none
  | n + 1, v1, σ => 
    if (49 : Int32) < v1 then (
      some σ
    ) else (
      ck_ (fb_in v1 50) <|
      nm_ (fb_upH σ 26 (v1.toNatClampNeg) (0 : Int64)) fun t4 =>
      f_X3_findFitting_L22 N (f_X3_findFitting_L7 N n) N v1 (1 : Int32) t4
    )
def f_X3_findFitting (N : Nat)  (σ : fb_S) : Option fb_S :=
  nm_ (fb_up σ 22 7 (0 : Int32)) fun t5 =>
  f_X3_findFitting_L7 N N (0 : Int32) t5
set_option maxHeartbeats 4000000 in
set_option maxRecDepth 100000 in
theorem w_X3_findFitting_L22 (X : fb_X p m c cX3_findFitting 3 s args RX3 g ks (fb_A g ks)) (hks : ∀ k ∈ ([22, 23, 24, 25, 26] : List Nat), k ∈ ks) (hr : meth.sig.returnType = none) (hlk : meth.locks = false) (N : Nat) (k7 : Int32 → fb_S → Option fb_S)  {res : fb_S} (hk7 : ∀ (v1 : Int32) (σ : fb_S) (H : Heap) (locs : List Loc) (ls : Array Slot), fb_H g ks (fb_A g ks) s.heap σ H locs → lv_has ls 3 [(0, .ref (g.1 22)), (1, .int v1)] → k7 v1 σ = some res → W p l e (fb_R 2 46) s m args below meth c H locs 0 0 (MQ below (fb_Qv g ks res) args s 0 0 (fb_A g ks)) (F0 m 7 ls [])) : ∀ (n : Nat) (v1 : Int32) (v2 : Int32) (σ : fb_S) (H : Heap) (locs : List Loc) (ls : Array Slot), fb_H g ks (fb_A g ks) s.heap σ H locs → lv_has ls 3 [(0, .ref (g.1 22)), (1, .int v1), (2, .int v2)] → f_X3_findFitting_L22 N k7 n v1 v2 σ = some res → W p l e (fb_R 2 46) s m args below meth c H locs 0 0 (MQ below (fb_Qv g ks res) args s 0 0 (fb_A g ks)) (F0 m 22 ls []) := by
  have hx := X.1.1
  have hb := X.1.2.1
  intro n
  induction n with
  | zero => intro v1 v2 σ H locs ls h hl hf; cases hf
  | succ n ih =>
    intro v1 v2 σ H locs ls h hl hf
    unfold f_X3_findFitting_L22 at hf
    refine lv_iload_n hx hb dX3_findFitting_22 rfl (lv_at hl 2 rfl) ?_
    refine lv_bipush hx hb dX3_findFitting_23 kb_50 ?_
    refine lv_icmp_gt hx hb dX3_findFitting_25 (tgt := 67) (by decide) (fun hc => ?_) (fun hc => ?_)
    · have hf := if_t hc hf
      refine lv_iinc hx hb dX3_findFitting_67 hl (k := 1) rfl (kinc_1 _) (by decide) (lv' := [(1, .int (v1 + 1)), (0, .ref (g.1 22)), (2, .int v2)]) rfl (fun ls hl => ?_)
      refine lv_goto hx hb dX3_findFitting_70 (tgt := 7) (by decide) ?_
      exact hk7 (v1 + 1) σ _ _ _ h (lv_sub hl [1, 0] rfl) hf
    · have hf := if_f hc hf
      refine lv_aload_n hx hb dX3_findFitting_28 rfl (lv_at hl 0 rfl) ?_
      refine lv_iload_n hx hb dX3_findFitting_29 rfl (lv_at hl 1 rfl) ?_
      refine lv_iload_n hx hb dX3_findFitting_30 rfl (lv_at hl 2 rfl) ?_
      obtain ⟨q1, hq1, hf⟩ := bd_s hf
      refine fb_ci X h (fb_runV (As := [.int v1, .int v2]) (rest := []) (k := 22) X h (c_X3_firstBroken l X.2.2.1 (fun k hk => hks k ((by decide : ∀ k ∈ ([22, 23, 24, 25] : List Nat), k ∈ ([22, 23, 24, 25, 26] : List Nat)) k hk)) N v1 v2 σ hq1) mf_yX3_firstBroken lm_RX3_54 (hks 22 (by decide)) rfl rfl ⟨Nat.le_of_ble_eq_true rfl, Nat.le_of_ble_eq_true rfl⟩ ⟨Nat.le_refl _, Nat.le_refl _⟩ rfl hl.1 rfl (Nat.le_of_ble_eq_true rfl) dX3_findFitting_31) (fun H locs h => ?_)
      refine lv_bipush hx hb dX3_findFitting_34 kb_m9 ?_
      refine lv_icmp_ne hx hb dX3_findFitting_36 (tgt := 61) (by decide) (fun hc => ?_) (fun hc => ?_)
      · have hf := if_f hc hf
        refine lv_iinc hx hb dX3_findFitting_61 hl (k := 2) rfl (kinc_1 _) (by decide) (lv' := [(2, .int (v2 + 1)), (0, .ref (g.1 22)), (1, .int v1)]) rfl (fun ls hl => ?_)
        refine lv_goto hx hb dX3_findFitting_64 (tgt := 22) (by decide) ?_
        exact ih v1 (v2 + 1) σ _ _ _ h (lv_sub hl [1, 2, 0] rfl) hf
      · have hf := if_t hc hf
        refine lv_aload_n hx hb dX3_findFitting_39 rfl (lv_at hl 0 rfl) ?_
        refine gt_RX3_21 X h (hks 22 (by decide)) dX3_findFitting_40 ?_
        refine lv_iload_n hx hb dX3_findFitting_43 rfl (lv_at hl 1 rfl) ?_
        refine lv_dup2_11 hx hb dX3_findFitting_44 rfl rfl ?_
        obtain ⟨hi0, hf⟩ := ck_s hf
        refine fb_hald X h (hks 26 (by decide)) rfl hi0 dX3_findFitting_45 ?_
        refine lv_lconst hx hb dX3_findFitting_46 kl_1 ?_
        refine lv_iload_n hx hb dX3_findFitting_47 rfl (lv_at hl 2 rfl) ?_
        refine lv_lshl hx hb dX3_findFitting_48 (v := (1 : Int64) <<< (v2.toInt64 &&& 63)) rfl ?_
        refine lv_lor hx hb dX3_findFitting_49 ?_
        obtain ⟨hi0, hf⟩ := ck_s hf
        obtain ⟨t2, et2, hf⟩ := nm_s hf
        refine fb_hast X h (hks 26 (by decide)) (fun _ => rfl) hi0 dX3_findFitting_50 (fun H locs h => ?_)
        have h := fb_H.nm et2 h
        refine lv_aload_n hx hb dX3_findFitting_51 rfl (lv_at hl 0 rfl) ?_
        refine lv_dup hx hb dX3_findFitting_52 rfl ?_
        refine gt_RX3_51 X h (hks 22 (by decide)) dX3_findFitting_53 ?_
        refine lv_iconst hx hb dX3_findFitting_56 ki_1 ?_
        refine lv_iadd hx hb dX3_findFitting_57 ?_
        obtain ⟨t3, et3, hf⟩ := nm_s hf
        refine pt_RX3_51 X h (hks 22 (by decide)) dX3_findFitting_58 (fun H locs h => ?_)
        have h := fb_H.nm et3 h
        refine lv_iinc hx hb dX3_findFitting_61 hl (k := 2) rfl (kinc_1 _) (by decide) (lv' := [(2, .int (v2 + 1)), (0, .ref (g.1 22)), (1, .int v1)]) rfl (fun ls hl => ?_)
        refine lv_goto hx hb dX3_findFitting_64 (tgt := 22) (by decide) ?_
        exact ih v1 (v2 + 1) t3 _ _ _ h (lv_sub hl [1, 2, 0] rfl) hf
set_option maxHeartbeats 4000000 in
set_option maxRecDepth 100000 in
theorem w_X3_findFitting_L7 (X : fb_X p m c cX3_findFitting 3 s args RX3 g ks (fb_A g ks)) (hks : ∀ k ∈ ([22, 23, 24, 25, 26] : List Nat), k ∈ ks) (hr : meth.sig.returnType = none) (hlk : meth.locks = false) (N : Nat)  {res : fb_S} : ∀ (n : Nat) (v1 : Int32) (σ : fb_S) (H : Heap) (locs : List Loc) (ls : Array Slot), fb_H g ks (fb_A g ks) s.heap σ H locs → lv_has ls 3 [(0, .ref (g.1 22)), (1, .int v1)] → f_X3_findFitting_L7 N n v1 σ = some res → W p l e (fb_R 2 46) s m args below meth c H locs 0 0 (MQ below (fb_Qv g ks res) args s 0 0 (fb_A g ks)) (F0 m 7 ls []) := by
  have hx := X.1.1
  have hb := X.1.2.1
  intro n
  induction n with
  | zero => intro v1 σ H locs ls h hl hf; cases hf
  | succ n ih =>
    intro v1 σ H locs ls h hl hf
    unfold f_X3_findFitting_L7 at hf
    refine lv_iload_n hx hb dX3_findFitting_7 rfl (lv_at hl 1 rfl) ?_
    refine lv_bipush hx hb dX3_findFitting_8 kb_49 ?_
    refine lv_icmp_gt hx hb dX3_findFitting_10 (tgt := 73) (by decide) (fun hc => ?_) (fun hc => ?_)
    · have hf := if_t hc hf
      have e9 := Option.some.inj hf
      subst e9
      exact fb_vr X h hr hlk dX3_findFitting_73
    · have hf := if_f hc hf
      refine lv_aload_n hx hb dX3_findFitting_13 rfl (lv_at hl 0 rfl) ?_
      refine gt_RX3_21 X h (hks 22 (by decide)) dX3_findFitting_14 ?_
      refine lv_iload_n hx hb dX3_findFitting_17 rfl (lv_at hl 1 rfl) ?_
      refine lv_lconst hx hb dX3_findFitting_18 kl_0 ?_
      obtain ⟨hi0, hf⟩ := ck_s hf
      obtain ⟨t4, et4, hf⟩ := nm_s hf
      refine fb_hast X h (hks 26 (by decide)) (fun _ => rfl) hi0 dX3_findFitting_19 (fun H locs h => ?_)
      have h := fb_H.nm et4 h
      refine lv_iconst hx hb dX3_findFitting_20 ki_1 ?_
      refine lv_istore_n hx hb dX3_findFitting_21 rfl hl (by decide) (lv' := [(2, .int (1)), (0, .ref (g.1 22)), (1, .int v1)]) rfl (fun ls hl => ?_)
      exact w_X3_findFitting_L22 X hks hr hlk N (f_X3_findFitting_L7 N n) ih N v1 (1 : Int32) t4 _ _ _ h (lv_sub hl [1, 2, 0] rfl) hf
set_option maxHeartbeats 4000000 in
set_option maxRecDepth 100000 in
theorem c_X3_findFitting (l : Launch) {g : fb_G} {ks : List Nat} (hI : fb_I g ks) (hks : ∀ k ∈ ([22, 23, 24, 25, 26] : List Nat), k ∈ ks) (N : Nat) (σ : fb_S) {res : fb_S} (hf : f_X3_findFitting N σ = some res) : fb_M l yX3_findFitting cX3_findFitting 3 none 2 46 g ks [.ref (g.1 22)] σ (fb_Qv g ks res) := by
  refine fb_met (by decide +kernel) hI (Nat.le_of_ble_eq_true rfl) (fun p e s m below meth c ls X h hr hlk hl => ?_)
  have X : fb_X p m c cX3_findFitting 3 s _ RX3 g ks (fb_A g ks) := X
  have hl : lv_has ls 3 [(0, .ref (g.1 22))] := hl
  have hx := X.1.1
  have hb := X.1.2.1
  unfold f_X3_findFitting at hf
  refine lv_aload_n hx hb dX3_findFitting_0 rfl (lv_at hl 0 rfl) ?_
  refine lv_iconst hx hb dX3_findFitting_1 ki_0 ?_
  obtain ⟨t5, et5, hf⟩ := nm_s hf
  refine pt_RX3_51 X h (hks 22 (by decide)) dX3_findFitting_2 (fun H locs h => ?_)
  have h := fb_H.nm et5 h
  refine lv_iconst hx hb dX3_findFitting_5 ki_0 ?_
  refine lv_istore_n hx hb dX3_findFitting_6 rfl hl (by decide) (lv' := [(1, .int (0)), (0, .ref (g.1 22))]) rfl (fun ls hl => ?_)
  exact w_X3_findFitting_L7 X hks hr hlk N N (0 : Int32) t5 _ _ _ h (lv_sub hl [1, 0] rfl) hf
def f_X5_isWithin (a1 : Int32) (a2 : Int32) (a3 : Int32) : Option Int32 :=
  if a1 < a2 then (
    some (0 : Int32)
  ) else (
    if a3 < a1 then (
      some (0 : Int32)
    ) else (
      some (1 : Int32)
    )
  )
set_option maxHeartbeats 4000000 in
set_option maxRecDepth 100000 in
theorem c_X5_isWithin (l : Launch) {g : fb_G} {ks : List Nat} (hI : fb_I g ks) (hks : ∀ k ∈ ([] : List Nat), k ∈ ks) (a1 : Int32) (a2 : Int32) (a3 : Int32) (σ : fb_S) {res : Int32} (hf : f_X5_isWithin a1 a2 a3 = some res) : fb_M l yX5_isWithin cX5_isWithin 3 (some .boolean) 0 0 g ks [.int a1, .int a2, .int a3] σ (fb_Qi g ks res σ) := by
  refine fb_met (by decide +kernel) hI (Nat.le_of_ble_eq_true rfl) (fun p e s m below meth c ls X h hr hlk hl => ?_)
  have X : fb_X p m c cX5_isWithin 3 s _ RX5 g ks (fb_A g ks) := X
  have hl : lv_has ls 3 [(0, .int a1), (1, .int a2), (2, .int a3)] := hl
  have hx := X.1.1
  have hb := X.1.2.1
  unfold f_X5_isWithin at hf
  refine lv_iload_n hx hb dX5_isWithin_0 rfl (lv_at hl 0 rfl) ?_
  refine lv_iload_n hx hb dX5_isWithin_1 rfl (lv_at hl 1 rfl) ?_
  refine lv_icmp_lt hx hb dX5_isWithin_2 (tgt := 14) (by decide) (fun hc => ?_) (fun hc => ?_)
  · have hf := if_t hc hf
    refine lv_iconst hx hb dX5_isWithin_14 ki_0 ?_
    have e9 := Option.some.inj hf
    subst e9
    exact fb_zr (r := (0 : Int32)) X h hr rfl hlk dX5_isWithin_15
  · have hf := if_f hc hf
    refine lv_iload_n hx hb dX5_isWithin_5 rfl (lv_at hl 0 rfl) ?_
    refine lv_iload_n hx hb dX5_isWithin_6 rfl (lv_at hl 2 rfl) ?_
    refine lv_icmp_gt hx hb dX5_isWithin_7 (tgt := 14) (by decide) (fun hc => ?_) (fun hc => ?_)
    · have hf := if_t hc hf
      refine lv_iconst hx hb dX5_isWithin_14 ki_0 ?_
      have e9 := Option.some.inj hf
      subst e9
      exact fb_zr (r := (0 : Int32)) X h hr rfl hlk dX5_isWithin_15
    · have hf := if_f hc hf
      refine lv_iconst hx hb dX5_isWithin_10 ki_1 ?_
      refine lv_goto hx hb dX5_isWithin_11 (tgt := 15) (by decide) ?_
      have e9 := Option.some.inj hf
      subst e9
      exact fb_zr (r := (1 : Int32)) X h hr rfl hlk dX5_isWithin_15
def f_X5_span (N : Nat) (a1 : Int32) (σ : fb_S) : Option (Int32 × fb_S) :=
  (f_X5_isWithin a1 (1 : Int32) (5 : Int32)).bind fun q1 =>
  if q1 = 0 then (
    some ((-2 : Int32), σ)
  ) else (
    nm_ (σ.1 2 3) fun x2 =>
    (f_X0_makeAnew N a1 σ).bind fun q3 =>
    some (x2, q3)
  )
set_option maxHeartbeats 4000000 in
set_option maxRecDepth 100000 in
theorem c_X5_span (l : Launch) {g : fb_G} {ks : List Nat} (hI : fb_I g ks) (hks : ∀ k ∈ ([0, 2, 3, 4] : List Nat), k ∈ ks) (N : Nat) (a1 : Int32) (σ : fb_S) {res : (Int32 × fb_S)} (hf : f_X5_span N a1 σ = some res) : fb_M l yX5_span cX5_span 3 (some .int) 2 44 g ks [.ref (g.1 0), .int a1] σ (fb_Qi g ks res.1 res.2) := by
  refine fb_met (by decide +kernel) hI (Nat.le_of_ble_eq_true rfl) (fun p e s m below meth c ls X h hr hlk hl => ?_)
  have X : fb_X p m c cX5_span 3 s _ RX5 g ks (fb_A g ks) := X
  have hl : lv_has ls 3 [(0, .ref (g.1 0)), (1, .int a1)] := hl
  have hx := X.1.1
  have hb := X.1.2.1
  unfold f_X5_span at hf
  refine lv_iload_n hx hb dX5_span_0 rfl (lv_at hl 1 rfl) ?_
  refine lv_iconst hx hb dX5_span_1 ki_1 ?_
  refine lv_iconst hx hb dX5_span_2 ki_5 ?_
  obtain ⟨q1, hq1, hf⟩ := bd_s hf
  refine fb_ci X h (fb_runS (As := [.int a1, .int (1), .int (5)]) (rest := []) X h (c_X5_isWithin l X.2.2.1 (fun k hk => absurd hk List.not_mem_nil) a1 (1 : Int32) (5 : Int32) σ hq1) mf_yX5_isWithin lm_RX5_48 ⟨Nat.le_of_ble_eq_true rfl, Nat.le_of_ble_eq_true rfl⟩ ⟨Nat.le_refl _, Nat.le_refl _⟩ rfl hl.1 rfl (Nat.le_of_ble_eq_true rfl) dX5_span_3) (fun H locs h => ?_)
  refine lv_if_ne hx hb dX5_span_6 (tgt := 12) (by decide) (fun hc => ?_) (fun hc => ?_)
  · have hf := if_f hc hf
    refine lv_aload_n hx hb dX5_span_12 rfl (lv_at hl 0 rfl) ?_
    refine gt_RX5_16 X h (hks 0 (by decide)) dX5_span_13 ?_
    refine gt_RX5_52 X h (hks 2 (by decide)) dX5_span_16 ?_
    obtain ⟨x2, ex2, hf⟩ := nm_s hf
    refine fb_topi ex2 ?_
    refine lv_istore_n hx hb dX5_span_19 rfl hl (by decide) (lv' := [(2, .int x2), (0, .ref (g.1 0)), (1, .int a1)]) rfl (fun ls hl => ?_)
    refine lv_aload_n hx hb dX5_span_20 rfl (lv_at hl 1 rfl) ?_
    refine gt_RX5_16 X h (hks 0 (by decide)) dX5_span_21 ?_
    refine lv_iload_n hx hb dX5_span_24 rfl (lv_at hl 2 rfl) ?_
    obtain ⟨q3, hq3, hf⟩ := bd_s hf
    refine fb_cv X h (fb_runVN (As := [.int a1]) (rest := []) (k := 2) X h (c_X0_makeAnew l X.2.2.1 (fun k hk => hks k ((by decide : ∀ k ∈ ([2, 3, 4] : List Nat), k ∈ ([0, 2, 3, 4] : List Nat)) k hk)) N a1 σ hq3) mf_yX0_makeAnew lm_RX5_56 (hks 2 (by decide)) rfl rfl ⟨Nat.le_of_ble_eq_true rfl, Nat.le_of_ble_eq_true rfl⟩ ⟨Nat.le_refl _, Nat.le_refl _⟩ rfl hl.1 rfl (Nat.le_of_ble_eq_true rfl) dX5_span_25) (fun H locs h => ?_)
    refine lv_iload_n hx hb dX5_span_28 rfl (lv_at hl 0 rfl) ?_
    have e9 := Option.some.inj hf
    subst e9
    exact fb_ir X h hr hlk dX5_span_29
  · have hf := if_t hc hf
    refine lv_bipush hx hb dX5_span_9 kb_m2 ?_
    have e9 := Option.some.inj hf
    subst e9
    exact fb_ir X h hr hlk dX5_span_11
def f_X5_exchange (ka : Nat) (a2 : Int32) (a3 : Int32) (σ : fb_S) : Option (Int32 × fb_S) :=
  ck_ (fb_in a2 (fb_len ka)) <|
  nm_ (σ.1 ka a2.toNatClampNeg) fun x1 =>
  ck_ (fb_in a2 (fb_len ka)) <|
  nm_ (fb_up σ ka (a2.toNatClampNeg) a3) fun t2 =>
  some (x1, t2)
set_option maxHeartbeats 4000000 in
set_option maxRecDepth 100000 in
theorem c_X5_exchange (l : Launch) {g : fb_G} {ks : List Nat} (hI : fb_I g ks) (hks : ∀ k ∈ ([] : List Nat), k ∈ ks) {ka : Nat} (hka : ka ∈ fb_ints) (hkk : ka ∈ ks) (ka9 : Nat) (a2 : Int32) (a3 : Int32) (σ : fb_S) {res : (Int32 × fb_S)} (hf : f_X5_exchange ka a2 a3 σ = some res) : fb_M l yX5_exchange cX5_exchange 4 (some .int) 0 0 g ks [.ref (g.1 ka), .int a2, .int a3] σ (fb_Qi g ks res.1 res.2) := by
  refine fb_met (by decide +kernel) hI (Nat.le_of_ble_eq_true rfl) (fun p e s m below meth c ls X h hr hlk hl => ?_)
  have X : fb_X p m c cX5_exchange 4 s _ RX5 g ks (fb_A g ks) := X
  have hl : lv_has ls 4 [(0, .ref (g.1 ka)), (1, .int a2), (2, .int a3)] := hl
  have hx := X.1.1
  have hb := X.1.2.1
  unfold f_X5_exchange at hf
  refine lv_aload_n hx hb dX5_exchange_0 rfl (lv_at hl 0 rfl) ?_
  refine lv_iload_n hx hb dX5_exchange_1 rfl (lv_at hl 1 rfl) ?_
  obtain ⟨hi0, hf⟩ := ck_s hf
  refine fb_iald X h hkk (fb_int hka _ _ _) hi0 dX5_exchange_2 ?_
  obtain ⟨x1, ex1, hf⟩ := nm_s hf
  refine fb_topi ex1 ?_
  refine lv_istore_n hx hb dX5_exchange_3 rfl hl (by decide) (lv' := [(3, .int x1), (0, .ref (g.1 ka)), (1, .int a2), (2, .int a3)]) rfl (fun ls hl => ?_)
  refine lv_aload_n hx hb dX5_exchange_4 rfl (lv_at hl 1 rfl) ?_
  refine lv_iload_n hx hb dX5_exchange_5 rfl (lv_at hl 2 rfl) ?_
  refine lv_iload_n hx hb dX5_exchange_6 rfl (lv_at hl 3 rfl) ?_
  obtain ⟨hi0, hf⟩ := ck_s hf
  obtain ⟨t2, et2, hf⟩ := nm_s hf
  refine fb_iast X h hkk (fun r => fb_int hka _ r _) hi0 dX5_exchange_7 (fun H locs h => ?_)
  have h := fb_H.nm et2 h
  refine lv_iload_n hx hb dX5_exchange_8 rfl (lv_at hl 0 rfl) ?_
  have e9 := Option.some.inj hf
  subst e9
  exact fb_ir X h hr hlk dX5_exchange_9
def f_X5_weight (a1 : Int32) (a2 : Int32) (σ : fb_S) : Option (Int32 × fb_S) :=
  (f_X5_isWithin a1 (0 : Int32) ((σ.1 2 3) - (1 : Int32))).bind fun q1 =>
  if q1 = 0 then (
    some ((-1 : Int32), σ)
  ) else (
    (f_X5_isWithin a2 (1 : Int32) (9 : Int32)).bind fun q2 =>
    if q2 = 0 then (
      some ((-2 : Int32), σ)
    ) else (
      (f_X5_exchange 3 a1 a2 σ).bind fun q3 =>
      some (q3.1, q3.2)
    )
  )
set_option maxHeartbeats 4000000 in
set_option maxRecDepth 100000 in
theorem c_X5_weight (l : Launch) {g : fb_G} {ks : List Nat} (hI : fb_I g ks) (hks : ∀ k ∈ ([0, 2, 3] : List Nat), k ∈ ks) (a1 : Int32) (a2 : Int32) (σ : fb_S) {res : (Int32 × fb_S)} (hf : f_X5_weight a1 a2 σ = some res) : fb_M l yX5_weight cX5_weight 3 (some .int) 1 23 g ks [.ref (g.1 0), .int a1, .int a2] σ (fb_Qi g ks res.1 res.2) := by
  refine fb_met (by decide +kernel) hI (Nat.le_of_ble_eq_true rfl) (fun p e s m below meth c ls X h hr hlk hl => ?_)
  have X : fb_X p m c cX5_weight 3 s _ RX5 g ks (fb_A g ks) := X
  have hl : lv_has ls 3 [(0, .ref (g.1 0)), (1, .int a1), (2, .int a2)] := hl
  have hx := X.1.1
  have hb := X.1.2.1
  unfold f_X5_weight at hf
  refine lv_iload_n hx hb dX5_weight_0 rfl (lv_at hl 1 rfl) ?_
  refine lv_iconst hx hb dX5_weight_1 ki_0 ?_
  refine lv_aload_n hx hb dX5_weight_2 rfl (lv_at hl 0 rfl) ?_
  refine gt_RX5_16 X h (hks 0 (by decide)) dX5_weight_3 ?_
  refine gt_RX5_52 X h (hks 2 (by decide)) dX5_weight_6 ?_
  refine lv_iconst hx hb dX5_weight_9 ki_1 ?_
  refine lv_isub hx hb dX5_weight_10 ?_
  obtain ⟨q1, hq1, hf⟩ := bd_s hf
  refine fb_ci X h (fb_runS (As := [.int a1, .int (0), .int ((σ.1 2 3) - (1 : Int32))]) (rest := []) X h (c_X5_isWithin l X.2.2.1 (fun k hk => absurd hk List.not_mem_nil) a1 (0 : Int32) ((σ.1 2 3) - (1 : Int32)) σ hq1) mf_yX5_isWithin lm_RX5_48 ⟨Nat.le_of_ble_eq_true rfl, Nat.le_of_ble_eq_true rfl⟩ ⟨Nat.le_refl _, Nat.le_refl _⟩ rfl hl.1 rfl (Nat.le_of_ble_eq_true rfl) dX5_weight_11) (fun H locs h => ?_)
  refine lv_if_ne hx hb dX5_weight_14 (tgt := 19) (by decide) (fun hc => ?_) (fun hc => ?_)
  · have hf := if_f hc hf
    refine lv_iload_n hx hb dX5_weight_19 rfl (lv_at hl 2 rfl) ?_
    refine lv_iconst hx hb dX5_weight_20 ki_1 ?_
    refine lv_bipush hx hb dX5_weight_21 kb_9 ?_
    obtain ⟨q2, hq2, hf⟩ := bd_s hf
    refine fb_ci X h (fb_runS (As := [.int a2, .int (1), .int (9)]) (rest := []) X h (c_X5_isWithin l X.2.2.1 (fun k hk => absurd hk List.not_mem_nil) a2 (1 : Int32) (9 : Int32) σ hq2) mf_yX5_isWithin lm_RX5_48 ⟨Nat.le_of_ble_eq_true rfl, Nat.le_of_ble_eq_true rfl⟩ ⟨Nat.le_refl _, Nat.le_refl _⟩ rfl hl.1 rfl (Nat.le_of_ble_eq_true rfl) dX5_weight_23) (fun H locs h => ?_)
    refine lv_if_ne hx hb dX5_weight_26 (tgt := 32) (by decide) (fun hc => ?_) (fun hc => ?_)
    · have hf := if_f hc hf
      refine lv_aload_n hx hb dX5_weight_32 rfl (lv_at hl 0 rfl) ?_
      refine gt_RX5_16 X h (hks 0 (by decide)) dX5_weight_33 ?_
      refine gt_RX5_60 X h (hks 2 (by decide)) dX5_weight_36 ?_
      refine lv_iload_n hx hb dX5_weight_39 rfl (lv_at hl 1 rfl) ?_
      refine lv_iload_n hx hb dX5_weight_40 rfl (lv_at hl 2 rfl) ?_
      obtain ⟨q3, hq3, hf⟩ := bd_s hf
      refine fb_ci X h (fb_runS (As := [.ref (g.1 3), .int a1, .int a2]) (rest := []) X h (c_X5_exchange l X.2.2.1 (fun k hk => absurd hk List.not_mem_nil) (ka := 3) (by decide) (hks 3 (by decide)) 3 a1 a2 σ hq3) mf_yX5_exchange lm_RX5_63 ⟨Nat.le_of_ble_eq_true rfl, Nat.le_of_ble_eq_true rfl⟩ ⟨Nat.le_refl _, Nat.le_refl _⟩ rfl hl.1 rfl (Nat.le_of_ble_eq_true rfl) dX5_weight_41) (fun H locs h => ?_)
      have e9 := Option.some.inj hf
      subst e9
      exact fb_ir X h hr hlk dX5_weight_44
    · have hf := if_t hc hf
      refine lv_bipush hx hb dX5_weight_29 kb_m2 ?_
      have e9 := Option.some.inj hf
      subst e9
      exact fb_ir X h hr hlk dX5_weight_31
  · have hf := if_t hc hf
    refine lv_iconst hx hb dX5_weight_17 ki_m1 ?_
    have e9 := Option.some.inj hf
    subst e9
    exact fb_ir X h hr hlk dX5_weight_18
def f_X5_spring_L37 (v1 : Int32) (v2 : Int32) (s0 : Int32) (σ : fb_S) : Option (Int32 × fb_S) :=
  (f_X5_isWithin v2 s0 (99 : Int32)).bind fun q1 =>
  if q1 = 0 then (
    some ((-2 : Int32), σ)
  ) else (
    (f_X5_exchange 4 v1 v2 σ).bind fun q2 =>
    some (q2.1, q2.2)
  )
def f_X5_spring_L32 (v1 : Int32) (v2 : Int32) (σ : fb_S) : Option (Int32 × fb_S) :=
  f_X5_spring_L37 v1 v2 (0 : Int32) σ
def f_X5_spring (a1 : Int32) (a2 : Int32) (σ : fb_S) : Option (Int32 × fb_S) :=
  (f_X5_isWithin a1 (0 : Int32) (σ.1 2 3)).bind fun q3 =>
  if q3 = 0 then (
    some ((-1 : Int32), σ)
  ) else (
    if a1 = 0 then (
      f_X5_spring_L32 a1 a2 σ
    ) else (
      if a1 = (σ.1 2 3) then (
        f_X5_spring_L32 a1 a2 σ
      ) else (
        f_X5_spring_L37 a1 a2 (1 : Int32) σ
      )
    )
  )
set_option maxHeartbeats 4000000 in
set_option maxRecDepth 100000 in
theorem w_X5_spring_L37 (X : fb_X p m c cX5_spring 4 s args RX5 g ks (fb_A g ks)) (hks : ∀ k ∈ ([0, 2, 4] : List Nat), k ∈ ks) (hr : meth.sig.returnType = (some .int)) (hlk : meth.locks = false)  {res : (Int32 × fb_S)} : ∀ (v1 : Int32) (v2 : Int32) (s0 : Int32) (σ : fb_S) (H : Heap) (locs : List Loc) (ls : Array Slot), fb_H g ks (fb_A g ks) s.heap σ H locs → lv_has ls 4 [(0, .ref (g.1 0)), (1, .int v1), (2, .int v2)] → f_X5_spring_L37 v1 v2 s0 σ = some res → W p l e (fb_R 1 23) s m args below meth c H locs 0 0 (MQ below (fb_Qi g ks res.1 res.2) args s 0 0 (fb_A g ks)) (F0 m 37 ls [.int s0]) := by
  have hx := X.1.1
  have hb := X.1.2.1
  intro v1 v2 s0 σ H locs ls h hl hf
  unfold f_X5_spring_L37 at hf
  refine lv_istore_n hx hb dX5_spring_37 rfl hl (by decide) (lv' := [(3, .int s0), (0, .ref (g.1 0)), (1, .int v1), (2, .int v2)]) rfl (fun ls hl => ?_)
  refine lv_iload_n hx hb dX5_spring_38 rfl (lv_at hl 3 rfl) ?_
  refine lv_iload_n hx hb dX5_spring_39 rfl (lv_at hl 0 rfl) ?_
  refine lv_bipush hx hb dX5_spring_40 kb_99 ?_
  obtain ⟨q1, hq1, hf⟩ := bd_s hf
  refine fb_ci X h (fb_runS (As := [.int v2, .int s0, .int (99)]) (rest := []) X h (c_X5_isWithin l X.2.2.1 (fun k hk => absurd hk List.not_mem_nil) v2 s0 (99 : Int32) σ hq1) mf_yX5_isWithin lm_RX5_48 ⟨Nat.le_of_ble_eq_true rfl, Nat.le_of_ble_eq_true rfl⟩ ⟨Nat.le_refl _, Nat.le_refl _⟩ rfl hl.1 rfl (Nat.le_of_ble_eq_true rfl) dX5_spring_42) (fun H locs h => ?_)
  refine lv_if_ne hx hb dX5_spring_45 (tgt := 51) (by decide) (fun hc => ?_) (fun hc => ?_)
  · have hf := if_f hc hf
    refine lv_aload_n hx hb dX5_spring_51 rfl (lv_at hl 1 rfl) ?_
    refine gt_RX5_16 X h (hks 0 (by decide)) dX5_spring_52 ?_
    refine gt_RX5_67 X h (hks 2 (by decide)) dX5_spring_55 ?_
    refine lv_iload_n hx hb dX5_spring_58 rfl (lv_at hl 2 rfl) ?_
    refine lv_iload_n hx hb dX5_spring_59 rfl (lv_at hl 3 rfl) ?_
    obtain ⟨q2, hq2, hf⟩ := bd_s hf
    refine fb_ci X h (fb_runS (As := [.ref (g.1 4), .int v1, .int v2]) (rest := []) X h (c_X5_exchange l X.2.2.1 (fun k hk => absurd hk List.not_mem_nil) (ka := 4) (by decide) (hks 4 (by decide)) 4 v1 v2 σ hq2) mf_yX5_exchange lm_RX5_63 ⟨Nat.le_of_ble_eq_true rfl, Nat.le_of_ble_eq_true rfl⟩ ⟨Nat.le_refl _, Nat.le_refl _⟩ rfl hl.1 rfl (Nat.le_of_ble_eq_true rfl) dX5_spring_60) (fun H locs h => ?_)
    have e9 := Option.some.inj hf
    subst e9
    exact fb_ir X h hr hlk dX5_spring_63
  · have hf := if_t hc hf
    refine lv_bipush hx hb dX5_spring_48 kb_m2 ?_
    have e9 := Option.some.inj hf
    subst e9
    exact fb_ir X h hr hlk dX5_spring_50
set_option maxHeartbeats 4000000 in
set_option maxRecDepth 100000 in
theorem w_X5_spring_L32 (X : fb_X p m c cX5_spring 4 s args RX5 g ks (fb_A g ks)) (hks : ∀ k ∈ ([0, 2, 4] : List Nat), k ∈ ks) (hr : meth.sig.returnType = (some .int)) (hlk : meth.locks = false)  {res : (Int32 × fb_S)} : ∀ (v1 : Int32) (v2 : Int32) (σ : fb_S) (H : Heap) (locs : List Loc) (ls : Array Slot), fb_H g ks (fb_A g ks) s.heap σ H locs → lv_has ls 4 [(0, .ref (g.1 0)), (1, .int v1), (2, .int v2)] → f_X5_spring_L32 v1 v2 σ = some res → W p l e (fb_R 1 23) s m args below meth c H locs 0 0 (MQ below (fb_Qi g ks res.1 res.2) args s 0 0 (fb_A g ks)) (F0 m 32 ls []) := by
  have hx := X.1.1
  have hb := X.1.2.1
  intro v1 v2 σ H locs ls h hl hf
  unfold f_X5_spring_L32 at hf
  refine lv_iconst hx hb dX5_spring_32 ki_0 ?_
  refine lv_goto hx hb dX5_spring_33 (tgt := 37) (by decide) ?_
  exact w_X5_spring_L37 X hks hr hlk  v1 v2 (0 : Int32) σ _ _ _ h (lv_sub hl [0, 1, 2] rfl) hf
set_option maxHeartbeats 4000000 in
set_option maxRecDepth 100000 in
theorem c_X5_spring (l : Launch) {g : fb_G} {ks : List Nat} (hI : fb_I g ks) (hks : ∀ k ∈ ([0, 2, 4] : List Nat), k ∈ ks) (a1 : Int32) (a2 : Int32) (σ : fb_S) {res : (Int32 × fb_S)} (hf : f_X5_spring a1 a2 σ = some res) : fb_M l yX5_spring cX5_spring 4 (some .int) 1 23 g ks [.ref (g.1 0), .int a1, .int a2] σ (fb_Qi g ks res.1 res.2) := by
  refine fb_met (by decide +kernel) hI (Nat.le_of_ble_eq_true rfl) (fun p e s m below meth c ls X h hr hlk hl => ?_)
  have X : fb_X p m c cX5_spring 4 s _ RX5 g ks (fb_A g ks) := X
  have hl : lv_has ls 4 [(0, .ref (g.1 0)), (1, .int a1), (2, .int a2)] := hl
  have hx := X.1.1
  have hb := X.1.2.1
  unfold f_X5_spring at hf
  refine lv_iload_n hx hb dX5_spring_0 rfl (lv_at hl 1 rfl) ?_
  refine lv_iconst hx hb dX5_spring_1 ki_0 ?_
  refine lv_aload_n hx hb dX5_spring_2 rfl (lv_at hl 0 rfl) ?_
  refine gt_RX5_16 X h (hks 0 (by decide)) dX5_spring_3 ?_
  refine gt_RX5_52 X h (hks 2 (by decide)) dX5_spring_6 ?_
  obtain ⟨q3, hq3, hf⟩ := bd_s hf
  refine fb_ci X h (fb_runS (As := [.int a1, .int (0), .int (σ.1 2 3)]) (rest := []) X h (c_X5_isWithin l X.2.2.1 (fun k hk => absurd hk List.not_mem_nil) a1 (0 : Int32) (σ.1 2 3) σ hq3) mf_yX5_isWithin lm_RX5_48 ⟨Nat.le_of_ble_eq_true rfl, Nat.le_of_ble_eq_true rfl⟩ ⟨Nat.le_refl _, Nat.le_refl _⟩ rfl hl.1 rfl (Nat.le_of_ble_eq_true rfl) dX5_spring_9) (fun H locs h => ?_)
  refine lv_if_ne hx hb dX5_spring_12 (tgt := 17) (by decide) (fun hc => ?_) (fun hc => ?_)
  · have hf := if_f hc hf
    refine lv_iload_n hx hb dX5_spring_17 rfl (lv_at hl 1 rfl) ?_
    refine lv_if_eq hx hb dX5_spring_18 (tgt := 32) (by decide) (fun hc => ?_) (fun hc => ?_)
    · have hf := if_t hc hf
      exact w_X5_spring_L32 X hks hr hlk  a1 a2 σ _ _ _ h (lv_sub hl [0, 1, 2] rfl) hf
    · have hf := if_f hc hf
      refine lv_iload_n hx hb dX5_spring_21 rfl (lv_at hl 1 rfl) ?_
      refine lv_aload_n hx hb dX5_spring_22 rfl (lv_at hl 0 rfl) ?_
      refine gt_RX5_16 X h (hks 0 (by decide)) dX5_spring_23 ?_
      refine gt_RX5_52 X h (hks 2 (by decide)) dX5_spring_26 ?_
      refine lv_icmp_ne hx hb dX5_spring_29 (tgt := 36) (by decide) (fun hc => ?_) (fun hc => ?_)
      · have hf := if_f hc hf
        refine lv_iconst hx hb dX5_spring_36 ki_1 ?_
        exact w_X5_spring_L37 X hks hr hlk  a1 a2 (1 : Int32) σ _ _ _ h (lv_sub hl [0, 1, 2] rfl) hf
      · have hf := if_t hc hf
        exact w_X5_spring_L32 X hks hr hlk  a1 a2 σ _ _ _ h (lv_sub hl [0, 1, 2] rfl) hf
  · have hf := if_t hc hf
    refine lv_iconst hx hb dX5_spring_15 ki_m1 ?_
    have e9 := Option.some.inj hf
    subst e9
    exact fb_ir X h hr hlk dX5_spring_16
def f_X0_fillMinors_L86 (N : Nat) (k9 : Int32 → Int32 → fb_S → Option fb_S) (v1 : Int32) (v2 : Int32) (v5 : Int64) (σ : fb_S) : Option fb_S :=
  ck_ (fb_in (v2 + (1 : Int32)) 6) <|
  nm_ (fb_upL σ ((v2 + (1 : Int32)).toNatClampNeg) v5) fun t1 =>
  k9 v1 (v2 + 1) t1
def f_X0_fillMinors_L9 (N : Nat) : Nat → Int32 → Int32 → fb_S → Option fb_S
  | 0, _, _, _ => none
  | n + 1, v1, v2, σ => 
    if (σ.1 2 3) ≤ v2 then (
      some σ
    ) else (
      ck_ (fb_in v2 6) <|
      ck_ (fb_in (v2 + (1 : Int32)) 6) <|
      ck_ (fb_in v2 5) <|
      nm_ ((((σ.1 4 v2.toNatClampNeg) + (σ.1 4 (v2 + (1 : Int32)).toNatClampNeg)) - (v1 * (σ.1 3 v2.toNatClampNeg))).toInt64) fun x2 =>
      ck_ (fb_in v2 6) <|
      nm_ (x2 * (σ.2 v2.toNatClampNeg)) fun x3 =>
      if v2 ≤ 0 then (
        f_X0_fillMinors_L86 N (f_X0_fillMinors_L9 N n) v1 v2 x3 σ
      ) else (
        ck_ (fb_in v2 6) <|
        ck_ (fb_in v2 6) <|
        ck_ (fb_in (v2 - (1 : Int32)) 6) <|
        nm_ (x3 - ((((σ.1 4 v2.toNatClampNeg).toInt64) * ((σ.1 4 v2.toNatClampNeg).toInt64)) * (σ.2 (v2 - (1 : Int32)).toNatClampNeg))) fun x4 =>
        f_X0_fillMinors_L86 N (f_X0_fillMinors_L9 N n) v1 v2 x4 σ
      )
    )
def f_X0_fillMinors (N : Nat) (a1 : Int32) (σ : fb_S) : Option fb_S :=
  nm_ (fb_upL σ 0 (1 : Int64)) fun t5 =>
  f_X0_fillMinors_L9 N N a1 (0 : Int32) t5
set_option maxHeartbeats 4000000 in
set_option maxRecDepth 100000 in
theorem w_X0_fillMinors_L86 (X : fb_X p m c cX0_fillMinors 7 s args RX0 g ks (fb_A g ks)) (hks : ∀ k ∈ ([2, 3, 4, 5] : List Nat), k ∈ ks) (hr : meth.sig.returnType = none) (hlk : meth.locks = false) (N : Nat) (k9 : Int32 → Int32 → fb_S → Option fb_S)  {res : fb_S} (hk9 : ∀ (v1 : Int32) (v2 : Int32) (σ : fb_S) (H : Heap) (locs : List Loc) (ls : Array Slot), fb_H g ks (fb_A g ks) s.heap σ H locs → lv_has ls 7 [(0, .ref (g.1 2)), (1, .int v1), (2, .int v2)] → k9 v1 v2 σ = some res → W p l e (fb_R 0 0) s m args below meth c H locs 0 0 (MQ below (fb_Qv g ks res) args s 0 0 (fb_A g ks)) (F0 m 9 ls [])) : ∀ (v1 : Int32) (v2 : Int32) (v5 : Int64) (σ : fb_S) (H : Heap) (locs : List Loc) (ls : Array Slot), fb_H g ks (fb_A g ks) s.heap σ H locs → lv_has ls 7 [(0, .ref (g.1 2)), (1, .int v1), (2, .int v2), (5, .long v5)] → f_X0_fillMinors_L86 N k9 v1 v2 v5 σ = some res → W p l e (fb_R 0 0) s m args below meth c H locs 0 0 (MQ below (fb_Qv g ks res) args s 0 0 (fb_A g ks)) (F0 m 86 ls []) := by
  have hx := X.1.1
  have hb := X.1.2.1
  intro v1 v2 v5 σ H locs ls h hl hf
  unfold f_X0_fillMinors_L86 at hf
  refine lv_aload_n hx hb dX0_fillMinors_86 rfl (lv_at hl 0 rfl) ?_
  refine gt_RX0_18 X h (hks 2 (by decide)) dX0_fillMinors_87 ?_
  refine lv_iload_n hx hb dX0_fillMinors_90 rfl (lv_at hl 2 rfl) ?_
  refine lv_iconst hx hb dX0_fillMinors_91 ki_1 ?_
  refine lv_iadd hx hb dX0_fillMinors_92 ?_
  refine lv_lload hx hb dX0_fillMinors_93 (lv_at hl 3 rfl) ?_
  obtain ⟨hi0, hf⟩ := ck_s hf
  obtain ⟨t1, et1, hf⟩ := nm_s hf
  refine fb_last X h (hks 5 (by decide)) hi0 dX0_fillMinors_95 (fun H locs h => ?_)
  have h := fb_H.nm et1 h
  refine lv_iinc hx hb dX0_fillMinors_96 hl (k := 2) rfl (kinc_1 _) (by decide) (lv' := [(2, .int (v2 + 1)), (0, .ref (g.1 2)), (1, .int v1), (5, .long v5)]) rfl (fun ls hl => ?_)
  refine lv_goto hx hb dX0_fillMinors_99 (tgt := 9) (by decide) ?_
  exact hk9 v1 (v2 + 1) t1 _ _ _ h (lv_sub hl [1, 2, 0] rfl) hf
set_option maxHeartbeats 4000000 in
set_option maxRecDepth 100000 in
theorem w_X0_fillMinors_L9 (X : fb_X p m c cX0_fillMinors 7 s args RX0 g ks (fb_A g ks)) (hks : ∀ k ∈ ([2, 3, 4, 5] : List Nat), k ∈ ks) (hr : meth.sig.returnType = none) (hlk : meth.locks = false) (N : Nat)  {res : fb_S} : ∀ (n : Nat) (v1 : Int32) (v2 : Int32) (σ : fb_S) (H : Heap) (locs : List Loc) (ls : Array Slot), fb_H g ks (fb_A g ks) s.heap σ H locs → lv_has ls 7 [(0, .ref (g.1 2)), (1, .int v1), (2, .int v2)] → f_X0_fillMinors_L9 N n v1 v2 σ = some res → W p l e (fb_R 0 0) s m args below meth c H locs 0 0 (MQ below (fb_Qv g ks res) args s 0 0 (fb_A g ks)) (F0 m 9 ls []) := by
  have hx := X.1.1
  have hb := X.1.2.1
  intro n
  induction n with
  | zero => intro v1 v2 σ H locs ls h hl hf; cases hf
  | succ n ih =>
    intro v1 v2 σ H locs ls h hl hf
    unfold f_X0_fillMinors_L9 at hf
    refine lv_iload_n hx hb dX0_fillMinors_9 rfl (lv_at hl 2 rfl) ?_
    refine lv_aload_n hx hb dX0_fillMinors_10 rfl (lv_at hl 0 rfl) ?_
    refine gt_RX0_26 X h (hks 2 (by decide)) dX0_fillMinors_11 ?_
    refine lv_icmp_ge hx hb dX0_fillMinors_14 (tgt := 102) (by decide) (fun hc => ?_) (fun hc => ?_)
    · have hf := if_t hc hf
      have e9 := Option.some.inj hf
      subst e9
      exact fb_vr X h hr hlk dX0_fillMinors_102
    · have hf := if_f hc hf
      refine lv_aload_n hx hb dX0_fillMinors_17 rfl (lv_at hl 0 rfl) ?_
      refine gt_RX0_15 X h (hks 2 (by decide)) dX0_fillMinors_18 ?_
      refine lv_iload_n hx hb dX0_fillMinors_21 rfl (lv_at hl 2 rfl) ?_
      obtain ⟨hi0, hf⟩ := ck_s hf
      refine fb_iald X h (hks 4 (by decide)) rfl hi0 dX0_fillMinors_22 ?_
      refine lv_aload_n hx hb dX0_fillMinors_23 rfl (lv_at hl 0 rfl) ?_
      refine gt_RX0_15 X h (hks 2 (by decide)) dX0_fillMinors_24 ?_
      refine lv_iload_n hx hb dX0_fillMinors_27 rfl (lv_at hl 2 rfl) ?_
      refine lv_iconst hx hb dX0_fillMinors_28 ki_1 ?_
      refine lv_iadd hx hb dX0_fillMinors_29 ?_
      obtain ⟨hi0, hf⟩ := ck_s hf
      refine fb_iald X h (hks 4 (by decide)) rfl hi0 dX0_fillMinors_30 ?_
      refine lv_iadd hx hb dX0_fillMinors_31 ?_
      refine lv_iload_n hx hb dX0_fillMinors_32 rfl (lv_at hl 1 rfl) ?_
      refine lv_aload_n hx hb dX0_fillMinors_33 rfl (lv_at hl 0 rfl) ?_
      refine gt_RX0_11 X h (hks 2 (by decide)) dX0_fillMinors_34 ?_
      refine lv_iload_n hx hb dX0_fillMinors_37 rfl (lv_at hl 2 rfl) ?_
      obtain ⟨hi0, hf⟩ := ck_s hf
      refine fb_iald X h (hks 3 (by decide)) rfl hi0 dX0_fillMinors_38 ?_
      refine lv_imul hx hb dX0_fillMinors_39 ?_
      refine lv_isub hx hb dX0_fillMinors_40 ?_
      refine lv_i2l hx hb dX0_fillMinors_41 (v := (((σ.1 4 v2.toNatClampNeg) + (σ.1 4 (v2 + (1 : Int32)).toNatClampNeg)) - (v1 * (σ.1 3 v2.toNatClampNeg))).toInt64) rfl ?_
      obtain ⟨x2, ex2, hf⟩ := nm_s hf
      refine fb_topl ex2 ?_
      refine lv_lstore_n hx hb dX0_fillMinors_42 rfl hl (by decide) (lv' := [(3, .long x2), (0, .ref (g.1 2)), (1, .int v1), (2, .int v2)]) rfl (fun ls hl => ?_)
      refine lv_lload_n hx hb dX0_fillMinors_43 rfl (lv_at hl 0 rfl) ?_
      refine lv_aload_n hx hb dX0_fillMinors_44 rfl (lv_at hl 1 rfl) ?_
      refine gt_RX0_18 X h (hks 2 (by decide)) dX0_fillMinors_45 ?_
      refine lv_iload_n hx hb dX0_fillMinors_48 rfl (lv_at hl 3 rfl) ?_
      obtain ⟨hi0, hf⟩ := ck_s hf
      refine fb_lald X h (hks 5 (by decide)) hi0 dX0_fillMinors_49 ?_
      refine lv_lmul hx hb dX0_fillMinors_50 ?_
      obtain ⟨x3, ex3, hf⟩ := nm_s hf
      refine fb_topl ex3 ?_
      refine lv_lstore hx hb dX0_fillMinors_51 hl (by decide) (lv' := [(5, .long x3), (3, .long x2), (0, .ref (g.1 2)), (1, .int v1), (2, .int v2)]) rfl (fun ls hl => ?_)
      refine lv_iload_n hx hb dX0_fillMinors_53 rfl (lv_at hl 4 rfl) ?_
      refine lv_if_le hx hb dX0_fillMinors_54 (tgt := 86) (by decide) (fun hc => ?_) (fun hc => ?_)
      · have hf := if_t hc hf
        exact w_X0_fillMinors_L86 X hks hr hlk N (f_X0_fillMinors_L9 N n) ih v1 v2 x3 σ _ _ _ h (lv_sub hl [2, 3, 4, 0] rfl) hf
      · have hf := if_f hc hf
        refine lv_lload hx hb dX0_fillMinors_57 (lv_at hl 0 rfl) ?_
        refine lv_aload_n hx hb dX0_fillMinors_59 rfl (lv_at hl 2 rfl) ?_
        refine gt_RX0_15 X h (hks 2 (by decide)) dX0_fillMinors_60 ?_
        refine lv_iload_n hx hb dX0_fillMinors_63 rfl (lv_at hl 4 rfl) ?_
        obtain ⟨hi0, hf⟩ := ck_s hf
        refine fb_iald X h (hks 4 (by decide)) rfl hi0 dX0_fillMinors_64 ?_
        refine lv_i2l hx hb dX0_fillMinors_65 (v := (σ.1 4 v2.toNatClampNeg).toInt64) rfl ?_
        refine lv_aload_n hx hb dX0_fillMinors_66 rfl (lv_at hl 2 rfl) ?_
        refine gt_RX0_15 X h (hks 2 (by decide)) dX0_fillMinors_67 ?_
        refine lv_iload_n hx hb dX0_fillMinors_70 rfl (lv_at hl 4 rfl) ?_
        obtain ⟨hi0, hf⟩ := ck_s hf
        refine fb_iald X h (hks 4 (by decide)) rfl hi0 dX0_fillMinors_71 ?_
        refine lv_i2l hx hb dX0_fillMinors_72 (v := (σ.1 4 v2.toNatClampNeg).toInt64) rfl ?_
        refine lv_lmul hx hb dX0_fillMinors_73 ?_
        refine lv_aload_n hx hb dX0_fillMinors_74 rfl (lv_at hl 2 rfl) ?_
        refine gt_RX0_18 X h (hks 2 (by decide)) dX0_fillMinors_75 ?_
        refine lv_iload_n hx hb dX0_fillMinors_78 rfl (lv_at hl 4 rfl) ?_
        refine lv_iconst hx hb dX0_fillMinors_79 ki_1 ?_
        refine lv_isub hx hb dX0_fillMinors_80 ?_
        obtain ⟨hi0, hf⟩ := ck_s hf
        refine fb_lald X h (hks 5 (by decide)) hi0 dX0_fillMinors_81 ?_
        refine lv_lmul hx hb dX0_fillMinors_82 ?_
        refine lv_lsub hx hb dX0_fillMinors_83 ?_
        obtain ⟨x4, ex4, hf⟩ := nm_s hf
        refine fb_topl ex4 ?_
        refine lv_lstore hx hb dX0_fillMinors_84 hl (by decide) (lv' := [(5, .long x4), (3, .long x2), (0, .ref (g.1 2)), (1, .int v1), (2, .int v2)]) rfl (fun ls hl => ?_)
        exact w_X0_fillMinors_L86 X hks hr hlk N (f_X0_fillMinors_L9 N n) ih v1 v2 x4 σ _ _ _ h (lv_sub hl [2, 3, 4, 0] rfl) hf
set_option maxHeartbeats 4000000 in
set_option maxRecDepth 100000 in
theorem c_X0_fillMinors (l : Launch) {g : fb_G} {ks : List Nat} (hI : fb_I g ks) (hks : ∀ k ∈ ([2, 3, 4, 5] : List Nat), k ∈ ks) (N : Nat) (a1 : Int32) (σ : fb_S) {res : fb_S} (hf : f_X0_fillMinors N a1 σ = some res) : fb_M l yX0_fillMinors cX0_fillMinors 7 none 0 0 g ks [.ref (g.1 2), .int a1] σ (fb_Qv g ks res) := by
  refine fb_met (by decide +kernel) hI (Nat.le_of_ble_eq_true rfl) (fun p e s m below meth c ls X h hr hlk hl => ?_)
  have X : fb_X p m c cX0_fillMinors 7 s _ RX0 g ks (fb_A g ks) := X
  have hl : lv_has ls 7 [(0, .ref (g.1 2)), (1, .int a1)] := hl
  have hx := X.1.1
  have hb := X.1.2.1
  unfold f_X0_fillMinors at hf
  refine lv_aload_n hx hb dX0_fillMinors_0 rfl (lv_at hl 0 rfl) ?_
  refine gt_RX0_18 X h (hks 2 (by decide)) dX0_fillMinors_1 ?_
  refine lv_iconst hx hb dX0_fillMinors_4 ki_0 ?_
  refine lv_lconst hx hb dX0_fillMinors_5 kl_1 ?_
  obtain ⟨t5, et5, hf⟩ := nm_s hf
  refine fb_lastL X h (hks 5 (by decide)) (by decide) kn_0 dX0_fillMinors_6 (fun H locs h => ?_)
  have h := fb_H.nm et5 h
  refine lv_iconst hx hb dX0_fillMinors_7 ki_0 ?_
  refine lv_istore_n hx hb dX0_fillMinors_8 rfl hl (by decide) (lv' := [(2, .int (0)), (0, .ref (g.1 2)), (1, .int a1)]) rfl (fun ls hl => ?_)
  exact w_X0_fillMinors_L9 X hks hr hlk N N a1 (0 : Int32) t5 _ _ _ h (lv_sub hl [1, 2, 0] rfl) hf
def f_X0_tonesBelow_L50 (N : Nat) (k12 : Int32 → Int32 → Int32 → fb_S → Option (Int32 × fb_S)) (v2 : Int32) (v3 : Int32) (v4 : Int32) (s0 : Int32) (σ : fb_S) : Option (Int32 × fb_S) :=
  if s0 = v3 then (
    k12 v2 v3 (v4 + 1) σ
  ) else (
    if v3 = 0 then (
      k12 (v2 + 1) (1 : Int32) (v4 + 1) σ
    ) else (
      k12 (v2 + 1) (0 : Int32) (v4 + 1) σ
    )
  )
def f_X0_tonesBelow_L12 (N : Nat) : Nat → Int32 → Int32 → Int32 → fb_S → Option (Int32 × fb_S)
  | 0, _, _, _, _ => none
  | n + 1, v2, v3, v4, σ => 
    if (σ.1 2 3) < v4 then (
      some (v2, σ)
    ) else (
      ck_ (fb_in v4 6) <|
      if (lg_cmp (σ.2 v4.toNatClampNeg) (0 : Int64)) = 0 then (
        f_X0_tonesBelow_L12 N n v2 v3 (v4 + 1) σ
      ) else (
        ck_ (fb_in v4 6) <|
        if 0 ≤ (lg_cmp (σ.2 v4.toNatClampNeg) (0 : Int64)) then (
          f_X0_tonesBelow_L50 N (f_X0_tonesBelow_L12 N n) v2 v3 v4 (0 : Int32) σ
        ) else (
          f_X0_tonesBelow_L50 N (f_X0_tonesBelow_L12 N n) v2 v3 v4 (1 : Int32) σ
        )
      )
    )
def f_X0_tonesBelow (N : Nat) (a1 : Int32) (σ : fb_S) : Option (Int32 × fb_S) :=
  (f_X0_fillMinors N a1 σ).bind fun q1 =>
  f_X0_tonesBelow_L12 N N (0 : Int32) (0 : Int32) (1 : Int32) q1
set_option maxHeartbeats 4000000 in
set_option maxRecDepth 100000 in
theorem w_X0_tonesBelow_L50 (X : fb_X p m c cX0_tonesBelow 5 s args RX0 g ks (fb_A g ks)) (hks : ∀ k ∈ ([2, 3, 4, 5] : List Nat), k ∈ ks) (hr : meth.sig.returnType = (some .int)) (hlk : meth.locks = false) (N : Nat) (k12 : Int32 → Int32 → Int32 → fb_S → Option (Int32 × fb_S))  {res : (Int32 × fb_S)} (hk12 : ∀ (v2 : Int32) (v3 : Int32) (v4 : Int32) (σ : fb_S) (H : Heap) (locs : List Loc) (ls : Array Slot), fb_H g ks (fb_A g ks) s.heap σ H locs → lv_has ls 5 [(0, .ref (g.1 2)), (2, .int v2), (3, .int v3), (4, .int v4)] → k12 v2 v3 v4 σ = some res → W p l e (fb_R 1 26) s m args below meth c H locs 0 0 (MQ below (fb_Qi g ks res.1 res.2) args s 0 0 (fb_A g ks)) (F0 m 12 ls [])) : ∀ (v2 : Int32) (v3 : Int32) (v4 : Int32) (s0 : Int32) (σ : fb_S) (H : Heap) (locs : List Loc) (ls : Array Slot), fb_H g ks (fb_A g ks) s.heap σ H locs → lv_has ls 5 [(0, .ref (g.1 2)), (2, .int v2), (3, .int v3), (4, .int v4)] → f_X0_tonesBelow_L50 N k12 v2 v3 v4 s0 σ = some res → W p l e (fb_R 1 26) s m args below meth c H locs 0 0 (MQ below (fb_Qi g ks res.1 res.2) args s 0 0 (fb_A g ks)) (F0 m 50 ls [.int s0]) := by
  have hx := X.1.1
  have hb := X.1.2.1
  intro v2 v3 v4 s0 σ H locs ls h hl hf
  unfold f_X0_tonesBelow_L50 at hf
  refine lv_iload_n hx hb dX0_tonesBelow_50 rfl (lv_at hl 2 rfl) ?_
  refine lv_icmp_eq hx hb dX0_tonesBelow_51 (tgt := 67) (by decide) (fun hc => ?_) (fun hc => ?_)
  · have hf := if_t hc hf
    refine lv_iinc hx hb dX0_tonesBelow_67 hl (k := 3) rfl (kinc_1 _) (by decide) (lv' := [(4, .int (v4 + 1)), (0, .ref (g.1 2)), (2, .int v2), (3, .int v3)]) rfl (fun ls hl => ?_)
    refine lv_goto hx hb dX0_tonesBelow_70 (tgt := 12) (by decide) ?_
    exact hk12 v2 v3 (v4 + 1) σ _ _ _ h (lv_sub hl [1, 2, 3, 0] rfl) hf
  · have hf := if_f hc hf
    refine lv_iinc hx hb dX0_tonesBelow_54 hl (k := 1) rfl (kinc_1 _) (by decide) (lv' := [(2, .int (v2 + 1)), (0, .ref (g.1 2)), (3, .int v3), (4, .int v4)]) rfl (fun ls hl => ?_)
    refine lv_iload_n hx hb dX0_tonesBelow_57 rfl (lv_at hl 2 rfl) ?_
    refine lv_if_ne hx hb dX0_tonesBelow_58 (tgt := 65) (by decide) (fun hc => ?_) (fun hc => ?_)
    · have hf := if_f hc hf
      refine lv_iconst hx hb dX0_tonesBelow_65 ki_0 ?_
      refine lv_istore_n hx hb dX0_tonesBelow_66 rfl hl (by decide) (lv' := [(3, .int (0)), (2, .int (v2 + 1)), (0, .ref (g.1 2)), (4, .int v4)]) rfl (fun ls hl => ?_)
      refine lv_iinc hx hb dX0_tonesBelow_67 hl (k := 3) rfl (kinc_1 _) (by decide) (lv' := [(4, .int (v4 + 1)), (3, .int (0)), (2, .int (v2 + 1)), (0, .ref (g.1 2))]) rfl (fun ls hl => ?_)
      refine lv_goto hx hb dX0_tonesBelow_70 (tgt := 12) (by decide) ?_
      exact hk12 (v2 + 1) (0 : Int32) (v4 + 1) σ _ _ _ h (lv_sub hl [3, 2, 1, 0] rfl) hf
    · have hf := if_t hc hf
      refine lv_iconst hx hb dX0_tonesBelow_61 ki_1 ?_
      refine lv_goto hx hb dX0_tonesBelow_62 (tgt := 66) (by decide) ?_
      refine lv_istore_n hx hb dX0_tonesBelow_66 rfl hl (by decide) (lv' := [(3, .int (1)), (2, .int (v2 + 1)), (0, .ref (g.1 2)), (4, .int v4)]) rfl (fun ls hl => ?_)
      refine lv_iinc hx hb dX0_tonesBelow_67 hl (k := 3) rfl (kinc_1 _) (by decide) (lv' := [(4, .int (v4 + 1)), (3, .int (1)), (2, .int (v2 + 1)), (0, .ref (g.1 2))]) rfl (fun ls hl => ?_)
      refine lv_goto hx hb dX0_tonesBelow_70 (tgt := 12) (by decide) ?_
      exact hk12 (v2 + 1) (1 : Int32) (v4 + 1) σ _ _ _ h (lv_sub hl [3, 2, 1, 0] rfl) hf
set_option maxHeartbeats 4000000 in
set_option maxRecDepth 100000 in
theorem w_X0_tonesBelow_L12 (X : fb_X p m c cX0_tonesBelow 5 s args RX0 g ks (fb_A g ks)) (hks : ∀ k ∈ ([2, 3, 4, 5] : List Nat), k ∈ ks) (hr : meth.sig.returnType = (some .int)) (hlk : meth.locks = false) (N : Nat)  {res : (Int32 × fb_S)} : ∀ (n : Nat) (v2 : Int32) (v3 : Int32) (v4 : Int32) (σ : fb_S) (H : Heap) (locs : List Loc) (ls : Array Slot), fb_H g ks (fb_A g ks) s.heap σ H locs → lv_has ls 5 [(0, .ref (g.1 2)), (2, .int v2), (3, .int v3), (4, .int v4)] → f_X0_tonesBelow_L12 N n v2 v3 v4 σ = some res → W p l e (fb_R 1 26) s m args below meth c H locs 0 0 (MQ below (fb_Qi g ks res.1 res.2) args s 0 0 (fb_A g ks)) (F0 m 12 ls []) := by
  have hx := X.1.1
  have hb := X.1.2.1
  intro n
  induction n with
  | zero => intro v2 v3 v4 σ H locs ls h hl hf; cases hf
  | succ n ih =>
    intro v2 v3 v4 σ H locs ls h hl hf
    unfold f_X0_tonesBelow_L12 at hf
    refine lv_iload hx hb dX0_tonesBelow_12 (lv_at hl 3 rfl) ?_
    refine lv_aload_n hx hb dX0_tonesBelow_14 rfl (lv_at hl 0 rfl) ?_
    refine gt_RX0_26 X h (hks 2 (by decide)) dX0_tonesBelow_15 ?_
    refine lv_icmp_gt hx hb dX0_tonesBelow_18 (tgt := 73) (by decide) (fun hc => ?_) (fun hc => ?_)
    · have hf := if_t hc hf
      refine lv_iload_n hx hb dX0_tonesBelow_73 rfl (lv_at hl 1 rfl) ?_
      have e9 := Option.some.inj hf
      subst e9
      exact fb_ir X h hr hlk dX0_tonesBelow_74
    · have hf := if_f hc hf
      refine lv_aload_n hx hb dX0_tonesBelow_21 rfl (lv_at hl 0 rfl) ?_
      refine gt_RX0_18 X h (hks 2 (by decide)) dX0_tonesBelow_22 ?_
      refine lv_iload hx hb dX0_tonesBelow_25 (lv_at hl 3 rfl) ?_
      obtain ⟨hi0, hf⟩ := ck_s hf
      refine fb_lald X h (hks 5 (by decide)) hi0 dX0_tonesBelow_27 ?_
      refine lv_lconst hx hb dX0_tonesBelow_28 kl_0 ?_
      refine W.lcmp hx hb dX0_tonesBelow_29 ?_
      refine lv_if_eq hx hb dX0_tonesBelow_30 (tgt := 67) (by decide) (fun hc => ?_) (fun hc => ?_)
      · have hf := if_t hc hf
        refine lv_iinc hx hb dX0_tonesBelow_67 hl (k := 3) rfl (kinc_1 _) (by decide) (lv' := [(4, .int (v4 + 1)), (0, .ref (g.1 2)), (2, .int v2), (3, .int v3)]) rfl (fun ls hl => ?_)
        refine lv_goto hx hb dX0_tonesBelow_70 (tgt := 12) (by decide) ?_
        exact ih v2 v3 (v4 + 1) σ _ _ _ h (lv_sub hl [1, 2, 3, 0] rfl) hf
      · have hf := if_f hc hf
        refine lv_aload_n hx hb dX0_tonesBelow_33 rfl (lv_at hl 0 rfl) ?_
        refine gt_RX0_18 X h (hks 2 (by decide)) dX0_tonesBelow_34 ?_
        refine lv_iload hx hb dX0_tonesBelow_37 (lv_at hl 3 rfl) ?_
        obtain ⟨hi0, hf⟩ := ck_s hf
        refine fb_lald X h (hks 5 (by decide)) hi0 dX0_tonesBelow_39 ?_
        refine lv_lconst hx hb dX0_tonesBelow_40 kl_0 ?_
        refine W.lcmp hx hb dX0_tonesBelow_41 ?_
        refine lv_if_ge hx hb dX0_tonesBelow_42 (tgt := 49) (by decide) (fun hc => ?_) (fun hc => ?_)
        · have hf := if_t hc hf
          refine lv_iconst hx hb dX0_tonesBelow_49 ki_0 ?_
          exact w_X0_tonesBelow_L50 X hks hr hlk N (f_X0_tonesBelow_L12 N n) ih v2 v3 v4 (0 : Int32) σ _ _ _ h (lv_sub hl [0, 1, 2, 3] rfl) hf
        · have hf := if_f hc hf
          refine lv_iconst hx hb dX0_tonesBelow_45 ki_1 ?_
          refine lv_goto hx hb dX0_tonesBelow_46 (tgt := 50) (by decide) ?_
          exact w_X0_tonesBelow_L50 X hks hr hlk N (f_X0_tonesBelow_L12 N n) ih v2 v3 v4 (1 : Int32) σ _ _ _ h (lv_sub hl [0, 1, 2, 3] rfl) hf
set_option maxHeartbeats 4000000 in
set_option maxRecDepth 100000 in
theorem c_X0_tonesBelow (l : Launch) {g : fb_G} {ks : List Nat} (hI : fb_I g ks) (hks : ∀ k ∈ ([2, 3, 4, 5] : List Nat), k ∈ ks) (N : Nat) (a1 : Int32) (σ : fb_S) {res : (Int32 × fb_S)} (hf : f_X0_tonesBelow N a1 σ = some res) : fb_M l yX0_tonesBelow cX0_tonesBelow 5 (some .int) 1 26 g ks [.ref (g.1 2), .int a1] σ (fb_Qi g ks res.1 res.2) := by
  refine fb_met (by decide +kernel) hI (Nat.le_of_ble_eq_true rfl) (fun p e s m below meth c ls X h hr hlk hl => ?_)
  have X : fb_X p m c cX0_tonesBelow 5 s _ RX0 g ks (fb_A g ks) := X
  have hl : lv_has ls 5 [(0, .ref (g.1 2)), (1, .int a1)] := hl
  have hx := X.1.1
  have hb := X.1.2.1
  unfold f_X0_tonesBelow at hf
  refine lv_aload_n hx hb dX0_tonesBelow_0 rfl (lv_at hl 0 rfl) ?_
  refine lv_iload_n hx hb dX0_tonesBelow_1 rfl (lv_at hl 1 rfl) ?_
  obtain ⟨q1, hq1, hf⟩ := bd_s hf
  refine fb_cv X h (fb_runV (As := [.int a1]) (rest := []) (k := 2) X h (c_X0_fillMinors l X.2.2.1 (fun k hk => hks k ((by decide : ∀ k ∈ ([2, 3, 4, 5] : List Nat), k ∈ ([2, 3, 4, 5] : List Nat)) k hk)) N a1 σ hq1) mf_yX0_fillMinors lm_RX0_36 (hks 2 (by decide)) rfl rfl ⟨Nat.le_of_ble_eq_true rfl, Nat.le_of_ble_eq_true rfl⟩ ⟨Nat.le_refl _, Nat.le_refl _⟩ rfl hl.1 rfl (Nat.le_of_ble_eq_true rfl) dX0_tonesBelow_2) (fun H locs h => ?_)
  refine lv_iconst hx hb dX0_tonesBelow_5 ki_0 ?_
  refine lv_istore_n hx hb dX0_tonesBelow_6 rfl hl (by decide) (lv' := [(2, .int (0)), (0, .ref (g.1 2)), (1, .int a1)]) rfl (fun ls hl => ?_)
  refine lv_iconst hx hb dX0_tonesBelow_7 ki_0 ?_
  refine lv_istore_n hx hb dX0_tonesBelow_8 rfl hl (by decide) (lv' := [(3, .int (0)), (2, .int (0)), (0, .ref (g.1 2)), (1, .int a1)]) rfl (fun ls hl => ?_)
  refine lv_iconst hx hb dX0_tonesBelow_9 ki_1 ?_
  refine lv_istore hx hb dX0_tonesBelow_10 hl (by decide) (lv' := [(4, .int (1)), (3, .int (0)), (2, .int (0)), (0, .ref (g.1 2)), (1, .int a1)]) rfl (fun ls hl => ?_)
  exact w_X0_tonesBelow_L12 X hks hr hlk N N (0 : Int32) (0 : Int32) (1 : Int32) q1 _ _ _ h (lv_sub hl [3, 2, 1, 0] rfl) hf
def f_X5_below (N : Nat) (a1 : Int32) (σ : fb_S) : Option (Int32 × fb_S) :=
  (f_X5_isWithin a1 (0 : Int32) (400 : Int32)).bind fun q1 =>
  if q1 = 0 then (
    some ((-2 : Int32), σ)
  ) else (
    (f_X0_tonesBelow N a1 σ).bind fun q2 =>
    some (q2.1, q2.2)
  )
set_option maxHeartbeats 4000000 in
set_option maxRecDepth 100000 in
theorem c_X5_below (l : Launch) {g : fb_G} {ks : List Nat} (hI : fb_I g ks) (hks : ∀ k ∈ ([0, 2, 3, 4, 5] : List Nat), k ∈ ks) (N : Nat) (a1 : Int32) (σ : fb_S) {res : (Int32 × fb_S)} (hf : f_X5_below N a1 σ = some res) : fb_M l yX5_below cX5_below 2 (some .int) 2 50 g ks [.ref (g.1 0), .int a1] σ (fb_Qi g ks res.1 res.2) := by
  refine fb_met (by decide +kernel) hI (Nat.le_of_ble_eq_true rfl) (fun p e s m below meth c ls X h hr hlk hl => ?_)
  have X : fb_X p m c cX5_below 2 s _ RX5 g ks (fb_A g ks) := X
  have hl : lv_has ls 2 [(0, .ref (g.1 0)), (1, .int a1)] := hl
  have hx := X.1.1
  have hb := X.1.2.1
  unfold f_X5_below at hf
  refine lv_iload_n hx hb dX5_below_0 rfl (lv_at hl 1 rfl) ?_
  refine lv_iconst hx hb dX5_below_1 ki_0 ?_
  refine lv_sipush hx hb dX5_below_2 ks_400 ?_
  obtain ⟨q1, hq1, hf⟩ := bd_s hf
  refine fb_ci X h (fb_runS (As := [.int a1, .int (0), .int (400)]) (rest := []) X h (c_X5_isWithin l X.2.2.1 (fun k hk => absurd hk List.not_mem_nil) a1 (0 : Int32) (400 : Int32) σ hq1) mf_yX5_isWithin lm_RX5_48 ⟨Nat.le_of_ble_eq_true rfl, Nat.le_of_ble_eq_true rfl⟩ ⟨Nat.le_refl _, Nat.le_refl _⟩ rfl hl.1 rfl (Nat.le_of_ble_eq_true rfl) dX5_below_5) (fun H locs h => ?_)
  refine lv_if_eq hx hb dX5_below_8 (tgt := 22) (by decide) (fun hc => ?_) (fun hc => ?_)
  · have hf := if_t hc hf
    refine lv_bipush hx hb dX5_below_22 kb_m2 ?_
    have e9 := Option.some.inj hf
    subst e9
    exact fb_ir X h hr hlk dX5_below_24
  · have hf := if_f hc hf
    refine lv_aload_n hx hb dX5_below_11 rfl (lv_at hl 0 rfl) ?_
    refine gt_RX5_16 X h (hks 0 (by decide)) dX5_below_12 ?_
    refine lv_iload_n hx hb dX5_below_15 rfl (lv_at hl 1 rfl) ?_
    obtain ⟨q2, hq2, hf⟩ := bd_s hf
    refine fb_ci X h (fb_runVN (As := [.int a1]) (rest := []) (k := 2) X h (c_X0_tonesBelow l X.2.2.1 (fun k hk => hks k ((by decide : ∀ k ∈ ([2, 3, 4, 5] : List Nat), k ∈ ([0, 2, 3, 4, 5] : List Nat)) k hk)) N a1 σ hq2) mf_yX0_tonesBelow lm_RX5_70 (hks 2 (by decide)) rfl rfl ⟨Nat.le_of_ble_eq_true rfl, Nat.le_of_ble_eq_true rfl⟩ ⟨Nat.le_refl _, Nat.le_refl _⟩ rfl hl.1 rfl (Nat.le_of_ble_eq_true rfl) dX5_below_16) (fun H locs h => ?_)
    refine lv_goto hx hb dX5_below_19 (tgt := 24) (by decide) ?_
    have e9 := Option.some.inj hf
    subst e9
    exact fb_ir X h hr hlk dX5_below_24
def f_X0_wholeTone_L4 (N : Nat) : Nat → Int32 → Int32 → Int32 → fb_S → Option (Int32 × fb_S)
  | 0, _, _, _, _ => none
  | n + 1, v1, v2, v3, σ => 
    if (400 : Int32) < v3 then (
      some (v2, σ)
    ) else (
      (f_X0_tonesBelow N v3 σ).bind fun q1 =>
      if v1 < q1.1 then (
        some (v2, q1.2)
      ) else (
        f_X0_wholeTone_L4 N n v1 v3 (v3 + 1) q1.2
      )
    )
def f_X0_wholeTone (N : Nat) (a1 : Int32) (σ : fb_S) : Option (Int32 × fb_S) :=
  f_X0_wholeTone_L4 N N a1 (0 : Int32) (1 : Int32) σ
set_option maxHeartbeats 4000000 in
set_option maxRecDepth 100000 in
theorem w_X0_wholeTone_L4 (X : fb_X p m c cX0_wholeTone 4 s args RX0 g ks (fb_A g ks)) (hks : ∀ k ∈ ([2, 3, 4, 5] : List Nat), k ∈ ks) (hr : meth.sig.returnType = (some .int)) (hlk : meth.locks = false) (N : Nat)  {res : (Int32 × fb_S)} : ∀ (n : Nat) (v1 : Int32) (v2 : Int32) (v3 : Int32) (σ : fb_S) (H : Heap) (locs : List Loc) (ls : Array Slot), fb_H g ks (fb_A g ks) s.heap σ H locs → lv_has ls 4 [(0, .ref (g.1 2)), (1, .int v1), (2, .int v2), (3, .int v3)] → f_X0_wholeTone_L4 N n v1 v2 v3 σ = some res → W p l e (fb_R 2 50) s m args below meth c H locs 0 0 (MQ below (fb_Qi g ks res.1 res.2) args s 0 0 (fb_A g ks)) (F0 m 4 ls []) := by
  have hx := X.1.1
  have hb := X.1.2.1
  intro n
  induction n with
  | zero => intro v1 v2 v3 σ H locs ls h hl hf; cases hf
  | succ n ih =>
    intro v1 v2 v3 σ H locs ls h hl hf
    unfold f_X0_wholeTone_L4 at hf
    refine lv_iload_n hx hb dX0_wholeTone_4 rfl (lv_at hl 3 rfl) ?_
    refine lv_sipush hx hb dX0_wholeTone_5 ks_400 ?_
    refine lv_icmp_gt hx hb dX0_wholeTone_8 (tgt := 28) (by decide) (fun hc => ?_) (fun hc => ?_)
    · have hf := if_t hc hf
      refine lv_iload_n hx hb dX0_wholeTone_28 rfl (lv_at hl 2 rfl) ?_
      have e9 := Option.some.inj hf
      subst e9
      exact fb_ir X h hr hlk dX0_wholeTone_29
    · have hf := if_f hc hf
      refine lv_aload_n hx hb dX0_wholeTone_11 rfl (lv_at hl 0 rfl) ?_
      refine lv_iload_n hx hb dX0_wholeTone_12 rfl (lv_at hl 3 rfl) ?_
      obtain ⟨q1, hq1, hf⟩ := bd_s hf
      refine fb_ci X h (fb_runV (As := [.int v3]) (rest := []) (k := 2) X h (c_X0_tonesBelow l X.2.2.1 (fun k hk => hks k ((by decide : ∀ k ∈ ([2, 3, 4, 5] : List Nat), k ∈ ([2, 3, 4, 5] : List Nat)) k hk)) N v3 σ hq1) mf_yX0_tonesBelow lm_RX0_39 (hks 2 (by decide)) rfl rfl ⟨Nat.le_of_ble_eq_true rfl, Nat.le_of_ble_eq_true rfl⟩ ⟨Nat.le_refl _, Nat.le_refl _⟩ rfl hl.1 rfl (Nat.le_of_ble_eq_true rfl) dX0_wholeTone_13) (fun H locs h => ?_)
      refine lv_iload_n hx hb dX0_wholeTone_16 rfl (lv_at hl 1 rfl) ?_
      refine lv_icmp_gt hx hb dX0_wholeTone_17 (tgt := 28) (by decide) (fun hc => ?_) (fun hc => ?_)
      · have hf := if_t hc hf
        refine lv_iload_n hx hb dX0_wholeTone_28 rfl (lv_at hl 2 rfl) ?_
        have e9 := Option.some.inj hf
        subst e9
        exact fb_ir X h hr hlk dX0_wholeTone_29
      · have hf := if_f hc hf
        refine lv_iload_n hx hb dX0_wholeTone_20 rfl (lv_at hl 3 rfl) ?_
        refine lv_istore_n hx hb dX0_wholeTone_21 rfl hl (by decide) (lv' := [(2, .int v3), (0, .ref (g.1 2)), (1, .int v1), (3, .int v3)]) rfl (fun ls hl => ?_)
        refine lv_iinc hx hb dX0_wholeTone_22 hl (k := 3) rfl (kinc_1 _) (by decide) (lv' := [(3, .int (v3 + 1)), (2, .int v3), (0, .ref (g.1 2)), (1, .int v1)]) rfl (fun ls hl => ?_)
        refine lv_goto hx hb dX0_wholeTone_25 (tgt := 4) (by decide) ?_
        exact ih v1 v3 (v3 + 1) q1.2 _ _ _ h (lv_sub hl [2, 3, 1, 0] rfl) hf
set_option maxHeartbeats 4000000 in
set_option maxRecDepth 100000 in
theorem c_X0_wholeTone (l : Launch) {g : fb_G} {ks : List Nat} (hI : fb_I g ks) (hks : ∀ k ∈ ([2, 3, 4, 5] : List Nat), k ∈ ks) (N : Nat) (a1 : Int32) (σ : fb_S) {res : (Int32 × fb_S)} (hf : f_X0_wholeTone N a1 σ = some res) : fb_M l yX0_wholeTone cX0_wholeTone 4 (some .int) 2 50 g ks [.ref (g.1 2), .int a1] σ (fb_Qi g ks res.1 res.2) := by
  refine fb_met (by decide +kernel) hI (Nat.le_of_ble_eq_true rfl) (fun p e s m below meth c ls X h hr hlk hl => ?_)
  have X : fb_X p m c cX0_wholeTone 4 s _ RX0 g ks (fb_A g ks) := X
  have hl : lv_has ls 4 [(0, .ref (g.1 2)), (1, .int a1)] := hl
  have hx := X.1.1
  have hb := X.1.2.1
  unfold f_X0_wholeTone at hf
  refine lv_iconst hx hb dX0_wholeTone_0 ki_0 ?_
  refine lv_istore_n hx hb dX0_wholeTone_1 rfl hl (by decide) (lv' := [(2, .int (0)), (0, .ref (g.1 2)), (1, .int a1)]) rfl (fun ls hl => ?_)
  refine lv_iconst hx hb dX0_wholeTone_2 ki_1 ?_
  refine lv_istore_n hx hb dX0_wholeTone_3 rfl hl (by decide) (lv' := [(3, .int (1)), (2, .int (0)), (0, .ref (g.1 2)), (1, .int a1)]) rfl (fun ls hl => ?_)
  exact w_X0_wholeTone_L4 X hks hr hlk N N a1 (0 : Int32) (1 : Int32) σ _ _ _ h (lv_sub hl [2, 3, 1, 0] rfl) hf
def f_X5_tone (N : Nat) (a1 : Int32) (σ : fb_S) : Option (Int32 × fb_S) :=
  (f_X5_isWithin a1 (0 : Int32) ((σ.1 2 3) - (1 : Int32))).bind fun q1 =>
  if q1 = 0 then (
    some ((-1 : Int32), σ)
  ) else (
    (f_X0_wholeTone N a1 σ).bind fun q2 =>
    some (q2.1, q2.2)
  )
set_option maxHeartbeats 4000000 in
set_option maxRecDepth 100000 in
theorem c_X5_tone (l : Launch) {g : fb_G} {ks : List Nat} (hI : fb_I g ks) (hks : ∀ k ∈ ([0, 2, 3, 4, 5] : List Nat), k ∈ ks) (N : Nat) (a1 : Int32) (σ : fb_S) {res : (Int32 × fb_S)} (hf : f_X5_tone N a1 σ = some res) : fb_M l yX5_tone cX5_tone 2 (some .int) 3 73 g ks [.ref (g.1 0), .int a1] σ (fb_Qi g ks res.1 res.2) := by
  refine fb_met (by decide +kernel) hI (Nat.le_of_ble_eq_true rfl) (fun p e s m below meth c ls X h hr hlk hl => ?_)
  have X : fb_X p m c cX5_tone 2 s _ RX5 g ks (fb_A g ks) := X
  have hl : lv_has ls 2 [(0, .ref (g.1 0)), (1, .int a1)] := hl
  have hx := X.1.1
  have hb := X.1.2.1
  unfold f_X5_tone at hf
  refine lv_iload_n hx hb dX5_tone_0 rfl (lv_at hl 1 rfl) ?_
  refine lv_iconst hx hb dX5_tone_1 ki_0 ?_
  refine lv_aload_n hx hb dX5_tone_2 rfl (lv_at hl 0 rfl) ?_
  refine gt_RX5_16 X h (hks 0 (by decide)) dX5_tone_3 ?_
  refine gt_RX5_52 X h (hks 2 (by decide)) dX5_tone_6 ?_
  refine lv_iconst hx hb dX5_tone_9 ki_1 ?_
  refine lv_isub hx hb dX5_tone_10 ?_
  obtain ⟨q1, hq1, hf⟩ := bd_s hf
  refine fb_ci X h (fb_runS (As := [.int a1, .int (0), .int ((σ.1 2 3) - (1 : Int32))]) (rest := []) X h (c_X5_isWithin l X.2.2.1 (fun k hk => absurd hk List.not_mem_nil) a1 (0 : Int32) ((σ.1 2 3) - (1 : Int32)) σ hq1) mf_yX5_isWithin lm_RX5_48 ⟨Nat.le_of_ble_eq_true rfl, Nat.le_of_ble_eq_true rfl⟩ ⟨Nat.le_refl _, Nat.le_refl _⟩ rfl hl.1 rfl (Nat.le_of_ble_eq_true rfl) dX5_tone_11) (fun H locs h => ?_)
  refine lv_if_eq hx hb dX5_tone_14 (tgt := 28) (by decide) (fun hc => ?_) (fun hc => ?_)
  · have hf := if_t hc hf
    refine lv_iconst hx hb dX5_tone_28 ki_m1 ?_
    have e9 := Option.some.inj hf
    subst e9
    exact fb_ir X h hr hlk dX5_tone_29
  · have hf := if_f hc hf
    refine lv_aload_n hx hb dX5_tone_17 rfl (lv_at hl 0 rfl) ?_
    refine gt_RX5_16 X h (hks 0 (by decide)) dX5_tone_18 ?_
    refine lv_iload_n hx hb dX5_tone_21 rfl (lv_at hl 1 rfl) ?_
    obtain ⟨q2, hq2, hf⟩ := bd_s hf
    refine fb_ci X h (fb_runVN (As := [.int a1]) (rest := []) (k := 2) X h (c_X0_wholeTone l X.2.2.1 (fun k hk => hks k ((by decide : ∀ k ∈ ([2, 3, 4, 5] : List Nat), k ∈ ([0, 2, 3, 4, 5] : List Nat)) k hk)) N a1 σ hq2) mf_yX0_wholeTone lm_RX5_74 (hks 2 (by decide)) rfl rfl ⟨Nat.le_of_ble_eq_true rfl, Nat.le_of_ble_eq_true rfl⟩ ⟨Nat.le_refl _, Nat.le_refl _⟩ rfl hl.1 rfl (Nat.le_of_ble_eq_true rfl) dX5_tone_22) (fun H locs h => ?_)
    refine lv_goto hx hb dX5_tone_25 (tgt := 29) (by decide) ?_
    have e9 := Option.some.inj hf
    subst e9
    exact fb_ir X h hr hlk dX5_tone_29
def f_X0_hasTone (N : Nat) (a1 : Int32) (σ : fb_S) : Option (Int32 × fb_S) :=
  (f_X0_fillMinors N a1 σ).bind fun q1 =>
  ck_ (fb_in (q1.1 2 3) 6) <|
  if (lg_cmp (q1.2 (q1.1 2 3).toNatClampNeg) (0 : Int64)) = 0 then (
    some ((1 : Int32), q1)
  ) else (
    some ((0 : Int32), q1)
  )
set_option maxHeartbeats 4000000 in
set_option maxRecDepth 100000 in
theorem c_X0_hasTone (l : Launch) {g : fb_G} {ks : List Nat} (hI : fb_I g ks) (hks : ∀ k ∈ ([2, 3, 4, 5] : List Nat), k ∈ ks) (N : Nat) (a1 : Int32) (σ : fb_S) {res : (Int32 × fb_S)} (hf : f_X0_hasTone N a1 σ = some res) : fb_M l yX0_hasTone cX0_hasTone 2 (some .boolean) 1 26 g ks [.ref (g.1 2), .int a1] σ (fb_Qi g ks res.1 res.2) := by
  refine fb_met (by decide +kernel) hI (Nat.le_of_ble_eq_true rfl) (fun p e s m below meth c ls X h hr hlk hl => ?_)
  have X : fb_X p m c cX0_hasTone 2 s _ RX0 g ks (fb_A g ks) := X
  have hl : lv_has ls 2 [(0, .ref (g.1 2)), (1, .int a1)] := hl
  have hx := X.1.1
  have hb := X.1.2.1
  unfold f_X0_hasTone at hf
  refine lv_aload_n hx hb dX0_hasTone_0 rfl (lv_at hl 0 rfl) ?_
  refine lv_iload_n hx hb dX0_hasTone_1 rfl (lv_at hl 1 rfl) ?_
  obtain ⟨q1, hq1, hf⟩ := bd_s hf
  refine fb_cv X h (fb_runV (As := [.int a1]) (rest := []) (k := 2) X h (c_X0_fillMinors l X.2.2.1 (fun k hk => hks k ((by decide : ∀ k ∈ ([2, 3, 4, 5] : List Nat), k ∈ ([2, 3, 4, 5] : List Nat)) k hk)) N a1 σ hq1) mf_yX0_fillMinors lm_RX0_36 (hks 2 (by decide)) rfl rfl ⟨Nat.le_of_ble_eq_true rfl, Nat.le_of_ble_eq_true rfl⟩ ⟨Nat.le_refl _, Nat.le_refl _⟩ rfl hl.1 rfl (Nat.le_of_ble_eq_true rfl) dX0_hasTone_2) (fun H locs h => ?_)
  refine lv_aload_n hx hb dX0_hasTone_5 rfl (lv_at hl 0 rfl) ?_
  refine gt_RX0_18 X h (hks 2 (by decide)) dX0_hasTone_6 ?_
  refine lv_aload_n hx hb dX0_hasTone_9 rfl (lv_at hl 0 rfl) ?_
  refine gt_RX0_26 X h (hks 2 (by decide)) dX0_hasTone_10 ?_
  obtain ⟨hi0, hf⟩ := ck_s hf
  refine fb_lald X h (hks 5 (by decide)) hi0 dX0_hasTone_13 ?_
  refine lv_lconst hx hb dX0_hasTone_14 kl_0 ?_
  refine W.lcmp hx hb dX0_hasTone_15 ?_
  refine lv_if_ne hx hb dX0_hasTone_16 (tgt := 23) (by decide) (fun hc => ?_) (fun hc => ?_)
  · have hf := if_f hc hf
    refine lv_iconst hx hb dX0_hasTone_23 ki_0 ?_
    have e9 := Option.some.inj hf
    subst e9
    exact fb_zr (r := (0 : Int32)) X h hr rfl hlk dX0_hasTone_24
  · have hf := if_t hc hf
    refine lv_iconst hx hb dX0_hasTone_19 ki_1 ?_
    refine lv_goto hx hb dX0_hasTone_20 (tgt := 24) (by decide) ?_
    have e9 := Option.some.inj hf
    subst e9
    exact fb_zr (r := (1 : Int32)) X h hr rfl hlk dX0_hasTone_24
def f_X5_asNumber (a1 : Int32) : Option Int32 :=
  if a1 = 0 then (
    some (0 : Int32)
  ) else (
    some (1 : Int32)
  )
set_option maxHeartbeats 4000000 in
set_option maxRecDepth 100000 in
theorem c_X5_asNumber (l : Launch) {g : fb_G} {ks : List Nat} (hI : fb_I g ks) (hks : ∀ k ∈ ([] : List Nat), k ∈ ks) (a1 : Int32) (σ : fb_S) {res : Int32} (hf : f_X5_asNumber a1 = some res) : fb_M l yX5_asNumber cX5_asNumber 1 (some .int) 0 0 g ks [.int a1] σ (fb_Qi g ks res σ) := by
  refine fb_met (by decide +kernel) hI (Nat.le_of_ble_eq_true rfl) (fun p e s m below meth c ls X h hr hlk hl => ?_)
  have X : fb_X p m c cX5_asNumber 1 s _ RX5 g ks (fb_A g ks) := X
  have hl : lv_has ls 1 [(0, .int a1)] := hl
  have hx := X.1.1
  have hb := X.1.2.1
  unfold f_X5_asNumber at hf
  refine lv_iload_n hx hb dX5_asNumber_0 rfl (lv_at hl 0 rfl) ?_
  refine lv_if_eq hx hb dX5_asNumber_1 (tgt := 8) (by decide) (fun hc => ?_) (fun hc => ?_)
  · have hf := if_t hc hf
    refine lv_iconst hx hb dX5_asNumber_8 ki_0 ?_
    have e9 := Option.some.inj hf
    subst e9
    exact fb_ir X h hr hlk dX5_asNumber_9
  · have hf := if_f hc hf
    refine lv_iconst hx hb dX5_asNumber_4 ki_1 ?_
    refine lv_goto hx hb dX5_asNumber_5 (tgt := 9) (by decide) ?_
    have e9 := Option.some.inj hf
    subst e9
    exact fb_ir X h hr hlk dX5_asNumber_9
def f_X5_isTone (N : Nat) (a1 : Int32) (σ : fb_S) : Option (Int32 × fb_S) :=
  (f_X5_isWithin a1 (0 : Int32) (400 : Int32)).bind fun q1 =>
  if q1 = 0 then (
    some ((-2 : Int32), σ)
  ) else (
    (f_X0_hasTone N a1 σ).bind fun q2 =>
    (f_X5_asNumber q2.1).bind fun q3 =>
    some (q3, q2.2)
  )
set_option maxHeartbeats 4000000 in
set_option maxRecDepth 100000 in
theorem c_X5_isTone (l : Launch) {g : fb_G} {ks : List Nat} (hI : fb_I g ks) (hks : ∀ k ∈ ([0, 2, 3, 4, 5] : List Nat), k ∈ ks) (N : Nat) (a1 : Int32) (σ : fb_S) {res : (Int32 × fb_S)} (hf : f_X5_isTone N a1 σ = some res) : fb_M l yX5_isTone cX5_isTone 2 (some .int) 2 47 g ks [.ref (g.1 0), .int a1] σ (fb_Qi g ks res.1 res.2) := by
  refine fb_met (by decide +kernel) hI (Nat.le_of_ble_eq_true rfl) (fun p e s m below meth c ls X h hr hlk hl => ?_)
  have X : fb_X p m c cX5_isTone 2 s _ RX5 g ks (fb_A g ks) := X
  have hl : lv_has ls 2 [(0, .ref (g.1 0)), (1, .int a1)] := hl
  have hx := X.1.1
  have hb := X.1.2.1
  unfold f_X5_isTone at hf
  refine lv_iload_n hx hb dX5_isTone_0 rfl (lv_at hl 1 rfl) ?_
  refine lv_iconst hx hb dX5_isTone_1 ki_0 ?_
  refine lv_sipush hx hb dX5_isTone_2 ks_400 ?_
  obtain ⟨q1, hq1, hf⟩ := bd_s hf
  refine fb_ci X h (fb_runS (As := [.int a1, .int (0), .int (400)]) (rest := []) X h (c_X5_isWithin l X.2.2.1 (fun k hk => absurd hk List.not_mem_nil) a1 (0 : Int32) (400 : Int32) σ hq1) mf_yX5_isWithin lm_RX5_48 ⟨Nat.le_of_ble_eq_true rfl, Nat.le_of_ble_eq_true rfl⟩ ⟨Nat.le_refl _, Nat.le_refl _⟩ rfl hl.1 rfl (Nat.le_of_ble_eq_true rfl) dX5_isTone_5) (fun H locs h => ?_)
  refine lv_if_eq hx hb dX5_isTone_8 (tgt := 25) (by decide) (fun hc => ?_) (fun hc => ?_)
  · have hf := if_t hc hf
    refine lv_bipush hx hb dX5_isTone_25 kb_m2 ?_
    have e9 := Option.some.inj hf
    subst e9
    exact fb_ir X h hr hlk dX5_isTone_27
  · have hf := if_f hc hf
    refine lv_aload_n hx hb dX5_isTone_11 rfl (lv_at hl 0 rfl) ?_
    refine gt_RX5_16 X h (hks 0 (by decide)) dX5_isTone_12 ?_
    refine lv_iload_n hx hb dX5_isTone_15 rfl (lv_at hl 1 rfl) ?_
    obtain ⟨q2, hq2, hf⟩ := bd_s hf
    refine fb_ci X h (fb_runVN (As := [.int a1]) (rest := []) (k := 2) X h (c_X0_hasTone l X.2.2.1 (fun k hk => hks k ((by decide : ∀ k ∈ ([2, 3, 4, 5] : List Nat), k ∈ ([0, 2, 3, 4, 5] : List Nat)) k hk)) N a1 σ hq2) mf_yX0_hasTone lm_RX5_77 (hks 2 (by decide)) rfl rfl ⟨Nat.le_of_ble_eq_true rfl, Nat.le_of_ble_eq_true rfl⟩ ⟨Nat.le_refl _, Nat.le_refl _⟩ rfl hl.1 rfl (Nat.le_of_ble_eq_true rfl) dX5_isTone_16) (fun H locs h => ?_)
    obtain ⟨q3, hq3, hf⟩ := bd_s hf
    refine fb_ci X h (fb_runS (As := [.int q2.1]) (rest := []) X h (c_X5_asNumber l X.2.2.1 (fun k hk => absurd hk List.not_mem_nil) q2.1 q2.2 hq3) mf_yX5_asNumber lm_RX5_81 ⟨Nat.le_of_ble_eq_true rfl, Nat.le_of_ble_eq_true rfl⟩ ⟨Nat.le_refl _, Nat.le_refl _⟩ rfl hl.1 rfl (Nat.le_of_ble_eq_true rfl) dX5_isTone_19) (fun H locs h => ?_)
    refine lv_goto hx hb dX5_isTone_22 (tgt := 27) (by decide) ?_
    have e9 := Option.some.inj hf
    subst e9
    exact fb_ir X h hr hlk dX5_isTone_27
def f_X5_isSort (a1 : Int32) : Option Int32 :=
  (f_X5_isWithin a1 (0 : Int32) (3 : Int32)).bind fun q1 =>
  ck_ (fb_bo q1) <|
  some q1
set_option maxHeartbeats 4000000 in
set_option maxRecDepth 100000 in
theorem c_X5_isSort (l : Launch) {g : fb_G} {ks : List Nat} (hI : fb_I g ks) (hks : ∀ k ∈ ([] : List Nat), k ∈ ks) (a1 : Int32) (σ : fb_S) {res : Int32} (hf : f_X5_isSort a1 = some res) : fb_M l yX5_isSort cX5_isSort 1 (some .boolean) 1 22 g ks [.int a1] σ (fb_Qi g ks res σ) := by
  refine fb_met (by decide +kernel) hI (Nat.le_of_ble_eq_true rfl) (fun p e s m below meth c ls X h hr hlk hl => ?_)
  have X : fb_X p m c cX5_isSort 1 s _ RX5 g ks (fb_A g ks) := X
  have hl : lv_has ls 1 [(0, .int a1)] := hl
  have hx := X.1.1
  have hb := X.1.2.1
  unfold f_X5_isSort at hf
  refine lv_iload_n hx hb dX5_isSort_0 rfl (lv_at hl 0 rfl) ?_
  refine lv_iconst hx hb dX5_isSort_1 ki_0 ?_
  refine lv_iconst hx hb dX5_isSort_2 ki_3 ?_
  obtain ⟨q1, hq1, hf⟩ := bd_s hf
  refine fb_ci X h (fb_runS (As := [.int a1, .int (0), .int (3)]) (rest := []) X h (c_X5_isWithin l X.2.2.1 (fun k hk => absurd hk List.not_mem_nil) a1 (0 : Int32) (3 : Int32) σ hq1) mf_yX5_isWithin lm_RX5_48 ⟨Nat.le_of_ble_eq_true rfl, Nat.le_of_ble_eq_true rfl⟩ ⟨Nat.le_refl _, Nat.le_refl _⟩ rfl hl.1 rfl (Nat.le_of_ble_eq_true rfl) dX5_isSort_3) (fun H locs h => ?_)
  obtain ⟨hz0, hf⟩ := ck_s hf
  have e9 := Option.some.inj hf
  subst e9
  exact fb_zr (r := q1) X h hr (fb_bo_n hz0) hlk dX5_isSort_6
def f_X5_isSway (a1 : Int32) : Option Int32 :=
  (f_X5_isWithin a1 (0 : Int32) (9999 : Int32)).bind fun q1 =>
  ck_ (fb_bo q1) <|
  some q1
set_option maxHeartbeats 4000000 in
set_option maxRecDepth 100000 in
theorem c_X5_isSway (l : Launch) {g : fb_G} {ks : List Nat} (hI : fb_I g ks) (hks : ∀ k ∈ ([] : List Nat), k ∈ ks) (a1 : Int32) (σ : fb_S) {res : Int32} (hf : f_X5_isSway a1 = some res) : fb_M l yX5_isSway cX5_isSway 1 (some .boolean) 1 22 g ks [.int a1] σ (fb_Qi g ks res σ) := by
  refine fb_met (by decide +kernel) hI (Nat.le_of_ble_eq_true rfl) (fun p e s m below meth c ls X h hr hlk hl => ?_)
  have X : fb_X p m c cX5_isSway 1 s _ RX5 g ks (fb_A g ks) := X
  have hl : lv_has ls 1 [(0, .int a1)] := hl
  have hx := X.1.1
  have hb := X.1.2.1
  unfold f_X5_isSway at hf
  refine lv_iload_n hx hb dX5_isSway_0 rfl (lv_at hl 0 rfl) ?_
  refine lv_iconst hx hb dX5_isSway_1 ki_0 ?_
  refine lv_sipush hx hb dX5_isSway_2 ks_9999 ?_
  obtain ⟨q1, hq1, hf⟩ := bd_s hf
  refine fb_ci X h (fb_runS (As := [.int a1, .int (0), .int (9999)]) (rest := []) X h (c_X5_isWithin l X.2.2.1 (fun k hk => absurd hk List.not_mem_nil) a1 (0 : Int32) (9999 : Int32) σ hq1) mf_yX5_isWithin lm_RX5_48 ⟨Nat.le_of_ble_eq_true rfl, Nat.le_of_ble_eq_true rfl⟩ ⟨Nat.le_refl _, Nat.le_refl _⟩ rfl hl.1 rfl (Nat.le_of_ble_eq_true rfl) dX5_isSway_5) (fun H locs h => ?_)
  obtain ⟨hz0, hf⟩ := ck_s hf
  have e9 := Option.some.inj hf
  subst e9
  exact fb_zr (r := q1) X h hr (fb_bo_n hz0) hlk dX5_isSway_8
def f_X1_forgetChoice  (σ : fb_S) : Option fb_S :=
  nm_ (fb_up σ 11 6 (0 : Int32)) fun t1 =>
  some t1
set_option maxHeartbeats 4000000 in
set_option maxRecDepth 100000 in
theorem c_X1_forgetChoice (l : Launch) {g : fb_G} {ks : List Nat} (hI : fb_I g ks) (hks : ∀ k ∈ ([11] : List Nat), k ∈ ks) (σ : fb_S) {res : fb_S} (hf : f_X1_forgetChoice σ = some res) : fb_M l yX1_forgetChoice cX1_forgetChoice 1 none 0 0 g ks [.ref (g.1 11)] σ (fb_Qv g ks res) := by
  refine fb_met (by decide +kernel) hI (Nat.le_of_ble_eq_true rfl) (fun p e s m below meth c ls X h hr hlk hl => ?_)
  have X : fb_X p m c cX1_forgetChoice 1 s _ RX1 g ks (fb_A g ks) := X
  have hl : lv_has ls 1 [(0, .ref (g.1 11))] := hl
  have hx := X.1.1
  have hb := X.1.2.1
  unfold f_X1_forgetChoice at hf
  refine lv_aload_n hx hb dX1_forgetChoice_0 rfl (lv_at hl 0 rfl) ?_
  refine lv_iconst hx hb dX1_forgetChoice_1 ki_0 ?_
  obtain ⟨t1, et1, hf⟩ := nm_s hf
  refine pt_RX1_38 X h (hks 11 (by decide)) rfl rfl dX1_forgetChoice_2 (fun H locs h => ?_)
  have h := fb_H.nm et1 h
  have e9 := Option.some.inj hf
  subst e9
  exact fb_vr X h hr hlk dX1_forgetChoice_5
def f_X5_sort (a1 : Int32) (a2 : Int32) (a3 : Int32) (a4 : Int32) (σ : fb_S) : Option (Int32 × fb_S) :=
  (f_X5_isSort a1).bind fun q1 =>
  if q1 = 0 then (
    some ((-1 : Int32), σ)
  ) else (
    (f_X5_isWithin a2 (0 : Int32) (99 : Int32)).bind fun q2 =>
    if q2 = 0 then (
      some ((-2 : Int32), σ)
    ) else (
      (f_X5_isSway a3).bind fun q3 =>
      if q3 = 0 then (
        some ((-2 : Int32), σ)
      ) else (
        (f_X5_isSway a4).bind fun q4 =>
        if q4 = 0 then (
          some ((-2 : Int32), σ)
        ) else (
          (f_X1_forgetChoice σ).bind fun q5 =>
          ck_ (fb_in a1 4) <|
          nm_ (fb_up q5 8 (a1.toNatClampNeg) a3) fun t6 =>
          ck_ (fb_in a1 4) <|
          nm_ (fb_up t6 9 (a1.toNatClampNeg) a4) fun t7 =>
          (f_X5_exchange 7 a1 a2 t7).bind fun q8 =>
          some (q8.1, q8.2)
        )
      )
    )
  )
set_option maxHeartbeats 4000000 in
set_option maxRecDepth 100000 in
theorem c_X5_sort (l : Launch) {g : fb_G} {ks : List Nat} (hI : fb_I g ks) (hks : ∀ k ∈ ([0, 6, 7, 8, 9, 11] : List Nat), k ∈ ks) (a1 : Int32) (a2 : Int32) (a3 : Int32) (a4 : Int32) (σ : fb_S) {res : (Int32 × fb_S)} (hf : f_X5_sort a1 a2 a3 a4 σ = some res) : fb_M l yX5_sort cX5_sort 5 (some .int) 2 42 g ks [.ref (g.1 0), .int a1, .int a2, .int a3, .int a4] σ (fb_Qi g ks res.1 res.2) := by
  refine fb_met (by decide +kernel) hI (Nat.le_of_ble_eq_true rfl) (fun p e s m below meth c ls X h hr hlk hl => ?_)
  have X : fb_X p m c cX5_sort 5 s _ RX5 g ks (fb_A g ks) := X
  have hl : lv_has ls 5 [(0, .ref (g.1 0)), (1, .int a1), (2, .int a2), (3, .int a3), (4, .int a4)] := hl
  have hx := X.1.1
  have hb := X.1.2.1
  unfold f_X5_sort at hf
  refine lv_iload_n hx hb dX5_sort_0 rfl (lv_at hl 1 rfl) ?_
  obtain ⟨q1, hq1, hf⟩ := bd_s hf
  refine fb_ci X h (fb_runS (As := [.int a1]) (rest := []) X h (c_X5_isSort l X.2.2.1 (fun k hk => absurd hk List.not_mem_nil) a1 σ hq1) mf_yX5_isSort lm_RX5_85 ⟨Nat.le_of_ble_eq_true rfl, Nat.le_of_ble_eq_true rfl⟩ ⟨Nat.le_refl _, Nat.le_refl _⟩ rfl hl.1 rfl (Nat.le_of_ble_eq_true rfl) dX5_sort_1) (fun H locs h => ?_)
  refine lv_if_ne hx hb dX5_sort_4 (tgt := 9) (by decide) (fun hc => ?_) (fun hc => ?_)
  · have hf := if_f hc hf
    refine lv_iload_n hx hb dX5_sort_9 rfl (lv_at hl 2 rfl) ?_
    refine lv_iconst hx hb dX5_sort_10 ki_0 ?_
    refine lv_bipush hx hb dX5_sort_11 kb_99 ?_
    obtain ⟨q2, hq2, hf⟩ := bd_s hf
    refine fb_ci X h (fb_runS (As := [.int a2, .int (0), .int (99)]) (rest := []) X h (c_X5_isWithin l X.2.2.1 (fun k hk => absurd hk List.not_mem_nil) a2 (0 : Int32) (99 : Int32) σ hq2) mf_yX5_isWithin lm_RX5_48 ⟨Nat.le_of_ble_eq_true rfl, Nat.le_of_ble_eq_true rfl⟩ ⟨Nat.le_refl _, Nat.le_refl _⟩ rfl hl.1 rfl (Nat.le_of_ble_eq_true rfl) dX5_sort_13) (fun H locs h => ?_)
    refine lv_if_eq hx hb dX5_sort_16 (tgt := 34) (by decide) (fun hc => ?_) (fun hc => ?_)
    · have hf := if_t hc hf
      refine lv_bipush hx hb dX5_sort_34 kb_m2 ?_
      have e9 := Option.some.inj hf
      subst e9
      exact fb_ir X h hr hlk dX5_sort_36
    · have hf := if_f hc hf
      refine lv_iload_n hx hb dX5_sort_19 rfl (lv_at hl 3 rfl) ?_
      obtain ⟨q3, hq3, hf⟩ := bd_s hf
      refine fb_ci X h (fb_runS (As := [.int a3]) (rest := []) X h (c_X5_isSway l X.2.2.1 (fun k hk => absurd hk List.not_mem_nil) a3 σ hq3) mf_yX5_isSway lm_RX5_88 ⟨Nat.le_of_ble_eq_true rfl, Nat.le_of_ble_eq_true rfl⟩ ⟨Nat.le_refl _, Nat.le_refl _⟩ rfl hl.1 rfl (Nat.le_of_ble_eq_true rfl) dX5_sort_20) (fun H locs h => ?_)
      refine lv_if_eq hx hb dX5_sort_23 (tgt := 34) (by decide) (fun hc => ?_) (fun hc => ?_)
      · have hf := if_t hc hf
        refine lv_bipush hx hb dX5_sort_34 kb_m2 ?_
        have e9 := Option.some.inj hf
        subst e9
        exact fb_ir X h hr hlk dX5_sort_36
      · have hf := if_f hc hf
        refine lv_iload hx hb dX5_sort_26 (lv_at hl 4 rfl) ?_
        obtain ⟨q4, hq4, hf⟩ := bd_s hf
        refine fb_ci X h (fb_runS (As := [.int a4]) (rest := []) X h (c_X5_isSway l X.2.2.1 (fun k hk => absurd hk List.not_mem_nil) a4 σ hq4) mf_yX5_isSway lm_RX5_88 ⟨Nat.le_of_ble_eq_true rfl, Nat.le_of_ble_eq_true rfl⟩ ⟨Nat.le_refl _, Nat.le_refl _⟩ rfl hl.1 rfl (Nat.le_of_ble_eq_true rfl) dX5_sort_28) (fun H locs h => ?_)
        refine lv_if_ne hx hb dX5_sort_31 (tgt := 37) (by decide) (fun hc => ?_) (fun hc => ?_)
        · have hf := if_f hc hf
          refine lv_aload_n hx hb dX5_sort_37 rfl (lv_at hl 0 rfl) ?_
          refine gt_RX5_30 X h (hks 0 (by decide)) dX5_sort_38 ?_
          obtain ⟨q5, hq5, hf⟩ := bd_s hf
          refine fb_cv X h (fb_runVN (As := []) (rest := []) (k := 11) X h (c_X1_forgetChoice l X.2.2.1 (fun k hk => hks k ((by decide : ∀ k ∈ ([11] : List Nat), k ∈ ([0, 6, 7, 8, 9, 11] : List Nat)) k hk))  σ hq5) mf_yX1_forgetChoice lm_RX5_91 (hks 11 (by decide)) rfl rfl ⟨Nat.le_of_ble_eq_true rfl, Nat.le_of_ble_eq_true rfl⟩ ⟨Nat.le_refl _, Nat.le_refl _⟩ rfl hl.1 rfl (Nat.le_of_ble_eq_true rfl) dX5_sort_41) (fun H locs h => ?_)
          refine lv_aload_n hx hb dX5_sort_44 rfl (lv_at hl 0 rfl) ?_
          refine gt_RX5_23 X h (hks 0 (by decide)) dX5_sort_45 ?_
          refine gt_RX5_94 X h (hks 6 (by decide)) dX5_sort_48 ?_
          refine lv_iload_n hx hb dX5_sort_51 rfl (lv_at hl 1 rfl) ?_
          refine lv_iload_n hx hb dX5_sort_52 rfl (lv_at hl 3 rfl) ?_
          obtain ⟨hi0, hf⟩ := ck_s hf
          obtain ⟨t6, et6, hf⟩ := nm_s hf
          refine fb_iast X h (hks 8 (by decide)) (fun _ => rfl) hi0 dX5_sort_53 (fun H locs h => ?_)
          have h := fb_H.nm et6 h
          refine lv_aload_n hx hb dX5_sort_54 rfl (lv_at hl 0 rfl) ?_
          refine gt_RX5_23 X h (hks 0 (by decide)) dX5_sort_55 ?_
          refine gt_RX5_97 X h (hks 6 (by decide)) dX5_sort_58 ?_
          refine lv_iload_n hx hb dX5_sort_61 rfl (lv_at hl 1 rfl) ?_
          refine lv_iload hx hb dX5_sort_62 (lv_at hl 4 rfl) ?_
          obtain ⟨hi0, hf⟩ := ck_s hf
          obtain ⟨t7, et7, hf⟩ := nm_s hf
          refine fb_iast X h (hks 9 (by decide)) (fun _ => rfl) hi0 dX5_sort_64 (fun H locs h => ?_)
          have h := fb_H.nm et7 h
          refine lv_aload_n hx hb dX5_sort_65 rfl (lv_at hl 0 rfl) ?_
          refine gt_RX5_23 X h (hks 0 (by decide)) dX5_sort_66 ?_
          refine gt_RX5_100 X h (hks 6 (by decide)) dX5_sort_69 ?_
          refine lv_iload_n hx hb dX5_sort_72 rfl (lv_at hl 1 rfl) ?_
          refine lv_iload_n hx hb dX5_sort_73 rfl (lv_at hl 2 rfl) ?_
          obtain ⟨q8, hq8, hf⟩ := bd_s hf
          refine fb_ci X h (fb_runS (As := [.ref (g.1 7), .int a1, .int a2]) (rest := []) X h (c_X5_exchange l X.2.2.1 (fun k hk => absurd hk List.not_mem_nil) (ka := 7) (by decide) (hks 7 (by decide)) 7 a1 a2 t7 hq8) mf_yX5_exchange lm_RX5_63 ⟨Nat.le_of_ble_eq_true rfl, Nat.le_of_ble_eq_true rfl⟩ ⟨Nat.le_refl _, Nat.le_refl _⟩ rfl hl.1 rfl (Nat.le_of_ble_eq_true rfl) dX5_sort_74) (fun H locs h => ?_)
          have e9 := Option.some.inj hf
          subst e9
          exact fb_ir X h hr hlk dX5_sort_77
        · have hf := if_t hc hf
          refine lv_bipush hx hb dX5_sort_34 kb_m2 ?_
          have e9 := Option.some.inj hf
          subst e9
          exact fb_ir X h hr hlk dX5_sort_36
  · have hf := if_t hc hf
    refine lv_iconst hx hb dX5_sort_7 ki_m1 ?_
    have e9 := Option.some.inj hf
    subst e9
    exact fb_ir X h hr hlk dX5_sort_8
def f_X5_crowd (a1 : Int32) (a2 : Int32) (σ : fb_S) : Option (Int32 × fb_S) :=
  (f_X5_isSort a1).bind fun q1 =>
  if q1 = 0 then (
    some ((-1 : Int32), σ)
  ) else (
    (f_X5_isWithin a2 (0 : Int32) (999 : Int32)).bind fun q2 =>
    if q2 = 0 then (
      some ((-2 : Int32), σ)
    ) else (
      (f_X1_forgetChoice σ).bind fun q3 =>
      (f_X5_exchange 10 a1 a2 q3).bind fun q4 =>
      some (q4.1, q4.2)
    )
  )
set_option maxHeartbeats 4000000 in
set_option maxRecDepth 100000 in
theorem c_X5_crowd (l : Launch) {g : fb_G} {ks : List Nat} (hI : fb_I g ks) (hks : ∀ k ∈ ([0, 6, 10, 11] : List Nat), k ∈ ks) (a1 : Int32) (a2 : Int32) (σ : fb_S) {res : (Int32 × fb_S)} (hf : f_X5_crowd a1 a2 σ = some res) : fb_M l yX5_crowd cX5_crowd 3 (some .int) 2 42 g ks [.ref (g.1 0), .int a1, .int a2] σ (fb_Qi g ks res.1 res.2) := by
  refine fb_met (by decide +kernel) hI (Nat.le_of_ble_eq_true rfl) (fun p e s m below meth c ls X h hr hlk hl => ?_)
  have X : fb_X p m c cX5_crowd 3 s _ RX5 g ks (fb_A g ks) := X
  have hl : lv_has ls 3 [(0, .ref (g.1 0)), (1, .int a1), (2, .int a2)] := hl
  have hx := X.1.1
  have hb := X.1.2.1
  unfold f_X5_crowd at hf
  refine lv_iload_n hx hb dX5_crowd_0 rfl (lv_at hl 1 rfl) ?_
  obtain ⟨q1, hq1, hf⟩ := bd_s hf
  refine fb_ci X h (fb_runS (As := [.int a1]) (rest := []) X h (c_X5_isSort l X.2.2.1 (fun k hk => absurd hk List.not_mem_nil) a1 σ hq1) mf_yX5_isSort lm_RX5_85 ⟨Nat.le_of_ble_eq_true rfl, Nat.le_of_ble_eq_true rfl⟩ ⟨Nat.le_refl _, Nat.le_refl _⟩ rfl hl.1 rfl (Nat.le_of_ble_eq_true rfl) dX5_crowd_1) (fun H locs h => ?_)
  refine lv_if_ne hx hb dX5_crowd_4 (tgt := 9) (by decide) (fun hc => ?_) (fun hc => ?_)
  · have hf := if_f hc hf
    refine lv_iload_n hx hb dX5_crowd_9 rfl (lv_at hl 2 rfl) ?_
    refine lv_iconst hx hb dX5_crowd_10 ki_0 ?_
    refine lv_sipush hx hb dX5_crowd_11 ks_999 ?_
    obtain ⟨q2, hq2, hf⟩ := bd_s hf
    refine fb_ci X h (fb_runS (As := [.int a2, .int (0), .int (999)]) (rest := []) X h (c_X5_isWithin l X.2.2.1 (fun k hk => absurd hk List.not_mem_nil) a2 (0 : Int32) (999 : Int32) σ hq2) mf_yX5_isWithin lm_RX5_48 ⟨Nat.le_of_ble_eq_true rfl, Nat.le_of_ble_eq_true rfl⟩ ⟨Nat.le_refl _, Nat.le_refl _⟩ rfl hl.1 rfl (Nat.le_of_ble_eq_true rfl) dX5_crowd_14) (fun H locs h => ?_)
    refine lv_if_ne hx hb dX5_crowd_17 (tgt := 23) (by decide) (fun hc => ?_) (fun hc => ?_)
    · have hf := if_f hc hf
      refine lv_aload_n hx hb dX5_crowd_23 rfl (lv_at hl 0 rfl) ?_
      refine gt_RX5_30 X h (hks 0 (by decide)) dX5_crowd_24 ?_
      obtain ⟨q3, hq3, hf⟩ := bd_s hf
      refine fb_cv X h (fb_runVN (As := []) (rest := []) (k := 11) X h (c_X1_forgetChoice l X.2.2.1 (fun k hk => hks k ((by decide : ∀ k ∈ ([11] : List Nat), k ∈ ([0, 6, 10, 11] : List Nat)) k hk))  σ hq3) mf_yX1_forgetChoice lm_RX5_91 (hks 11 (by decide)) rfl rfl ⟨Nat.le_of_ble_eq_true rfl, Nat.le_of_ble_eq_true rfl⟩ ⟨Nat.le_refl _, Nat.le_refl _⟩ rfl hl.1 rfl (Nat.le_of_ble_eq_true rfl) dX5_crowd_27) (fun H locs h => ?_)
      refine lv_aload_n hx hb dX5_crowd_30 rfl (lv_at hl 0 rfl) ?_
      refine gt_RX5_23 X h (hks 0 (by decide)) dX5_crowd_31 ?_
      refine gt_RX5_103 X h (hks 6 (by decide)) dX5_crowd_34 ?_
      refine lv_iload_n hx hb dX5_crowd_37 rfl (lv_at hl 1 rfl) ?_
      refine lv_iload_n hx hb dX5_crowd_38 rfl (lv_at hl 2 rfl) ?_
      obtain ⟨q4, hq4, hf⟩ := bd_s hf
      refine fb_ci X h (fb_runS (As := [.ref (g.1 10), .int a1, .int a2]) (rest := []) X h (c_X5_exchange l X.2.2.1 (fun k hk => absurd hk List.not_mem_nil) (ka := 10) (by decide) (hks 10 (by decide)) 10 a1 a2 q3 hq4) mf_yX5_exchange lm_RX5_63 ⟨Nat.le_of_ble_eq_true rfl, Nat.le_of_ble_eq_true rfl⟩ ⟨Nat.le_refl _, Nat.le_refl _⟩ rfl hl.1 rfl (Nat.le_of_ble_eq_true rfl) dX5_crowd_39) (fun H locs h => ?_)
      have e9 := Option.some.inj hf
      subst e9
      exact fb_ir X h hr hlk dX5_crowd_42
    · have hf := if_t hc hf
      refine lv_bipush hx hb dX5_crowd_20 kb_m2 ?_
      have e9 := Option.some.inj hf
      subst e9
      exact fb_ir X h hr hlk dX5_crowd_22
  · have hf := if_t hc hf
    refine lv_iconst hx hb dX5_crowd_7 ki_m1 ?_
    have e9 := Option.some.inj hf
    subst e9
    exact fb_ir X h hr hlk dX5_crowd_8
def f_X5_rule (a1 : Int32) (a2 : Int32) (σ : fb_S) : Option (Int32 × fb_S) :=
  (f_X5_isWithin a1 (0 : Int32) (3 : Int32)).bind fun q1 =>
  if q1 = 0 then (
    some ((-2 : Int32), σ)
  ) else (
    ck_ (fb_in a1 4) <|
    ck_ (fb_in a1 4) <|
    (f_X5_isWithin a2 (fb_rl 0 a1.toNatClampNeg) (fb_rl 1 a1.toNatClampNeg)).bind fun q2 =>
    if q2 = 0 then (
      some ((-2 : Int32), σ)
    ) else (
      (f_X1_forgetChoice σ).bind fun q3 =>
      (f_X5_exchange 1 a1 a2 q3).bind fun q4 =>
      some (q4.1, q4.2)
    )
  )
set_option maxHeartbeats 4000000 in
set_option maxRecDepth 100000 in
theorem c_X5_rule (l : Launch) {g : fb_G} {ks : List Nat} (hI : fb_I g ks) (hks : ∀ k ∈ ([0, 1, 11] : List Nat), k ∈ ks) (a1 : Int32) (a2 : Int32) (σ : fb_S) {res : (Int32 × fb_S)} (hf : f_X5_rule a1 a2 σ = some res) : fb_MZ l yX5_rule cX5_rule 3 (some .int) 1 23 g ks [.ref (g.1 0), .int a1, .int a2] σ (fb_Qi g ks res.1 res.2) := by
  refine fb_metZ (by decide +kernel) hI (Nat.le_of_ble_eq_true rfl) (fun p e s m below meth c ls tz hz X h hr hlk hl => ?_)
  have X : fb_X p m c cX5_rule 3 s _ RX5 g ks (fb_A g ks) := X
  have hl : lv_has ls 3 [(0, .ref (g.1 0)), (1, .int a1), (2, .int a2)] := hl
  have hx := X.1.1
  have hb := X.1.2.1
  unfold f_X5_rule at hf
  refine lv_iload_n hx hb dX5_rule_0 rfl (lv_at hl 1 rfl) ?_
  refine lv_iconst hx hb dX5_rule_1 ki_0 ?_
  refine lv_iconst hx hb dX5_rule_2 ki_3 ?_
  obtain ⟨q1, hq1, hf⟩ := bd_s hf
  refine fb_ci X h (fb_runS (As := [.int a1, .int (0), .int (3)]) (rest := []) X h (c_X5_isWithin l X.2.2.1 (fun k hk => absurd hk List.not_mem_nil) a1 (0 : Int32) (3 : Int32) σ hq1) mf_yX5_isWithin lm_RX5_48 ⟨Nat.le_of_ble_eq_true rfl, Nat.le_of_ble_eq_true rfl⟩ ⟨Nat.le_refl _, Nat.le_refl _⟩ rfl hl.1 rfl (Nat.le_of_ble_eq_true rfl) dX5_rule_3) (fun H locs h => ?_)
  refine lv_if_eq hx hb dX5_rule_6 (tgt := 26) (by decide) (fun hc => ?_) (fun hc => ?_)
  · have hf := if_t hc hf
    refine lv_bipush hx hb dX5_rule_26 kb_m2 ?_
    have e9 := Option.some.inj hf
    subst e9
    exact fb_ir X h hr hlk dX5_rule_28
  · have hf := if_f hc hf
    refine lv_iload_n hx hb dX5_rule_9 rfl (lv_at hl 2 rfl) ?_
    refine va_gets hx hb (hz 0 (by decide)).1 h.2 X.1.2.2.2.1 (X.1.2.2.2.2 _ lf_RX5_106) (fun _ h => h) dX5_rule_10 ?_
    refine lv_iload_n hx hb dX5_rule_13 rfl (lv_at hl 1 rfl) ?_
    obtain ⟨hi0, hf⟩ := ck_s hf
    refine va_ti hx hb (hz 0 (by decide)).2 h.2 (fb_in_vp hi0) (v := .int (fb_rl 0 a1.toNatClampNeg)) rfl dX5_rule_14 ?_
    refine va_gets hx hb (hz 1 (by decide)).1 h.2 X.1.2.2.2.1 (X.1.2.2.2.2 _ lf_RX5_109) (fun _ h => h) dX5_rule_15 ?_
    refine lv_iload_n hx hb dX5_rule_18 rfl (lv_at hl 1 rfl) ?_
    obtain ⟨hi0, hf⟩ := ck_s hf
    refine va_ti hx hb (hz 1 (by decide)).2 h.2 (fb_in_vp hi0) (v := .int (fb_rl 1 a1.toNatClampNeg)) rfl dX5_rule_19 ?_
    obtain ⟨q2, hq2, hf⟩ := bd_s hf
    refine fb_ci X h (fb_runS (As := [.int a2, .int (fb_rl 0 a1.toNatClampNeg), .int (fb_rl 1 a1.toNatClampNeg)]) (rest := []) X h (c_X5_isWithin l X.2.2.1 (fun k hk => absurd hk List.not_mem_nil) a2 (fb_rl 0 a1.toNatClampNeg) (fb_rl 1 a1.toNatClampNeg) σ hq2) mf_yX5_isWithin lm_RX5_48 ⟨Nat.le_of_ble_eq_true rfl, Nat.le_of_ble_eq_true rfl⟩ ⟨Nat.le_refl _, Nat.le_refl _⟩ rfl hl.1 rfl (Nat.le_of_ble_eq_true rfl) dX5_rule_20) (fun H locs h => ?_)
    refine lv_if_ne hx hb dX5_rule_23 (tgt := 29) (by decide) (fun hc => ?_) (fun hc => ?_)
    · have hf := if_f hc hf
      refine lv_aload_n hx hb dX5_rule_29 rfl (lv_at hl 0 rfl) ?_
      refine gt_RX5_30 X h (hks 0 (by decide)) dX5_rule_30 ?_
      obtain ⟨q3, hq3, hf⟩ := bd_s hf
      refine fb_cv X h (fb_runVN (As := []) (rest := []) (k := 11) X h (c_X1_forgetChoice l X.2.2.1 (fun k hk => hks k ((by decide : ∀ k ∈ ([11] : List Nat), k ∈ ([0, 1, 11] : List Nat)) k hk))  σ hq3) mf_yX1_forgetChoice lm_RX5_91 (hks 11 (by decide)) rfl rfl ⟨Nat.le_of_ble_eq_true rfl, Nat.le_of_ble_eq_true rfl⟩ ⟨Nat.le_refl _, Nat.le_refl _⟩ rfl hl.1 rfl (Nat.le_of_ble_eq_true rfl) dX5_rule_33) (fun H locs h => ?_)
      refine lv_aload_n hx hb dX5_rule_36 rfl (lv_at hl 0 rfl) ?_
      refine gt_RX5_7 X h (hks 0 (by decide)) dX5_rule_37 ?_
      refine lv_iload_n hx hb dX5_rule_40 rfl (lv_at hl 1 rfl) ?_
      refine lv_iload_n hx hb dX5_rule_41 rfl (lv_at hl 2 rfl) ?_
      obtain ⟨q4, hq4, hf⟩ := bd_s hf
      refine fb_ci X h (fb_runS (As := [.ref (g.1 1), .int a1, .int a2]) (rest := []) X h (c_X5_exchange l X.2.2.1 (fun k hk => absurd hk List.not_mem_nil) (ka := 1) (by decide) (hks 1 (by decide)) 1 a1 a2 q3 hq4) mf_yX5_exchange lm_RX5_63 ⟨Nat.le_of_ble_eq_true rfl, Nat.le_of_ble_eq_true rfl⟩ ⟨Nat.le_refl _, Nat.le_refl _⟩ rfl hl.1 rfl (Nat.le_of_ble_eq_true rfl) dX5_rule_42) (fun H locs h => ?_)
      have e9 := Option.some.inj hf
      subst e9
      exact fb_ir X h hr hlk dX5_rule_45
    · have hf := if_t hc hf
      refine lv_bipush hx hb dX5_rule_26 kb_m2 ?_
      have e9 := Option.some.inj hf
      subst e9
      exact fb_ir X h hr hlk dX5_rule_28
def f_X1_addOfBuilt_L4 (N : Nat) (σ : fb_S) : Nat → Int32 → Int32 → Option Int32
  | 0, _, _ => none
  | n + 1, v1, v2 => 
    if (σ.1 11 5) ≤ v2 then (
      some v1
    ) else (
      ck_ (fb_in v2 10) <|
      ck_ (fb_in v2 10) <|
      nm_ (v1 + ((σ.1 15 v2.toNatClampNeg) * (σ.1 12 v2.toNatClampNeg))) fun x1 =>
      f_X1_addOfBuilt_L4 N σ n x1 (v2 + 1)
    )
def f_X1_addOfBuilt (N : Nat)  (σ : fb_S) : Option Int32 :=
  f_X1_addOfBuilt_L4 N σ N (0 : Int32) (0 : Int32)
set_option maxHeartbeats 4000000 in
set_option maxRecDepth 100000 in
theorem w_X1_addOfBuilt_L4 (X : fb_X p m c cX1_addOfBuilt 3 s args RX1 g ks (fb_A g ks)) (hks : ∀ k ∈ ([11, 12, 15] : List Nat), k ∈ ks) (hr : meth.sig.returnType = (some .int)) (hlk : meth.locks = false) (N : Nat) (σ : fb_S)  {res : Int32} : ∀ (n : Nat) (v1 : Int32) (v2 : Int32) (H : Heap) (locs : List Loc) (ls : Array Slot), fb_H g ks (fb_A g ks) s.heap σ H locs → lv_has ls 3 [(0, .ref (g.1 11)), (1, .int v1), (2, .int v2)] → f_X1_addOfBuilt_L4 N σ n v1 v2 = some res → W p l e (fb_R 0 0) s m args below meth c H locs 0 0 (MQ below (fb_Qi g ks res σ) args s 0 0 (fb_A g ks)) (F0 m 4 ls []) := by
  have hx := X.1.1
  have hb := X.1.2.1
  intro n
  induction n with
  | zero => intro v1 v2 H locs ls h hl hf; cases hf
  | succ n ih =>
    intro v1 v2 H locs ls h hl hf
    unfold f_X1_addOfBuilt_L4 at hf
    refine lv_iload_n hx hb dX1_addOfBuilt_4 rfl (lv_at hl 2 rfl) ?_
    refine lv_aload_n hx hb dX1_addOfBuilt_5 rfl (lv_at hl 0 rfl) ?_
    refine gt_RX1_34 X h (hks 11 (by decide)) dX1_addOfBuilt_6 ?_
    refine lv_icmp_ge hx hb dX1_addOfBuilt_9 (tgt := 34) (by decide) (fun hc => ?_) (fun hc => ?_)
    · have hf := if_t hc hf
      refine lv_iload_n hx hb dX1_addOfBuilt_34 rfl (lv_at hl 1 rfl) ?_
      have e9 := Option.some.inj hf
      subst e9
      exact fb_ir X h hr hlk dX1_addOfBuilt_35
    · have hf := if_f hc hf
      refine lv_iload_n hx hb dX1_addOfBuilt_12 rfl (lv_at hl 1 rfl) ?_
      refine lv_aload_n hx hb dX1_addOfBuilt_13 rfl (lv_at hl 0 rfl) ?_
      refine gt_RX1_21 X h (hks 11 (by decide)) dX1_addOfBuilt_14 ?_
      refine lv_iload_n hx hb dX1_addOfBuilt_17 rfl (lv_at hl 2 rfl) ?_
      obtain ⟨hi0, hf⟩ := ck_s hf
      refine fb_iald X h (hks 15 (by decide)) rfl hi0 dX1_addOfBuilt_18 ?_
      refine lv_aload_n hx hb dX1_addOfBuilt_19 rfl (lv_at hl 0 rfl) ?_
      refine gt_RX1_11 X h (hks 11 (by decide)) dX1_addOfBuilt_20 ?_
      refine lv_iload_n hx hb dX1_addOfBuilt_23 rfl (lv_at hl 2 rfl) ?_
      obtain ⟨hi0, hf⟩ := ck_s hf
      refine fb_iald X h (hks 12 (by decide)) rfl hi0 dX1_addOfBuilt_24 ?_
      refine lv_imul hx hb dX1_addOfBuilt_25 ?_
      refine lv_iadd hx hb dX1_addOfBuilt_26 ?_
      obtain ⟨x1, ex1, hf⟩ := nm_s hf
      refine fb_topi ex1 ?_
      refine lv_istore_n hx hb dX1_addOfBuilt_27 rfl hl (by decide) (lv' := [(1, .int x1), (0, .ref (g.1 11)), (2, .int v2)]) rfl (fun ls hl => ?_)
      refine lv_iinc hx hb dX1_addOfBuilt_28 hl (k := 2) rfl (kinc_1 _) (by decide) (lv' := [(2, .int (v2 + 1)), (1, .int x1), (0, .ref (g.1 11))]) rfl (fun ls hl => ?_)
      refine lv_goto hx hb dX1_addOfBuilt_31 (tgt := 4) (by decide) ?_
      exact ih x1 (v2 + 1) _ _ _ h (lv_sub hl [2, 1, 0] rfl) hf
set_option maxHeartbeats 4000000 in
set_option maxRecDepth 100000 in
theorem c_X1_addOfBuilt (l : Launch) {g : fb_G} {ks : List Nat} (hI : fb_I g ks) (hks : ∀ k ∈ ([11, 12, 15] : List Nat), k ∈ ks) (N : Nat) (σ : fb_S) {res : Int32} (hf : f_X1_addOfBuilt N σ = some res) : fb_M l yX1_addOfBuilt cX1_addOfBuilt 3 (some .int) 0 0 g ks [.ref (g.1 11)] σ (fb_Qi g ks res σ) := by
  refine fb_met (by decide +kernel) hI (Nat.le_of_ble_eq_true rfl) (fun p e s m below meth c ls X h hr hlk hl => ?_)
  have X : fb_X p m c cX1_addOfBuilt 3 s _ RX1 g ks (fb_A g ks) := X
  have hl : lv_has ls 3 [(0, .ref (g.1 11))] := hl
  have hx := X.1.1
  have hb := X.1.2.1
  unfold f_X1_addOfBuilt at hf
  refine lv_iconst hx hb dX1_addOfBuilt_0 ki_0 ?_
  refine lv_istore_n hx hb dX1_addOfBuilt_1 rfl hl (by decide) (lv' := [(1, .int (0)), (0, .ref (g.1 11))]) rfl (fun ls hl => ?_)
  refine lv_iconst hx hb dX1_addOfBuilt_2 ki_0 ?_
  refine lv_istore_n hx hb dX1_addOfBuilt_3 rfl hl (by decide) (lv' := [(2, .int (0)), (1, .int (0)), (0, .ref (g.1 11))]) rfl (fun ls hl => ?_)
  exact w_X1_addOfBuilt_L4 X hks hr hlk N σ N (0 : Int32) (0 : Int32) _ _ _ h (lv_sub hl [2, 1, 0] rfl) hf
def f_X5_allDamping (N : Nat)  (σ : fb_S) : Option Int32 :=
  (f_X1_addOfBuilt N σ).bind fun q1 =>
  some ((σ.1 1 0) + q1)
set_option maxHeartbeats 4000000 in
set_option maxRecDepth 100000 in
theorem c_X5_allDamping (l : Launch) {g : fb_G} {ks : List Nat} (hI : fb_I g ks) (hks : ∀ k ∈ ([0, 1, 11, 12, 15] : List Nat), k ∈ ks) (N : Nat) (σ : fb_S) {res : Int32} (hf : f_X5_allDamping N σ = some res) : fb_M l yX5_allDamping cX5_allDamping 1 (some .int) 1 22 g ks [.ref (g.1 0)] σ (fb_Qi g ks res σ) := by
  refine fb_met (by decide +kernel) hI (Nat.le_of_ble_eq_true rfl) (fun p e s m below meth c ls X h hr hlk hl => ?_)
  have X : fb_X p m c cX5_allDamping 1 s _ RX5 g ks (fb_A g ks) := X
  have hl : lv_has ls 1 [(0, .ref (g.1 0))] := hl
  have hx := X.1.1
  have hb := X.1.2.1
  unfold f_X5_allDamping at hf
  refine lv_aload_n hx hb dX5_allDamping_0 rfl (lv_at hl 0 rfl) ?_
  refine gt_RX5_7 X h (hks 0 (by decide)) dX5_allDamping_1 ?_
  refine lv_iconst hx hb dX5_allDamping_4 ki_0 ?_
  refine fb_ialdL X h (hks 1 (by decide)) rfl (by decide) kn_0 dX5_allDamping_5 ?_
  refine lv_aload_n hx hb dX5_allDamping_6 rfl (lv_at hl 0 rfl) ?_
  refine gt_RX5_30 X h (hks 0 (by decide)) dX5_allDamping_7 ?_
  obtain ⟨q1, hq1, hf⟩ := bd_s hf
  refine fb_ci X h (fb_runVN (As := []) (rest := [.int (σ.1 1 0)]) (k := 11) X h (c_X1_addOfBuilt l X.2.2.1 (fun k hk => hks k ((by decide : ∀ k ∈ ([11, 12, 15] : List Nat), k ∈ ([0, 1, 11, 12, 15] : List Nat)) k hk)) N σ hq1) mf_yX1_addOfBuilt lm_RX5_235 (hks 11 (by decide)) rfl rfl ⟨Nat.le_of_ble_eq_true rfl, Nat.le_of_ble_eq_true rfl⟩ ⟨Nat.le_refl _, Nat.le_refl _⟩ rfl hl.1 rfl (Nat.le_of_ble_eq_true rfl) dX5_allDamping_10) (fun H locs h => ?_)
  refine lv_iadd hx hb dX5_allDamping_13 ?_
  have e9 := Option.some.inj hf
  subst e9
  exact fb_ir X h hr hlk dX5_allDamping_14
def f_X4_isInStep (a1 : Int32) (a2 : Int32) (σ : fb_S) : Option Int32 :=
  ck_ (fb_in a1 4) <|
  if a2 < (σ.1 8 a1.toNatClampNeg) then (
    some (0 : Int32)
  ) else (
    ck_ (fb_in a1 4) <|
    if (σ.1 9 a1.toNatClampNeg) < a2 then (
      some (0 : Int32)
    ) else (
      some (1 : Int32)
    )
  )
set_option maxHeartbeats 4000000 in
set_option maxRecDepth 100000 in
theorem c_X4_isInStep (l : Launch) {g : fb_G} {ks : List Nat} (hI : fb_I g ks) (hks : ∀ k ∈ ([6, 8, 9] : List Nat), k ∈ ks) (a1 : Int32) (a2 : Int32) (σ : fb_S) {res : Int32} (hf : f_X4_isInStep a1 a2 σ = some res) : fb_M l yX4_isInStep cX4_isInStep 3 (some .boolean) 0 0 g ks [.ref (g.1 6), .int a1, .int a2] σ (fb_Qi g ks res σ) := by
  refine fb_met (by decide +kernel) hI (Nat.le_of_ble_eq_true rfl) (fun p e s m below meth c ls X h hr hlk hl => ?_)
  have X : fb_X p m c cX4_isInStep 3 s _ RX4 g ks (fb_A g ks) := X
  have hl : lv_has ls 3 [(0, .ref (g.1 6)), (1, .int a1), (2, .int a2)] := hl
  have hx := X.1.1
  have hb := X.1.2.1
  unfold f_X4_isInStep at hf
  refine lv_iload_n hx hb dX4_isInStep_0 rfl (lv_at hl 2 rfl) ?_
  refine lv_aload_n hx hb dX4_isInStep_1 rfl (lv_at hl 0 rfl) ?_
  refine gt_RX4_15 X h (hks 6 (by decide)) dX4_isInStep_2 ?_
  refine lv_iload_n hx hb dX4_isInStep_5 rfl (lv_at hl 1 rfl) ?_
  obtain ⟨hi0, hf⟩ := ck_s hf
  refine fb_iald X h (hks 8 (by decide)) rfl hi0 dX4_isInStep_6 ?_
  refine lv_icmp_lt hx hb dX4_isInStep_7 (tgt := 24) (by decide) (fun hc => ?_) (fun hc => ?_)
  · have hf := if_t hc hf
    refine lv_iconst hx hb dX4_isInStep_24 ki_0 ?_
    have e9 := Option.some.inj hf
    subst e9
    exact fb_zr (r := (0 : Int32)) X h hr rfl hlk dX4_isInStep_25
  · have hf := if_f hc hf
    refine lv_iload_n hx hb dX4_isInStep_10 rfl (lv_at hl 2 rfl) ?_
    refine lv_aload_n hx hb dX4_isInStep_11 rfl (lv_at hl 0 rfl) ?_
    refine gt_RX4_18 X h (hks 6 (by decide)) dX4_isInStep_12 ?_
    refine lv_iload_n hx hb dX4_isInStep_15 rfl (lv_at hl 1 rfl) ?_
    obtain ⟨hi0, hf⟩ := ck_s hf
    refine fb_iald X h (hks 9 (by decide)) rfl hi0 dX4_isInStep_16 ?_
    refine lv_icmp_gt hx hb dX4_isInStep_17 (tgt := 24) (by decide) (fun hc => ?_) (fun hc => ?_)
    · have hf := if_t hc hf
      refine lv_iconst hx hb dX4_isInStep_24 ki_0 ?_
      have e9 := Option.some.inj hf
      subst e9
      exact fb_zr (r := (0 : Int32)) X h hr rfl hlk dX4_isInStep_25
    · have hf := if_f hc hf
      refine lv_iconst hx hb dX4_isInStep_20 ki_1 ?_
      refine lv_goto hx hb dX4_isInStep_21 (tgt := 25) (by decide) ?_
      have e9 := Option.some.inj hf
      subst e9
      exact fb_zr (r := (1 : Int32)) X h hr rfl hlk dX4_isInStep_25
def f_X4_pushAt_L4 (N : Nat) (σ : fb_S) : Nat → Int32 → Int32 → Int32 → Option Int32
  | 0, _, _, _ => none
  | n + 1, v1, v2, v3 => 
    if (4 : Int32) ≤ v3 then (
      some v2
    ) else (
      (f_X4_isInStep v3 v1 σ).bind fun q1 =>
      if q1 = 0 then (
        f_X4_pushAt_L4 N σ n v1 v2 (v3 + 1)
      ) else (
        ck_ (fb_in v3 4) <|
        ck_ (fb_in v3 4) <|
        nm_ (v2 + ((σ.1 10 v3.toNatClampNeg) * (σ.1 7 v3.toNatClampNeg))) fun x2 =>
        f_X4_pushAt_L4 N σ n v1 x2 (v3 + 1)
      )
    )
def f_X4_pushAt (N : Nat) (a1 : Int32) (σ : fb_S) : Option Int32 :=
  f_X4_pushAt_L4 N σ N a1 (0 : Int32) (0 : Int32)
set_option maxHeartbeats 4000000 in
set_option maxRecDepth 100000 in
theorem w_X4_pushAt_L4 (X : fb_X p m c cX4_pushAt 4 s args RX4 g ks (fb_A g ks)) (hks : ∀ k ∈ ([6, 7, 8, 9, 10] : List Nat), k ∈ ks) (hr : meth.sig.returnType = (some .int)) (hlk : meth.locks = false) (N : Nat) (σ : fb_S)  {res : Int32} : ∀ (n : Nat) (v1 : Int32) (v2 : Int32) (v3 : Int32) (H : Heap) (locs : List Loc) (ls : Array Slot), fb_H g ks (fb_A g ks) s.heap σ H locs → lv_has ls 4 [(0, .ref (g.1 6)), (1, .int v1), (2, .int v2), (3, .int v3)] → f_X4_pushAt_L4 N σ n v1 v2 v3 = some res → W p l e (fb_R 1 22) s m args below meth c H locs 0 0 (MQ below (fb_Qi g ks res σ) args s 0 0 (fb_A g ks)) (F0 m 4 ls []) := by
  have hx := X.1.1
  have hb := X.1.2.1
  intro n
  induction n with
  | zero => intro v1 v2 v3 H locs ls h hl hf; cases hf
  | succ n ih =>
    intro v1 v2 v3 H locs ls h hl hf
    unfold f_X4_pushAt_L4 at hf
    refine lv_iload_n hx hb dX4_pushAt_4 rfl (lv_at hl 3 rfl) ?_
    refine lv_iconst hx hb dX4_pushAt_5 ki_4 ?_
    refine lv_icmp_ge hx hb dX4_pushAt_6 (tgt := 40) (by decide) (fun hc => ?_) (fun hc => ?_)
    · have hf := if_t hc hf
      refine lv_iload_n hx hb dX4_pushAt_40 rfl (lv_at hl 2 rfl) ?_
      have e9 := Option.some.inj hf
      subst e9
      exact fb_ir X h hr hlk dX4_pushAt_41
    · have hf := if_f hc hf
      refine lv_aload_n hx hb dX4_pushAt_9 rfl (lv_at hl 0 rfl) ?_
      refine lv_iload_n hx hb dX4_pushAt_10 rfl (lv_at hl 3 rfl) ?_
      refine lv_iload_n hx hb dX4_pushAt_11 rfl (lv_at hl 1 rfl) ?_
      obtain ⟨q1, hq1, hf⟩ := bd_s hf
      refine fb_ci X h (fb_runV (As := [.int v3, .int v1]) (rest := []) (k := 6) X h (c_X4_isInStep l X.2.2.1 (fun k hk => hks k ((by decide : ∀ k ∈ ([6, 8, 9] : List Nat), k ∈ ([6, 7, 8, 9, 10] : List Nat)) k hk)) v3 v1 σ hq1) mf_yX4_isInStep lm_RX4_24 (hks 6 (by decide)) rfl rfl ⟨Nat.le_of_ble_eq_true rfl, Nat.le_of_ble_eq_true rfl⟩ ⟨Nat.le_refl _, Nat.le_refl _⟩ rfl hl.1 rfl (Nat.le_of_ble_eq_true rfl) dX4_pushAt_12) (fun H locs h => ?_)
      refine lv_if_eq hx hb dX4_pushAt_15 (tgt := 34) (by decide) (fun hc => ?_) (fun hc => ?_)
      · have hf := if_t hc hf
        refine lv_iinc hx hb dX4_pushAt_34 hl (k := 3) rfl (kinc_1 _) (by decide) (lv' := [(3, .int (v3 + 1)), (0, .ref (g.1 6)), (1, .int v1), (2, .int v2)]) rfl (fun ls hl => ?_)
        refine lv_goto hx hb dX4_pushAt_37 (tgt := 4) (by decide) ?_
        exact ih v1 v2 (v3 + 1) _ _ _ h (lv_sub hl [1, 2, 3, 0] rfl) hf
      · have hf := if_f hc hf
        refine lv_iload_n hx hb dX4_pushAt_18 rfl (lv_at hl 2 rfl) ?_
        refine lv_aload_n hx hb dX4_pushAt_19 rfl (lv_at hl 0 rfl) ?_
        refine gt_RX4_21 X h (hks 6 (by decide)) dX4_pushAt_20 ?_
        refine lv_iload_n hx hb dX4_pushAt_23 rfl (lv_at hl 3 rfl) ?_
        obtain ⟨hi0, hf⟩ := ck_s hf
        refine fb_iald X h (hks 10 (by decide)) rfl hi0 dX4_pushAt_24 ?_
        refine lv_aload_n hx hb dX4_pushAt_25 rfl (lv_at hl 0 rfl) ?_
        refine gt_RX4_11 X h (hks 6 (by decide)) dX4_pushAt_26 ?_
        refine lv_iload_n hx hb dX4_pushAt_29 rfl (lv_at hl 3 rfl) ?_
        obtain ⟨hi0, hf⟩ := ck_s hf
        refine fb_iald X h (hks 7 (by decide)) rfl hi0 dX4_pushAt_30 ?_
        refine lv_imul hx hb dX4_pushAt_31 ?_
        refine lv_iadd hx hb dX4_pushAt_32 ?_
        obtain ⟨x2, ex2, hf⟩ := nm_s hf
        refine fb_topi ex2 ?_
        refine lv_istore_n hx hb dX4_pushAt_33 rfl hl (by decide) (lv' := [(2, .int x2), (0, .ref (g.1 6)), (1, .int v1), (3, .int v3)]) rfl (fun ls hl => ?_)
        refine lv_iinc hx hb dX4_pushAt_34 hl (k := 3) rfl (kinc_1 _) (by decide) (lv' := [(3, .int (v3 + 1)), (2, .int x2), (0, .ref (g.1 6)), (1, .int v1)]) rfl (fun ls hl => ?_)
        refine lv_goto hx hb dX4_pushAt_37 (tgt := 4) (by decide) ?_
        exact ih v1 x2 (v3 + 1) _ _ _ h (lv_sub hl [2, 3, 1, 0] rfl) hf
set_option maxHeartbeats 4000000 in
set_option maxRecDepth 100000 in
theorem c_X4_pushAt (l : Launch) {g : fb_G} {ks : List Nat} (hI : fb_I g ks) (hks : ∀ k ∈ ([6, 7, 8, 9, 10] : List Nat), k ∈ ks) (N : Nat) (a1 : Int32) (σ : fb_S) {res : Int32} (hf : f_X4_pushAt N a1 σ = some res) : fb_M l yX4_pushAt cX4_pushAt 4 (some .int) 1 22 g ks [.ref (g.1 6), .int a1] σ (fb_Qi g ks res σ) := by
  refine fb_met (by decide +kernel) hI (Nat.le_of_ble_eq_true rfl) (fun p e s m below meth c ls X h hr hlk hl => ?_)
  have X : fb_X p m c cX4_pushAt 4 s _ RX4 g ks (fb_A g ks) := X
  have hl : lv_has ls 4 [(0, .ref (g.1 6)), (1, .int a1)] := hl
  have hx := X.1.1
  have hb := X.1.2.1
  unfold f_X4_pushAt at hf
  refine lv_iconst hx hb dX4_pushAt_0 ki_0 ?_
  refine lv_istore_n hx hb dX4_pushAt_1 rfl hl (by decide) (lv' := [(2, .int (0)), (0, .ref (g.1 6)), (1, .int a1)]) rfl (fun ls hl => ?_)
  refine lv_iconst hx hb dX4_pushAt_2 ki_0 ?_
  refine lv_istore_n hx hb dX4_pushAt_3 rfl hl (by decide) (lv' := [(3, .int (0)), (2, .int (0)), (0, .ref (g.1 6)), (1, .int a1)]) rfl (fun ls hl => ?_)
  exact w_X4_pushAt_L4 X hks hr hlk N σ N a1 (0 : Int32) (0 : Int32) _ _ _ h (lv_sub hl [2, 3, 1, 0] rfl) hf
def f_X4_netAt (N : Nat) (a1 : Int32) (a2 : Int32) (σ : fb_S) : Option Int32 :=
  (f_X4_pushAt N a1 σ).bind fun q1 =>
  some ((q1 / (100 : Int32)) - a2)
set_option maxHeartbeats 4000000 in
set_option maxRecDepth 100000 in
theorem c_X4_netAt (l : Launch) {g : fb_G} {ks : List Nat} (hI : fb_I g ks) (hks : ∀ k ∈ ([6, 7, 8, 9, 10] : List Nat), k ∈ ks) (N : Nat) (a1 : Int32) (a2 : Int32) (σ : fb_S) {res : Int32} (hf : f_X4_netAt N a1 a2 σ = some res) : fb_M l yX4_netAt cX4_netAt 3 (some .int) 2 45 g ks [.ref (g.1 6), .int a1, .int a2] σ (fb_Qi g ks res σ) := by
  refine fb_met (by decide +kernel) hI (Nat.le_of_ble_eq_true rfl) (fun p e s m below meth c ls X h hr hlk hl => ?_)
  have X : fb_X p m c cX4_netAt 3 s _ RX4 g ks (fb_A g ks) := X
  have hl : lv_has ls 3 [(0, .ref (g.1 6)), (1, .int a1), (2, .int a2)] := hl
  have hx := X.1.1
  have hb := X.1.2.1
  unfold f_X4_netAt at hf
  refine lv_aload_n hx hb dX4_netAt_0 rfl (lv_at hl 0 rfl) ?_
  refine lv_iload_n hx hb dX4_netAt_1 rfl (lv_at hl 1 rfl) ?_
  obtain ⟨q1, hq1, hf⟩ := bd_s hf
  refine fb_ci X h (fb_runV (As := [.int a1]) (rest := []) (k := 6) X h (c_X4_pushAt l X.2.2.1 (fun k hk => hks k ((by decide : ∀ k ∈ ([6, 7, 8, 9, 10] : List Nat), k ∈ ([6, 7, 8, 9, 10] : List Nat)) k hk)) N a1 σ hq1) mf_yX4_pushAt lm_RX4_28 (hks 6 (by decide)) rfl rfl ⟨Nat.le_of_ble_eq_true rfl, Nat.le_of_ble_eq_true rfl⟩ ⟨Nat.le_refl _, Nat.le_refl _⟩ rfl hl.1 rfl (Nat.le_of_ble_eq_true rfl) dX4_netAt_2) (fun H locs h => ?_)
  refine lv_bipush hx hb dX4_netAt_5 kb_100 ?_
  refine lv_idiv hx hb dX4_netAt_7 (by decide) ?_
  refine lv_iload_n hx hb dX4_netAt_8 rfl (lv_at hl 2 rfl) ?_
  refine lv_isub hx hb dX4_netAt_9 ?_
  have e9 := Option.some.inj hf
  subst e9
  exact fb_ir X h hr hlk dX4_netAt_10
def f_X5_net (N : Nat) (a1 : Int32) (σ : fb_S) : Option Int32 :=
  (f_X5_isSway a1).bind fun q1 =>
  if q1 = 0 then (
    some (-2 : Int32)
  ) else (
    (f_X5_allDamping N σ).bind fun q2 =>
    (f_X4_netAt N a1 q2 σ).bind fun q3 =>
    some (q3 + (100000 : Int32))
  )
set_option maxHeartbeats 4000000 in
set_option maxRecDepth 100000 in
theorem c_X5_net (l : Launch) {g : fb_G} {ks : List Nat} (hI : fb_I g ks) (hks : ∀ k ∈ ([0, 1, 6, 7, 8, 9, 10, 11, 12, 15] : List Nat), k ∈ ks) (N : Nat) (a1 : Int32) (σ : fb_S) {res : Int32} (hf : f_X5_net N a1 σ = some res) : fb_M l yX5_net cX5_net 2 (some .int) 3 67 g ks [.ref (g.1 0), .int a1] σ (fb_Qi g ks res σ) := by
  refine fb_met (by decide +kernel) hI (Nat.le_of_ble_eq_true rfl) (fun p e s m below meth c ls X h hr hlk hl => ?_)
  have X : fb_X p m c cX5_net 2 s _ RX5 g ks (fb_A g ks) := X
  have hl : lv_has ls 2 [(0, .ref (g.1 0)), (1, .int a1)] := hl
  have hx := X.1.1
  have hb := X.1.2.1
  unfold f_X5_net at hf
  refine lv_iload_n hx hb dX5_net_0 rfl (lv_at hl 1 rfl) ?_
  obtain ⟨q1, hq1, hf⟩ := bd_s hf
  refine fb_ci X h (fb_runS (As := [.int a1]) (rest := []) X h (c_X5_isSway l X.2.2.1 (fun k hk => absurd hk List.not_mem_nil) a1 σ hq1) mf_yX5_isSway lm_RX5_88 ⟨Nat.le_of_ble_eq_true rfl, Nat.le_of_ble_eq_true rfl⟩ ⟨Nat.le_refl _, Nat.le_refl _⟩ rfl hl.1 rfl (Nat.le_of_ble_eq_true rfl) dX5_net_1) (fun H locs h => ?_)
  refine lv_if_eq hx hb dX5_net_4 (tgt := 25) (by decide) (fun hc => ?_) (fun hc => ?_)
  · have hf := if_t hc hf
    refine lv_bipush hx hb dX5_net_25 kb_m2 ?_
    have e9 := Option.some.inj hf
    subst e9
    exact fb_ir X h hr hlk dX5_net_27
  · have hf := if_f hc hf
    refine lv_aload_n hx hb dX5_net_7 rfl (lv_at hl 0 rfl) ?_
    refine gt_RX5_23 X h (hks 0 (by decide)) dX5_net_8 ?_
    refine lv_iload_n hx hb dX5_net_11 rfl (lv_at hl 1 rfl) ?_
    refine lv_aload_n hx hb dX5_net_12 rfl (lv_at hl 0 rfl) ?_
    obtain ⟨q2, hq2, hf⟩ := bd_s hf
    refine fb_ci X h (fb_runV (As := []) (rest := [.int a1, .ref (g.1 6)]) (k := 0) X h (c_X5_allDamping l X.2.2.1 (fun k hk => hks k ((by decide : ∀ k ∈ ([0, 1, 11, 12, 15] : List Nat), k ∈ ([0, 1, 6, 7, 8, 9, 10, 11, 12, 15] : List Nat)) k hk)) N σ hq2) mf_yX5_allDamping lm_RX5_112 (hks 0 (by decide)) rfl rfl ⟨Nat.le_of_ble_eq_true rfl, Nat.le_of_ble_eq_true rfl⟩ ⟨Nat.le_refl _, Nat.le_refl _⟩ rfl hl.1 rfl (Nat.le_of_ble_eq_true rfl) dX5_net_13) (fun H locs h => ?_)
    obtain ⟨q3, hq3, hf⟩ := bd_s hf
    refine fb_ci X h (fb_runVN (As := [.int a1, .int q2]) (rest := []) (k := 6) X h (c_X4_netAt l X.2.2.1 (fun k hk => hks k ((by decide : ∀ k ∈ ([6, 7, 8, 9, 10] : List Nat), k ∈ ([0, 1, 6, 7, 8, 9, 10, 11, 12, 15] : List Nat)) k hk)) N a1 q2 σ hq3) mf_yX4_netAt lm_RX5_116 (hks 6 (by decide)) rfl rfl ⟨Nat.le_of_ble_eq_true rfl, Nat.le_of_ble_eq_true rfl⟩ ⟨Nat.le_refl _, Nat.le_refl _⟩ rfl hl.1 rfl (Nat.le_of_ble_eq_true rfl) dX5_net_16) (fun H locs h => ?_)
    refine lv_ldc hx hb X.1.2.2.2.1 (X.1.2.2.2.2 _ lc_RX5_120) dX5_net_19 ?_
    refine lv_iadd hx hb dX5_net_21 ?_
    refine lv_goto hx hb dX5_net_22 (tgt := 27) (by decide) ?_
    have e9 := Option.some.inj hf
    subst e9
    exact fb_ir X h hr hlk dX5_net_27
def f_J9_floorDiv_7cf53 (a1 : Int32) (a2 : Int32) : Option Int32 :=
  ck_ (a2 != 0) <|
  nm_ (a1 / a2) fun x1 =>
  if 0 ≤ (a1 ^^^ a2) then (
    some x1
  ) else (
    if (x1 * a2) = a1 then (
      some x1
    ) else (
      some (x1 - (1 : Int32))
    )
  )
set_option maxHeartbeats 4000000 in
set_option maxRecDepth 100000 in
theorem c_J9_floorDiv_7cf53 (l : Launch) {g : fb_G} {ks : List Nat} (hI : fb_I g ks) (hks : ∀ k ∈ ([] : List Nat), k ∈ ks) (a1 : Int32) (a2 : Int32) (σ : fb_S) {res : Int32} (hf : f_J9_floorDiv_7cf53 a1 a2 = some res) : fb_M l yJ9_floorDiv_7cf53 cJ9_floorDiv_7cf53 3 (some .int) 0 0 g ks [.int a1, .int a2] σ (fb_Qi g ks res σ) := by
  refine fb_metF (by decide +kernel) hI (Nat.le_of_ble_eq_true rfl) (fun p e s m below meth c ls X h hr hlk hl => ?_)
  have X : fb_X p m c cJ9_floorDiv_7cf53 3 s _ RJ9 g ks (fb_A g ks) := X
  have hl : lv_has ls 3 [(0, .int a1), (1, .int a2)] := hl
  have hx := X.1.1
  have hb := X.1.2.1
  unfold f_J9_floorDiv_7cf53 at hf
  refine lv_iload_n hx hb dJ9_floorDiv_7cf53_0 rfl (lv_at hl 0 rfl) ?_
  refine lv_iload_n hx hb dJ9_floorDiv_7cf53_1 rfl (lv_at hl 1 rfl) ?_
  obtain ⟨hz0, hf⟩ := ck_s hf
  refine lv_idiv hx hb dJ9_floorDiv_7cf53_2 (fb_nz hz0) ?_
  obtain ⟨x1, ex1, hf⟩ := nm_s hf
  refine fb_topi ex1 ?_
  refine lv_istore_n hx hb dJ9_floorDiv_7cf53_3 rfl hl (by decide) (lv' := [(2, .int x1), (0, .int a1), (1, .int a2)]) rfl (fun ls hl => ?_)
  refine lv_iload_n hx hb dJ9_floorDiv_7cf53_4 rfl (lv_at hl 1 rfl) ?_
  refine lv_iload_n hx hb dJ9_floorDiv_7cf53_5 rfl (lv_at hl 2 rfl) ?_
  refine lv_ixor hx hb dJ9_floorDiv_7cf53_6 ?_
  refine lv_if_ge hx hb dJ9_floorDiv_7cf53_7 (tgt := 21) (by decide) (fun hc => ?_) (fun hc => ?_)
  · have hf := if_t hc hf
    refine lv_iload_n hx hb dJ9_floorDiv_7cf53_21 rfl (lv_at hl 0 rfl) ?_
    have e9 := Option.some.inj hf
    subst e9
    exact fb_ir X h hr hlk dJ9_floorDiv_7cf53_22
  · have hf := if_f hc hf
    refine lv_iload_n hx hb dJ9_floorDiv_7cf53_10 rfl (lv_at hl 0 rfl) ?_
    refine lv_iload_n hx hb dJ9_floorDiv_7cf53_11 rfl (lv_at hl 2 rfl) ?_
    refine lv_imul hx hb dJ9_floorDiv_7cf53_12 ?_
    refine lv_iload_n hx hb dJ9_floorDiv_7cf53_13 rfl (lv_at hl 1 rfl) ?_
    refine lv_icmp_eq hx hb dJ9_floorDiv_7cf53_14 (tgt := 21) (by decide) (fun hc => ?_) (fun hc => ?_)
    · have hf := if_t hc hf
      refine lv_iload_n hx hb dJ9_floorDiv_7cf53_21 rfl (lv_at hl 0 rfl) ?_
      have e9 := Option.some.inj hf
      subst e9
      exact fb_ir X h hr hlk dJ9_floorDiv_7cf53_22
    · have hf := if_f hc hf
      refine lv_iload_n hx hb dJ9_floorDiv_7cf53_17 rfl (lv_at hl 0 rfl) ?_
      refine lv_iconst hx hb dJ9_floorDiv_7cf53_18 ki_1 ?_
      refine lv_isub hx hb dJ9_floorDiv_7cf53_19 ?_
      have e9 := Option.some.inj hf
      subst e9
      exact fb_ir X h hr hlk dJ9_floorDiv_7cf53_20
def f_X5_beat (a1 : Int32) (a2 : Int32) : Option Int32 :=
  (f_J9_floorDiv_7cf53 (a1 * a2) (1000 : Int32)).bind fun q1 =>
  nm_ (a1 + q1) fun x2 =>
  some (mx_ (0 : Int32) (mn_ (9999 : Int32) x2))
set_option maxHeartbeats 4000000 in
set_option maxRecDepth 100000 in
theorem c_X5_beat (l : Launch) {g : fb_G} {ks : List Nat} (hI : fb_I g ks) (hks : ∀ k ∈ ([] : List Nat), k ∈ ks) (a1 : Int32) (a2 : Int32) (σ : fb_S) {res : Int32} (hf : f_X5_beat a1 a2 = some res) : fb_M l yX5_beat cX5_beat 3 (some .int) 1 22 g ks [.int a1, .int a2] σ (fb_Qi g ks res σ) := by
  refine fb_met (by decide +kernel) hI (Nat.le_of_ble_eq_true rfl) (fun p e s m below meth c ls X h hr hlk hl => ?_)
  have X : fb_X p m c cX5_beat 3 s _ RX5 g ks (fb_A g ks) := X
  have hl : lv_has ls 3 [(0, .int a1), (1, .int a2)] := hl
  have hx := X.1.1
  have hb := X.1.2.1
  unfold f_X5_beat at hf
  refine lv_iload_n hx hb dX5_beat_0 rfl (lv_at hl 0 rfl) ?_
  refine lv_iload_n hx hb dX5_beat_1 rfl (lv_at hl 0 rfl) ?_
  refine lv_iload_n hx hb dX5_beat_2 rfl (lv_at hl 1 rfl) ?_
  refine lv_imul hx hb dX5_beat_3 ?_
  refine lv_sipush hx hb dX5_beat_4 ks_1000 ?_
  obtain ⟨q1, hq1, hf⟩ := bd_s hf
  refine fb_ci X h (fb_runS (As := [.int (a1 * a2), .int (1000)]) (rest := [.int a1]) X h (c_J9_floorDiv_7cf53 l X.2.2.1 (fun k hk => absurd hk List.not_mem_nil) (a1 * a2) (1000 : Int32) σ hq1) mf_yJ9_floorDiv_7cf53 lm_RX5_241 ⟨Nat.le_of_ble_eq_true rfl, Nat.le_of_ble_eq_true rfl⟩ ⟨Nat.le_refl _, Nat.le_refl _⟩ rfl hl.1 rfl (Nat.le_of_ble_eq_true rfl) dX5_beat_7) (fun H locs h => ?_)
  refine lv_iadd hx hb dX5_beat_10 ?_
  obtain ⟨x2, ex2, hf⟩ := nm_s hf
  refine fb_topi ex2 ?_
  refine lv_istore_n hx hb dX5_beat_11 rfl hl (by decide) (lv' := [(2, .int x2), (0, .int a1), (1, .int a2)]) rfl (fun ls hl => ?_)
  refine lv_iconst hx hb dX5_beat_12 ki_0 ?_
  refine lv_sipush hx hb dX5_beat_13 ks_9999 ?_
  refine lv_iload_n hx hb dX5_beat_16 rfl (lv_at hl 0 rfl) ?_
  refine fb_mnr X hl.1 lm_RX5_246 (Nat.le_of_ble_eq_true rfl) (Nat.le_of_ble_eq_true rfl) ⟨Nat.le_refl _, Nat.le_refl _⟩ dX5_beat_17 ?_
  refine fb_mxr X hl.1 lm_RX5_249 (Nat.le_of_ble_eq_true rfl) (Nat.le_of_ble_eq_true rfl) ⟨Nat.le_refl _, Nat.le_refl _⟩ dX5_beat_20 ?_
  have e9 := Option.some.inj hf
  subst e9
  exact fb_ir X h hr hlk dX5_beat_23
def f_X4_beatFrom (N : Nat) (a1 : Int32) (a2 : Int32) (σ : fb_S) : Option Int32 :=
  (f_X4_pushAt N a1 σ).bind fun q1 =>
  (f_X5_beat a1 ((q1 / (100 : Int32)) - a2)).bind fun q2 =>
  some q2
set_option maxHeartbeats 4000000 in
set_option maxRecDepth 100000 in
theorem c_X4_beatFrom (l : Launch) {g : fb_G} {ks : List Nat} (hI : fb_I g ks) (hks : ∀ k ∈ ([6, 7, 8, 9, 10] : List Nat), k ∈ ks) (N : Nat) (a1 : Int32) (a2 : Int32) (σ : fb_S) {res : Int32} (hf : f_X4_beatFrom N a1 a2 σ = some res) : fb_M l yX4_beatFrom cX4_beatFrom 3 (some .int) 2 45 g ks [.ref (g.1 6), .int a1, .int a2] σ (fb_Qi g ks res σ) := by
  refine fb_met (by decide +kernel) hI (Nat.le_of_ble_eq_true rfl) (fun p e s m below meth c ls X h hr hlk hl => ?_)
  have X : fb_X p m c cX4_beatFrom 3 s _ RX4 g ks (fb_A g ks) := X
  have hl : lv_has ls 3 [(0, .ref (g.1 6)), (1, .int a1), (2, .int a2)] := hl
  have hx := X.1.1
  have hb := X.1.2.1
  unfold f_X4_beatFrom at hf
  refine lv_iload_n hx hb dX4_beatFrom_0 rfl (lv_at hl 1 rfl) ?_
  refine lv_aload_n hx hb dX4_beatFrom_1 rfl (lv_at hl 0 rfl) ?_
  refine lv_iload_n hx hb dX4_beatFrom_2 rfl (lv_at hl 1 rfl) ?_
  obtain ⟨q1, hq1, hf⟩ := bd_s hf
  refine fb_ci X h (fb_runV (As := [.int a1]) (rest := [.int a1]) (k := 6) X h (c_X4_pushAt l X.2.2.1 (fun k hk => hks k ((by decide : ∀ k ∈ ([6, 7, 8, 9, 10] : List Nat), k ∈ ([6, 7, 8, 9, 10] : List Nat)) k hk)) N a1 σ hq1) mf_yX4_pushAt lm_RX4_28 (hks 6 (by decide)) rfl rfl ⟨Nat.le_of_ble_eq_true rfl, Nat.le_of_ble_eq_true rfl⟩ ⟨Nat.le_refl _, Nat.le_refl _⟩ rfl hl.1 rfl (Nat.le_of_ble_eq_true rfl) dX4_beatFrom_3) (fun H locs h => ?_)
  refine lv_bipush hx hb dX4_beatFrom_6 kb_100 ?_
  refine lv_idiv hx hb dX4_beatFrom_8 (by decide) ?_
  refine lv_iload_n hx hb dX4_beatFrom_9 rfl (lv_at hl 2 rfl) ?_
  refine lv_isub hx hb dX4_beatFrom_10 ?_
  obtain ⟨q2, hq2, hf⟩ := bd_s hf
  refine fb_ci X h (fb_runSN (As := [.int a1, .int ((q1 / (100 : Int32)) - a2)]) (rest := []) X h (c_X5_beat l X.2.2.1 (fun k hk => absurd hk List.not_mem_nil) a1 ((q1 / (100 : Int32)) - a2) σ hq2) mf_yX5_beat lm_RX4_32 ⟨Nat.le_of_ble_eq_true rfl, Nat.le_of_ble_eq_true rfl⟩ ⟨Nat.le_refl _, Nat.le_refl _⟩ rfl hl.1 rfl (Nat.le_of_ble_eq_true rfl) dX4_beatFrom_11) (fun H locs h => ?_)
  have e9 := Option.some.inj hf
  subst e9
  exact fb_ir X h hr hlk dX4_beatFrom_14
def f_X4_swayBehind_L6 (N : Nat) (σ : fb_S) : Nat → Int32 → Int32 → Int32 → Int32 → Option Int32
  | 0, _, _, _, _ => none
  | n + 1, v2, v3, v4, v5 => 
    if v2 ≤ v5 then (
      some v4
    ) else (
      (f_X4_beatFrom N v4 v3 σ).bind fun q1 =>
      if q1 = v4 then (
        some q1
      ) else (
        f_X4_swayBehind_L6 N σ n v2 v3 q1 (v5 + 1)
      )
    )
def f_X4_swayBehind (N : Nat) (a1 : Int32) (a2 : Int32) (a3 : Int32) (σ : fb_S) : Option Int32 :=
  f_X4_swayBehind_L6 N σ N a2 a3 a1 (0 : Int32)
set_option maxHeartbeats 4000000 in
set_option maxRecDepth 100000 in
theorem w_X4_swayBehind_L6 (X : fb_X p m c cX4_swayBehind 7 s args RX4 g ks (fb_A g ks)) (hks : ∀ k ∈ ([6, 7, 8, 9, 10] : List Nat), k ∈ ks) (hr : meth.sig.returnType = (some .int)) (hlk : meth.locks = false) (N : Nat) (σ : fb_S)  {res : Int32} : ∀ (n : Nat) (v2 : Int32) (v3 : Int32) (v4 : Int32) (v5 : Int32) (H : Heap) (locs : List Loc) (ls : Array Slot), fb_H g ks (fb_A g ks) s.heap σ H locs → lv_has ls 7 [(0, .ref (g.1 6)), (2, .int v2), (3, .int v3), (4, .int v4), (5, .int v5)] → f_X4_swayBehind_L6 N σ n v2 v3 v4 v5 = some res → W p l e (fb_R 3 67) s m args below meth c H locs 0 0 (MQ below (fb_Qi g ks res σ) args s 0 0 (fb_A g ks)) (F0 m 6 ls []) := by
  have hx := X.1.1
  have hb := X.1.2.1
  intro n
  induction n with
  | zero => intro v2 v3 v4 v5 H locs ls h hl hf; cases hf
  | succ n ih =>
    intro v2 v3 v4 v5 H locs ls h hl hf
    unfold f_X4_swayBehind_L6 at hf
    refine lv_iload hx hb dX4_swayBehind_6 (lv_at hl 4 rfl) ?_
    refine lv_iload_n hx hb dX4_swayBehind_8 rfl (lv_at hl 1 rfl) ?_
    refine lv_icmp_ge hx hb dX4_swayBehind_9 (tgt := 41) (by decide) (fun hc => ?_) (fun hc => ?_)
    · have hf := if_t hc hf
      refine lv_iload hx hb dX4_swayBehind_41 (lv_at hl 3 rfl) ?_
      have e9 := Option.some.inj hf
      subst e9
      exact fb_ir X h hr hlk dX4_swayBehind_43
    · have hf := if_f hc hf
      refine lv_iload hx hb dX4_swayBehind_12 (lv_at hl 3 rfl) ?_
      refine lv_istore hx hb dX4_swayBehind_14 hl (by decide) (lv' := [(6, .int v4), (0, .ref (g.1 6)), (2, .int v2), (3, .int v3), (4, .int v4), (5, .int v5)]) rfl (fun ls hl => ?_)
      refine lv_aload_n hx hb dX4_swayBehind_16 rfl (lv_at hl 1 rfl) ?_
      refine lv_iload hx hb dX4_swayBehind_17 (lv_at hl 0 rfl) ?_
      refine lv_iload_n hx hb dX4_swayBehind_19 rfl (lv_at hl 3 rfl) ?_
      obtain ⟨q1, hq1, hf⟩ := bd_s hf
      refine fb_ci X h (fb_runV (As := [.int v4, .int v3]) (rest := []) (k := 6) X h (c_X4_beatFrom l X.2.2.1 (fun k hk => hks k ((by decide : ∀ k ∈ ([6, 7, 8, 9, 10] : List Nat), k ∈ ([6, 7, 8, 9, 10] : List Nat)) k hk)) N v4 v3 σ hq1) mf_yX4_beatFrom lm_RX4_36 (hks 6 (by decide)) rfl rfl ⟨Nat.le_of_ble_eq_true rfl, Nat.le_of_ble_eq_true rfl⟩ ⟨Nat.le_refl _, Nat.le_refl _⟩ rfl hl.1 rfl (Nat.le_of_ble_eq_true rfl) dX4_swayBehind_20) (fun H locs h => ?_)
      refine lv_istore hx hb dX4_swayBehind_23 hl (by decide) (lv' := [(4, .int q1), (6, .int v4), (0, .ref (g.1 6)), (2, .int v2), (3, .int v3), (5, .int v5)]) rfl (fun ls hl => ?_)
      refine lv_iload hx hb dX4_swayBehind_25 (lv_at hl 0 rfl) ?_
      refine lv_iload hx hb dX4_swayBehind_27 (lv_at hl 1 rfl) ?_
      refine lv_icmp_ne hx hb dX4_swayBehind_29 (tgt := 35) (by decide) (fun hc => ?_) (fun hc => ?_)
      · have hf := if_f hc hf
        refine lv_iinc hx hb dX4_swayBehind_35 hl (k := 5) rfl (kinc_1 _) (by decide) (lv' := [(5, .int (v5 + 1)), (4, .int q1), (6, .int v4), (0, .ref (g.1 6)), (2, .int v2), (3, .int v3)]) rfl (fun ls hl => ?_)
        refine lv_goto hx hb dX4_swayBehind_38 (tgt := 6) (by decide) ?_
        exact ih v2 v3 q1 (v5 + 1) _ _ _ h (lv_sub hl [3, 4, 5, 1, 0] rfl) hf
      · have hf := if_t hc hf
        refine lv_iload hx hb dX4_swayBehind_32 (lv_at hl 0 rfl) ?_
        have e9 := Option.some.inj hf
        subst e9
        exact fb_ir X h hr hlk dX4_swayBehind_34
set_option maxHeartbeats 4000000 in
set_option maxRecDepth 100000 in
theorem c_X4_swayBehind (l : Launch) {g : fb_G} {ks : List Nat} (hI : fb_I g ks) (hks : ∀ k ∈ ([6, 7, 8, 9, 10] : List Nat), k ∈ ks) (N : Nat) (a1 : Int32) (a2 : Int32) (a3 : Int32) (σ : fb_S) {res : Int32} (hf : f_X4_swayBehind N a1 a2 a3 σ = some res) : fb_M l yX4_swayBehind cX4_swayBehind 7 (some .int) 3 67 g ks [.ref (g.1 6), .int a1, .int a2, .int a3] σ (fb_Qi g ks res σ) := by
  refine fb_met (by decide +kernel) hI (Nat.le_of_ble_eq_true rfl) (fun p e s m below meth c ls X h hr hlk hl => ?_)
  have X : fb_X p m c cX4_swayBehind 7 s _ RX4 g ks (fb_A g ks) := X
  have hl : lv_has ls 7 [(0, .ref (g.1 6)), (1, .int a1), (2, .int a2), (3, .int a3)] := hl
  have hx := X.1.1
  have hb := X.1.2.1
  unfold f_X4_swayBehind at hf
  refine lv_iload_n hx hb dX4_swayBehind_0 rfl (lv_at hl 1 rfl) ?_
  refine lv_istore hx hb dX4_swayBehind_1 hl (by decide) (lv' := [(4, .int a1), (0, .ref (g.1 6)), (1, .int a1), (2, .int a2), (3, .int a3)]) rfl (fun ls hl => ?_)
  refine lv_iconst hx hb dX4_swayBehind_3 ki_0 ?_
  refine lv_istore hx hb dX4_swayBehind_4 hl (by decide) (lv' := [(5, .int (0)), (4, .int a1), (0, .ref (g.1 6)), (1, .int a1), (2, .int a2), (3, .int a3)]) rfl (fun ls hl => ?_)
  exact w_X4_swayBehind_L6 X hks hr hlk N σ N a2 a3 a1 (0 : Int32) _ _ _ h (lv_sub hl [2, 4, 5, 1, 0] rfl) hf
def f_X5_beats (N : Nat) (a1 : Int32) (a2 : Int32) (σ : fb_S) : Option Int32 :=
  (f_X5_isSway a1).bind fun q1 =>
  if q1 = 0 then (
    some (-2 : Int32)
  ) else (
    (f_X5_isWithin a2 (0 : Int32) (10000 : Int32)).bind fun q2 =>
    if q2 = 0 then (
      some (-2 : Int32)
    ) else (
      (f_X5_allDamping N σ).bind fun q3 =>
      (f_X4_swayBehind N a1 a2 q3 σ).bind fun q4 =>
      some q4
    )
  )
set_option maxHeartbeats 4000000 in
set_option maxRecDepth 100000 in
theorem c_X5_beats (l : Launch) {g : fb_G} {ks : List Nat} (hI : fb_I g ks) (hks : ∀ k ∈ ([0, 1, 6, 7, 8, 9, 10, 11, 12, 15] : List Nat), k ∈ ks) (N : Nat) (a1 : Int32) (a2 : Int32) (σ : fb_S) {res : Int32} (hf : f_X5_beats N a1 a2 σ = some res) : fb_M l yX5_beats cX5_beats 3 (some .int) 4 93 g ks [.ref (g.1 0), .int a1, .int a2] σ (fb_Qi g ks res σ) := by
  refine fb_met (by decide +kernel) hI (Nat.le_of_ble_eq_true rfl) (fun p e s m below meth c ls X h hr hlk hl => ?_)
  have X : fb_X p m c cX5_beats 3 s _ RX5 g ks (fb_A g ks) := X
  have hl : lv_has ls 3 [(0, .ref (g.1 0)), (1, .int a1), (2, .int a2)] := hl
  have hx := X.1.1
  have hb := X.1.2.1
  unfold f_X5_beats at hf
  refine lv_iload_n hx hb dX5_beats_0 rfl (lv_at hl 1 rfl) ?_
  obtain ⟨q1, hq1, hf⟩ := bd_s hf
  refine fb_ci X h (fb_runS (As := [.int a1]) (rest := []) X h (c_X5_isSway l X.2.2.1 (fun k hk => absurd hk List.not_mem_nil) a1 σ hq1) mf_yX5_isSway lm_RX5_88 ⟨Nat.le_of_ble_eq_true rfl, Nat.le_of_ble_eq_true rfl⟩ ⟨Nat.le_refl _, Nat.le_refl _⟩ rfl hl.1 rfl (Nat.le_of_ble_eq_true rfl) dX5_beats_1) (fun H locs h => ?_)
  refine lv_if_eq hx hb dX5_beats_4 (tgt := 18) (by decide) (fun hc => ?_) (fun hc => ?_)
  · have hf := if_t hc hf
    refine lv_bipush hx hb dX5_beats_18 kb_m2 ?_
    have e9 := Option.some.inj hf
    subst e9
    exact fb_ir X h hr hlk dX5_beats_20
  · have hf := if_f hc hf
    refine lv_iload_n hx hb dX5_beats_7 rfl (lv_at hl 2 rfl) ?_
    refine lv_iconst hx hb dX5_beats_8 ki_0 ?_
    refine lv_sipush hx hb dX5_beats_9 ks_10000 ?_
    obtain ⟨q2, hq2, hf⟩ := bd_s hf
    refine fb_ci X h (fb_runS (As := [.int a2, .int (0), .int (10000)]) (rest := []) X h (c_X5_isWithin l X.2.2.1 (fun k hk => absurd hk List.not_mem_nil) a2 (0 : Int32) (10000 : Int32) σ hq2) mf_yX5_isWithin lm_RX5_48 ⟨Nat.le_of_ble_eq_true rfl, Nat.le_of_ble_eq_true rfl⟩ ⟨Nat.le_refl _, Nat.le_refl _⟩ rfl hl.1 rfl (Nat.le_of_ble_eq_true rfl) dX5_beats_12) (fun H locs h => ?_)
    refine lv_if_ne hx hb dX5_beats_15 (tgt := 21) (by decide) (fun hc => ?_) (fun hc => ?_)
    · have hf := if_f hc hf
      refine lv_aload_n hx hb dX5_beats_21 rfl (lv_at hl 0 rfl) ?_
      refine gt_RX5_23 X h (hks 0 (by decide)) dX5_beats_22 ?_
      refine lv_iload_n hx hb dX5_beats_25 rfl (lv_at hl 1 rfl) ?_
      refine lv_iload_n hx hb dX5_beats_26 rfl (lv_at hl 2 rfl) ?_
      refine lv_aload_n hx hb dX5_beats_27 rfl (lv_at hl 0 rfl) ?_
      obtain ⟨q3, hq3, hf⟩ := bd_s hf
      refine fb_ci X h (fb_runV (As := []) (rest := [.int a2, .int a1, .ref (g.1 6)]) (k := 0) X h (c_X5_allDamping l X.2.2.1 (fun k hk => hks k ((by decide : ∀ k ∈ ([0, 1, 11, 12, 15] : List Nat), k ∈ ([0, 1, 6, 7, 8, 9, 10, 11, 12, 15] : List Nat)) k hk)) N σ hq3) mf_yX5_allDamping lm_RX5_112 (hks 0 (by decide)) rfl rfl ⟨Nat.le_of_ble_eq_true rfl, Nat.le_of_ble_eq_true rfl⟩ ⟨Nat.le_refl _, Nat.le_refl _⟩ rfl hl.1 rfl (Nat.le_of_ble_eq_true rfl) dX5_beats_28) (fun H locs h => ?_)
      obtain ⟨q4, hq4, hf⟩ := bd_s hf
      refine fb_ci X h (fb_runVN (As := [.int a1, .int a2, .int q3]) (rest := []) (k := 6) X h (c_X4_swayBehind l X.2.2.1 (fun k hk => hks k ((by decide : ∀ k ∈ ([6, 7, 8, 9, 10] : List Nat), k ∈ ([0, 1, 6, 7, 8, 9, 10, 11, 12, 15] : List Nat)) k hk)) N a1 a2 q3 σ hq4) mf_yX4_swayBehind lm_RX5_121 (hks 6 (by decide)) rfl rfl ⟨Nat.le_of_ble_eq_true rfl, Nat.le_of_ble_eq_true rfl⟩ ⟨Nat.le_refl _, Nat.le_refl _⟩ rfl hl.1 rfl (Nat.le_of_ble_eq_true rfl) dX5_beats_31) (fun H locs h => ?_)
      have e9 := Option.some.inj hf
      subst e9
      exact fb_ir X h hr hlk dX5_beats_34
    · have hf := if_t hc hf
      refine lv_bipush hx hb dX5_beats_18 kb_m2 ?_
      have e9 := Option.some.inj hf
      subst e9
      exact fb_ir X h hr hlk dX5_beats_20
def f_X4_beatsTillStill_L46 (N : Nat) (k13 : Int32 → Int32 → Int32 → Int32 → fb_S → Option (Int32 × fb_S)) (v2 : Int32) (v3 : Int32) (v4 : Int32) (v5 : Int32) (σ : fb_S) : Option (Int32 × fb_S) :=
  (f_X4_beatFrom N v3 v2 σ).bind fun q1 =>
  if q1 = (σ.1 6 4) then (
    some ((-9 : Int32), σ)
  ) else (
    k13 v2 q1 v4 (v5 + 1) σ
  )
def f_X4_beatsTillStill_L13 (N : Nat) : Nat → Int32 → Int32 → Int32 → Int32 → fb_S → Option (Int32 × fb_S)
  | 0, _, _, _, _, _ => none
  | n + 1, v2, v3, v4, v5, σ => 
    if (30000 : Int32) ≤ v5 then (
      some ((-9 : Int32), σ)
    ) else (
      if v3 = 0 then (
        some (v5, σ)
      ) else (
        if v5 = v4 then (
          nm_ (fb_up σ 6 4 v3) fun t2 =>
          nm_ (v4 * (2 : Int32)) fun x3 =>
          f_X4_beatsTillStill_L46 N (f_X4_beatsTillStill_L13 N n) v2 v3 x3 v5 t2
        ) else (
          f_X4_beatsTillStill_L46 N (f_X4_beatsTillStill_L13 N n) v2 v3 v4 v5 σ
        )
      )
    )
def f_X4_beatsTillStill (N : Nat) (a1 : Int32) (a2 : Int32) (σ : fb_S) : Option (Int32 × fb_S) :=
  nm_ (fb_up σ 6 4 a1) fun t4 =>
  f_X4_beatsTillStill_L13 N N a2 a1 (1 : Int32) (0 : Int32) t4
set_option maxHeartbeats 4000000 in
set_option maxRecDepth 100000 in
theorem w_X4_beatsTillStill_L46 (X : fb_X p m c cX4_beatsTillStill 6 s args RX4 g ks (fb_A g ks)) (hks : ∀ k ∈ ([6, 7, 8, 9, 10] : List Nat), k ∈ ks) (hr : meth.sig.returnType = (some .int)) (hlk : meth.locks = false) (N : Nat) (k13 : Int32 → Int32 → Int32 → Int32 → fb_S → Option (Int32 × fb_S))  {res : (Int32 × fb_S)} (hk13 : ∀ (v2 : Int32) (v3 : Int32) (v4 : Int32) (v5 : Int32) (σ : fb_S) (H : Heap) (locs : List Loc) (ls : Array Slot), fb_H g ks (fb_A g ks) s.heap σ H locs → lv_has ls 6 [(0, .ref (g.1 6)), (2, .int v2), (3, .int v3), (4, .int v4), (5, .int v5)] → k13 v2 v3 v4 v5 σ = some res → W p l e (fb_R 3 67) s m args below meth c H locs 0 0 (MQ below (fb_Qi g ks res.1 res.2) args s 0 0 (fb_A g ks)) (F0 m 13 ls [])) : ∀ (v2 : Int32) (v3 : Int32) (v4 : Int32) (v5 : Int32) (σ : fb_S) (H : Heap) (locs : List Loc) (ls : Array Slot), fb_H g ks (fb_A g ks) s.heap σ H locs → lv_has ls 6 [(0, .ref (g.1 6)), (2, .int v2), (3, .int v3), (4, .int v4), (5, .int v5)] → f_X4_beatsTillStill_L46 N k13 v2 v3 v4 v5 σ = some res → W p l e (fb_R 3 67) s m args below meth c H locs 0 0 (MQ below (fb_Qi g ks res.1 res.2) args s 0 0 (fb_A g ks)) (F0 m 46 ls []) := by
  have hx := X.1.1
  have hb := X.1.2.1
  intro v2 v3 v4 v5 σ H locs ls h hl hf
  unfold f_X4_beatsTillStill_L46 at hf
  refine lv_aload_n hx hb dX4_beatsTillStill_46 rfl (lv_at hl 0 rfl) ?_
  refine lv_iload_n hx hb dX4_beatsTillStill_47 rfl (lv_at hl 2 rfl) ?_
  refine lv_iload_n hx hb dX4_beatsTillStill_48 rfl (lv_at hl 1 rfl) ?_
  obtain ⟨q1, hq1, hf⟩ := bd_s hf
  refine fb_ci X h (fb_runV (As := [.int v3, .int v2]) (rest := []) (k := 6) X h (c_X4_beatFrom l X.2.2.1 (fun k hk => hks k ((by decide : ∀ k ∈ ([6, 7, 8, 9, 10] : List Nat), k ∈ ([6, 7, 8, 9, 10] : List Nat)) k hk)) N v3 v2 σ hq1) mf_yX4_beatFrom lm_RX4_36 (hks 6 (by decide)) rfl rfl ⟨Nat.le_of_ble_eq_true rfl, Nat.le_of_ble_eq_true rfl⟩ ⟨Nat.le_refl _, Nat.le_refl _⟩ rfl hl.1 rfl (Nat.le_of_ble_eq_true rfl) dX4_beatsTillStill_49) (fun H locs h => ?_)
  refine lv_istore_n hx hb dX4_beatsTillStill_52 rfl hl (by decide) (lv' := [(3, .int q1), (0, .ref (g.1 6)), (2, .int v2), (4, .int v4), (5, .int v5)]) rfl (fun ls hl => ?_)
  refine lv_iload_n hx hb dX4_beatsTillStill_53 rfl (lv_at hl 0 rfl) ?_
  refine lv_aload_n hx hb dX4_beatsTillStill_54 rfl (lv_at hl 1 rfl) ?_
  refine gt_RX4_39 X h (hks 6 (by decide)) dX4_beatsTillStill_55 ?_
  refine lv_icmp_ne hx hb dX4_beatsTillStill_58 (tgt := 64) (by decide) (fun hc => ?_) (fun hc => ?_)
  · have hf := if_f hc hf
    refine lv_iinc hx hb dX4_beatsTillStill_64 hl (k := 4) rfl (kinc_1 _) (by decide) (lv' := [(5, .int (v5 + 1)), (3, .int q1), (0, .ref (g.1 6)), (2, .int v2), (4, .int v4)]) rfl (fun ls hl => ?_)
    refine lv_goto hx hb dX4_beatsTillStill_67 (tgt := 13) (by decide) ?_
    exact hk13 v2 q1 v4 (v5 + 1) σ _ _ _ h (lv_sub hl [2, 3, 1, 4, 0] rfl) hf
  · have hf := if_t hc hf
    refine lv_bipush hx hb dX4_beatsTillStill_61 kb_m9 ?_
    have e9 := Option.some.inj hf
    subst e9
    exact fb_ir X h hr hlk dX4_beatsTillStill_63
set_option maxHeartbeats 4000000 in
set_option maxRecDepth 100000 in
theorem w_X4_beatsTillStill_L13 (X : fb_X p m c cX4_beatsTillStill 6 s args RX4 g ks (fb_A g ks)) (hks : ∀ k ∈ ([6, 7, 8, 9, 10] : List Nat), k ∈ ks) (hr : meth.sig.returnType = (some .int)) (hlk : meth.locks = false) (N : Nat)  {res : (Int32 × fb_S)} : ∀ (n : Nat) (v2 : Int32) (v3 : Int32) (v4 : Int32) (v5 : Int32) (σ : fb_S) (H : Heap) (locs : List Loc) (ls : Array Slot), fb_H g ks (fb_A g ks) s.heap σ H locs → lv_has ls 6 [(0, .ref (g.1 6)), (2, .int v2), (3, .int v3), (4, .int v4), (5, .int v5)] → f_X4_beatsTillStill_L13 N n v2 v3 v4 v5 σ = some res → W p l e (fb_R 3 67) s m args below meth c H locs 0 0 (MQ below (fb_Qi g ks res.1 res.2) args s 0 0 (fb_A g ks)) (F0 m 13 ls []) := by
  have hx := X.1.1
  have hb := X.1.2.1
  intro n
  induction n with
  | zero => intro v2 v3 v4 v5 σ H locs ls h hl hf; cases hf
  | succ n ih =>
    intro v2 v3 v4 v5 σ H locs ls h hl hf
    unfold f_X4_beatsTillStill_L13 at hf
    refine lv_iload hx hb dX4_beatsTillStill_13 (lv_at hl 4 rfl) ?_
    refine lv_sipush hx hb dX4_beatsTillStill_15 ks_30000 ?_
    refine lv_icmp_ge hx hb dX4_beatsTillStill_18 (tgt := 70) (by decide) (fun hc => ?_) (fun hc => ?_)
    · have hf := if_t hc hf
      refine lv_bipush hx hb dX4_beatsTillStill_70 kb_m9 ?_
      have e9 := Option.some.inj hf
      subst e9
      exact fb_ir X h hr hlk dX4_beatsTillStill_72
    · have hf := if_f hc hf
      refine lv_iload_n hx hb dX4_beatsTillStill_21 rfl (lv_at hl 2 rfl) ?_
      refine lv_if_ne hx hb dX4_beatsTillStill_22 (tgt := 28) (by decide) (fun hc => ?_) (fun hc => ?_)
      · have hf := if_f hc hf
        refine lv_iload hx hb dX4_beatsTillStill_28 (lv_at hl 4 rfl) ?_
        refine lv_iload hx hb dX4_beatsTillStill_30 (lv_at hl 3 rfl) ?_
        refine lv_icmp_ne hx hb dX4_beatsTillStill_32 (tgt := 46) (by decide) (fun hc => ?_) (fun hc => ?_)
        · have hf := if_f hc hf
          exact w_X4_beatsTillStill_L46 X hks hr hlk N (f_X4_beatsTillStill_L13 N n) ih v2 v3 v4 v5 σ _ _ _ h (lv_sub hl [0, 1, 2, 3, 4] rfl) hf
        · have hf := if_t hc hf
          refine lv_aload_n hx hb dX4_beatsTillStill_35 rfl (lv_at hl 0 rfl) ?_
          refine lv_iload_n hx hb dX4_beatsTillStill_36 rfl (lv_at hl 2 rfl) ?_
          obtain ⟨t2, et2, hf⟩ := nm_s hf
          refine pt_RX4_39 X h (hks 6 (by decide)) dX4_beatsTillStill_37 (fun H locs h => ?_)
          have h := fb_H.nm et2 h
          refine lv_iload hx hb dX4_beatsTillStill_40 (lv_at hl 3 rfl) ?_
          refine lv_iconst hx hb dX4_beatsTillStill_42 ki_2 ?_
          refine lv_imul hx hb dX4_beatsTillStill_43 ?_
          obtain ⟨x3, ex3, hf⟩ := nm_s hf
          refine fb_topi ex3 ?_
          refine lv_istore hx hb dX4_beatsTillStill_44 hl (by decide) (lv' := [(4, .int x3), (0, .ref (g.1 6)), (2, .int v2), (3, .int v3), (5, .int v5)]) rfl (fun ls hl => ?_)
          exact w_X4_beatsTillStill_L46 X hks hr hlk N (f_X4_beatsTillStill_L13 N n) ih v2 v3 x3 v5 t2 _ _ _ h (lv_sub hl [1, 2, 3, 0, 4] rfl) hf
      · have hf := if_t hc hf
        refine lv_iload hx hb dX4_beatsTillStill_25 (lv_at hl 4 rfl) ?_
        have e9 := Option.some.inj hf
        subst e9
        exact fb_ir X h hr hlk dX4_beatsTillStill_27
set_option maxHeartbeats 4000000 in
set_option maxRecDepth 100000 in
theorem c_X4_beatsTillStill (l : Launch) {g : fb_G} {ks : List Nat} (hI : fb_I g ks) (hks : ∀ k ∈ ([6, 7, 8, 9, 10] : List Nat), k ∈ ks) (N : Nat) (a1 : Int32) (a2 : Int32) (σ : fb_S) {res : (Int32 × fb_S)} (hf : f_X4_beatsTillStill N a1 a2 σ = some res) : fb_M l yX4_beatsTillStill cX4_beatsTillStill 6 (some .int) 3 67 g ks [.ref (g.1 6), .int a1, .int a2] σ (fb_Qi g ks res.1 res.2) := by
  refine fb_met (by decide +kernel) hI (Nat.le_of_ble_eq_true rfl) (fun p e s m below meth c ls X h hr hlk hl => ?_)
  have X : fb_X p m c cX4_beatsTillStill 6 s _ RX4 g ks (fb_A g ks) := X
  have hl : lv_has ls 6 [(0, .ref (g.1 6)), (1, .int a1), (2, .int a2)] := hl
  have hx := X.1.1
  have hb := X.1.2.1
  unfold f_X4_beatsTillStill at hf
  refine lv_iload_n hx hb dX4_beatsTillStill_0 rfl (lv_at hl 1 rfl) ?_
  refine lv_istore_n hx hb dX4_beatsTillStill_1 rfl hl (by decide) (lv' := [(3, .int a1), (0, .ref (g.1 6)), (1, .int a1), (2, .int a2)]) rfl (fun ls hl => ?_)
  refine lv_iconst hx hb dX4_beatsTillStill_2 ki_1 ?_
  refine lv_istore hx hb dX4_beatsTillStill_3 hl (by decide) (lv' := [(4, .int (1)), (3, .int a1), (0, .ref (g.1 6)), (1, .int a1), (2, .int a2)]) rfl (fun ls hl => ?_)
  refine lv_aload_n hx hb dX4_beatsTillStill_5 rfl (lv_at hl 2 rfl) ?_
  refine lv_iload_n hx hb dX4_beatsTillStill_6 rfl (lv_at hl 3 rfl) ?_
  obtain ⟨t4, et4, hf⟩ := nm_s hf
  refine pt_RX4_39 X h (hks 6 (by decide)) dX4_beatsTillStill_7 (fun H locs h => ?_)
  have h := fb_H.nm et4 h
  refine lv_iconst hx hb dX4_beatsTillStill_10 ki_0 ?_
  refine lv_istore hx hb dX4_beatsTillStill_11 hl (by decide) (lv' := [(5, .int (0)), (4, .int (1)), (3, .int a1), (0, .ref (g.1 6)), (1, .int a1), (2, .int a2)]) rfl (fun ls hl => ?_)
  exact w_X4_beatsTillStill_L13 X hks hr hlk N N a2 a1 (1 : Int32) (0 : Int32) t4 _ _ _ h (lv_sub hl [3, 5, 2, 1, 0] rfl) hf
def f_X5_settles (N : Nat) (a1 : Int32) (σ : fb_S) : Option (Int32 × fb_S) :=
  (f_X5_isSway a1).bind fun q1 =>
  if q1 = 0 then (
    some ((-2 : Int32), σ)
  ) else (
    (f_X5_allDamping N σ).bind fun q2 =>
    (f_X4_beatsTillStill N a1 q2 σ).bind fun q3 =>
    some (q3.1, q3.2)
  )
set_option maxHeartbeats 4000000 in
set_option maxRecDepth 100000 in
theorem c_X5_settles (l : Launch) {g : fb_G} {ks : List Nat} (hI : fb_I g ks) (hks : ∀ k ∈ ([0, 1, 6, 7, 8, 9, 10, 11, 12, 15] : List Nat), k ∈ ks) (N : Nat) (a1 : Int32) (σ : fb_S) {res : (Int32 × fb_S)} (hf : f_X5_settles N a1 σ = some res) : fb_M l yX5_settles cX5_settles 2 (some .int) 4 92 g ks [.ref (g.1 0), .int a1] σ (fb_Qi g ks res.1 res.2) := by
  refine fb_met (by decide +kernel) hI (Nat.le_of_ble_eq_true rfl) (fun p e s m below meth c ls X h hr hlk hl => ?_)
  have X : fb_X p m c cX5_settles 2 s _ RX5 g ks (fb_A g ks) := X
  have hl : lv_has ls 2 [(0, .ref (g.1 0)), (1, .int a1)] := hl
  have hx := X.1.1
  have hb := X.1.2.1
  unfold f_X5_settles at hf
  refine lv_iload_n hx hb dX5_settles_0 rfl (lv_at hl 1 rfl) ?_
  obtain ⟨q1, hq1, hf⟩ := bd_s hf
  refine fb_ci X h (fb_runS (As := [.int a1]) (rest := []) X h (c_X5_isSway l X.2.2.1 (fun k hk => absurd hk List.not_mem_nil) a1 σ hq1) mf_yX5_isSway lm_RX5_88 ⟨Nat.le_of_ble_eq_true rfl, Nat.le_of_ble_eq_true rfl⟩ ⟨Nat.le_refl _, Nat.le_refl _⟩ rfl hl.1 rfl (Nat.le_of_ble_eq_true rfl) dX5_settles_1) (fun H locs h => ?_)
  refine lv_if_eq hx hb dX5_settles_4 (tgt := 22) (by decide) (fun hc => ?_) (fun hc => ?_)
  · have hf := if_t hc hf
    refine lv_bipush hx hb dX5_settles_22 kb_m2 ?_
    have e9 := Option.some.inj hf
    subst e9
    exact fb_ir X h hr hlk dX5_settles_24
  · have hf := if_f hc hf
    refine lv_aload_n hx hb dX5_settles_7 rfl (lv_at hl 0 rfl) ?_
    refine gt_RX5_23 X h (hks 0 (by decide)) dX5_settles_8 ?_
    refine lv_iload_n hx hb dX5_settles_11 rfl (lv_at hl 1 rfl) ?_
    refine lv_aload_n hx hb dX5_settles_12 rfl (lv_at hl 0 rfl) ?_
    obtain ⟨q2, hq2, hf⟩ := bd_s hf
    refine fb_ci X h (fb_runV (As := []) (rest := [.int a1, .ref (g.1 6)]) (k := 0) X h (c_X5_allDamping l X.2.2.1 (fun k hk => hks k ((by decide : ∀ k ∈ ([0, 1, 11, 12, 15] : List Nat), k ∈ ([0, 1, 6, 7, 8, 9, 10, 11, 12, 15] : List Nat)) k hk)) N σ hq2) mf_yX5_allDamping lm_RX5_112 (hks 0 (by decide)) rfl rfl ⟨Nat.le_of_ble_eq_true rfl, Nat.le_of_ble_eq_true rfl⟩ ⟨Nat.le_refl _, Nat.le_refl _⟩ rfl hl.1 rfl (Nat.le_of_ble_eq_true rfl) dX5_settles_13) (fun H locs h => ?_)
    obtain ⟨q3, hq3, hf⟩ := bd_s hf
    refine fb_ci X h (fb_runVN (As := [.int a1, .int q2]) (rest := []) (k := 6) X h (c_X4_beatsTillStill l X.2.2.1 (fun k hk => hks k ((by decide : ∀ k ∈ ([6, 7, 8, 9, 10] : List Nat), k ∈ ([0, 1, 6, 7, 8, 9, 10, 11, 12, 15] : List Nat)) k hk)) N a1 q2 σ hq3) mf_yX4_beatsTillStill lm_RX5_125 (hks 6 (by decide)) rfl rfl ⟨Nat.le_of_ble_eq_true rfl, Nat.le_of_ble_eq_true rfl⟩ ⟨Nat.le_refl _, Nat.le_refl _⟩ rfl hl.1 rfl (Nat.le_of_ble_eq_true rfl) dX5_settles_16) (fun H locs h => ?_)
    refine lv_goto hx hb dX5_settles_19 (tgt := 24) (by decide) ?_
    have e9 := Option.some.inj hf
    subst e9
    exact fb_ir X h hr hlk dX5_settles_24
def f_X4_ringEnd_L49 (N : Nat) (σ : fb_S) (k14 : Int32 → Int32 → Int32 → Int32 → Int32 → Int32 → Option Int32) (v1 : Int32) (v2 : Int32) (v3 : Int32) (v5 : Int32) (v6 : Int32) (s0 : Int32) : Option Int32 :=
  (f_X4_beatFrom N v5 v3 σ).bind fun q1 =>
  k14 v1 v2 v3 s0 q1 (v6 + 1)
def f_X4_ringEnd_L14 (N : Nat) (σ : fb_S) : Nat → Int32 → Int32 → Int32 → Int32 → Int32 → Int32 → Option Int32
  | 0, _, _, _, _, _, _ => none
  | n + 1, v1, v2, v3, v4, v5, v6 => 
    if (10000 : Int32) ≤ v6 then (
      some v4
    ) else (
      if v5 = v1 then (
        some v4
      ) else (
        if v2 = 0 then (
          f_X4_ringEnd_L49 N σ (f_X4_ringEnd_L14 N σ n) v1 v2 v3 v5 v6 (mn_ v4 v5)
        ) else (
          f_X4_ringEnd_L49 N σ (f_X4_ringEnd_L14 N σ n) v1 v2 v3 v5 v6 (mx_ v4 v5)
        )
      )
    )
def f_X4_ringEnd (N : Nat) (a1 : Int32) (a2 : Int32) (a3 : Int32) (σ : fb_S) : Option Int32 :=
  (f_X4_beatFrom N a1 a3 σ).bind fun q2 =>
  f_X4_ringEnd_L14 N σ N a1 a2 a3 a1 q2 (0 : Int32)
set_option maxHeartbeats 4000000 in
set_option maxRecDepth 100000 in
theorem w_X4_ringEnd_L49 (X : fb_X p m c cX4_ringEnd 7 s args RX4 g ks (fb_A g ks)) (hks : ∀ k ∈ ([6, 7, 8, 9, 10] : List Nat), k ∈ ks) (hr : meth.sig.returnType = (some .int)) (hlk : meth.locks = false) (N : Nat) (σ : fb_S) (k14 : Int32 → Int32 → Int32 → Int32 → Int32 → Int32 → Option Int32)  {res : Int32} (hk14 : ∀ (v1 : Int32) (v2 : Int32) (v3 : Int32) (v4 : Int32) (v5 : Int32) (v6 : Int32) (H : Heap) (locs : List Loc) (ls : Array Slot), fb_H g ks (fb_A g ks) s.heap σ H locs → lv_has ls 7 [(0, .ref (g.1 6)), (1, .int v1), (2, .int v2), (3, .int v3), (4, .int v4), (5, .int v5), (6, .int v6)] → k14 v1 v2 v3 v4 v5 v6 = some res → W p l e (fb_R 3 67) s m args below meth c H locs 0 0 (MQ below (fb_Qi g ks res σ) args s 0 0 (fb_A g ks)) (F0 m 14 ls [])) : ∀ (v1 : Int32) (v2 : Int32) (v3 : Int32) (v5 : Int32) (v6 : Int32) (s0 : Int32) (H : Heap) (locs : List Loc) (ls : Array Slot), fb_H g ks (fb_A g ks) s.heap σ H locs → lv_has ls 7 [(0, .ref (g.1 6)), (1, .int v1), (2, .int v2), (3, .int v3), (5, .int v5), (6, .int v6)] → f_X4_ringEnd_L49 N σ k14 v1 v2 v3 v5 v6 s0 = some res → W p l e (fb_R 3 67) s m args below meth c H locs 0 0 (MQ below (fb_Qi g ks res σ) args s 0 0 (fb_A g ks)) (F0 m 49 ls [.int s0]) := by
  have hx := X.1.1
  have hb := X.1.2.1
  intro v1 v2 v3 v5 v6 s0 H locs ls h hl hf
  unfold f_X4_ringEnd_L49 at hf
  refine lv_istore hx hb dX4_ringEnd_49 hl (by decide) (lv' := [(4, .int s0), (0, .ref (g.1 6)), (1, .int v1), (2, .int v2), (3, .int v3), (5, .int v5), (6, .int v6)]) rfl (fun ls hl => ?_)
  refine lv_aload_n hx hb dX4_ringEnd_51 rfl (lv_at hl 1 rfl) ?_
  refine lv_iload hx hb dX4_ringEnd_52 (lv_at hl 5 rfl) ?_
  refine lv_iload_n hx hb dX4_ringEnd_54 rfl (lv_at hl 4 rfl) ?_
  obtain ⟨q1, hq1, hf⟩ := bd_s hf
  refine fb_ci X h (fb_runV (As := [.int v5, .int v3]) (rest := []) (k := 6) X h (c_X4_beatFrom l X.2.2.1 (fun k hk => hks k ((by decide : ∀ k ∈ ([6, 7, 8, 9, 10] : List Nat), k ∈ ([6, 7, 8, 9, 10] : List Nat)) k hk)) N v5 v3 σ hq1) mf_yX4_beatFrom lm_RX4_36 (hks 6 (by decide)) rfl rfl ⟨Nat.le_of_ble_eq_true rfl, Nat.le_of_ble_eq_true rfl⟩ ⟨Nat.le_refl _, Nat.le_refl _⟩ rfl hl.1 rfl (Nat.le_of_ble_eq_true rfl) dX4_ringEnd_55) (fun H locs h => ?_)
  refine lv_istore hx hb dX4_ringEnd_58 hl (by decide) (lv' := [(5, .int q1), (4, .int s0), (0, .ref (g.1 6)), (1, .int v1), (2, .int v2), (3, .int v3), (6, .int v6)]) rfl (fun ls hl => ?_)
  refine lv_iinc hx hb dX4_ringEnd_60 hl (k := 6) rfl (kinc_1 _) (by decide) (lv' := [(6, .int (v6 + 1)), (5, .int q1), (4, .int s0), (0, .ref (g.1 6)), (1, .int v1), (2, .int v2), (3, .int v3)]) rfl (fun ls hl => ?_)
  refine lv_goto hx hb dX4_ringEnd_63 (tgt := 14) (by decide) ?_
  exact hk14 v1 v2 v3 s0 q1 (v6 + 1) _ _ _ h (lv_sub hl [3, 4, 5, 6, 2, 1, 0] rfl) hf
set_option maxHeartbeats 4000000 in
set_option maxRecDepth 100000 in
theorem w_X4_ringEnd_L14 (X : fb_X p m c cX4_ringEnd 7 s args RX4 g ks (fb_A g ks)) (hks : ∀ k ∈ ([6, 7, 8, 9, 10] : List Nat), k ∈ ks) (hr : meth.sig.returnType = (some .int)) (hlk : meth.locks = false) (N : Nat) (σ : fb_S)  {res : Int32} : ∀ (n : Nat) (v1 : Int32) (v2 : Int32) (v3 : Int32) (v4 : Int32) (v5 : Int32) (v6 : Int32) (H : Heap) (locs : List Loc) (ls : Array Slot), fb_H g ks (fb_A g ks) s.heap σ H locs → lv_has ls 7 [(0, .ref (g.1 6)), (1, .int v1), (2, .int v2), (3, .int v3), (4, .int v4), (5, .int v5), (6, .int v6)] → f_X4_ringEnd_L14 N σ n v1 v2 v3 v4 v5 v6 = some res → W p l e (fb_R 3 67) s m args below meth c H locs 0 0 (MQ below (fb_Qi g ks res σ) args s 0 0 (fb_A g ks)) (F0 m 14 ls []) := by
  have hx := X.1.1
  have hb := X.1.2.1
  intro n
  induction n with
  | zero => intro v1 v2 v3 v4 v5 v6 H locs ls h hl hf; cases hf
  | succ n ih =>
    intro v1 v2 v3 v4 v5 v6 H locs ls h hl hf
    unfold f_X4_ringEnd_L14 at hf
    refine lv_iload hx hb dX4_ringEnd_14 (lv_at hl 6 rfl) ?_
    refine lv_sipush hx hb dX4_ringEnd_16 ks_10000 ?_
    refine lv_icmp_ge hx hb dX4_ringEnd_19 (tgt := 66) (by decide) (fun hc => ?_) (fun hc => ?_)
    · have hf := if_t hc hf
      refine lv_iload hx hb dX4_ringEnd_66 (lv_at hl 4 rfl) ?_
      have e9 := Option.some.inj hf
      subst e9
      exact fb_ir X h hr hlk dX4_ringEnd_68
    · have hf := if_f hc hf
      refine lv_iload hx hb dX4_ringEnd_22 (lv_at hl 5 rfl) ?_
      refine lv_iload_n hx hb dX4_ringEnd_24 rfl (lv_at hl 1 rfl) ?_
      refine lv_icmp_eq hx hb dX4_ringEnd_25 (tgt := 66) (by decide) (fun hc => ?_) (fun hc => ?_)
      · have hf := if_t hc hf
        refine lv_iload hx hb dX4_ringEnd_66 (lv_at hl 4 rfl) ?_
        have e9 := Option.some.inj hf
        subst e9
        exact fb_ir X h hr hlk dX4_ringEnd_68
      · have hf := if_f hc hf
        refine lv_iload_n hx hb dX4_ringEnd_28 rfl (lv_at hl 2 rfl) ?_
        refine lv_if_eq hx hb dX4_ringEnd_29 (tgt := 42) (by decide) (fun hc => ?_) (fun hc => ?_)
        · have hf := if_t hc hf
          refine lv_iload hx hb dX4_ringEnd_42 (lv_at hl 4 rfl) ?_
          refine lv_iload hx hb dX4_ringEnd_44 (lv_at hl 5 rfl) ?_
          refine fb_mnr X hl.1 lm_RX4_62 (Nat.le_of_ble_eq_true rfl) (Nat.le_of_ble_eq_true rfl) ⟨Nat.le_refl _, Nat.le_refl _⟩ dX4_ringEnd_46 ?_
          exact w_X4_ringEnd_L49 X hks hr hlk N σ (f_X4_ringEnd_L14 N σ n) ih v1 v2 v3 v5 v6 (mn_ v4 v5) _ _ _ h (lv_sub hl [0, 1, 2, 3, 5, 6] rfl) hf
        · have hf := if_f hc hf
          refine lv_iload hx hb dX4_ringEnd_32 (lv_at hl 4 rfl) ?_
          refine lv_iload hx hb dX4_ringEnd_34 (lv_at hl 5 rfl) ?_
          refine fb_mxr X hl.1 lm_RX4_57 (Nat.le_of_ble_eq_true rfl) (Nat.le_of_ble_eq_true rfl) ⟨Nat.le_refl _, Nat.le_refl _⟩ dX4_ringEnd_36 ?_
          refine lv_goto hx hb dX4_ringEnd_39 (tgt := 49) (by decide) ?_
          exact w_X4_ringEnd_L49 X hks hr hlk N σ (f_X4_ringEnd_L14 N σ n) ih v1 v2 v3 v5 v6 (mx_ v4 v5) _ _ _ h (lv_sub hl [0, 1, 2, 3, 5, 6] rfl) hf
set_option maxHeartbeats 4000000 in
set_option maxRecDepth 100000 in
theorem c_X4_ringEnd (l : Launch) {g : fb_G} {ks : List Nat} (hI : fb_I g ks) (hks : ∀ k ∈ ([6, 7, 8, 9, 10] : List Nat), k ∈ ks) (N : Nat) (a1 : Int32) (a2 : Int32) (a3 : Int32) (σ : fb_S) {res : Int32} (hf : f_X4_ringEnd N a1 a2 a3 σ = some res) : fb_M l yX4_ringEnd cX4_ringEnd 7 (some .int) 3 67 g ks [.ref (g.1 6), .int a1, .int a2, .int a3] σ (fb_Qi g ks res σ) := by
  refine fb_met (by decide +kernel) hI (Nat.le_of_ble_eq_true rfl) (fun p e s m below meth c ls X h hr hlk hl => ?_)
  have X : fb_X p m c cX4_ringEnd 7 s _ RX4 g ks (fb_A g ks) := X
  have hl : lv_has ls 7 [(0, .ref (g.1 6)), (1, .int a1), (2, .int a2), (3, .int a3)] := hl
  have hx := X.1.1
  have hb := X.1.2.1
  unfold f_X4_ringEnd at hf
  refine lv_iload_n hx hb dX4_ringEnd_0 rfl (lv_at hl 1 rfl) ?_
  refine lv_istore hx hb dX4_ringEnd_1 hl (by decide) (lv' := [(4, .int a1), (0, .ref (g.1 6)), (1, .int a1), (2, .int a2), (3, .int a3)]) rfl (fun ls hl => ?_)
  refine lv_aload_n hx hb dX4_ringEnd_3 rfl (lv_at hl 1 rfl) ?_
  refine lv_iload_n hx hb dX4_ringEnd_4 rfl (lv_at hl 2 rfl) ?_
  refine lv_iload_n hx hb dX4_ringEnd_5 rfl (lv_at hl 4 rfl) ?_
  obtain ⟨q2, hq2, hf⟩ := bd_s hf
  refine fb_ci X h (fb_runV (As := [.int a1, .int a3]) (rest := []) (k := 6) X h (c_X4_beatFrom l X.2.2.1 (fun k hk => hks k ((by decide : ∀ k ∈ ([6, 7, 8, 9, 10] : List Nat), k ∈ ([6, 7, 8, 9, 10] : List Nat)) k hk)) N a1 a3 σ hq2) mf_yX4_beatFrom lm_RX4_36 (hks 6 (by decide)) rfl rfl ⟨Nat.le_of_ble_eq_true rfl, Nat.le_of_ble_eq_true rfl⟩ ⟨Nat.le_refl _, Nat.le_refl _⟩ rfl hl.1 rfl (Nat.le_of_ble_eq_true rfl) dX4_ringEnd_6) (fun H locs h => ?_)
  refine lv_istore hx hb dX4_ringEnd_9 hl (by decide) (lv' := [(5, .int q2), (4, .int a1), (0, .ref (g.1 6)), (1, .int a1), (2, .int a2), (3, .int a3)]) rfl (fun ls hl => ?_)
  refine lv_iconst hx hb dX4_ringEnd_11 ki_0 ?_
  refine lv_istore hx hb dX4_ringEnd_12 hl (by decide) (lv' := [(6, .int (0)), (5, .int q2), (4, .int a1), (0, .ref (g.1 6)), (1, .int a1), (2, .int a2), (3, .int a3)]) rfl (fun ls hl => ?_)
  exact w_X4_ringEnd_L14 X hks hr hlk N σ N a1 a2 a3 a1 q2 (0 : Int32) _ _ _ h (lv_sub hl [3, 4, 5, 6, 2, 1, 0] rfl) hf
def f_X4_ringSize_L13 (N : Nat) (σ : fb_S) : Nat → Int32 → Int32 → Int32 → Int32 → Int32 → Option Int32
  | 0, _, _, _, _, _ => none
  | n + 1, v1, v2, v3, v4, v5 => 
    if (10000 : Int32) ≤ v5 then (
      some v3
    ) else (
      if v4 = v1 then (
        some v3
      ) else (
        (f_X4_beatFrom N v4 v2 σ).bind fun q1 =>
        f_X4_ringSize_L13 N σ n v1 v2 (v3 + 1) q1 (v5 + 1)
      )
    )
def f_X4_ringSize (N : Nat) (a1 : Int32) (a2 : Int32) (σ : fb_S) : Option Int32 :=
  (f_X4_beatFrom N a1 a2 σ).bind fun q2 =>
  f_X4_ringSize_L13 N σ N a1 a2 (1 : Int32) q2 (0 : Int32)
set_option maxHeartbeats 4000000 in
set_option maxRecDepth 100000 in
theorem w_X4_ringSize_L13 (X : fb_X p m c cX4_ringSize 6 s args RX4 g ks (fb_A g ks)) (hks : ∀ k ∈ ([6, 7, 8, 9, 10] : List Nat), k ∈ ks) (hr : meth.sig.returnType = (some .int)) (hlk : meth.locks = false) (N : Nat) (σ : fb_S)  {res : Int32} : ∀ (n : Nat) (v1 : Int32) (v2 : Int32) (v3 : Int32) (v4 : Int32) (v5 : Int32) (H : Heap) (locs : List Loc) (ls : Array Slot), fb_H g ks (fb_A g ks) s.heap σ H locs → lv_has ls 6 [(0, .ref (g.1 6)), (1, .int v1), (2, .int v2), (3, .int v3), (4, .int v4), (5, .int v5)] → f_X4_ringSize_L13 N σ n v1 v2 v3 v4 v5 = some res → W p l e (fb_R 3 67) s m args below meth c H locs 0 0 (MQ below (fb_Qi g ks res σ) args s 0 0 (fb_A g ks)) (F0 m 13 ls []) := by
  have hx := X.1.1
  have hb := X.1.2.1
  intro n
  induction n with
  | zero => intro v1 v2 v3 v4 v5 H locs ls h hl hf; cases hf
  | succ n ih =>
    intro v1 v2 v3 v4 v5 H locs ls h hl hf
    unfold f_X4_ringSize_L13 at hf
    refine lv_iload hx hb dX4_ringSize_13 (lv_at hl 5 rfl) ?_
    refine lv_sipush hx hb dX4_ringSize_15 ks_10000 ?_
    refine lv_icmp_ge hx hb dX4_ringSize_18 (tgt := 45) (by decide) (fun hc => ?_) (fun hc => ?_)
    · have hf := if_t hc hf
      refine lv_iload_n hx hb dX4_ringSize_45 rfl (lv_at hl 3 rfl) ?_
      have e9 := Option.some.inj hf
      subst e9
      exact fb_ir X h hr hlk dX4_ringSize_46
    · have hf := if_f hc hf
      refine lv_iload hx hb dX4_ringSize_21 (lv_at hl 4 rfl) ?_
      refine lv_iload_n hx hb dX4_ringSize_23 rfl (lv_at hl 1 rfl) ?_
      refine lv_icmp_eq hx hb dX4_ringSize_24 (tgt := 45) (by decide) (fun hc => ?_) (fun hc => ?_)
      · have hf := if_t hc hf
        refine lv_iload_n hx hb dX4_ringSize_45 rfl (lv_at hl 3 rfl) ?_
        have e9 := Option.some.inj hf
        subst e9
        exact fb_ir X h hr hlk dX4_ringSize_46
      · have hf := if_f hc hf
        refine lv_iinc hx hb dX4_ringSize_27 hl (k := 3) rfl (kinc_1 _) (by decide) (lv' := [(3, .int (v3 + 1)), (0, .ref (g.1 6)), (1, .int v1), (2, .int v2), (4, .int v4), (5, .int v5)]) rfl (fun ls hl => ?_)
        refine lv_aload_n hx hb dX4_ringSize_30 rfl (lv_at hl 1 rfl) ?_
        refine lv_iload hx hb dX4_ringSize_31 (lv_at hl 4 rfl) ?_
        refine lv_iload_n hx hb dX4_ringSize_33 rfl (lv_at hl 3 rfl) ?_
        obtain ⟨q1, hq1, hf⟩ := bd_s hf
        refine fb_ci X h (fb_runV (As := [.int v4, .int v2]) (rest := []) (k := 6) X h (c_X4_beatFrom l X.2.2.1 (fun k hk => hks k ((by decide : ∀ k ∈ ([6, 7, 8, 9, 10] : List Nat), k ∈ ([6, 7, 8, 9, 10] : List Nat)) k hk)) N v4 v2 σ hq1) mf_yX4_beatFrom lm_RX4_36 (hks 6 (by decide)) rfl rfl ⟨Nat.le_of_ble_eq_true rfl, Nat.le_of_ble_eq_true rfl⟩ ⟨Nat.le_refl _, Nat.le_refl _⟩ rfl hl.1 rfl (Nat.le_of_ble_eq_true rfl) dX4_ringSize_34) (fun H locs h => ?_)
        refine lv_istore hx hb dX4_ringSize_37 hl (by decide) (lv' := [(4, .int q1), (3, .int (v3 + 1)), (0, .ref (g.1 6)), (1, .int v1), (2, .int v2), (5, .int v5)]) rfl (fun ls hl => ?_)
        refine lv_iinc hx hb dX4_ringSize_39 hl (k := 5) rfl (kinc_1 _) (by decide) (lv' := [(5, .int (v5 + 1)), (4, .int q1), (3, .int (v3 + 1)), (0, .ref (g.1 6)), (1, .int v1), (2, .int v2)]) rfl (fun ls hl => ?_)
        refine lv_goto hx hb dX4_ringSize_42 (tgt := 13) (by decide) ?_
        exact ih v1 v2 (v3 + 1) q1 (v5 + 1) _ _ _ h (lv_sub hl [3, 4, 5, 2, 1, 0] rfl) hf
set_option maxHeartbeats 4000000 in
set_option maxRecDepth 100000 in
theorem c_X4_ringSize (l : Launch) {g : fb_G} {ks : List Nat} (hI : fb_I g ks) (hks : ∀ k ∈ ([6, 7, 8, 9, 10] : List Nat), k ∈ ks) (N : Nat) (a1 : Int32) (a2 : Int32) (σ : fb_S) {res : Int32} (hf : f_X4_ringSize N a1 a2 σ = some res) : fb_M l yX4_ringSize cX4_ringSize 6 (some .int) 3 67 g ks [.ref (g.1 6), .int a1, .int a2] σ (fb_Qi g ks res σ) := by
  refine fb_met (by decide +kernel) hI (Nat.le_of_ble_eq_true rfl) (fun p e s m below meth c ls X h hr hlk hl => ?_)
  have X : fb_X p m c cX4_ringSize 6 s _ RX4 g ks (fb_A g ks) := X
  have hl : lv_has ls 6 [(0, .ref (g.1 6)), (1, .int a1), (2, .int a2)] := hl
  have hx := X.1.1
  have hb := X.1.2.1
  unfold f_X4_ringSize at hf
  refine lv_iconst hx hb dX4_ringSize_0 ki_1 ?_
  refine lv_istore_n hx hb dX4_ringSize_1 rfl hl (by decide) (lv' := [(3, .int (1)), (0, .ref (g.1 6)), (1, .int a1), (2, .int a2)]) rfl (fun ls hl => ?_)
  refine lv_aload_n hx hb dX4_ringSize_2 rfl (lv_at hl 1 rfl) ?_
  refine lv_iload_n hx hb dX4_ringSize_3 rfl (lv_at hl 2 rfl) ?_
  refine lv_iload_n hx hb dX4_ringSize_4 rfl (lv_at hl 3 rfl) ?_
  obtain ⟨q2, hq2, hf⟩ := bd_s hf
  refine fb_ci X h (fb_runV (As := [.int a1, .int a2]) (rest := []) (k := 6) X h (c_X4_beatFrom l X.2.2.1 (fun k hk => hks k ((by decide : ∀ k ∈ ([6, 7, 8, 9, 10] : List Nat), k ∈ ([6, 7, 8, 9, 10] : List Nat)) k hk)) N a1 a2 σ hq2) mf_yX4_beatFrom lm_RX4_36 (hks 6 (by decide)) rfl rfl ⟨Nat.le_of_ble_eq_true rfl, Nat.le_of_ble_eq_true rfl⟩ ⟨Nat.le_refl _, Nat.le_refl _⟩ rfl hl.1 rfl (Nat.le_of_ble_eq_true rfl) dX4_ringSize_5) (fun H locs h => ?_)
  refine lv_istore hx hb dX4_ringSize_8 hl (by decide) (lv' := [(4, .int q2), (3, .int (1)), (0, .ref (g.1 6)), (1, .int a1), (2, .int a2)]) rfl (fun ls hl => ?_)
  refine lv_iconst hx hb dX4_ringSize_10 ki_0 ?_
  refine lv_istore hx hb dX4_ringSize_11 hl (by decide) (lv' := [(5, .int (0)), (4, .int q2), (3, .int (1)), (0, .ref (g.1 6)), (1, .int a1), (2, .int a2)]) rfl (fun ls hl => ?_)
  exact w_X4_ringSize_L13 X hks hr hlk N σ N a1 a2 (1 : Int32) q2 (0 : Int32) _ _ _ h (lv_sub hl [3, 4, 5, 2, 1, 0] rfl) hf
def f_X4_beatsAheadOfRing_L18 (N : Nat) (σ : fb_S) : Nat → Int32 → Int32 → Int32 → Int32 → Int32 → Option Int32
  | 0, _, _, _, _, _ => none
  | n + 1, v3, v4, v5, v6, v7 => 
    if (10000 : Int32) ≤ v7 then (
      some v6
    ) else (
      if v4 = v5 then (
        some v6
      ) else (
        (f_X4_beatFrom N v4 v3 σ).bind fun q1 =>
        (f_X4_beatFrom N v5 v3 σ).bind fun q2 =>
        f_X4_beatsAheadOfRing_L18 N σ n v3 q1 q2 (v6 + 1) (v7 + 1)
      )
    )
def f_X4_beatsAheadOfRing (N : Nat) (a1 : Int32) (a2 : Int32) (a3 : Int32) (σ : fb_S) : Option Int32 :=
  (f_X4_swayBehind N a1 a2 a3 σ).bind fun q3 =>
  f_X4_beatsAheadOfRing_L18 N σ N a3 a1 q3 (0 : Int32) (0 : Int32)
set_option maxHeartbeats 4000000 in
set_option maxRecDepth 100000 in
theorem w_X4_beatsAheadOfRing_L18 (X : fb_X p m c cX4_beatsAheadOfRing 8 s args RX4 g ks (fb_A g ks)) (hks : ∀ k ∈ ([6, 7, 8, 9, 10] : List Nat), k ∈ ks) (hr : meth.sig.returnType = (some .int)) (hlk : meth.locks = false) (N : Nat) (σ : fb_S)  {res : Int32} : ∀ (n : Nat) (v3 : Int32) (v4 : Int32) (v5 : Int32) (v6 : Int32) (v7 : Int32) (H : Heap) (locs : List Loc) (ls : Array Slot), fb_H g ks (fb_A g ks) s.heap σ H locs → lv_has ls 8 [(0, .ref (g.1 6)), (3, .int v3), (4, .int v4), (5, .int v5), (6, .int v6), (7, .int v7)] → f_X4_beatsAheadOfRing_L18 N σ n v3 v4 v5 v6 v7 = some res → W p l e (fb_R 4 93) s m args below meth c H locs 0 0 (MQ below (fb_Qi g ks res σ) args s 0 0 (fb_A g ks)) (F0 m 18 ls []) := by
  have hx := X.1.1
  have hb := X.1.2.1
  intro n
  induction n with
  | zero => intro v3 v4 v5 v6 v7 H locs ls h hl hf; cases hf
  | succ n ih =>
    intro v3 v4 v5 v6 v7 H locs ls h hl hf
    unfold f_X4_beatsAheadOfRing_L18 at hf
    refine lv_iload hx hb dX4_beatsAheadOfRing_18 (lv_at hl 5 rfl) ?_
    refine lv_sipush hx hb dX4_beatsAheadOfRing_20 ks_10000 ?_
    refine lv_icmp_ge hx hb dX4_beatsAheadOfRing_23 (tgt := 60) (by decide) (fun hc => ?_) (fun hc => ?_)
    · have hf := if_t hc hf
      refine lv_iload hx hb dX4_beatsAheadOfRing_60 (lv_at hl 4 rfl) ?_
      have e9 := Option.some.inj hf
      subst e9
      exact fb_ir X h hr hlk dX4_beatsAheadOfRing_62
    · have hf := if_f hc hf
      refine lv_iload hx hb dX4_beatsAheadOfRing_26 (lv_at hl 2 rfl) ?_
      refine lv_iload hx hb dX4_beatsAheadOfRing_28 (lv_at hl 3 rfl) ?_
      refine lv_icmp_eq hx hb dX4_beatsAheadOfRing_30 (tgt := 60) (by decide) (fun hc => ?_) (fun hc => ?_)
      · have hf := if_t hc hf
        refine lv_iload hx hb dX4_beatsAheadOfRing_60 (lv_at hl 4 rfl) ?_
        have e9 := Option.some.inj hf
        subst e9
        exact fb_ir X h hr hlk dX4_beatsAheadOfRing_62
      · have hf := if_f hc hf
        refine lv_aload_n hx hb dX4_beatsAheadOfRing_33 rfl (lv_at hl 0 rfl) ?_
        refine lv_iload hx hb dX4_beatsAheadOfRing_34 (lv_at hl 2 rfl) ?_
        refine lv_iload_n hx hb dX4_beatsAheadOfRing_36 rfl (lv_at hl 1 rfl) ?_
        obtain ⟨q1, hq1, hf⟩ := bd_s hf
        refine fb_ci X h (fb_runV (As := [.int v4, .int v3]) (rest := []) (k := 6) X h (c_X4_beatFrom l X.2.2.1 (fun k hk => hks k ((by decide : ∀ k ∈ ([6, 7, 8, 9, 10] : List Nat), k ∈ ([6, 7, 8, 9, 10] : List Nat)) k hk)) N v4 v3 σ hq1) mf_yX4_beatFrom lm_RX4_36 (hks 6 (by decide)) rfl rfl ⟨Nat.le_of_ble_eq_true rfl, Nat.le_of_ble_eq_true rfl⟩ ⟨Nat.le_refl _, Nat.le_refl _⟩ rfl hl.1 rfl (Nat.le_of_ble_eq_true rfl) dX4_beatsAheadOfRing_37) (fun H locs h => ?_)
        refine lv_istore hx hb dX4_beatsAheadOfRing_40 hl (by decide) (lv' := [(4, .int q1), (0, .ref (g.1 6)), (3, .int v3), (5, .int v5), (6, .int v6), (7, .int v7)]) rfl (fun ls hl => ?_)
        refine lv_aload_n hx hb dX4_beatsAheadOfRing_42 rfl (lv_at hl 1 rfl) ?_
        refine lv_iload hx hb dX4_beatsAheadOfRing_43 (lv_at hl 3 rfl) ?_
        refine lv_iload_n hx hb dX4_beatsAheadOfRing_45 rfl (lv_at hl 2 rfl) ?_
        obtain ⟨q2, hq2, hf⟩ := bd_s hf
        refine fb_ci X h (fb_runV (As := [.int v5, .int v3]) (rest := []) (k := 6) X h (c_X4_beatFrom l X.2.2.1 (fun k hk => hks k ((by decide : ∀ k ∈ ([6, 7, 8, 9, 10] : List Nat), k ∈ ([6, 7, 8, 9, 10] : List Nat)) k hk)) N v5 v3 σ hq2) mf_yX4_beatFrom lm_RX4_36 (hks 6 (by decide)) rfl rfl ⟨Nat.le_of_ble_eq_true rfl, Nat.le_of_ble_eq_true rfl⟩ ⟨Nat.le_refl _, Nat.le_refl _⟩ rfl hl.1 rfl (Nat.le_of_ble_eq_true rfl) dX4_beatsAheadOfRing_46) (fun H locs h => ?_)
        refine lv_istore hx hb dX4_beatsAheadOfRing_49 hl (by decide) (lv' := [(5, .int q2), (4, .int q1), (0, .ref (g.1 6)), (3, .int v3), (6, .int v6), (7, .int v7)]) rfl (fun ls hl => ?_)
        refine lv_iinc hx hb dX4_beatsAheadOfRing_51 hl (k := 4) rfl (kinc_1 _) (by decide) (lv' := [(6, .int (v6 + 1)), (5, .int q2), (4, .int q1), (0, .ref (g.1 6)), (3, .int v3), (7, .int v7)]) rfl (fun ls hl => ?_)
        refine lv_iinc hx hb dX4_beatsAheadOfRing_54 hl (k := 5) rfl (kinc_1 _) (by decide) (lv' := [(7, .int (v7 + 1)), (6, .int (v6 + 1)), (5, .int q2), (4, .int q1), (0, .ref (g.1 6)), (3, .int v3)]) rfl (fun ls hl => ?_)
        refine lv_goto hx hb dX4_beatsAheadOfRing_57 (tgt := 18) (by decide) ?_
        exact ih v3 q1 q2 (v6 + 1) (v7 + 1) _ _ _ h (lv_sub hl [4, 5, 3, 2, 1, 0] rfl) hf
set_option maxHeartbeats 4000000 in
set_option maxRecDepth 100000 in
theorem c_X4_beatsAheadOfRing (l : Launch) {g : fb_G} {ks : List Nat} (hI : fb_I g ks) (hks : ∀ k ∈ ([6, 7, 8, 9, 10] : List Nat), k ∈ ks) (N : Nat) (a1 : Int32) (a2 : Int32) (a3 : Int32) (σ : fb_S) {res : Int32} (hf : f_X4_beatsAheadOfRing N a1 a2 a3 σ = some res) : fb_M l yX4_beatsAheadOfRing cX4_beatsAheadOfRing 8 (some .int) 4 93 g ks [.ref (g.1 6), .int a1, .int a2, .int a3] σ (fb_Qi g ks res σ) := by
  refine fb_met (by decide +kernel) hI (Nat.le_of_ble_eq_true rfl) (fun p e s m below meth c ls X h hr hlk hl => ?_)
  have X : fb_X p m c cX4_beatsAheadOfRing 8 s _ RX4 g ks (fb_A g ks) := X
  have hl : lv_has ls 8 [(0, .ref (g.1 6)), (1, .int a1), (2, .int a2), (3, .int a3)] := hl
  have hx := X.1.1
  have hb := X.1.2.1
  unfold f_X4_beatsAheadOfRing at hf
  refine lv_iload_n hx hb dX4_beatsAheadOfRing_0 rfl (lv_at hl 1 rfl) ?_
  refine lv_istore hx hb dX4_beatsAheadOfRing_1 hl (by decide) (lv' := [(4, .int a1), (0, .ref (g.1 6)), (1, .int a1), (2, .int a2), (3, .int a3)]) rfl (fun ls hl => ?_)
  refine lv_aload_n hx hb dX4_beatsAheadOfRing_3 rfl (lv_at hl 1 rfl) ?_
  refine lv_iload_n hx hb dX4_beatsAheadOfRing_4 rfl (lv_at hl 2 rfl) ?_
  refine lv_iload_n hx hb dX4_beatsAheadOfRing_5 rfl (lv_at hl 3 rfl) ?_
  refine lv_iload_n hx hb dX4_beatsAheadOfRing_6 rfl (lv_at hl 4 rfl) ?_
  obtain ⟨q3, hq3, hf⟩ := bd_s hf
  refine fb_ci X h (fb_runV (As := [.int a1, .int a2, .int a3]) (rest := []) (k := 6) X h (c_X4_swayBehind l X.2.2.1 (fun k hk => hks k ((by decide : ∀ k ∈ ([6, 7, 8, 9, 10] : List Nat), k ∈ ([6, 7, 8, 9, 10] : List Nat)) k hk)) N a1 a2 a3 σ hq3) mf_yX4_swayBehind lm_RX4_65 (hks 6 (by decide)) rfl rfl ⟨Nat.le_of_ble_eq_true rfl, Nat.le_of_ble_eq_true rfl⟩ ⟨Nat.le_refl _, Nat.le_refl _⟩ rfl hl.1 rfl (Nat.le_of_ble_eq_true rfl) dX4_beatsAheadOfRing_7) (fun H locs h => ?_)
  refine lv_istore hx hb dX4_beatsAheadOfRing_10 hl (by decide) (lv' := [(5, .int q3), (4, .int a1), (0, .ref (g.1 6)), (1, .int a1), (2, .int a2), (3, .int a3)]) rfl (fun ls hl => ?_)
  refine lv_iconst hx hb dX4_beatsAheadOfRing_12 ki_0 ?_
  refine lv_istore hx hb dX4_beatsAheadOfRing_13 hl (by decide) (lv' := [(6, .int (0)), (5, .int q3), (4, .int a1), (0, .ref (g.1 6)), (1, .int a1), (2, .int a2), (3, .int a3)]) rfl (fun ls hl => ?_)
  refine lv_iconst hx hb dX4_beatsAheadOfRing_15 ki_0 ?_
  refine lv_istore hx hb dX4_beatsAheadOfRing_16 hl (by decide) (lv' := [(7, .int (0)), (6, .int (0)), (5, .int q3), (4, .int a1), (0, .ref (g.1 6)), (1, .int a1), (2, .int a2), (3, .int a3)]) rfl (fun ls hl => ?_)
  exact w_X4_beatsAheadOfRing_L18 X hks hr hlk N σ N a3 a1 q3 (0 : Int32) (0 : Int32) _ _ _ h (lv_sub hl [4, 7, 3, 2, 1, 0] rfl) hf
def f_X4_ringFigure (N : Nat) (a1 : Int32) (a2 : Int32) (a3 : Int32) (σ : fb_S) : Option (Int32 × fb_S) :=
  (f_X4_beatsTillStill N a1 a3 σ).bind fun q1 =>
  if q1.1 = (-9 : Int32) then (
    if a2 = 0 then (
      (f_X4_ringEnd N (q1.2.1 6 4) (0 : Int32) a3 q1.2).bind fun q2 =>
      some (q2, q1.2)
    ) else (
      if a2 = 1 then (
        (f_X4_ringEnd N (q1.2.1 6 4) (1 : Int32) a3 q1.2).bind fun q3 =>
        some (q3, q1.2)
      ) else (
        if a2 = 2 then (
          (f_X4_ringSize N (q1.2.1 6 4) a3 q1.2).bind fun q4 =>
          some (q4, q1.2)
        ) else (
          (f_X4_ringSize N (q1.2.1 6 4) a3 q1.2).bind fun q5 =>
          (f_X4_beatsAheadOfRing N a1 q5 a3 q1.2).bind fun q6 =>
          some (q6, q1.2)
    )))
  ) else (
    some ((-9 : Int32), q1.2)
  )
set_option maxHeartbeats 4000000 in
set_option maxRecDepth 100000 in
theorem c_X4_ringFigure (l : Launch) {g : fb_G} {ks : List Nat} (hI : fb_I g ks) (hks : ∀ k ∈ ([6, 7, 8, 9, 10] : List Nat), k ∈ ks) (N : Nat) (a1 : Int32) (a2 : Int32) (a3 : Int32) (σ : fb_S) {res : (Int32 × fb_S)} (hf : f_X4_ringFigure N a1 a2 a3 σ = some res) : fb_M l yX4_ringFigure cX4_ringFigure 4 (some .int) 5 120 g ks [.ref (g.1 6), .int a1, .int a2, .int a3] σ (fb_Qi g ks res.1 res.2) := by
  refine fb_met (by decide +kernel) hI (Nat.le_of_ble_eq_true rfl) (fun p e s m below meth c ls X h hr hlk hl => ?_)
  have X : fb_X p m c cX4_ringFigure 4 s _ RX4 g ks (fb_A g ks) := X
  have hl : lv_has ls 4 [(0, .ref (g.1 6)), (1, .int a1), (2, .int a2), (3, .int a3)] := hl
  have hx := X.1.1
  have hb := X.1.2.1
  unfold f_X4_ringFigure at hf
  refine lv_aload_n hx hb dX4_ringFigure_0 rfl (lv_at hl 0 rfl) ?_
  refine lv_iload_n hx hb dX4_ringFigure_1 rfl (lv_at hl 1 rfl) ?_
  refine lv_iload_n hx hb dX4_ringFigure_2 rfl (lv_at hl 3 rfl) ?_
  obtain ⟨q1, hq1, hf⟩ := bd_s hf
  refine fb_ci X h (fb_runV (As := [.int a1, .int a3]) (rest := []) (k := 6) X h (c_X4_beatsTillStill l X.2.2.1 (fun k hk => hks k ((by decide : ∀ k ∈ ([6, 7, 8, 9, 10] : List Nat), k ∈ ([6, 7, 8, 9, 10] : List Nat)) k hk)) N a1 a3 σ hq1) mf_yX4_beatsTillStill lm_RX4_43 (hks 6 (by decide)) rfl rfl ⟨Nat.le_of_ble_eq_true rfl, Nat.le_of_ble_eq_true rfl⟩ ⟨Nat.le_refl _, Nat.le_refl _⟩ rfl hl.1 rfl (Nat.le_of_ble_eq_true rfl) dX4_ringFigure_3) (fun H locs h => ?_)
  refine lv_bipush hx hb dX4_ringFigure_6 kb_m9 ?_
  refine lv_icmp_eq hx hb dX4_ringFigure_8 (tgt := 14) (by decide) (fun hc => ?_) (fun hc => ?_)
  · have hf := if_t hc hf
    refine lv_iload_n hx hb dX4_ringFigure_14 rfl (lv_at hl 2 rfl) ?_
    by_cases hc0 : a2 = 0
    · have hf := if_t hc0 hf
      refine lv_tableIn hx hb dX4_ringFigure_15 (off := 25) (tgt := 40) (by rw [hc0]; decide) (by rw [hc0]; decide) (by rw [hc0]; decide) (by decide) ?_
      refine lv_aload_n hx hb dX4_ringFigure_40 rfl (lv_at hl 0 rfl) ?_
      refine lv_aload_n hx hb dX4_ringFigure_41 rfl (lv_at hl 0 rfl) ?_
      refine gt_RX4_39 X h (hks 6 (by decide)) dX4_ringFigure_42 ?_
      refine lv_iconst hx hb dX4_ringFigure_45 ki_0 ?_
      refine lv_iload_n hx hb dX4_ringFigure_46 rfl (lv_at hl 3 rfl) ?_
      obtain ⟨q2, hq2, hf⟩ := bd_s hf
      refine fb_ci X h (fb_runV (As := [.int (q1.2.1 6 4), .int (0), .int a3]) (rest := []) (k := 6) X h (c_X4_ringEnd l X.2.2.1 (fun k hk => hks k ((by decide : ∀ k ∈ ([6, 7, 8, 9, 10] : List Nat), k ∈ ([6, 7, 8, 9, 10] : List Nat)) k hk)) N (q1.2.1 6 4) (0 : Int32) a3 q1.2 hq2) mf_yX4_ringEnd lm_RX4_46 (hks 6 (by decide)) rfl rfl ⟨Nat.le_of_ble_eq_true rfl, Nat.le_of_ble_eq_true rfl⟩ ⟨Nat.le_refl _, Nat.le_refl _⟩ rfl hl.1 rfl (Nat.le_of_ble_eq_true rfl) dX4_ringFigure_47) (fun H locs h => ?_)
      have e9 := Option.some.inj hf
      subst e9
      exact fb_ir X h hr hlk dX4_ringFigure_50
    have hf := if_f hc0 hf
    by_cases hc1 : a2 = 1
    · have hf := if_t hc1 hf
      refine lv_tableIn hx hb dX4_ringFigure_15 (off := 36) (tgt := 51) (by rw [hc1]; decide) (by rw [hc1]; decide) (by rw [hc1]; decide) (by decide) ?_
      refine lv_aload_n hx hb dX4_ringFigure_51 rfl (lv_at hl 0 rfl) ?_
      refine lv_aload_n hx hb dX4_ringFigure_52 rfl (lv_at hl 0 rfl) ?_
      refine gt_RX4_39 X h (hks 6 (by decide)) dX4_ringFigure_53 ?_
      refine lv_iconst hx hb dX4_ringFigure_56 ki_1 ?_
      refine lv_iload_n hx hb dX4_ringFigure_57 rfl (lv_at hl 3 rfl) ?_
      obtain ⟨q3, hq3, hf⟩ := bd_s hf
      refine fb_ci X h (fb_runV (As := [.int (q1.2.1 6 4), .int (1), .int a3]) (rest := []) (k := 6) X h (c_X4_ringEnd l X.2.2.1 (fun k hk => hks k ((by decide : ∀ k ∈ ([6, 7, 8, 9, 10] : List Nat), k ∈ ([6, 7, 8, 9, 10] : List Nat)) k hk)) N (q1.2.1 6 4) (1 : Int32) a3 q1.2 hq3) mf_yX4_ringEnd lm_RX4_46 (hks 6 (by decide)) rfl rfl ⟨Nat.le_of_ble_eq_true rfl, Nat.le_of_ble_eq_true rfl⟩ ⟨Nat.le_refl _, Nat.le_refl _⟩ rfl hl.1 rfl (Nat.le_of_ble_eq_true rfl) dX4_ringFigure_58) (fun H locs h => ?_)
      have e9 := Option.some.inj hf
      subst e9
      exact fb_ir X h hr hlk dX4_ringFigure_61
    have hf := if_f hc1 hf
    by_cases hc2 : a2 = 2
    · have hf := if_t hc2 hf
      refine lv_tableIn hx hb dX4_ringFigure_15 (off := 47) (tgt := 62) (by rw [hc2]; decide) (by rw [hc2]; decide) (by rw [hc2]; decide) (by decide) ?_
      refine lv_aload_n hx hb dX4_ringFigure_62 rfl (lv_at hl 0 rfl) ?_
      refine lv_aload_n hx hb dX4_ringFigure_63 rfl (lv_at hl 0 rfl) ?_
      refine gt_RX4_39 X h (hks 6 (by decide)) dX4_ringFigure_64 ?_
      refine lv_iload_n hx hb dX4_ringFigure_67 rfl (lv_at hl 3 rfl) ?_
      obtain ⟨q4, hq4, hf⟩ := bd_s hf
      refine fb_ci X h (fb_runV (As := [.int (q1.2.1 6 4), .int a3]) (rest := []) (k := 6) X h (c_X4_ringSize l X.2.2.1 (fun k hk => hks k ((by decide : ∀ k ∈ ([6, 7, 8, 9, 10] : List Nat), k ∈ ([6, 7, 8, 9, 10] : List Nat)) k hk)) N (q1.2.1 6 4) a3 q1.2 hq4) mf_yX4_ringSize lm_RX4_50 (hks 6 (by decide)) rfl rfl ⟨Nat.le_of_ble_eq_true rfl, Nat.le_of_ble_eq_true rfl⟩ ⟨Nat.le_refl _, Nat.le_refl _⟩ rfl hl.1 rfl (Nat.le_of_ble_eq_true rfl) dX4_ringFigure_68) (fun H locs h => ?_)
      have e9 := Option.some.inj hf
      subst e9
      exact fb_ir X h hr hlk dX4_ringFigure_71
    have hf := if_f hc2 hf
    refine lv_tableOut hx hb dX4_ringFigure_15 (tgt := 72) (by have h9 := fb_swn (x := a2) 3 (by decide) (fun j hj => match j, hj with | 0, _ => hc0 | 1, _ => hc1 | 2, _ => hc2); omega) (by decide) ?_
    refine lv_aload_n hx hb dX4_ringFigure_72 rfl (lv_at hl 0 rfl) ?_
    refine lv_iload_n hx hb dX4_ringFigure_73 rfl (lv_at hl 1 rfl) ?_
    refine lv_aload_n hx hb dX4_ringFigure_74 rfl (lv_at hl 0 rfl) ?_
    refine lv_aload_n hx hb dX4_ringFigure_75 rfl (lv_at hl 0 rfl) ?_
    refine gt_RX4_39 X h (hks 6 (by decide)) dX4_ringFigure_76 ?_
    refine lv_iload_n hx hb dX4_ringFigure_79 rfl (lv_at hl 3 rfl) ?_
    obtain ⟨q5, hq5, hf⟩ := bd_s hf
    refine fb_ci X h (fb_runV (As := [.int (q1.2.1 6 4), .int a3]) (rest := [.int a1, .ref (g.1 6)]) (k := 6) X h (c_X4_ringSize l X.2.2.1 (fun k hk => hks k ((by decide : ∀ k ∈ ([6, 7, 8, 9, 10] : List Nat), k ∈ ([6, 7, 8, 9, 10] : List Nat)) k hk)) N (q1.2.1 6 4) a3 q1.2 hq5) mf_yX4_ringSize lm_RX4_50 (hks 6 (by decide)) rfl rfl ⟨Nat.le_of_ble_eq_true rfl, Nat.le_of_ble_eq_true rfl⟩ ⟨Nat.le_refl _, Nat.le_refl _⟩ rfl hl.1 rfl (Nat.le_of_ble_eq_true rfl) dX4_ringFigure_80) (fun H locs h => ?_)
    refine lv_iload_n hx hb dX4_ringFigure_83 rfl (lv_at hl 3 rfl) ?_
    obtain ⟨q6, hq6, hf⟩ := bd_s hf
    refine fb_ci X h (fb_runV (As := [.int a1, .int q5, .int a3]) (rest := []) (k := 6) X h (c_X4_beatsAheadOfRing l X.2.2.1 (fun k hk => hks k ((by decide : ∀ k ∈ ([6, 7, 8, 9, 10] : List Nat), k ∈ ([6, 7, 8, 9, 10] : List Nat)) k hk)) N a1 q5 a3 q1.2 hq6) mf_yX4_beatsAheadOfRing lm_RX4_53 (hks 6 (by decide)) rfl rfl ⟨Nat.le_of_ble_eq_true rfl, Nat.le_of_ble_eq_true rfl⟩ ⟨Nat.le_refl _, Nat.le_refl _⟩ rfl hl.1 rfl (Nat.le_of_ble_eq_true rfl) dX4_ringFigure_84) (fun H locs h => ?_)
    have e9 := Option.some.inj hf
    subst e9
    exact fb_ir X h hr hlk dX4_ringFigure_87
  · have hf := if_f hc hf
    refine lv_bipush hx hb dX4_ringFigure_11 kb_m9 ?_
    have e9 := Option.some.inj hf
    subst e9
    exact fb_ir X h hr hlk dX4_ringFigure_13
def f_X5_ring (N : Nat) (a1 : Int32) (a2 : Int32) (σ : fb_S) : Option (Int32 × fb_S) :=
  (f_X5_isSway a1).bind fun q1 =>
  if q1 = 0 then (
    some ((-2 : Int32), σ)
  ) else (
    (f_X5_isWithin a2 (0 : Int32) (3 : Int32)).bind fun q2 =>
    if q2 = 0 then (
      some ((-2 : Int32), σ)
    ) else (
      (f_X5_allDamping N σ).bind fun q3 =>
      (f_X4_ringFigure N a1 a2 q3 σ).bind fun q4 =>
      some (q4.1, q4.2)
    )
  )
set_option maxHeartbeats 4000000 in
set_option maxRecDepth 100000 in
theorem c_X5_ring (l : Launch) {g : fb_G} {ks : List Nat} (hI : fb_I g ks) (hks : ∀ k ∈ ([0, 1, 6, 7, 8, 9, 10, 11, 12, 15] : List Nat), k ∈ ks) (N : Nat) (a1 : Int32) (a2 : Int32) (σ : fb_S) {res : (Int32 × fb_S)} (hf : f_X5_ring N a1 a2 σ = some res) : fb_M l yX5_ring cX5_ring 3 (some .int) 6 143 g ks [.ref (g.1 0), .int a1, .int a2] σ (fb_Qi g ks res.1 res.2) := by
  refine fb_met (by decide +kernel) hI (Nat.le_of_ble_eq_true rfl) (fun p e s m below meth c ls X h hr hlk hl => ?_)
  have X : fb_X p m c cX5_ring 3 s _ RX5 g ks (fb_A g ks) := X
  have hl : lv_has ls 3 [(0, .ref (g.1 0)), (1, .int a1), (2, .int a2)] := hl
  have hx := X.1.1
  have hb := X.1.2.1
  unfold f_X5_ring at hf
  refine lv_iload_n hx hb dX5_ring_0 rfl (lv_at hl 1 rfl) ?_
  obtain ⟨q1, hq1, hf⟩ := bd_s hf
  refine fb_ci X h (fb_runS (As := [.int a1]) (rest := []) X h (c_X5_isSway l X.2.2.1 (fun k hk => absurd hk List.not_mem_nil) a1 σ hq1) mf_yX5_isSway lm_RX5_88 ⟨Nat.le_of_ble_eq_true rfl, Nat.le_of_ble_eq_true rfl⟩ ⟨Nat.le_refl _, Nat.le_refl _⟩ rfl hl.1 rfl (Nat.le_of_ble_eq_true rfl) dX5_ring_1) (fun H locs h => ?_)
  refine lv_if_eq hx hb dX5_ring_4 (tgt := 16) (by decide) (fun hc => ?_) (fun hc => ?_)
  · have hf := if_t hc hf
    refine lv_bipush hx hb dX5_ring_16 kb_m2 ?_
    have e9 := Option.some.inj hf
    subst e9
    exact fb_ir X h hr hlk dX5_ring_18
  · have hf := if_f hc hf
    refine lv_iload_n hx hb dX5_ring_7 rfl (lv_at hl 2 rfl) ?_
    refine lv_iconst hx hb dX5_ring_8 ki_0 ?_
    refine lv_iconst hx hb dX5_ring_9 ki_3 ?_
    obtain ⟨q2, hq2, hf⟩ := bd_s hf
    refine fb_ci X h (fb_runS (As := [.int a2, .int (0), .int (3)]) (rest := []) X h (c_X5_isWithin l X.2.2.1 (fun k hk => absurd hk List.not_mem_nil) a2 (0 : Int32) (3 : Int32) σ hq2) mf_yX5_isWithin lm_RX5_48 ⟨Nat.le_of_ble_eq_true rfl, Nat.le_of_ble_eq_true rfl⟩ ⟨Nat.le_refl _, Nat.le_refl _⟩ rfl hl.1 rfl (Nat.le_of_ble_eq_true rfl) dX5_ring_10) (fun H locs h => ?_)
    refine lv_if_ne hx hb dX5_ring_13 (tgt := 19) (by decide) (fun hc => ?_) (fun hc => ?_)
    · have hf := if_f hc hf
      refine lv_aload_n hx hb dX5_ring_19 rfl (lv_at hl 0 rfl) ?_
      refine gt_RX5_23 X h (hks 0 (by decide)) dX5_ring_20 ?_
      refine lv_iload_n hx hb dX5_ring_23 rfl (lv_at hl 1 rfl) ?_
      refine lv_iload_n hx hb dX5_ring_24 rfl (lv_at hl 2 rfl) ?_
      refine lv_aload_n hx hb dX5_ring_25 rfl (lv_at hl 0 rfl) ?_
      obtain ⟨q3, hq3, hf⟩ := bd_s hf
      refine fb_ci X h (fb_runV (As := []) (rest := [.int a2, .int a1, .ref (g.1 6)]) (k := 0) X h (c_X5_allDamping l X.2.2.1 (fun k hk => hks k ((by decide : ∀ k ∈ ([0, 1, 11, 12, 15] : List Nat), k ∈ ([0, 1, 6, 7, 8, 9, 10, 11, 12, 15] : List Nat)) k hk)) N σ hq3) mf_yX5_allDamping lm_RX5_112 (hks 0 (by decide)) rfl rfl ⟨Nat.le_of_ble_eq_true rfl, Nat.le_of_ble_eq_true rfl⟩ ⟨Nat.le_refl _, Nat.le_refl _⟩ rfl hl.1 rfl (Nat.le_of_ble_eq_true rfl) dX5_ring_26) (fun H locs h => ?_)
      obtain ⟨q4, hq4, hf⟩ := bd_s hf
      refine fb_ci X h (fb_runVN (As := [.int a1, .int a2, .int q3]) (rest := []) (k := 6) X h (c_X4_ringFigure l X.2.2.1 (fun k hk => hks k ((by decide : ∀ k ∈ ([6, 7, 8, 9, 10] : List Nat), k ∈ ([0, 1, 6, 7, 8, 9, 10, 11, 12, 15] : List Nat)) k hk)) N a1 a2 q3 σ hq4) mf_yX4_ringFigure lm_RX5_128 (hks 6 (by decide)) rfl rfl ⟨Nat.le_of_ble_eq_true rfl, Nat.le_of_ble_eq_true rfl⟩ ⟨Nat.le_refl _, Nat.le_refl _⟩ rfl hl.1 rfl (Nat.le_of_ble_eq_true rfl) dX5_ring_29) (fun H locs h => ?_)
      have e9 := Option.some.inj hf
      subst e9
      exact fb_ir X h hr hlk dX5_ring_32
    · have hf := if_t hc hf
      refine lv_bipush hx hb dX5_ring_16 kb_m2 ?_
      have e9 := Option.some.inj hf
      subst e9
      exact fb_ir X h hr hlk dX5_ring_18
end MW
