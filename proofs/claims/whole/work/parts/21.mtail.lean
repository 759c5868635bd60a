section MT
variable {p : Program} {l : Launch} {e : Env} {s : State} {m : MethodId} {args : Array Value} {below : List Frame} {meth : Method} {c : Code} {g : fb_G} {ks : List Nat} {R : Room} {cells slots : Nat} {Q : State → Prop} {A : Nat → Prop} {H0 : Heap}
def f_X6_init_L208 (N : Nat) : Nat → Int32 → fb_S → Option fb_S
  | 0, _, _ => none
  | n + 1, v1, σ => 
    if (4 : Int32) ≤ v1 then (
      nm_ (fb_up σ 37 0 (10 : Int32)) fun t1 =>
      nm_ (fb_up t1 37 1 (10 : Int32)) fun t2 =>
      nm_ (fb_up t2 37 2 (100 : Int32)) fun t3 =>
      nm_ (fb_up t3 37 3 (100 : Int32)) fun t4 =>
      nm_ (fb_up t4 43 0 (4 : Int32)) fun t5 =>
      nm_ (fb_up t5 43 1 (20 : Int32)) fun t6 =>
      nm_ (fb_up t6 43 2 (10 : Int32)) fun t7 =>
      nm_ (fb_up t7 43 3 (10 : Int32)) fun t8 =>
      nm_ (fb_up t8 43 4 (999 : Int32)) fun t9 =>
      nm_ (fb_up t9 43 5 (1 : Int32)) fun t10 =>
      some t10
    ) else (
      ck_ (fb_in v1 4) <|
      nm_ (fb_up σ 34 (v1.toNatClampNeg) (9999 : Int32)) fun t11 =>
      f_X6_init_L208 N n (v1 + 1) t11
    )
def f_X6_init_L187 (N : Nat) : Nat → Int32 → fb_S → Option fb_S
  | 0, _, _ => none
  | n + 1, v1, σ => 
    if (6 : Int32) ≤ v1 then (
      f_X6_init_L208 N N (0 : Int32) σ
    ) else (
      ck_ (fb_in v1 6) <|
      nm_ (fb_up σ 31 (v1.toNatClampNeg) (1 : Int32)) fun t12 =>
      f_X6_init_L187 N n (v1 + 1) t12
    )
def f_X6_init_L167 (N : Nat) : Nat → Int32 → fb_S → Option fb_S
  | 0, _, _ => none
  | n + 1, v1, σ => 
    if (5 : Int32) ≤ v1 then (
      f_X6_init_L187 N N (0 : Int32) σ
    ) else (
      ck_ (fb_in v1 5) <|
      nm_ (fb_up σ 30 (v1.toNatClampNeg) (1 : Int32)) fun t13 =>
      f_X6_init_L167 N n (v1 + 1) t13
    )
def f_X6_init (N : Nat) (σ : fb_S) : Option fb_S :=
  f_X6_init_L167 N N (0 : Int32) σ
set_option maxHeartbeats 4000000 in
set_option maxRecDepth 100000 in
theorem w_X6_init_L208 (X : fb_X p m c cX6_init 2 s args RX6 g ks A) (hks : ∀ k ∈ ([29, 30, 31, 34, 37, 43] : List Nat), k ∈ ks) {res : fb_S} (hret : ∀ (H : Heap) (locs : List Loc) (ls : Array Slot), fb_H g ks A H0 res H locs → W p l e R s m args below meth c H locs cells slots Q (F0 m 307 ls [])) (N : Nat)  : ∀ (n : Nat) (v1 : Int32) (σ : fb_S) (H : Heap) (locs : List Loc) (ls : Array Slot), fb_H g ks A H0 σ H locs → lv_has ls 2 [(0, .ref (g.1 29)), (1, .int v1)] → f_X6_init_L208 N n v1 σ = some res → W p l e R s m args below meth c H locs cells slots Q (F0 m 208 ls []) := by
  have hx := X.1.1
  have hb := X.1.2.1
  intro n
  induction n with
  | zero => intro v1 σ H locs ls h hl hf; cases hf
  | succ n ih =>
    intro v1 σ H locs ls h hl hf
    unfold f_X6_init_L208 at hf
    refine lv_iload_n hx hb dX6_init_208 rfl (lv_at hl 1 rfl) ?_
    refine lv_iconst hx hb dX6_init_209 ki_4 ?_
    refine lv_icmp_ge hx hb dX6_init_210 (tgt := 228) (by decide) (fun hc => ?_) (fun hc => ?_)
    · have hf := if_t hc hf
      refine lv_aload_n hx hb dX6_init_228 rfl (lv_at hl 0 rfl) ?_
      refine gt_RX6_35 X h (hks 29 (by decide)) dX6_init_229 ?_
      refine lv_iconst hx hb dX6_init_232 ki_0 ?_
      refine lv_bipush hx hb dX6_init_233 kb_10 ?_
      obtain ⟨t1, et1, hf⟩ := nm_s hf
      refine fb_iastL X h (hks 37 (by decide)) (fun _ => rfl) (by decide) kn_0 dX6_init_235 (fun H locs h => ?_)
      have h := fb_H.nm et1 h
      refine lv_aload_n hx hb dX6_init_236 rfl (lv_at hl 0 rfl) ?_
      refine gt_RX6_35 X h (hks 29 (by decide)) dX6_init_237 ?_
      refine lv_iconst hx hb dX6_init_240 ki_1 ?_
      refine lv_bipush hx hb dX6_init_241 kb_10 ?_
      obtain ⟨t2, et2, hf⟩ := nm_s hf
      refine fb_iastL X h (hks 37 (by decide)) (fun _ => rfl) (by decide) kn_1 dX6_init_243 (fun H locs h => ?_)
      have h := fb_H.nm et2 h
      refine lv_aload_n hx hb dX6_init_244 rfl (lv_at hl 0 rfl) ?_
      refine gt_RX6_35 X h (hks 29 (by decide)) dX6_init_245 ?_
      refine lv_iconst hx hb dX6_init_248 ki_2 ?_
      refine lv_bipush hx hb dX6_init_249 kb_100 ?_
      obtain ⟨t3, et3, hf⟩ := nm_s hf
      refine fb_iastL X h (hks 37 (by decide)) (fun _ => rfl) (by decide) kn_2 dX6_init_251 (fun H locs h => ?_)
      have h := fb_H.nm et3 h
      refine lv_aload_n hx hb dX6_init_252 rfl (lv_at hl 0 rfl) ?_
      refine gt_RX6_35 X h (hks 29 (by decide)) dX6_init_253 ?_
      refine lv_iconst hx hb dX6_init_256 ki_3 ?_
      refine lv_bipush hx hb dX6_init_257 kb_100 ?_
      obtain ⟨t4, et4, hf⟩ := nm_s hf
      refine fb_iastL X h (hks 37 (by decide)) (fun _ => rfl) (by decide) kn_3 dX6_init_259 (fun H locs h => ?_)
      have h := fb_H.nm et4 h
      refine lv_aload_n hx hb dX6_init_260 rfl (lv_at hl 0 rfl) ?_
      refine gt_RX6_54 X h (hks 29 (by decide)) dX6_init_261 ?_
      refine lv_iconst hx hb dX6_init_264 ki_0 ?_
      refine lv_iconst hx hb dX6_init_265 ki_4 ?_
      obtain ⟨t5, et5, hf⟩ := nm_s hf
      refine fb_iastL X h (hks 43 (by decide)) (fun _ => rfl) (by decide) kn_0 dX6_init_266 (fun H locs h => ?_)
      have h := fb_H.nm et5 h
      refine lv_aload_n hx hb dX6_init_267 rfl (lv_at hl 0 rfl) ?_
      refine gt_RX6_54 X h (hks 29 (by decide)) dX6_init_268 ?_
      refine lv_iconst hx hb dX6_init_271 ki_1 ?_
      refine lv_bipush hx hb dX6_init_272 kb_20 ?_
      obtain ⟨t6, et6, hf⟩ := nm_s hf
      refine fb_iastL X h (hks 43 (by decide)) (fun _ => rfl) (by decide) kn_1 dX6_init_274 (fun H locs h => ?_)
      have h := fb_H.nm et6 h
      refine lv_aload_n hx hb dX6_init_275 rfl (lv_at hl 0 rfl) ?_
      refine gt_RX6_54 X h (hks 29 (by decide)) dX6_init_276 ?_
      refine lv_iconst hx hb dX6_init_279 ki_2 ?_
      refine lv_bipush hx hb dX6_init_280 kb_10 ?_
      obtain ⟨t7, et7, hf⟩ := nm_s hf
      refine fb_iastL X h (hks 43 (by decide)) (fun _ => rfl) (by decide) kn_2 dX6_init_282 (fun H locs h => ?_)
      have h := fb_H.nm et7 h
      refine lv_aload_n hx hb dX6_init_283 rfl (lv_at hl 0 rfl) ?_
      refine gt_RX6_54 X h (hks 29 (by decide)) dX6_init_284 ?_
      refine lv_iconst hx hb dX6_init_287 ki_3 ?_
      refine lv_bipush hx hb dX6_init_288 kb_10 ?_
      obtain ⟨t8, et8, hf⟩ := nm_s hf
      refine fb_iastL X h (hks 43 (by decide)) (fun _ => rfl) (by decide) kn_3 dX6_init_290 (fun H locs h => ?_)
      have h := fb_H.nm et8 h
      refine lv_aload_n hx hb dX6_init_291 rfl (lv_at hl 0 rfl) ?_
      refine gt_RX6_54 X h (hks 29 (by decide)) dX6_init_292 ?_
      refine lv_iconst hx hb dX6_init_295 ki_4 ?_
      refine lv_sipush hx hb dX6_init_296 ks_999 ?_
      obtain ⟨t9, et9, hf⟩ := nm_s hf
      refine fb_iastL X h (hks 43 (by decide)) (fun _ => rfl) (by decide) kn_4 dX6_init_299 (fun H locs h => ?_)
      have h := fb_H.nm et9 h
      refine lv_aload_n hx hb dX6_init_300 rfl (lv_at hl 0 rfl) ?_
      refine gt_RX6_54 X h (hks 29 (by decide)) dX6_init_301 ?_
      refine lv_iconst hx hb dX6_init_304 ki_5 ?_
      refine lv_iconst hx hb dX6_init_305 ki_1 ?_
      obtain ⟨t10, et10, hf⟩ := nm_s hf
      refine fb_iastL X h (hks 43 (by decide)) (fun _ => rfl) (by decide) kn_5 dX6_init_306 (fun H locs h => ?_)
      have h := fb_H.nm et10 h
      have e9 := Option.some.inj hf
      subst e9
      exact hret _ _ _ h
    · have hf := if_f hc hf
      refine lv_aload_n hx hb dX6_init_213 rfl (lv_at hl 0 rfl) ?_
      refine gt_RX6_26 X h (hks 29 (by decide)) dX6_init_214 ?_
      refine lv_iload_n hx hb dX6_init_217 rfl (lv_at hl 1 rfl) ?_
      refine lv_sipush hx hb dX6_init_218 ks_9999 ?_
      obtain ⟨hi0, hf⟩ := ck_s hf
      obtain ⟨t11, et11, hf⟩ := nm_s hf
      refine fb_iast X h (hks 34 (by decide)) (fun _ => rfl) hi0 dX6_init_221 (fun H locs h => ?_)
      have h := fb_H.nm et11 h
      refine lv_iinc hx hb dX6_init_222 hl (k := 1) rfl (kinc_1 _) (by decide) (lv' := [(1, .int (v1 + 1)), (0, .ref (g.1 29))]) rfl (fun ls hl => ?_)
      refine lv_goto hx hb dX6_init_225 (tgt := 208) (by decide) ?_
      exact ih (v1 + 1) t11 _ _ _ h (lv_sub hl [1, 0] rfl) hf
set_option maxHeartbeats 4000000 in
set_option maxRecDepth 100000 in
theorem w_X6_init_L187 (X : fb_X p m c cX6_init 2 s args RX6 g ks A) (hks : ∀ k ∈ ([29, 30, 31, 34, 37, 43] : List Nat), k ∈ ks) {res : fb_S} (hret : ∀ (H : Heap) (locs : List Loc) (ls : Array Slot), fb_H g ks A H0 res H locs → W p l e R s m args below meth c H locs cells slots Q (F0 m 307 ls [])) (N : Nat)  : ∀ (n : Nat) (v1 : Int32) (σ : fb_S) (H : Heap) (locs : List Loc) (ls : Array Slot), fb_H g ks A H0 σ H locs → lv_has ls 2 [(0, .ref (g.1 29)), (1, .int v1)] → f_X6_init_L187 N n v1 σ = some res → W p l e R s m args below meth c H locs cells slots Q (F0 m 187 ls []) := by
  have hx := X.1.1
  have hb := X.1.2.1
  intro n
  induction n with
  | zero => intro v1 σ H locs ls h hl hf; cases hf
  | succ n ih =>
    intro v1 σ H locs ls h hl hf
    unfold f_X6_init_L187 at hf
    refine lv_iload_n hx hb dX6_init_187 rfl (lv_at hl 1 rfl) ?_
    refine lv_bipush hx hb dX6_init_188 kb_6 ?_
    refine lv_icmp_ge hx hb dX6_init_190 (tgt := 206) (by decide) (fun hc => ?_) (fun hc => ?_)
    · have hf := if_t hc hf
      refine lv_iconst hx hb dX6_init_206 ki_0 ?_
      refine lv_istore_n hx hb dX6_init_207 rfl hl (by decide) (lv' := [(1, .int (0)), (0, .ref (g.1 29))]) rfl (fun ls hl => ?_)
      exact w_X6_init_L208 X hks hret N N (0 : Int32) σ _ _ _ h (lv_sub hl [1, 0] rfl) hf
    · have hf := if_f hc hf
      refine lv_aload_n hx hb dX6_init_193 rfl (lv_at hl 0 rfl) ?_
      refine gt_RX6_17 X h (hks 29 (by decide)) dX6_init_194 ?_
      refine lv_iload_n hx hb dX6_init_197 rfl (lv_at hl 1 rfl) ?_
      refine lv_iconst hx hb dX6_init_198 ki_1 ?_
      obtain ⟨hi0, hf⟩ := ck_s hf
      obtain ⟨t12, et12, hf⟩ := nm_s hf
      refine fb_iast X h (hks 31 (by decide)) (fun _ => rfl) hi0 dX6_init_199 (fun H locs h => ?_)
      have h := fb_H.nm et12 h
      refine lv_iinc hx hb dX6_init_200 hl (k := 1) rfl (kinc_1 _) (by decide) (lv' := [(1, .int (v1 + 1)), (0, .ref (g.1 29))]) rfl (fun ls hl => ?_)
      refine lv_goto hx hb dX6_init_203 (tgt := 187) (by decide) ?_
      exact ih (v1 + 1) t12 _ _ _ h (lv_sub hl [1, 0] rfl) hf
set_option maxHeartbeats 4000000 in
set_option maxRecDepth 100000 in
theorem w_X6_init_L167 (X : fb_X p m c cX6_init 2 s args RX6 g ks A) (hks : ∀ k ∈ ([29, 30, 31, 34, 37, 43] : List Nat), k ∈ ks) {res : fb_S} (hret : ∀ (H : Heap) (locs : List Loc) (ls : Array Slot), fb_H g ks A H0 res H locs → W p l e R s m args below meth c H locs cells slots Q (F0 m 307 ls [])) (N : Nat)  : ∀ (n : Nat) (v1 : Int32) (σ : fb_S) (H : Heap) (locs : List Loc) (ls : Array Slot), fb_H g ks A H0 σ H locs → lv_has ls 2 [(0, .ref (g.1 29)), (1, .int v1)] → f_X6_init_L167 N n v1 σ = some res → W p l e R s m args below meth c H locs cells slots Q (F0 m 167 ls []) := by
  have hx := X.1.1
  have hb := X.1.2.1
  intro n
  induction n with
  | zero => intro v1 σ H locs ls h hl hf; cases hf
  | succ n ih =>
    intro v1 σ H locs ls h hl hf
    unfold f_X6_init_L167 at hf
    refine lv_iload_n hx hb dX6_init_167 rfl (lv_at hl 1 rfl) ?_
    refine lv_iconst hx hb dX6_init_168 ki_5 ?_
    refine lv_icmp_ge hx hb dX6_init_169 (tgt := 185) (by decide) (fun hc => ?_) (fun hc => ?_)
    · have hf := if_t hc hf
      refine lv_iconst hx hb dX6_init_185 ki_0 ?_
      refine lv_istore_n hx hb dX6_init_186 rfl hl (by decide) (lv' := [(1, .int (0)), (0, .ref (g.1 29))]) rfl (fun ls hl => ?_)
      exact w_X6_init_L187 X hks hret N N (0 : Int32) σ _ _ _ h (lv_sub hl [1, 0] rfl) hf
    · have hf := if_f hc hf
      refine lv_aload_n hx hb dX6_init_172 rfl (lv_at hl 0 rfl) ?_
      refine gt_RX6_13 X h (hks 29 (by decide)) dX6_init_173 ?_
      refine lv_iload_n hx hb dX6_init_176 rfl (lv_at hl 1 rfl) ?_
      refine lv_iconst hx hb dX6_init_177 ki_1 ?_
      obtain ⟨hi0, hf⟩ := ck_s hf
      obtain ⟨t13, et13, hf⟩ := nm_s hf
      refine fb_iast X h (hks 30 (by decide)) (fun _ => rfl) hi0 dX6_init_178 (fun H locs h => ?_)
      have h := fb_H.nm et13 h
      refine lv_iinc hx hb dX6_init_179 hl (k := 1) rfl (kinc_1 _) (by decide) (lv' := [(1, .int (v1 + 1)), (0, .ref (g.1 29))]) rfl (fun ls hl => ?_)
      refine lv_goto hx hb dX6_init_182 (tgt := 167) (by decide) ?_
      exact ih (v1 + 1) t13 _ _ _ h (lv_sub hl [1, 0] rfl) hf
set_option maxHeartbeats 4000000 in
set_option maxRecDepth 100000 in
theorem t_X6_init (X : fb_X p m c cX6_init 2 s args RX6 g ks A) (hks : ∀ k ∈ ([29, 30, 31, 34, 37, 43] : List Nat), k ∈ ks) (N : Nat) {σ res : fb_S} (hf : f_X6_init N σ = some res) (H : Heap) (locs : List Loc) (ls : Array Slot) (h : fb_H g ks A H0 σ H locs) (hl : lv_has ls 2 [(0, .ref (g.1 29))]) (hret : ∀ (H : Heap) (locs : List Loc) (ls : Array Slot), fb_H g ks A H0 res H locs → W p l e R s m args below meth c H locs cells slots Q (F0 m 307 ls [])) : W p l e R s m args below meth c H locs cells slots Q (F0 m 165 ls []) := by
  have hx := X.1.1
  have hb := X.1.2.1
  unfold f_X6_init at hf
  refine lv_iconst hx hb dX6_init_165 ki_0 ?_
  refine lv_istore_n hx hb dX6_init_166 rfl hl (by decide) (lv' := [(1, .int (0)), (0, .ref (g.1 29))]) rfl (fun ls hl => ?_)
  exact w_X6_init_L167 X hks hret N N (0 : Int32) σ _ _ _ h (lv_sub hl [1, 0] rfl) hf
end MT
