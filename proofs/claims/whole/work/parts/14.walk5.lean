/-! X3_with -/
abbrev rm_X3_with : Room := { frames := 0, cells := 0, slots := 0, locals := 0 }
def f_X3_with (x0 : Int64) (x2 : Int32) : Option (Int64) := some (((31 : Int64) * x0) + (x2.toInt64))
theorem yd_X3_with : yX3_with.cls ≠ "java/lang/invoke/MethodHandle" ∧ yX3_with.cls ≠ "java/lang/invoke/VarHandle" ∧ (parseMethodDescriptor yX3_with.desc).map (fun d => d.parameters.length) = some 2 := by decide +kernel
set_option maxHeartbeats 4000000 in
set_option maxRecDepth 100000 in
theorem c_X3_with (l : Launch) (G : tG) (st : tST) (x0 : Int64) (x2 : Int32) {r : Int64} (hf : f_X3_with x0 x2 = some r) : tCL l G yX3_with cX3_with 3 (some .long) rm_X3_with [.long x0, .int x2] st r st := by
  refine tk_entL (by decide +kernel) (Nat.le_of_ble_eq_true rfl) (fun p e s m below meth c ls S hr hlk hI hl => ?_)
  have hl : lv_has ls 3 [(0, .long x0), (2, .int x2)] := hl
  have S : CallFix p m c cX3_with 3 s [.long x0, .int x2].toArray wsL_law RX3 := S
  have hx := S.1
  have hb := S.2.1
  have hown := S.2.2.2.1
  have hts := S.2.2.2.2
  unfold f_X3_with at hf
  refine lv_ldc2 (v := 31) hx hb hown (hts _ mw_546) dX3_with_0 ?_
  refine lv_lload_n hx hb dX3_with_3 rfl (lv_at hl 0 rfl) ?_
  refine lv_lmul hx hb dX3_with_4 ?_
  refine lv_iload_n hx hb dX3_with_5 rfl (lv_at hl 1 rfl) ?_
  refine lv_i2l hx hb dX3_with_6 rfl ?_
  refine lv_ladd hx hb dX3_with_7 ?_
  exact tk_rlR S hr hlk hI hf dX3_with_8
/-! X3_withView -/
abbrev rm_X3_withView : Room := { frames := 3, cells := 0, slots := 0, locals := 74 }
def f_X3_withView_32 (k_22 : Int32 → Int64 → Int32 → tST → Option (Int64 × tST)) : Nat → Int32 → Int64 → Int32 → Int32 → tST → Option (Int64 × tST)
  | 0, _, _, _, _, _ => none
  | n + 1, x4, x5, x7, x8, st => (if (6 : Int32) ≤ x8 then tlet (x7 + (1 : Int32)) (fun i1 => k_22 x4 x5 i1 st) else tal 90 (tg_A st 18) x7 (fun v2 => (f_X3_letterFact v2 x8 st).bind (fun r3 => (f_X3_with x5 r3).bind (fun r4 => tlet (x8 + (1 : Int32)) (fun i5 => f_X3_withView_32 k_22 n x4 r4 x7 i5 st)))))
def f_X3_withView_22 : Nat → Int32 → Int64 → Int32 → tST → Option (Int64 × tST)
  | 0, _, _, _, _ => none
  | n + 1, x4, x5, x7, st => (if x4 ≤ x7 then some (x5, st) else f_X3_withView_32 (f_X3_withView_22 n) tfu x4 x5 x7 (0 : Int32) st)
def f_X3_withView (x1 : Int64) (x3 : Int32) (st : tST) : Option (Int64 × tST) := (f_X3_setOf x3 st).bind (fun r1 => tbd (f_X3_lineUp r1 st) (fun r2 s3 => (f_X3_with x1 r2).bind (fun r4 => f_X3_withView_22 tfu r2 r4 (0 : Int32) s3)))
theorem yd_X3_withView : yX3_withView.cls = RX3 ∧ yX3_withView.cls ≠ "java/lang/invoke/MethodHandle" ∧ yX3_withView.cls ≠ "java/lang/invoke/VarHandle" ∧ (parseMethodDescriptor yX3_withView.desc).map (fun d => d.parameters.length) = some 2 := by decide +kernel
set_option maxHeartbeats 4000000 in
set_option maxRecDepth 100000 in
theorem k_X3_withView_32 {l : Launch} {G : tG} {p : Program} {e : Env} {s : State} {m : MethodId} {below : List Frame} {meth : Method} {c : Code} {args : Array Value} {r : Int64} {st' : tST} (S : CallFix p m c cX3_withView 9 s args wsL_law RX3) (hr : meth.sig.returnType = (some .long)) (hlk : meth.locks = false) (k_22 : Int32 → Int64 → Int32 → tST → Option (Int64 × tST)) (hk_22 : ∀ (x4 : Int32) (x5 : Int64) (x7 : Int32) (st : tST) (H : Heap) (locs : List Loc) (ls : Array Slot), tIn G (tA G s.heap.size) s st H locs → lv_has ls 9 [(0, .ref (tad G 0)), (4, .int x4), (5, .long x5), (7, .int x7)] → k_22 x4 x5 x7 st = some (r, st') → W p l e rm_X3_withView s m args below meth c H locs 0 0 (tZL G below args s r st') (F0 m 22 ls [])) : ∀ (n : Nat) (x4 : Int32) (x5 : Int64) (x7 : Int32) (x8 : Int32) (st : tST) (H : Heap) (locs : List Loc) (ls : Array Slot), tIn G (tA G s.heap.size) s st H locs → lv_has ls 9 [(0, .ref (tad G 0)), (4, .int x4), (5, .long x5), (7, .int x7), (8, .int x8)] → f_X3_withView_32 k_22 n x4 x5 x7 x8 st = some (r, st') → W p l e rm_X3_withView s m args below meth c H locs 0 0 (tZL G below args s r st') (F0 m 32 ls []) := by
  have hx := S.1
  have hb := S.2.1
  have hown := S.2.2.2.1
  have hts := S.2.2.2.2
  intro n
  induction n with
  | zero => intro x4 x5 x7 x8 st H locs ls hI hl hf; exact nomatch (show (none : Option (Int64 × tST)) = some _ from hf)
  | succ n ih =>
    intro x4 x5 x7 x8 st H locs ls hI hl hf
    rw [f_X3_withView_32] at hf
    refine lv_iload hx hb dX3_withView_32 (lv_at hl 4 rfl) ?_
    refine lv_bipush (v := 6) hx hb dX3_withView_34 (by decide) ?_
    refine tk_icmp_ge (tgt := 65) hx hb hf dX3_withView_36 (by decide) (fun hf => ?_) (fun hf => ?_)
    · refine tk_let hf (fun i1 ei1 hf => ?_)
      refine lv_iinc (v := i1) (lv' := [(7, .int i1), (0, .ref (tad G 0)), (4, .int x4), (5, .long x5), (8, .int x8)]) hx hb dX3_withView_65 hl (k := 3) rfl (by rw [ei1]; rfl) (by decide) rfl (fun ls hl => ?_)
      refine lv_goto (tgt := 22) hx hb dX3_withView_68 (by decide) ?_
      exact hk_22 x4 x5 i1 st _ _ _ hI (lv_sub hl [1, 2, 3, 0] rfl) hf
    · refine lv_lload hx hb dX3_withView_39 (lv_at hl 2 rfl) ?_
      refine lv_aload_n hx hb dX3_withView_41 rfl (lv_at hl 0 rfl) ?_
      refine lv_aload_n hx hb dX3_withView_42 rfl (lv_at hl 0 rfl) ?_
      refine tg_X3_8 S hI mw_30 dX3_withView_43 ?_
      refine lv_iload hx hb dX3_withView_46 (lv_at hl 3 rfl) ?_
      refine tk_iald S hI (k := 18) (n := 90) rfl hf dX3_withView_48 (fun v2 hf => ?_)
      refine lv_iload hx hb dX3_withView_49 (lv_at hl 4 rfl) ?_
      refine tk_bd hf (fun r3 hq hf => ?_)
      refine tk_vI S hI hl.1 (c_X3_letterFact l G st v2 x8 hq) (cwV 2 hts (tk_gV mw_337 mw_338 mw_339 mw_2 mw_340) rfl rfl rfl yd_X3_letterFact ⟨Nat.le_of_ble_eq_true rfl, Nat.le_of_ble_eq_true rfl⟩) 0 3 rfl rfl rfl rfl [.long x5] rfl (Nat.le_of_ble_eq_true rfl) dX3_withView_51 (fun H locs hI => ?_)
      refine tk_bd hf (fun r4 hq hf => ?_)
      refine tk_sL S hI hl.1 (c_X3_with l G st x5 r3 hq) (va_cwS 2 hts (tk_gS mw_543 mw_544 mw_2 mw_545) rfl rfl rfl yd_X3_with ⟨Nat.le_of_ble_eq_true rfl, Nat.le_of_ble_eq_true rfl⟩) rfl [] rfl (Nat.le_of_ble_eq_true rfl) dX3_withView_54 (fun H locs hI => ?_)
      refine lv_lstore (lv' := [(5, .long r4), (0, .ref (tad G 0)), (4, .int x4), (7, .int x7), (8, .int x8)]) hx hb dX3_withView_57 hl (by decide) rfl (fun ls hl => ?_)
      refine tk_let hf (fun i5 ei5 hf => ?_)
      refine lv_iinc (v := i5) (lv' := [(8, .int i5), (5, .long r4), (0, .ref (tad G 0)), (4, .int x4), (7, .int x7)]) hx hb dX3_withView_59 hl (k := 4) rfl (by rw [ei5]; rfl) (by decide) rfl (fun ls hl => ?_)
      refine lv_goto (tgt := 32) hx hb dX3_withView_62 (by decide) ?_
      exact ih x4 r4 x7 i5 st _ _ _ hI (lv_sub hl [2, 3, 1, 4, 0] rfl) hf
set_option maxHeartbeats 4000000 in
set_option maxRecDepth 100000 in
theorem k_X3_withView_22 {l : Launch} {G : tG} {p : Program} {e : Env} {s : State} {m : MethodId} {below : List Frame} {meth : Method} {c : Code} {args : Array Value} {r : Int64} {st' : tST} (S : CallFix p m c cX3_withView 9 s args wsL_law RX3) (hr : meth.sig.returnType = (some .long)) (hlk : meth.locks = false) : ∀ (n : Nat) (x4 : Int32) (x5 : Int64) (x7 : Int32) (st : tST) (H : Heap) (locs : List Loc) (ls : Array Slot), tIn G (tA G s.heap.size) s st H locs → lv_has ls 9 [(0, .ref (tad G 0)), (4, .int x4), (5, .long x5), (7, .int x7)] → f_X3_withView_22 n x4 x5 x7 st = some (r, st') → W p l e rm_X3_withView s m args below meth c H locs 0 0 (tZL G below args s r st') (F0 m 22 ls []) := by
  have hx := S.1
  have hb := S.2.1
  have hown := S.2.2.2.1
  have hts := S.2.2.2.2
  intro n
  induction n with
  | zero => intro x4 x5 x7 st H locs ls hI hl hf; exact nomatch (show (none : Option (Int64 × tST)) = some _ from hf)
  | succ n ih =>
    intro x4 x5 x7 st H locs ls hI hl hf
    rw [f_X3_withView_22] at hf
    refine lv_iload hx hb dX3_withView_22 (lv_at hl 3 rfl) ?_
    refine lv_iload hx hb dX3_withView_24 (lv_at hl 1 rfl) ?_
    refine tk_icmp_ge (tgt := 71) hx hb hf dX3_withView_26 (by decide) (fun hf => ?_) (fun hf => ?_)
    · refine lv_lload hx hb dX3_withView_71 (lv_at hl 2 rfl) ?_
      exact tk_rlW S hr hlk hI hf dX3_withView_73
    · refine lv_iconst (v := 0) hx hb dX3_withView_29 (by decide) ?_
      refine lv_istore (lv' := [(8, .int (0 : Int32)), (0, .ref (tad G 0)), (4, .int x4), (5, .long x5), (7, .int x7)]) hx hb dX3_withView_30 hl (by decide) rfl (fun ls hl => ?_)
      exact k_X3_withView_32 S hr hlk (f_X3_withView_22 n) ih tfu x4 x5 x7 (0 : Int32) st _ _ _ hI (lv_sub hl [1, 2, 3, 4, 0] rfl) hf
set_option maxHeartbeats 4000000 in
set_option maxRecDepth 100000 in
theorem c_X3_withView (l : Launch) (G : tG) (st : tST) (x1 : Int64) (x3 : Int32) {r : Int64} {st' : tST} (hf : f_X3_withView x1 x3 st = some (r, st')) : tCL l G yX3_withView cX3_withView 9 (some .long) rm_X3_withView [.ref (tad G 0), .long x1, .int x3] st r st' := by
  refine tk_entL (by decide +kernel) (Nat.le_of_ble_eq_true rfl) (fun p e s m below meth c ls S hr hlk hI hl => ?_)
  have hl : lv_has ls 9 [(0, .ref (tad G 0)), (1, .long x1), (3, .int x3)] := hl
  have S : CallFix p m c cX3_withView 9 s [.ref (tad G 0), .long x1, .int x3].toArray wsL_law RX3 := S
  have hx := S.1
  have hb := S.2.1
  have hown := S.2.2.2.1
  have hts := S.2.2.2.2
  unfold f_X3_withView at hf
  refine lv_aload_n hx hb dX3_withView_0 rfl (lv_at hl 0 rfl) ?_
  refine lv_aload_n hx hb dX3_withView_1 rfl (lv_at hl 0 rfl) ?_
  refine lv_iload_n hx hb dX3_withView_2 rfl (lv_at hl 2 rfl) ?_
  refine tk_bd hf (fun r1 hq hf => ?_)
  refine tk_vI S hI hl.1 (c_X3_setOf l G st x3 hq) (cwV 1 hts (tk_gV mw_159 mw_160 mw_161 mw_2 mw_162) rfl rfl rfl yd_X3_setOf ⟨Nat.le_of_ble_eq_true rfl, Nat.le_of_ble_eq_true rfl⟩) 0 3 rfl rfl rfl rfl [.ref (tad G 0)] rfl (Nat.le_of_ble_eq_true rfl) dX3_withView_3 (fun H locs hI => ?_)
  refine tk_bd2 hf (fun r2 s3 hq hf => ?_)
  refine tk_vI S hI hl.1 (c_X3_lineUp l G st r1 hq) (cwV 1 hts (tk_gV mw_171 mw_172 mw_173 mw_2 mw_174) rfl rfl rfl yd_X3_lineUp ⟨Nat.le_of_ble_eq_true rfl, Nat.le_of_ble_eq_true rfl⟩) 0 3 rfl rfl rfl rfl [] rfl (Nat.le_of_ble_eq_true rfl) dX3_withView_6 (fun H locs hI => ?_)
  refine lv_istore (lv' := [(4, .int r2), (0, .ref (tad G 0)), (1, .long x1), (3, .int x3)]) hx hb dX3_withView_9 hl (by decide) rfl (fun ls hl => ?_)
  refine lv_lload_n hx hb dX3_withView_11 rfl (lv_at hl 2 rfl) ?_
  refine lv_iload hx hb dX3_withView_12 (lv_at hl 0 rfl) ?_
  refine tk_bd hf (fun r4 hq hf => ?_)
  refine tk_sL S hI hl.1 (c_X3_with l G s3 x1 r2 hq) (va_cwS 2 hts (tk_gS mw_543 mw_544 mw_2 mw_545) rfl rfl rfl yd_X3_with ⟨Nat.le_of_ble_eq_true rfl, Nat.le_of_ble_eq_true rfl⟩) rfl [] rfl (Nat.le_of_ble_eq_true rfl) dX3_withView_14 (fun H locs hI => ?_)
  refine lv_lstore (lv' := [(5, .long r4), (4, .int r2), (0, .ref (tad G 0)), (1, .long x1), (3, .int x3)]) hx hb dX3_withView_17 hl (by decide) rfl (fun ls hl => ?_)
  refine lv_iconst (v := 0) hx hb dX3_withView_19 (by decide) ?_
  refine lv_istore (lv' := [(7, .int (0 : Int32)), (5, .long r4), (4, .int r2), (0, .ref (tad G 0)), (1, .long x1), (3, .int x3)]) hx hb dX3_withView_20 hl (by decide) rfl (fun ls hl => ?_)
  exact k_X3_withView_22 S hr hlk tfu r2 r4 (0 : Int32) s3 _ _ _ hI (lv_sub hl [3, 2, 1, 0] rfl) hf
/-! X3_withPlaces -/
abbrev rm_X3_withPlaces : Room := { frames := 4, cells := 0, slots := 0, locals := 96 }
def f_X3_withPlaces_20 (st : tST) (k_5 : Int64 → Int32 → Option (Int64)) : Nat → Int64 → Int32 → Int32 → Option (Int64)
  | 0, _, _, _ => none
  | n + 1, x3, x5, x6 => (if (4 : Int32) ≤ x6 then tlet (x5 + (1 : Int32)) (fun i1 => k_5 x3 i1) else (f_X3_placeFact x5 x6 st).bind (fun r2 => (f_X3_with x3 r2).bind (fun r3 => tlet (x6 + (1 : Int32)) (fun i4 => f_X3_withPlaces_20 st k_5 n r3 x5 i4))))
def f_X3_withPlaces_5 (st : tST)  : Nat → Int64 → Int32 → Option (Int64)
  | 0, _, _ => none
  | n + 1, x3, x5 => (if (tg_I st 6) ≤ x5 then some x3 else f_X3_withPlaces_20 st (f_X3_withPlaces_5 st n) tfu x3 x5 (0 : Int32))
def f_X3_withPlaces (x1 : Int64) (st : tST) : Option (Int64) := f_X3_withPlaces_5 st tfu x1 (0 : Int32)
theorem yd_X3_withPlaces : yX3_withPlaces.cls = RX3 ∧ yX3_withPlaces.cls ≠ "java/lang/invoke/MethodHandle" ∧ yX3_withPlaces.cls ≠ "java/lang/invoke/VarHandle" ∧ (parseMethodDescriptor yX3_withPlaces.desc).map (fun d => d.parameters.length) = some 1 := by decide +kernel
set_option maxHeartbeats 4000000 in
set_option maxRecDepth 100000 in
theorem k_X3_withPlaces_20 {l : Launch} {G : tG} {p : Program} {e : Env} {s : State} {m : MethodId} {below : List Frame} {meth : Method} {c : Code} {args : Array Value} {r : Int64} {st : tST} (S : CallFix p m c cX3_withPlaces 7 s args wsL_law RX3) (hr : meth.sig.returnType = (some .long)) (hlk : meth.locks = false) (k_5 : Int64 → Int32 → Option (Int64)) (hk_5 : ∀ (x3 : Int64) (x5 : Int32) (H : Heap) (locs : List Loc) (ls : Array Slot), tIn G (tA G s.heap.size) s st H locs → lv_has ls 7 [(0, .ref (tad G 0)), (3, .long x3), (5, .int x5)] → k_5 x3 x5 = some r → W p l e rm_X3_withPlaces s m args below meth c H locs 0 0 (tZL G below args s r st) (F0 m 5 ls [])) : ∀ (n : Nat) (x3 : Int64) (x5 : Int32) (x6 : Int32) (H : Heap) (locs : List Loc) (ls : Array Slot), tIn G (tA G s.heap.size) s st H locs → lv_has ls 7 [(0, .ref (tad G 0)), (3, .long x3), (5, .int x5), (6, .int x6)] → f_X3_withPlaces_20 st k_5 n x3 x5 x6 = some r → W p l e rm_X3_withPlaces s m args below meth c H locs 0 0 (tZL G below args s r st) (F0 m 20 ls []) := by
  have hx := S.1
  have hb := S.2.1
  have hown := S.2.2.2.1
  have hts := S.2.2.2.2
  intro n
  induction n with
  | zero => intro x3 x5 x6 H locs ls hI hl hf; exact nomatch (show (none : Option (Int64)) = some _ from hf)
  | succ n ih =>
    intro x3 x5 x6 H locs ls hI hl hf
    rw [f_X3_withPlaces_20] at hf
    refine lv_iload hx hb dX3_withPlaces_20 (lv_at hl 3 rfl) ?_
    refine lv_iconst (v := 4) hx hb dX3_withPlaces_22 (by decide) ?_
    refine tk_icmp_ge (tgt := 45) hx hb hf dX3_withPlaces_23 (by decide) (fun hf => ?_) (fun hf => ?_)
    · refine tk_let hf (fun i1 ei1 hf => ?_)
      refine lv_iinc (v := i1) (lv' := [(5, .int i1), (0, .ref (tad G 0)), (3, .long x3), (6, .int x6)]) hx hb dX3_withPlaces_45 hl (k := 2) rfl (by rw [ei1]; rfl) (by decide) rfl (fun ls hl => ?_)
      refine lv_goto (tgt := 5) hx hb dX3_withPlaces_48 (by decide) ?_
      exact hk_5 x3 i1 _ _ _ hI (lv_sub hl [1, 2, 0] rfl) hf
    · refine lv_lload_n hx hb dX3_withPlaces_26 rfl (lv_at hl 1 rfl) ?_
      refine lv_aload_n hx hb dX3_withPlaces_27 rfl (lv_at hl 0 rfl) ?_
      refine lv_iload hx hb dX3_withPlaces_28 (lv_at hl 2 rfl) ?_
      refine lv_iload hx hb dX3_withPlaces_30 (lv_at hl 3 rfl) ?_
      refine tk_bd hf (fun r2 hq hf => ?_)
      refine tk_vI S hI hl.1 (c_X3_placeFact l G st x5 x6 hq) (cwV 2 hts (tk_gV mw_365 mw_366 mw_367 mw_2 mw_368) rfl rfl rfl yd_X3_placeFact ⟨Nat.le_of_ble_eq_true rfl, Nat.le_of_ble_eq_true rfl⟩) 0 3 rfl rfl rfl rfl [.long x3] rfl (Nat.le_of_ble_eq_true rfl) dX3_withPlaces_32 (fun H locs hI => ?_)
      refine tk_bd hf (fun r3 hq hf => ?_)
      refine tk_sL S hI hl.1 (c_X3_with l G st x3 r2 hq) (va_cwS 2 hts (tk_gS mw_543 mw_544 mw_2 mw_545) rfl rfl rfl yd_X3_with ⟨Nat.le_of_ble_eq_true rfl, Nat.le_of_ble_eq_true rfl⟩) rfl [] rfl (Nat.le_of_ble_eq_true rfl) dX3_withPlaces_35 (fun H locs hI => ?_)
      refine lv_lstore_n (lv' := [(3, .long r3), (0, .ref (tad G 0)), (5, .int x5), (6, .int x6)]) hx hb dX3_withPlaces_38 rfl hl (by decide) rfl (fun ls hl => ?_)
      refine tk_let hf (fun i4 ei4 hf => ?_)
      refine lv_iinc (v := i4) (lv' := [(6, .int i4), (3, .long r3), (0, .ref (tad G 0)), (5, .int x5)]) hx hb dX3_withPlaces_39 hl (k := 3) rfl (by rw [ei4]; rfl) (by decide) rfl (fun ls hl => ?_)
      refine lv_goto (tgt := 20) hx hb dX3_withPlaces_42 (by decide) ?_
      exact ih r3 x5 i4 _ _ _ hI (lv_sub hl [2, 1, 3, 0] rfl) hf
set_option maxHeartbeats 4000000 in
set_option maxRecDepth 100000 in
theorem k_X3_withPlaces_5 {l : Launch} {G : tG} {p : Program} {e : Env} {s : State} {m : MethodId} {below : List Frame} {meth : Method} {c : Code} {args : Array Value} {r : Int64} {st : tST} (S : CallFix p m c cX3_withPlaces 7 s args wsL_law RX3) (hr : meth.sig.returnType = (some .long)) (hlk : meth.locks = false) : ∀ (n : Nat) (x3 : Int64) (x5 : Int32) (H : Heap) (locs : List Loc) (ls : Array Slot), tIn G (tA G s.heap.size) s st H locs → lv_has ls 7 [(0, .ref (tad G 0)), (3, .long x3), (5, .int x5)] → f_X3_withPlaces_5 st n x3 x5 = some r → W p l e rm_X3_withPlaces s m args below meth c H locs 0 0 (tZL G below args s r st) (F0 m 5 ls []) := by
  have hx := S.1
  have hb := S.2.1
  have hown := S.2.2.2.1
  have hts := S.2.2.2.2
  intro n
  induction n with
  | zero => intro x3 x5 H locs ls hI hl hf; exact nomatch (show (none : Option (Int64)) = some _ from hf)
  | succ n ih =>
    intro x3 x5 H locs ls hI hl hf
    rw [f_X3_withPlaces_5] at hf
    refine lv_iload hx hb dX3_withPlaces_5 (lv_at hl 2 rfl) ?_
    refine lv_aload_n hx hb dX3_withPlaces_7 rfl (lv_at hl 0 rfl) ?_
    refine tg_X3_5 S hI mw_21 dX3_withPlaces_8 ?_
    refine tg_X1_4 S hI mw_114 dX3_withPlaces_11 ?_
    refine tk_icmp_ge (tgt := 51) hx hb hf dX3_withPlaces_14 (by decide) (fun hf => ?_) (fun hf => ?_)
    · refine lv_lload_n hx hb dX3_withPlaces_51 rfl (lv_at hl 1 rfl) ?_
      exact tk_rlR S hr hlk hI hf dX3_withPlaces_52
    · refine lv_iconst (v := 0) hx hb dX3_withPlaces_17 (by decide) ?_
      refine lv_istore (lv' := [(6, .int (0 : Int32)), (0, .ref (tad G 0)), (3, .long x3), (5, .int x5)]) hx hb dX3_withPlaces_18 hl (by decide) rfl (fun ls hl => ?_)
      exact k_X3_withPlaces_20 S hr hlk (f_X3_withPlaces_5 st n) ih tfu x3 x5 (0 : Int32) _ _ _ hI (lv_sub hl [1, 2, 3, 0] rfl) hf
set_option maxHeartbeats 4000000 in
set_option maxRecDepth 100000 in
theorem c_X3_withPlaces (l : Launch) (G : tG) (st : tST) (x1 : Int64) {r : Int64} (hf : f_X3_withPlaces x1 st = some r) : tCL l G yX3_withPlaces cX3_withPlaces 7 (some .long) rm_X3_withPlaces [.ref (tad G 0), .long x1] st r st := by
  refine tk_entL (by decide +kernel) (Nat.le_of_ble_eq_true rfl) (fun p e s m below meth c ls S hr hlk hI hl => ?_)
  have hl : lv_has ls 7 [(0, .ref (tad G 0)), (1, .long x1)] := hl
  have S : CallFix p m c cX3_withPlaces 7 s [.ref (tad G 0), .long x1].toArray wsL_law RX3 := S
  have hx := S.1
  have hb := S.2.1
  have hown := S.2.2.2.1
  have hts := S.2.2.2.2
  unfold f_X3_withPlaces at hf
  refine lv_lload_n hx hb dX3_withPlaces_0 rfl (lv_at hl 1 rfl) ?_
  refine lv_lstore_n (lv' := [(3, .long x1), (0, .ref (tad G 0)), (1, .long x1)]) hx hb dX3_withPlaces_1 rfl hl (by decide) rfl (fun ls hl => ?_)
  refine lv_iconst (v := 0) hx hb dX3_withPlaces_2 (by decide) ?_
  refine lv_istore (lv' := [(5, .int (0 : Int32)), (3, .long x1), (0, .ref (tad G 0)), (1, .long x1)]) hx hb dX3_withPlaces_3 hl (by decide) rfl (fun ls hl => ?_)
  exact k_X3_withPlaces_5 S hr hlk tfu x1 (0 : Int32) _ _ _ hI (lv_sub hl [2, 1, 0] rfl) hf
/-! X3_withChanges -/
abbrev rm_X3_withChanges : Room := { frames := 4, cells := 0, slots := 0, locals := 102 }
def f_X3_withChanges_20 (st : tST) (k_5 : Int64 → Int32 → Option (Int64)) : Nat → Int64 → Int32 → Int32 → Option (Int64)
  | 0, _, _, _ => none
  | n + 1, x3, x5, x6 => (if (7 : Int32) ≤ x6 then tlet (x5 + (1 : Int32)) (fun i1 => k_5 x3 i1) else (f_X3_changeFact x5 x6 st).bind (fun r2 => (f_X3_with x3 r2).bind (fun r3 => tlet (x6 + (1 : Int32)) (fun i4 => f_X3_withChanges_20 st k_5 n r3 x5 i4))))
def f_X3_withChanges_5 (st : tST)  : Nat → Int64 → Int32 → Option (Int64)
  | 0, _, _ => none
  | n + 1, x3, x5 => (if (tg_I st 7) ≤ x5 then some x3 else f_X3_withChanges_20 st (f_X3_withChanges_5 st n) tfu x3 x5 (0 : Int32))
def f_X3_withChanges (x1 : Int64) (st : tST) : Option (Int64) := f_X3_withChanges_5 st tfu x1 (0 : Int32)
theorem yd_X3_withChanges : yX3_withChanges.cls = RX3 ∧ yX3_withChanges.cls ≠ "java/lang/invoke/MethodHandle" ∧ yX3_withChanges.cls ≠ "java/lang/invoke/VarHandle" ∧ (parseMethodDescriptor yX3_withChanges.desc).map (fun d => d.parameters.length) = some 1 := by decide +kernel
set_option maxHeartbeats 4000000 in
set_option maxRecDepth 100000 in
theorem k_X3_withChanges_20 {l : Launch} {G : tG} {p : Program} {e : Env} {s : State} {m : MethodId} {below : List Frame} {meth : Method} {c : Code} {args : Array Value} {r : Int64} {st : tST} (S : CallFix p m c cX3_withChanges 7 s args wsL_law RX3) (hr : meth.sig.returnType = (some .long)) (hlk : meth.locks = false) (k_5 : Int64 → Int32 → Option (Int64)) (hk_5 : ∀ (x3 : Int64) (x5 : Int32) (H : Heap) (locs : List Loc) (ls : Array Slot), tIn G (tA G s.heap.size) s st H locs → lv_has ls 7 [(0, .ref (tad G 0)), (3, .long x3), (5, .int x5)] → k_5 x3 x5 = some r → W p l e rm_X3_withChanges s m args below meth c H locs 0 0 (tZL G below args s r st) (F0 m 5 ls [])) : ∀ (n : Nat) (x3 : Int64) (x5 : Int32) (x6 : Int32) (H : Heap) (locs : List Loc) (ls : Array Slot), tIn G (tA G s.heap.size) s st H locs → lv_has ls 7 [(0, .ref (tad G 0)), (3, .long x3), (5, .int x5), (6, .int x6)] → f_X3_withChanges_20 st k_5 n x3 x5 x6 = some r → W p l e rm_X3_withChanges s m args below meth c H locs 0 0 (tZL G below args s r st) (F0 m 20 ls []) := by
  have hx := S.1
  have hb := S.2.1
  have hown := S.2.2.2.1
  have hts := S.2.2.2.2
  intro n
  induction n with
  | zero => intro x3 x5 x6 H locs ls hI hl hf; exact nomatch (show (none : Option (Int64)) = some _ from hf)
  | succ n ih =>
    intro x3 x5 x6 H locs ls hI hl hf
    rw [f_X3_withChanges_20] at hf
    refine lv_iload hx hb dX3_withChanges_20 (lv_at hl 3 rfl) ?_
    refine lv_bipush (v := 7) hx hb dX3_withChanges_22 (by decide) ?_
    refine tk_icmp_ge (tgt := 46) hx hb hf dX3_withChanges_24 (by decide) (fun hf => ?_) (fun hf => ?_)
    · refine tk_let hf (fun i1 ei1 hf => ?_)
      refine lv_iinc (v := i1) (lv' := [(5, .int i1), (0, .ref (tad G 0)), (3, .long x3), (6, .int x6)]) hx hb dX3_withChanges_46 hl (k := 2) rfl (by rw [ei1]; rfl) (by decide) rfl (fun ls hl => ?_)
      refine lv_goto (tgt := 5) hx hb dX3_withChanges_49 (by decide) ?_
      exact hk_5 x3 i1 _ _ _ hI (lv_sub hl [1, 2, 0] rfl) hf
    · refine lv_lload_n hx hb dX3_withChanges_27 rfl (lv_at hl 1 rfl) ?_
      refine lv_aload_n hx hb dX3_withChanges_28 rfl (lv_at hl 0 rfl) ?_
      refine lv_iload hx hb dX3_withChanges_29 (lv_at hl 2 rfl) ?_
      refine lv_iload hx hb dX3_withChanges_31 (lv_at hl 3 rfl) ?_
      refine tk_bd hf (fun r2 hq hf => ?_)
      refine tk_vI S hI hl.1 (c_X3_changeFact l G st x5 x6 hq) (cwV 2 hts (tk_gV mw_394 mw_395 mw_396 mw_2 mw_397) rfl rfl rfl yd_X3_changeFact ⟨Nat.le_of_ble_eq_true rfl, Nat.le_of_ble_eq_true rfl⟩) 0 3 rfl rfl rfl rfl [.long x3] rfl (Nat.le_of_ble_eq_true rfl) dX3_withChanges_33 (fun H locs hI => ?_)
      refine tk_bd hf (fun r3 hq hf => ?_)
      refine tk_sL S hI hl.1 (c_X3_with l G st x3 r2 hq) (va_cwS 2 hts (tk_gS mw_543 mw_544 mw_2 mw_545) rfl rfl rfl yd_X3_with ⟨Nat.le_of_ble_eq_true rfl, Nat.le_of_ble_eq_true rfl⟩) rfl [] rfl (Nat.le_of_ble_eq_true rfl) dX3_withChanges_36 (fun H locs hI => ?_)
      refine lv_lstore_n (lv' := [(3, .long r3), (0, .ref (tad G 0)), (5, .int x5), (6, .int x6)]) hx hb dX3_withChanges_39 rfl hl (by decide) rfl (fun ls hl => ?_)
      refine tk_let hf (fun i4 ei4 hf => ?_)
      refine lv_iinc (v := i4) (lv' := [(6, .int i4), (3, .long r3), (0, .ref (tad G 0)), (5, .int x5)]) hx hb dX3_withChanges_40 hl (k := 3) rfl (by rw [ei4]; rfl) (by decide) rfl (fun ls hl => ?_)
      refine lv_goto (tgt := 20) hx hb dX3_withChanges_43 (by decide) ?_
      exact ih r3 x5 i4 _ _ _ hI (lv_sub hl [2, 1, 3, 0] rfl) hf
set_option maxHeartbeats 4000000 in
set_option maxRecDepth 100000 in
theorem k_X3_withChanges_5 {l : Launch} {G : tG} {p : Program} {e : Env} {s : State} {m : MethodId} {below : List Frame} {meth : Method} {c : Code} {args : Array Value} {r : Int64} {st : tST} (S : CallFix p m c cX3_withChanges 7 s args wsL_law RX3) (hr : meth.sig.returnType = (some .long)) (hlk : meth.locks = false) : ∀ (n : Nat) (x3 : Int64) (x5 : Int32) (H : Heap) (locs : List Loc) (ls : Array Slot), tIn G (tA G s.heap.size) s st H locs → lv_has ls 7 [(0, .ref (tad G 0)), (3, .long x3), (5, .int x5)] → f_X3_withChanges_5 st n x3 x5 = some r → W p l e rm_X3_withChanges s m args below meth c H locs 0 0 (tZL G below args s r st) (F0 m 5 ls []) := by
  have hx := S.1
  have hb := S.2.1
  have hown := S.2.2.2.1
  have hts := S.2.2.2.2
  intro n
  induction n with
  | zero => intro x3 x5 H locs ls hI hl hf; exact nomatch (show (none : Option (Int64)) = some _ from hf)
  | succ n ih =>
    intro x3 x5 H locs ls hI hl hf
    rw [f_X3_withChanges_5] at hf
    refine lv_iload hx hb dX3_withChanges_5 (lv_at hl 2 rfl) ?_
    refine lv_aload_n hx hb dX3_withChanges_7 rfl (lv_at hl 0 rfl) ?_
    refine tg_X3_6 S hI mw_25 dX3_withChanges_8 ?_
    refine tg_X0_5 S hI mw_115 dX3_withChanges_11 ?_
    refine tk_icmp_ge (tgt := 52) hx hb hf dX3_withChanges_14 (by decide) (fun hf => ?_) (fun hf => ?_)
    · refine lv_lload_n hx hb dX3_withChanges_52 rfl (lv_at hl 1 rfl) ?_
      exact tk_rlR S hr hlk hI hf dX3_withChanges_53
    · refine lv_iconst (v := 0) hx hb dX3_withChanges_17 (by decide) ?_
      refine lv_istore (lv' := [(6, .int (0 : Int32)), (0, .ref (tad G 0)), (3, .long x3), (5, .int x5)]) hx hb dX3_withChanges_18 hl (by decide) rfl (fun ls hl => ?_)
      exact k_X3_withChanges_20 S hr hlk (f_X3_withChanges_5 st n) ih tfu x3 x5 (0 : Int32) _ _ _ hI (lv_sub hl [1, 2, 3, 0] rfl) hf
set_option maxHeartbeats 4000000 in
set_option maxRecDepth 100000 in
theorem c_X3_withChanges (l : Launch) (G : tG) (st : tST) (x1 : Int64) {r : Int64} (hf : f_X3_withChanges x1 st = some r) : tCL l G yX3_withChanges cX3_withChanges 7 (some .long) rm_X3_withChanges [.ref (tad G 0), .long x1] st r st := by
  refine tk_entL (by decide +kernel) (Nat.le_of_ble_eq_true rfl) (fun p e s m below meth c ls S hr hlk hI hl => ?_)
  have hl : lv_has ls 7 [(0, .ref (tad G 0)), (1, .long x1)] := hl
  have S : CallFix p m c cX3_withChanges 7 s [.ref (tad G 0), .long x1].toArray wsL_law RX3 := S
  have hx := S.1
  have hb := S.2.1
  have hown := S.2.2.2.1
  have hts := S.2.2.2.2
  unfold f_X3_withChanges at hf
  refine lv_lload_n hx hb dX3_withChanges_0 rfl (lv_at hl 1 rfl) ?_
  refine lv_lstore_n (lv' := [(3, .long x1), (0, .ref (tad G 0)), (1, .long x1)]) hx hb dX3_withChanges_1 rfl hl (by decide) rfl (fun ls hl => ?_)
  refine lv_iconst (v := 0) hx hb dX3_withChanges_2 (by decide) ?_
  refine lv_istore (lv' := [(5, .int (0 : Int32)), (3, .long x1), (0, .ref (tad G 0)), (1, .long x1)]) hx hb dX3_withChanges_3 hl (by decide) rfl (fun ls hl => ?_)
  exact k_X3_withChanges_5 S hr hlk tfu x1 (0 : Int32) _ _ _ hI (lv_sub hl [2, 1, 0] rfl) hf
/-! X3_withSpans -/
abbrev rm_X3_withSpans : Room := { frames := 4, cells := 0, slots := 0, locals := 96 }
def f_X3_withSpans_34 (k_19 : Int64 → Int32 → tST → Option (Int64 × tST)) : Nat → Int64 → Int32 → Int32 → tST → Option (Int64 × tST)
  | 0, _, _, _, _ => none
  | n + 1, x3, x5, x6, st => (if (4 : Int32) ≤ x6 then tlet (x5 + (1 : Int32)) (fun i1 => k_19 x3 i1 st) else (f_X2_factOf x5 x6 st).bind (fun r2 => (f_X3_with x3 r2).bind (fun r3 => tlet (x6 + (1 : Int32)) (fun i4 => f_X3_withSpans_34 k_19 n r3 x5 i4 st))))
def f_X3_withSpans_19 : Nat → Int64 → Int32 → tST → Option (Int64 × tST)
  | 0, _, _, _ => none
  | n + 1, x3, x5, st => (if (tg_I st 8) ≤ x5 then some (x3, st) else f_X3_withSpans_34 (f_X3_withSpans_19 n) tfu x3 x5 (1 : Int32) st)
def f_X3_withSpans (x1 : Int64) (st : tST) : Option (Int64 × tST) := (f_X3_cutSpans st).bind (fun s1 => (f_X3_with x1 (tg_I s1 8)).bind (fun r2 => f_X3_withSpans_19 tfu r2 (0 : Int32) s1))
theorem yd_X3_withSpans : yX3_withSpans.cls = RX3 ∧ yX3_withSpans.cls ≠ "java/lang/invoke/MethodHandle" ∧ yX3_withSpans.cls ≠ "java/lang/invoke/VarHandle" ∧ (parseMethodDescriptor yX3_withSpans.desc).map (fun d => d.parameters.length) = some 1 := by decide +kernel
set_option maxHeartbeats 4000000 in
set_option maxRecDepth 100000 in
theorem k_X3_withSpans_34 {l : Launch} {G : tG} {p : Program} {e : Env} {s : State} {m : MethodId} {below : List Frame} {meth : Method} {c : Code} {args : Array Value} {r : Int64} {st' : tST} (S : CallFix p m c cX3_withSpans 7 s args wsL_law RX3) (hr : meth.sig.returnType = (some .long)) (hlk : meth.locks = false) (k_19 : Int64 → Int32 → tST → Option (Int64 × tST)) (hk_19 : ∀ (x3 : Int64) (x5 : Int32) (st : tST) (H : Heap) (locs : List Loc) (ls : Array Slot), tIn G (tA G s.heap.size) s st H locs → lv_has ls 7 [(0, .ref (tad G 0)), (3, .long x3), (5, .int x5)] → k_19 x3 x5 st = some (r, st') → W p l e rm_X3_withSpans s m args below meth c H locs 0 0 (tZL G below args s r st') (F0 m 19 ls [])) : ∀ (n : Nat) (x3 : Int64) (x5 : Int32) (x6 : Int32) (st : tST) (H : Heap) (locs : List Loc) (ls : Array Slot), tIn G (tA G s.heap.size) s st H locs → lv_has ls 7 [(0, .ref (tad G 0)), (3, .long x3), (5, .int x5), (6, .int x6)] → f_X3_withSpans_34 k_19 n x3 x5 x6 st = some (r, st') → W p l e rm_X3_withSpans s m args below meth c H locs 0 0 (tZL G below args s r st') (F0 m 34 ls []) := by
  have hx := S.1
  have hb := S.2.1
  have hown := S.2.2.2.1
  have hts := S.2.2.2.2
  intro n
  induction n with
  | zero => intro x3 x5 x6 st H locs ls hI hl hf; exact nomatch (show (none : Option (Int64 × tST)) = some _ from hf)
  | succ n ih =>
    intro x3 x5 x6 st H locs ls hI hl hf
    rw [f_X3_withSpans_34] at hf
    refine lv_iload hx hb dX3_withSpans_34 (lv_at hl 3 rfl) ?_
    refine lv_iconst (v := 4) hx hb dX3_withSpans_36 (by decide) ?_
    refine tk_icmp_ge (tgt := 62) hx hb hf dX3_withSpans_37 (by decide) (fun hf => ?_) (fun hf => ?_)
    · refine tk_let hf (fun i1 ei1 hf => ?_)
      refine lv_iinc (v := i1) (lv' := [(5, .int i1), (0, .ref (tad G 0)), (3, .long x3), (6, .int x6)]) hx hb dX3_withSpans_62 hl (k := 2) rfl (by rw [ei1]; rfl) (by decide) rfl (fun ls hl => ?_)
      refine lv_goto (tgt := 19) hx hb dX3_withSpans_65 (by decide) ?_
      exact hk_19 x3 i1 st _ _ _ hI (lv_sub hl [1, 2, 0] rfl) hf
    · refine lv_lload_n hx hb dX3_withSpans_40 rfl (lv_at hl 1 rfl) ?_
      refine lv_aload_n hx hb dX3_withSpans_41 rfl (lv_at hl 0 rfl) ?_
      refine tg_X3_7 S hI mw_29 dX3_withSpans_42 ?_
      refine lv_iload hx hb dX3_withSpans_45 (lv_at hl 2 rfl) ?_
      refine lv_iload hx hb dX3_withSpans_47 (lv_at hl 3 rfl) ?_
      refine tk_bd hf (fun r2 hq hf => ?_)
      refine tk_vI S hI hl.1 (c_X2_factOf l G st x5 x6 hq) (cwV 2 hts (tk_gV mw_455 mw_456 mw_457 mw_28 mw_458) rfl rfl rfl yd_X2_factOf ⟨Nat.le_of_ble_eq_true rfl, Nat.le_of_ble_eq_true rfl⟩) 14 2 rfl rfl rfl rfl [.long x3] rfl (Nat.le_of_ble_eq_true rfl) dX3_withSpans_49 (fun H locs hI => ?_)
      refine tk_bd hf (fun r3 hq hf => ?_)
      refine tk_sL S hI hl.1 (c_X3_with l G st x3 r2 hq) (va_cwS 2 hts (tk_gS mw_543 mw_544 mw_2 mw_545) rfl rfl rfl yd_X3_with ⟨Nat.le_of_ble_eq_true rfl, Nat.le_of_ble_eq_true rfl⟩) rfl [] rfl (Nat.le_of_ble_eq_true rfl) dX3_withSpans_52 (fun H locs hI => ?_)
      refine lv_lstore_n (lv' := [(3, .long r3), (0, .ref (tad G 0)), (5, .int x5), (6, .int x6)]) hx hb dX3_withSpans_55 rfl hl (by decide) rfl (fun ls hl => ?_)
      refine tk_let hf (fun i4 ei4 hf => ?_)
      refine lv_iinc (v := i4) (lv' := [(6, .int i4), (3, .long r3), (0, .ref (tad G 0)), (5, .int x5)]) hx hb dX3_withSpans_56 hl (k := 3) rfl (by rw [ei4]; rfl) (by decide) rfl (fun ls hl => ?_)
      refine lv_goto (tgt := 34) hx hb dX3_withSpans_59 (by decide) ?_
      exact ih r3 x5 i4 st _ _ _ hI (lv_sub hl [2, 1, 3, 0] rfl) hf
set_option maxHeartbeats 4000000 in
set_option maxRecDepth 100000 in
theorem k_X3_withSpans_19 {l : Launch} {G : tG} {p : Program} {e : Env} {s : State} {m : MethodId} {below : List Frame} {meth : Method} {c : Code} {args : Array Value} {r : Int64} {st' : tST} (S : CallFix p m c cX3_withSpans 7 s args wsL_law RX3) (hr : meth.sig.returnType = (some .long)) (hlk : meth.locks = false) : ∀ (n : Nat) (x3 : Int64) (x5 : Int32) (st : tST) (H : Heap) (locs : List Loc) (ls : Array Slot), tIn G (tA G s.heap.size) s st H locs → lv_has ls 7 [(0, .ref (tad G 0)), (3, .long x3), (5, .int x5)] → f_X3_withSpans_19 n x3 x5 st = some (r, st') → W p l e rm_X3_withSpans s m args below meth c H locs 0 0 (tZL G below args s r st') (F0 m 19 ls []) := by
  have hx := S.1
  have hb := S.2.1
  have hown := S.2.2.2.1
  have hts := S.2.2.2.2
  intro n
  induction n with
  | zero => intro x3 x5 st H locs ls hI hl hf; exact nomatch (show (none : Option (Int64 × tST)) = some _ from hf)
  | succ n ih =>
    intro x3 x5 st H locs ls hI hl hf
    rw [f_X3_withSpans_19] at hf
    refine lv_iload hx hb dX3_withSpans_19 (lv_at hl 2 rfl) ?_
    refine lv_aload_n hx hb dX3_withSpans_21 rfl (lv_at hl 0 rfl) ?_
    refine tg_X3_7 S hI mw_29 dX3_withSpans_22 ?_
    refine tg_X2_3 S hI mw_446 dX3_withSpans_25 ?_
    refine tk_icmp_ge (tgt := 68) hx hb hf dX3_withSpans_28 (by decide) (fun hf => ?_) (fun hf => ?_)
    · refine lv_lload_n hx hb dX3_withSpans_68 rfl (lv_at hl 1 rfl) ?_
      exact tk_rlW S hr hlk hI hf dX3_withSpans_69
    · refine lv_iconst (v := 1) hx hb dX3_withSpans_31 (by decide) ?_
      refine lv_istore (lv' := [(6, .int (1 : Int32)), (0, .ref (tad G 0)), (3, .long x3), (5, .int x5)]) hx hb dX3_withSpans_32 hl (by decide) rfl (fun ls hl => ?_)
      exact k_X3_withSpans_34 S hr hlk (f_X3_withSpans_19 n) ih tfu x3 x5 (1 : Int32) st _ _ _ hI (lv_sub hl [1, 2, 3, 0] rfl) hf
set_option maxHeartbeats 4000000 in
set_option maxRecDepth 100000 in
theorem c_X3_withSpans (l : Launch) (G : tG) (st : tST) (x1 : Int64) {r : Int64} {st' : tST} (hf : f_X3_withSpans x1 st = some (r, st')) : tCL l G yX3_withSpans cX3_withSpans 7 (some .long) rm_X3_withSpans [.ref (tad G 0), .long x1] st r st' := by
  refine tk_entL (by decide +kernel) (Nat.le_of_ble_eq_true rfl) (fun p e s m below meth c ls S hr hlk hI hl => ?_)
  have hl : lv_has ls 7 [(0, .ref (tad G 0)), (1, .long x1)] := hl
  have S : CallFix p m c cX3_withSpans 7 s [.ref (tad G 0), .long x1].toArray wsL_law RX3 := S
  have hx := S.1
  have hb := S.2.1
  have hown := S.2.2.2.1
  have hts := S.2.2.2.2
  unfold f_X3_withSpans at hf
  refine lv_aload_n hx hb dX3_withSpans_0 rfl (lv_at hl 0 rfl) ?_
  refine tk_bd hf (fun s1 hq hf => ?_)
  refine tk_vV S hI hl.1 (c_X3_cutSpans l G st  hq) (cwV 0 hts (tk_gV mw_447 mw_448 mw_449 mw_2 mw_450) rfl rfl rfl yd_X3_cutSpans ⟨Nat.le_of_ble_eq_true rfl, Nat.le_of_ble_eq_true rfl⟩) 0 3 rfl rfl rfl rfl [] rfl (Nat.le_of_ble_eq_true rfl) dX3_withSpans_1 (fun H locs hI => ?_)
  refine lv_lload_n hx hb dX3_withSpans_4 rfl (lv_at hl 1 rfl) ?_
  refine lv_aload_n hx hb dX3_withSpans_5 rfl (lv_at hl 0 rfl) ?_
  refine tg_X3_7 S hI mw_29 dX3_withSpans_6 ?_
  refine tg_X2_3 S hI mw_446 dX3_withSpans_9 ?_
  refine tk_bd hf (fun r2 hq hf => ?_)
  refine tk_sL S hI hl.1 (c_X3_with l G s1 x1 (tg_I s1 8) hq) (va_cwS 2 hts (tk_gS mw_543 mw_544 mw_2 mw_545) rfl rfl rfl yd_X3_with ⟨Nat.le_of_ble_eq_true rfl, Nat.le_of_ble_eq_true rfl⟩) rfl [] rfl (Nat.le_of_ble_eq_true rfl) dX3_withSpans_12 (fun H locs hI => ?_)
  refine lv_lstore_n (lv' := [(3, .long r2), (0, .ref (tad G 0)), (1, .long x1)]) hx hb dX3_withSpans_15 rfl hl (by decide) rfl (fun ls hl => ?_)
  refine lv_iconst (v := 0) hx hb dX3_withSpans_16 (by decide) ?_
  refine lv_istore (lv' := [(5, .int (0 : Int32)), (3, .long r2), (0, .ref (tad G 0)), (1, .long x1)]) hx hb dX3_withSpans_17 hl (by decide) rfl (fun ls hl => ?_)
  exact k_X3_withSpans_19 S hr hlk tfu r2 (0 : Int32) s1 _ _ _ hI (lv_sub hl [2, 1, 0] rfl) hf
/-! X3_digest -/
abbrev rm_X3_digest : Room := { frames := 5, cells := 0, slots := 0, locals := 128 }
def f_X3_digest_94 : Nat → Int64 → Int32 → tST → Option (Int64 × tST)
  | 0, _, _, _ => none
  | n + 1, x1, x3, st => (if (9 : Int32) ≤ x3 then some (x1, st) else (f_X3_count x3 st).bind (fun r1 => (f_X3_with x1 r1).bind (fun r2 => tlet (x3 + (1 : Int32)) (fun i3 => f_X3_digest_94 n r2 i3 st))))
def f_X3_digest_67 : Nat → Int64 → Int32 → tST → Option (Int64 × tST)
  | 0, _, _, _ => none
  | n + 1, x1, x3, st => (if (tg_I st 0) ≤ x3 then f_X3_digest_94 tfu x1 (0 : Int32) st else tal 40 (tg_A st 1) x3 (fun v1 => (f_X3_with x1 v1).bind (fun r2 => tlet (x3 + (1 : Int32)) (fun i3 => f_X3_digest_67 n r2 i3 st))))
def f_X3_digest_6 : Nat → Int64 → Int32 → tST → Option (Int64 × tST)
  | 0, _, _, _ => none
  | n + 1, x1, x3, st => (if (6 : Int32) ≤ x3 then (f_X3_withPlaces x1 st).bind (fun r1 => (f_X3_withChanges r1 st).bind (fun r2 => tbd (f_X3_withSpans r2 st) (fun r3 s4 => (f_X3_seekPage s4).bind (fun s5 => (f_X3_with r3 (tg_I s5 2)).bind (fun r6 => (f_X3_with r6 (tg_I s5 3)).bind (fun r7 => f_X3_digest_67 tfu r7 (0 : Int32) s5)))))) else tbd (f_X3_withView x1 x3 st) (fun r8 s9 => tlet (x3 + (1 : Int32)) (fun i10 => f_X3_digest_6 n r8 i10 s9)))
def f_X3_digest (st : tST) : Option (Int64 × tST) := f_X3_digest_6 tfu (1619 : Int64) (0 : Int32) st
theorem yd_X3_digest : yX3_digest.cls = RX3 ∧ yX3_digest.cls ≠ "java/lang/invoke/MethodHandle" ∧ yX3_digest.cls ≠ "java/lang/invoke/VarHandle" ∧ (parseMethodDescriptor yX3_digest.desc).map (fun d => d.parameters.length) = some 0 := by decide +kernel
set_option maxHeartbeats 4000000 in
set_option maxRecDepth 100000 in
theorem k_X3_digest_94 {l : Launch} {G : tG} {p : Program} {e : Env} {s : State} {m : MethodId} {below : List Frame} {meth : Method} {c : Code} {args : Array Value} {r : Int64} {st' : tST} (S : CallFix p m c cX3_digest 4 s args wsL_law RX3) (hr : meth.sig.returnType = (some .long)) (hlk : meth.locks = false) : ∀ (n : Nat) (x1 : Int64) (x3 : Int32) (st : tST) (H : Heap) (locs : List Loc) (ls : Array Slot), tIn G (tA G s.heap.size) s st H locs → lv_has ls 4 [(0, .ref (tad G 0)), (1, .long x1), (3, .int x3)] → f_X3_digest_94 n x1 x3 st = some (r, st') → W p l e rm_X3_digest s m args below meth c H locs 0 0 (tZL G below args s r st') (F0 m 94 ls []) := by
  have hx := S.1
  have hb := S.2.1
  have hown := S.2.2.2.1
  have hts := S.2.2.2.2
  intro n
  induction n with
  | zero => intro x1 x3 st H locs ls hI hl hf; exact nomatch (show (none : Option (Int64 × tST)) = some _ from hf)
  | succ n ih =>
    intro x1 x3 st H locs ls hI hl hf
    rw [f_X3_digest_94] at hf
    refine lv_iload_n hx hb dX3_digest_94 rfl (lv_at hl 2 rfl) ?_
    refine lv_bipush (v := 9) hx hb dX3_digest_95 (by decide) ?_
    refine tk_icmp_ge (tgt := 116) hx hb hf dX3_digest_97 (by decide) (fun hf => ?_) (fun hf => ?_)
    · refine lv_lload_n hx hb dX3_digest_116 rfl (lv_at hl 1 rfl) ?_
      exact tk_rlW S hr hlk hI hf dX3_digest_117
    · refine lv_lload_n hx hb dX3_digest_100 rfl (lv_at hl 1 rfl) ?_
      refine lv_aload_n hx hb dX3_digest_101 rfl (lv_at hl 0 rfl) ?_
      refine lv_iload_n hx hb dX3_digest_102 rfl (lv_at hl 2 rfl) ?_
      refine tk_bd hf (fun r1 hq hf => ?_)
      refine tk_vI S hI hl.1 (c_X3_count l G st x3 hq) (cwV 1 hts (tk_gV mw_559 mw_502 mw_503 mw_2 mw_504) rfl rfl rfl yd_X3_count ⟨Nat.le_of_ble_eq_true rfl, Nat.le_of_ble_eq_true rfl⟩) 0 3 rfl rfl rfl rfl [.long x1] rfl (Nat.le_of_ble_eq_true rfl) dX3_digest_103 (fun H locs hI => ?_)
      refine tk_bd hf (fun r2 hq hf => ?_)
      refine tk_sL S hI hl.1 (c_X3_with l G st x1 r1 hq) (va_cwS 2 hts (tk_gS mw_543 mw_544 mw_2 mw_545) rfl rfl rfl yd_X3_with ⟨Nat.le_of_ble_eq_true rfl, Nat.le_of_ble_eq_true rfl⟩) rfl [] rfl (Nat.le_of_ble_eq_true rfl) dX3_digest_106 (fun H locs hI => ?_)
      refine lv_lstore_n (lv' := [(1, .long r2), (0, .ref (tad G 0)), (3, .int x3)]) hx hb dX3_digest_109 rfl hl (by decide) rfl (fun ls hl => ?_)
      refine tk_let hf (fun i3 ei3 hf => ?_)
      refine lv_iinc (v := i3) (lv' := [(3, .int i3), (1, .long r2), (0, .ref (tad G 0))]) hx hb dX3_digest_110 hl (k := 2) rfl (by rw [ei3]; rfl) (by decide) rfl (fun ls hl => ?_)
      refine lv_goto (tgt := 94) hx hb dX3_digest_113 (by decide) ?_
      exact ih r2 i3 st _ _ _ hI (lv_sub hl [2, 1, 0] rfl) hf
set_option maxHeartbeats 4000000 in
set_option maxRecDepth 100000 in
theorem k_X3_digest_67 {l : Launch} {G : tG} {p : Program} {e : Env} {s : State} {m : MethodId} {below : List Frame} {meth : Method} {c : Code} {args : Array Value} {r : Int64} {st' : tST} (S : CallFix p m c cX3_digest 4 s args wsL_law RX3) (hr : meth.sig.returnType = (some .long)) (hlk : meth.locks = false) : ∀ (n : Nat) (x1 : Int64) (x3 : Int32) (st : tST) (H : Heap) (locs : List Loc) (ls : Array Slot), tIn G (tA G s.heap.size) s st H locs → lv_has ls 4 [(0, .ref (tad G 0)), (1, .long x1), (3, .int x3)] → f_X3_digest_67 n x1 x3 st = some (r, st') → W p l e rm_X3_digest s m args below meth c H locs 0 0 (tZL G below args s r st') (F0 m 67 ls []) := by
  have hx := S.1
  have hb := S.2.1
  have hown := S.2.2.2.1
  have hts := S.2.2.2.2
  intro n
  induction n with
  | zero => intro x1 x3 st H locs ls hI hl hf; exact nomatch (show (none : Option (Int64 × tST)) = some _ from hf)
  | succ n ih =>
    intro x1 x3 st H locs ls hI hl hf
    rw [f_X3_digest_67] at hf
    refine lv_iload_n hx hb dX3_digest_67 rfl (lv_at hl 2 rfl) ?_
    refine lv_aload_n hx hb dX3_digest_68 rfl (lv_at hl 0 rfl) ?_
    refine tg_X3_1 S hI mw_14 dX3_digest_69 ?_
    refine tk_icmp_ge (tgt := 92) hx hb hf dX3_digest_72 (by decide) (fun hf => ?_) (fun hf => ?_)
    · refine lv_iconst (v := 0) hx hb dX3_digest_92 (by decide) ?_
      refine lv_istore_n (lv' := [(3, .int (0 : Int32)), (0, .ref (tad G 0)), (1, .long x1)]) hx hb dX3_digest_93 rfl hl (by decide) rfl (fun ls hl => ?_)
      exact k_X3_digest_94 S hr hlk tfu x1 (0 : Int32) st _ _ _ hI (lv_sub hl [1, 2, 0] rfl) hf
    · refine lv_lload_n hx hb dX3_digest_75 rfl (lv_at hl 1 rfl) ?_
      refine lv_aload_n hx hb dX3_digest_76 rfl (lv_at hl 0 rfl) ?_
      refine tg_X3_0 S hI mw_13 dX3_digest_77 ?_
      refine lv_iload_n hx hb dX3_digest_80 rfl (lv_at hl 2 rfl) ?_
      refine tk_iald S hI (k := 1) (n := 40) rfl hf dX3_digest_81 (fun v1 hf => ?_)
      refine tk_bd hf (fun r2 hq hf => ?_)
      refine tk_sL S hI hl.1 (c_X3_with l G st x1 v1 hq) (va_cwS 2 hts (tk_gS mw_543 mw_544 mw_2 mw_545) rfl rfl rfl yd_X3_with ⟨Nat.le_of_ble_eq_true rfl, Nat.le_of_ble_eq_true rfl⟩) rfl [] rfl (Nat.le_of_ble_eq_true rfl) dX3_digest_82 (fun H locs hI => ?_)
      refine lv_lstore_n (lv' := [(1, .long r2), (0, .ref (tad G 0)), (3, .int x3)]) hx hb dX3_digest_85 rfl hl (by decide) rfl (fun ls hl => ?_)
      refine tk_let hf (fun i3 ei3 hf => ?_)
      refine lv_iinc (v := i3) (lv' := [(3, .int i3), (1, .long r2), (0, .ref (tad G 0))]) hx hb dX3_digest_86 hl (k := 2) rfl (by rw [ei3]; rfl) (by decide) rfl (fun ls hl => ?_)
      refine lv_goto (tgt := 67) hx hb dX3_digest_89 (by decide) ?_
      exact ih r2 i3 st _ _ _ hI (lv_sub hl [2, 1, 0] rfl) hf
set_option maxHeartbeats 4000000 in
set_option maxRecDepth 100000 in
theorem k_X3_digest_6 {l : Launch} {G : tG} {p : Program} {e : Env} {s : State} {m : MethodId} {below : List Frame} {meth : Method} {c : Code} {args : Array Value} {r : Int64} {st' : tST} (S : CallFix p m c cX3_digest 4 s args wsL_law RX3) (hr : meth.sig.returnType = (some .long)) (hlk : meth.locks = false) : ∀ (n : Nat) (x1 : Int64) (x3 : Int32) (st : tST) (H : Heap) (locs : List Loc) (ls : Array Slot), tIn G (tA G s.heap.size) s st H locs → lv_has ls 4 [(0, .ref (tad G 0)), (1, .long x1), (3, .int x3)] → f_X3_digest_6 n x1 x3 st = some (r, st') → W p l e rm_X3_digest s m args below meth c H locs 0 0 (tZL G below args s r st') (F0 m 6 ls []) := by
  have hx := S.1
  have hb := S.2.1
  have hown := S.2.2.2.1
  have hts := S.2.2.2.2
  intro n
  induction n with
  | zero => intro x1 x3 st H locs ls hI hl hf; exact nomatch (show (none : Option (Int64 × tST)) = some _ from hf)
  | succ n ih =>
    intro x1 x3 st H locs ls hI hl hf
    rw [f_X3_digest_6] at hf
    refine lv_iload_n hx hb dX3_digest_6 rfl (lv_at hl 2 rfl) ?_
    refine lv_bipush (v := 6) hx hb dX3_digest_7 (by decide) ?_
    refine tk_icmp_ge (tgt := 25) hx hb hf dX3_digest_9 (by decide) (fun hf => ?_) (fun hf => ?_)
    · refine lv_aload_n hx hb dX3_digest_25 rfl (lv_at hl 0 rfl) ?_
      refine lv_lload_n hx hb dX3_digest_26 rfl (lv_at hl 1 rfl) ?_
      refine tk_bd hf (fun r1 hq hf => ?_)
      refine tk_vL S hI hl.1 (c_X3_withPlaces l G st x1 hq) (cwV 1 hts (tk_gV mw_547 mw_548 mw_549 mw_2 mw_550) rfl rfl rfl yd_X3_withPlaces ⟨Nat.le_of_ble_eq_true rfl, Nat.le_of_ble_eq_true rfl⟩) 0 3 rfl rfl rfl rfl [] rfl (Nat.le_of_ble_eq_true rfl) dX3_digest_27 (fun H locs hI => ?_)
      refine lv_lstore_n (lv' := [(1, .long r1), (0, .ref (tad G 0)), (3, .int x3)]) hx hb dX3_digest_30 rfl hl (by decide) rfl (fun ls hl => ?_)
      refine lv_aload_n hx hb dX3_digest_31 rfl (lv_at hl 1 rfl) ?_
      refine lv_lload_n hx hb dX3_digest_32 rfl (lv_at hl 0 rfl) ?_
      refine tk_bd hf (fun r2 hq hf => ?_)
      refine tk_vL S hI hl.1 (c_X3_withChanges l G st r1 hq) (cwV 1 hts (tk_gV mw_551 mw_552 mw_553 mw_2 mw_554) rfl rfl rfl yd_X3_withChanges ⟨Nat.le_of_ble_eq_true rfl, Nat.le_of_ble_eq_true rfl⟩) 0 3 rfl rfl rfl rfl [] rfl (Nat.le_of_ble_eq_true rfl) dX3_digest_33 (fun H locs hI => ?_)
      refine lv_lstore_n (lv' := [(1, .long r2), (0, .ref (tad G 0)), (3, .int x3)]) hx hb dX3_digest_36 rfl hl (by decide) rfl (fun ls hl => ?_)
      refine lv_aload_n hx hb dX3_digest_37 rfl (lv_at hl 1 rfl) ?_
      refine lv_lload_n hx hb dX3_digest_38 rfl (lv_at hl 0 rfl) ?_
      refine tk_bd2 hf (fun r3 s4 hq hf => ?_)
      refine tk_vL S hI hl.1 (c_X3_withSpans l G st r2 hq) (cwV 1 hts (tk_gV mw_555 mw_556 mw_557 mw_2 mw_558) rfl rfl rfl yd_X3_withSpans ⟨Nat.le_of_ble_eq_true rfl, Nat.le_of_ble_eq_true rfl⟩) 0 3 rfl rfl rfl rfl [] rfl (Nat.le_of_ble_eq_true rfl) dX3_digest_39 (fun H locs hI => ?_)
      refine lv_lstore_n (lv' := [(1, .long r3), (0, .ref (tad G 0)), (3, .int x3)]) hx hb dX3_digest_42 rfl hl (by decide) rfl (fun ls hl => ?_)
      refine lv_aload_n hx hb dX3_digest_43 rfl (lv_at hl 1 rfl) ?_
      refine tk_bd hf (fun s5 hq hf => ?_)
      refine tk_vV S hI hl.1 (c_X3_seekPage l G s4  hq) (cwV 0 hts (tk_gV mw_472 mw_473 mw_474 mw_2 mw_475) rfl rfl rfl yd_X3_seekPage ⟨Nat.le_of_ble_eq_true rfl, Nat.le_of_ble_eq_true rfl⟩) 0 3 rfl rfl rfl rfl [] rfl (Nat.le_of_ble_eq_true rfl) dX3_digest_44 (fun H locs hI => ?_)
      refine lv_lload_n hx hb dX3_digest_47 rfl (lv_at hl 0 rfl) ?_
      refine lv_aload_n hx hb dX3_digest_48 rfl (lv_at hl 1 rfl) ?_
      refine tg_X3_9 S hI mw_31 dX3_digest_49 ?_
      refine tk_bd hf (fun r6 hq hf => ?_)
      refine tk_sL S hI hl.1 (c_X3_with l G s5 r3 (tg_I s5 2) hq) (va_cwS 2 hts (tk_gS mw_543 mw_544 mw_2 mw_545) rfl rfl rfl yd_X3_with ⟨Nat.le_of_ble_eq_true rfl, Nat.le_of_ble_eq_true rfl⟩) rfl [] rfl (Nat.le_of_ble_eq_true rfl) dX3_digest_52 (fun H locs hI => ?_)
      refine lv_lstore_n (lv' := [(1, .long r6), (0, .ref (tad G 0)), (3, .int x3)]) hx hb dX3_digest_55 rfl hl (by decide) rfl (fun ls hl => ?_)
      refine lv_lload_n hx hb dX3_digest_56 rfl (lv_at hl 0 rfl) ?_
      refine lv_aload_n hx hb dX3_digest_57 rfl (lv_at hl 1 rfl) ?_
      refine tg_X3_10 S hI mw_32 dX3_digest_58 ?_
      refine tk_bd hf (fun r7 hq hf => ?_)
      refine tk_sL S hI hl.1 (c_X3_with l G s5 r6 (tg_I s5 3) hq) (va_cwS 2 hts (tk_gS mw_543 mw_544 mw_2 mw_545) rfl rfl rfl yd_X3_with ⟨Nat.le_of_ble_eq_true rfl, Nat.le_of_ble_eq_true rfl⟩) rfl [] rfl (Nat.le_of_ble_eq_true rfl) dX3_digest_61 (fun H locs hI => ?_)
      refine lv_lstore_n (lv' := [(1, .long r7), (0, .ref (tad G 0)), (3, .int x3)]) hx hb dX3_digest_64 rfl hl (by decide) rfl (fun ls hl => ?_)
      refine lv_iconst (v := 0) hx hb dX3_digest_65 (by decide) ?_
      refine lv_istore_n (lv' := [(3, .int (0 : Int32)), (1, .long r7), (0, .ref (tad G 0))]) hx hb dX3_digest_66 rfl hl (by decide) rfl (fun ls hl => ?_)
      exact k_X3_digest_67 S hr hlk tfu r7 (0 : Int32) s5 _ _ _ hI (lv_sub hl [2, 1, 0] rfl) hf
    · refine lv_aload_n hx hb dX3_digest_12 rfl (lv_at hl 0 rfl) ?_
      refine lv_lload_n hx hb dX3_digest_13 rfl (lv_at hl 1 rfl) ?_
      refine lv_iload_n hx hb dX3_digest_14 rfl (lv_at hl 2 rfl) ?_
      refine tk_bd2 hf (fun r8 s9 hq hf => ?_)
      refine tk_vL S hI hl.1 (c_X3_withView l G st x1 x3 hq) (cwV 2 hts (tk_gV mw_539 mw_540 mw_541 mw_2 mw_542) rfl rfl rfl yd_X3_withView ⟨Nat.le_of_ble_eq_true rfl, Nat.le_of_ble_eq_true rfl⟩) 0 3 rfl rfl rfl rfl [] rfl (Nat.le_of_ble_eq_true rfl) dX3_digest_15 (fun H locs hI => ?_)
      refine lv_lstore_n (lv' := [(1, .long r8), (0, .ref (tad G 0)), (3, .int x3)]) hx hb dX3_digest_18 rfl hl (by decide) rfl (fun ls hl => ?_)
      refine tk_let hf (fun i10 ei10 hf => ?_)
      refine lv_iinc (v := i10) (lv' := [(3, .int i10), (1, .long r8), (0, .ref (tad G 0))]) hx hb dX3_digest_19 hl (k := 2) rfl (by rw [ei10]; rfl) (by decide) rfl (fun ls hl => ?_)
      refine lv_goto (tgt := 6) hx hb dX3_digest_22 (by decide) ?_
      exact ih r8 i10 s9 _ _ _ hI (lv_sub hl [2, 1, 0] rfl) hf
set_option maxHeartbeats 4000000 in
set_option maxRecDepth 100000 in
theorem c_X3_digest (l : Launch) (G : tG) (st : tST) {r : Int64} {st' : tST} (hf : f_X3_digest st = some (r, st')) : tCL l G yX3_digest cX3_digest 4 (some .long) rm_X3_digest [.ref (tad G 0)] st r st' := by
  refine tk_entL (by decide +kernel) (Nat.le_of_ble_eq_true rfl) (fun p e s m below meth c ls S hr hlk hI hl => ?_)
  have hl : lv_has ls 4 [(0, .ref (tad G 0))] := hl
  have S : CallFix p m c cX3_digest 4 s [.ref (tad G 0)].toArray wsL_law RX3 := S
  have hx := S.1
  have hb := S.2.1
  have hown := S.2.2.2.1
  have hts := S.2.2.2.2
  unfold f_X3_digest at hf
  refine lv_ldc2 (v := 1619) hx hb hown (hts _ mw_538) dX3_digest_0 ?_
  refine lv_lstore_n (lv' := [(1, .long (1619 : Int64)), (0, .ref (tad G 0))]) hx hb dX3_digest_3 rfl hl (by decide) rfl (fun ls hl => ?_)
  refine lv_iconst (v := 0) hx hb dX3_digest_4 (by decide) ?_
  refine lv_istore_n (lv' := [(3, .int (0 : Int32)), (1, .long (1619 : Int64)), (0, .ref (tad G 0))]) hx hb dX3_digest_5 rfl hl (by decide) rfl (fun ls hl => ?_)
  exact k_X3_digest_6 S hr hlk tfu (1619 : Int64) (0 : Int32) st _ _ _ hI (lv_sub hl [2, 1, 0] rfl) hf
