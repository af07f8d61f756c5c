/-! X3_settle -/
abbrev rm_X3_settle : Room := { frames := 3, cells := 0, slots := 0, locals := 74 }
def f_X3_settle_27 : Nat → Int32 → Int32 → tST → Option (Int32 × tST)
  | 0, _, _, _ => none
  | n + 1, x1, x2, st => (if x1 ≤ x2 then (f_X3_startText_a18 x1 st).bind (fun s1 => tlet (tp_I s1 5 ((tg_I s1 5) + (1 : Int32))) (fun s2 => some ((tg_I s2 1), s2))) else tal 90 (tg_A st 18) x2 (fun v3 => tal 90 (tg_A st 4) v3 (fun v4 => tal 64 (tg_A st 2) v4 (fun v5 => tas 90 x2 (tp_A st 18 (x2).toNatClampNeg v5) (fun s6 => tlet (x2 + (1 : Int32)) (fun i7 => f_X3_settle_27 n x1 i7 s6))))))
def f_X3_settle (st : tST) : Option (Int32 × tST) := (f_X0_inStatus (0 : Int32) st).bind (fun r1 => (if r1 = 0 then (f_X3_setOf (0 : Int32) st).bind (fun r2 => tbd (f_X3_lineUp r2 st) (fun r3 s4 => f_X3_settle_27 tfu r3 (0 : Int32) s4)) else some ((-1003 : Int32), st)))
theorem yd_X3_settle : yX3_settle.cls = RX3 ∧ yX3_settle.cls ≠ "java/lang/invoke/MethodHandle" ∧ yX3_settle.cls ≠ "java/lang/invoke/VarHandle" ∧ (parseMethodDescriptor yX3_settle.desc).map (fun d => d.parameters.length) = some 0 := by decide +kernel
set_option maxHeartbeats 4000000 in
set_option maxRecDepth 100000 in
theorem k_X3_settle_27 {l : Launch} {G : tG} {p : Program} {e : Env} {s : State} {m : MethodId} {below : List Frame} {meth : Method} {c : Code} {args : Array Value} {r : Int32} {st' : tST} (S : CallFix p m c cX3_settle 3 s args wsL_law RX3) (hr : meth.sig.returnType = (some .int)) (hlk : meth.locks = false) : ∀ (n : Nat) (x1 : Int32) (x2 : Int32) (st : tST) (H : Heap) (locs : List Loc) (ls : Array Slot), tIn G (tA G s.heap.size) s st H locs → lv_has ls 3 [(0, .ref (tad G 0)), (1, .int x1), (2, .int x2)] → f_X3_settle_27 n x1 x2 st = some (r, st') → W p l e rm_X3_settle s m args below meth c H locs 0 0 (tZI G below args s r st') (F0 m 27 ls []) := by
  have hx := S.1
  have hb := S.2.1
  have hown := S.2.2.2.1
  have hts := S.2.2.2.2
  intro n
  induction n with
  | zero => intro x1 x2 st H locs ls hI hl hf; exact nomatch (show (none : Option (Int32 × tST)) = some _ from hf)
  | succ n ih =>
    intro x1 x2 st H locs ls hI hl hf
    rw [f_X3_settle_27] at hf
    refine lv_iload_n hx hb dX3_settle_27 rfl (lv_at hl 2 rfl) ?_
    refine lv_iload_n hx hb dX3_settle_28 rfl (lv_at hl 1 rfl) ?_
    refine tk_icmp_ge (tgt := 63) hx hb hf dX3_settle_29 (by decide) (fun hf => ?_) (fun hf => ?_)
    · refine lv_aload_n hx hb dX3_settle_63 rfl (lv_at hl 0 rfl) ?_
      refine lv_aload_n hx hb dX3_settle_64 rfl (lv_at hl 0 rfl) ?_
      refine tg_X3_8 S hI mw_30 dX3_settle_65 ?_
      refine lv_iload_n hx hb dX3_settle_68 rfl (lv_at hl 1 rfl) ?_
      refine tk_bd hf (fun s1 hq hf => ?_)
      refine tk_vV S hI hl.1 (c_X3_startText_a18 l G st x1 hq) (cwV 2 hts (tk_gV mw_110 mw_111 mw_112 mw_2 mw_113) rfl rfl rfl yd_X3_startText ⟨Nat.le_of_ble_eq_true rfl, Nat.le_of_ble_eq_true rfl⟩) 0 3 rfl rfl rfl rfl [] rfl (Nat.le_of_ble_eq_true rfl) dX3_settle_69 (fun H locs hI => ?_)
      refine lv_aload_n hx hb dX3_settle_72 rfl (lv_at hl 0 rfl) ?_
      refine lv_dup hx hb dX3_settle_73 rfl ?_
      refine tg_X3_12 S hI mw_34 dX3_settle_74 ?_
      refine lv_iconst (v := 1) hx hb dX3_settle_77 (by decide) ?_
      refine lv_iadd hx hb dX3_settle_78 ?_
      refine tp_X3_12 S hI mw_34 hf dX3_settle_79 (fun s2 H locs hI hf => ?_)
      refine lv_aload_n hx hb dX3_settle_82 rfl (lv_at hl 0 rfl) ?_
      refine tg_X3_3 S hI mw_16 dX3_settle_83 ?_
      exact tk_riW S hr hlk hI hf dX3_settle_86
    · refine lv_aload_n hx hb dX3_settle_32 rfl (lv_at hl 0 rfl) ?_
      refine tg_X3_8 S hI mw_30 dX3_settle_33 ?_
      refine lv_iload_n hx hb dX3_settle_36 rfl (lv_at hl 2 rfl) ?_
      refine lv_aload_n hx hb dX3_settle_37 rfl (lv_at hl 0 rfl) ?_
      refine tg_X3_2 S hI mw_15 dX3_settle_38 ?_
      refine lv_aload_n hx hb dX3_settle_41 rfl (lv_at hl 0 rfl) ?_
      refine tg_X3_5 S hI mw_21 dX3_settle_42 ?_
      refine tg_X1_0 S hI mw_256 dX3_settle_45 ?_
      refine lv_aload_n hx hb dX3_settle_48 rfl (lv_at hl 0 rfl) ?_
      refine tg_X3_8 S hI mw_30 dX3_settle_49 ?_
      refine lv_iload_n hx hb dX3_settle_52 rfl (lv_at hl 2 rfl) ?_
      refine tk_iald S hI (k := 18) (n := 90) rfl hf dX3_settle_53 (fun v3 hf => ?_)
      refine tk_iald S hI (k := 4) (n := 90) rfl hf dX3_settle_54 (fun v4 hf => ?_)
      refine tk_iald S hI (k := 2) (n := 64) rfl hf dX3_settle_55 (fun v5 hf => ?_)
      refine tk_iast S hI (k := 18) (n := 90) rfl (twa_18 G _) hf dX3_settle_56 (fun s6 H locs hI hf => ?_)
      refine tk_let hf (fun i7 ei7 hf => ?_)
      refine lv_iinc (v := i7) (lv' := [(2, .int i7), (0, .ref (tad G 0)), (1, .int x1)]) hx hb dX3_settle_57 hl (k := 2) rfl (by rw [ei7]; rfl) (by decide) rfl (fun ls hl => ?_)
      refine lv_goto (tgt := 27) hx hb dX3_settle_60 (by decide) ?_
      exact ih x1 i7 s6 _ _ _ hI (lv_sub hl [1, 2, 0] rfl) hf
set_option maxHeartbeats 4000000 in
set_option maxRecDepth 100000 in
theorem c_X3_settle (l : Launch) (G : tG) (st : tST) {r : Int32} {st' : tST} (hf : f_X3_settle st = some (r, st')) : tCI l G yX3_settle cX3_settle 3 (some .int) rm_X3_settle [.ref (tad G 0)] st r st' := by
  refine tk_entI (by decide +kernel) (Nat.le_of_ble_eq_true rfl) (fun p e s m below meth c ls S hr hlk hI hl => ?_)
  have hl : lv_has ls 3 [(0, .ref (tad G 0))] := hl
  have S : CallFix p m c cX3_settle 3 s [.ref (tad G 0)].toArray wsL_law RX3 := S
  have hx := S.1
  have hb := S.2.1
  have hown := S.2.2.2.1
  have hts := S.2.2.2.2
  unfold f_X3_settle at hf
  refine lv_aload_n hx hb dX3_settle_0 rfl (lv_at hl 0 rfl) ?_
  refine tg_X3_6 S hI mw_25 dX3_settle_1 ?_
  refine lv_iconst (v := 0) hx hb dX3_settle_4 (by decide) ?_
  refine tk_bd hf (fun r1 hq hf => ?_)
  refine tk_vI S hI hl.1 (c_X0_inStatus l G st (0 : Int32) hq) (cwV 1 hts (tk_gV mw_163 mw_164 mw_165 mw_24 mw_166) rfl rfl rfl yd_X0_inStatus ⟨Nat.le_of_ble_eq_true rfl, Nat.le_of_ble_eq_true rfl⟩) 8 0 rfl rfl rfl rfl [] rfl (Nat.le_of_ble_eq_true rfl) dX3_settle_5 (fun H locs hI => ?_)
  refine tk_if_eq (tgt := 15) hx hb hf dX3_settle_8 (by decide) (fun hf => ?_) (fun hf => ?_)
  · refine lv_aload_n hx hb dX3_settle_15 rfl (lv_at hl 0 rfl) ?_
    refine lv_aload_n hx hb dX3_settle_16 rfl (lv_at hl 0 rfl) ?_
    refine lv_iconst (v := 0) hx hb dX3_settle_17 (by decide) ?_
    refine tk_bd hf (fun r2 hq hf => ?_)
    refine tk_vI S hI hl.1 (c_X3_setOf l G st (0 : Int32) hq) (cwV 1 hts (tk_gV mw_159 mw_160 mw_161 mw_2 mw_162) rfl rfl rfl yd_X3_setOf ⟨Nat.le_of_ble_eq_true rfl, Nat.le_of_ble_eq_true rfl⟩) 0 3 rfl rfl rfl rfl [.ref (tad G 0)] rfl (Nat.le_of_ble_eq_true rfl) dX3_settle_18 (fun H locs hI => ?_)
    refine tk_bd2 hf (fun r3 s4 hq hf => ?_)
    refine tk_vI S hI hl.1 (c_X3_lineUp l G st r2 hq) (cwV 1 hts (tk_gV mw_171 mw_172 mw_173 mw_2 mw_174) rfl rfl rfl yd_X3_lineUp ⟨Nat.le_of_ble_eq_true rfl, Nat.le_of_ble_eq_true rfl⟩) 0 3 rfl rfl rfl rfl [] rfl (Nat.le_of_ble_eq_true rfl) dX3_settle_21 (fun H locs hI => ?_)
    refine lv_istore_n (lv' := [(1, .int r3), (0, .ref (tad G 0))]) hx hb dX3_settle_24 rfl hl (by decide) rfl (fun ls hl => ?_)
    refine lv_iconst (v := 0) hx hb dX3_settle_25 (by decide) ?_
    refine lv_istore_n (lv' := [(2, .int (0 : Int32)), (1, .int r3), (0, .ref (tad G 0))]) hx hb dX3_settle_26 rfl hl (by decide) rfl (fun ls hl => ?_)
    exact k_X3_settle_27 S hr hlk tfu r3 (0 : Int32) s4 _ _ _ hI (lv_sub hl [2, 1, 0] rfl) hf
  · refine lv_sipush (v := -1003) hx hb dX3_settle_11 (by decide) ?_
    exact tk_riW S hr hlk hI hf dX3_settle_14
/-! X3_isView -/
abbrev rm_X3_isView : Room := { frames := 0, cells := 0, slots := 0, locals := 0 }
def f_X3_isView (x0 : Int32) : Option (Int32) := (if x0 < 0 then tzr (0 : Int32) (some (0 : Int32)) else (if (6 : Int32) ≤ x0 then tzr (0 : Int32) (some (0 : Int32)) else tzr (1 : Int32) (some (1 : Int32))))
theorem yd_X3_isView : yX3_isView.cls ≠ "java/lang/invoke/MethodHandle" ∧ yX3_isView.cls ≠ "java/lang/invoke/VarHandle" ∧ (parseMethodDescriptor yX3_isView.desc).map (fun d => d.parameters.length) = some 1 := by decide +kernel
set_option maxHeartbeats 4000000 in
set_option maxRecDepth 100000 in
theorem c_X3_isView (l : Launch) (G : tG) (st : tST) (x0 : Int32) {r : Int32} (hf : f_X3_isView x0 = some r) : tCI l G yX3_isView cX3_isView 1 (some .boolean) rm_X3_isView [.int x0] st r st := by
  refine tk_entI (by decide +kernel) (Nat.le_of_ble_eq_true rfl) (fun p e s m below meth c ls S hr hlk hI hl => ?_)
  have hl : lv_has ls 1 [(0, .int x0)] := hl
  have S : CallFix p m c cX3_isView 1 s [.int x0].toArray wsL_law RX3 := S
  have hx := S.1
  have hb := S.2.1
  have hown := S.2.2.2.1
  have hts := S.2.2.2.2
  unfold f_X3_isView at hf
  refine lv_iload_n hx hb dX3_isView_0 rfl (lv_at hl 0 rfl) ?_
  refine tk_if_lt (tgt := 14) hx hb hf dX3_isView_1 (by decide) (fun hf => ?_) (fun hf => ?_)
  · refine lv_iconst (v := 0) hx hb dX3_isView_14 (by decide) ?_
    exact tk_rzR S hr hlk hI hf dX3_isView_15
  · refine lv_iload_n hx hb dX3_isView_4 rfl (lv_at hl 0 rfl) ?_
    refine lv_bipush (v := 6) hx hb dX3_isView_5 (by decide) ?_
    refine tk_icmp_ge (tgt := 14) hx hb hf dX3_isView_7 (by decide) (fun hf => ?_) (fun hf => ?_)
    · refine lv_iconst (v := 0) hx hb dX3_isView_14 (by decide) ?_
      exact tk_rzR S hr hlk hI hf dX3_isView_15
    · refine lv_iconst (v := 1) hx hb dX3_isView_10 (by decide) ?_
      refine lv_goto (tgt := 15) hx hb dX3_isView_11 (by decide) ?_
      exact tk_rzR S hr hlk hI hf dX3_isView_15
/-! X3_length -/
abbrev rm_X3_length : Room := { frames := 3, cells := 0, slots := 0, locals := 74 }
def f_X3_length (x1 : Int32) (st : tST) : Option (Int32 × tST) := (f_X3_isView x1).bind (fun r1 => (if r1 = 0 then some ((-1001 : Int32), st) else (f_X3_setOf x1 st).bind (fun r2 => tbd (f_X3_lineUp r2 st) (fun r3 s4 => some (r3, s4)))))
theorem yd_X3_length : yX3_length.cls = RX3 ∧ yX3_length.cls ≠ "java/lang/invoke/MethodHandle" ∧ yX3_length.cls ≠ "java/lang/invoke/VarHandle" ∧ (parseMethodDescriptor yX3_length.desc).map (fun d => d.parameters.length) = some 1 := by decide +kernel
set_option maxHeartbeats 4000000 in
set_option maxRecDepth 100000 in
theorem c_X3_length (l : Launch) (G : tG) (st : tST) (x1 : Int32) {r : Int32} {st' : tST} (hf : f_X3_length x1 st = some (r, st')) : tCI l G yX3_length cX3_length 2 (some .int) rm_X3_length [.ref (tad G 0), .int x1] st r st' := by
  refine tk_entI (by decide +kernel) (Nat.le_of_ble_eq_true rfl) (fun p e s m below meth c ls S hr hlk hI hl => ?_)
  have hl : lv_has ls 2 [(0, .ref (tad G 0)), (1, .int x1)] := hl
  have S : CallFix p m c cX3_length 2 s [.ref (tad G 0), .int x1].toArray wsL_law RX3 := S
  have hx := S.1
  have hb := S.2.1
  have hown := S.2.2.2.1
  have hts := S.2.2.2.2
  unfold f_X3_length at hf
  refine lv_iload_n hx hb dX3_length_0 rfl (lv_at hl 1 rfl) ?_
  refine tk_bd hf (fun r1 hq hf => ?_)
  refine tk_sI S hI hl.1 (c_X3_isView l G st x1 hq) (va_cwS 1 hts (tk_gS mw_319 mw_320 mw_2 mw_321) rfl rfl rfl yd_X3_isView ⟨Nat.le_of_ble_eq_true rfl, Nat.le_of_ble_eq_true rfl⟩) rfl [] rfl (Nat.le_of_ble_eq_true rfl) dX3_length_1 (fun H locs hI => ?_)
  refine tk_if_eq (tgt := 19) hx hb hf dX3_length_4 (by decide) (fun hf => ?_) (fun hf => ?_)
  · refine lv_sipush (v := -1001) hx hb dX3_length_19 (by decide) ?_
    exact tk_riW S hr hlk hI hf dX3_length_22
  · refine lv_aload_n hx hb dX3_length_7 rfl (lv_at hl 0 rfl) ?_
    refine lv_aload_n hx hb dX3_length_8 rfl (lv_at hl 0 rfl) ?_
    refine lv_iload_n hx hb dX3_length_9 rfl (lv_at hl 1 rfl) ?_
    refine tk_bd hf (fun r2 hq hf => ?_)
    refine tk_vI S hI hl.1 (c_X3_setOf l G st x1 hq) (cwV 1 hts (tk_gV mw_159 mw_160 mw_161 mw_2 mw_162) rfl rfl rfl yd_X3_setOf ⟨Nat.le_of_ble_eq_true rfl, Nat.le_of_ble_eq_true rfl⟩) 0 3 rfl rfl rfl rfl [.ref (tad G 0)] rfl (Nat.le_of_ble_eq_true rfl) dX3_length_10 (fun H locs hI => ?_)
    refine tk_bd2 hf (fun r3 s4 hq hf => ?_)
    refine tk_vI S hI hl.1 (c_X3_lineUp l G st r2 hq) (cwV 1 hts (tk_gV mw_171 mw_172 mw_173 mw_2 mw_174) rfl rfl rfl yd_X3_lineUp ⟨Nat.le_of_ble_eq_true rfl, Nat.le_of_ble_eq_true rfl⟩) 0 3 rfl rfl rfl rfl [] rfl (Nat.le_of_ble_eq_true rfl) dX3_length_13 (fun H locs hI => ?_)
    refine lv_goto (tgt := 22) hx hb dX3_length_16 (by decide) ?_
    exact tk_riW S hr hlk hI hf dX3_length_22
/-! X0_openOnes -/
abbrev rm_X0_openOnes : Room := { frames := 0, cells := 0, slots := 0, locals := 0 }
def f_X0_openOnes_5 (st : tST)  : Nat → Int32 → Int32 → Int32 → Int32 → Option (Int32)
  | 0, _, _, _, _ => none
  | n + 1, x1, x2, x3, x4 => (if (tg_I st 7) ≤ x4 then some x3 else tal 12 (tg_A st 11) x4 (fun v1 => (if v1 = 0 then tal 12 (tg_A st 9) x4 (fun v3 => (if v3 = x1 then tal 12 (tg_B st 13) x4 (fun u5 => (if (lg_cmp (((u5.toUInt64 >>> (x2.toInt64.toUInt64 &&& Int64.toUInt64 63)).toInt64) &&& (1 : Int64)) (0 : Int64)) = 0 then tlet (x4 + (1 : Int32)) (fun i6 => f_X0_openOnes_5 st n x1 x2 x3 i6) else tlet (x3 + (1 : Int32)) (fun i7 => tlet (x4 + (1 : Int32)) (fun i8 => f_X0_openOnes_5 st n x1 x2 i7 i8)))) else tlet (x4 + (1 : Int32)) (fun i4 => f_X0_openOnes_5 st n x1 x2 x3 i4))) else tlet (x4 + (1 : Int32)) (fun i2 => f_X0_openOnes_5 st n x1 x2 x3 i2))))
def f_X0_openOnes (x1 : Int32) (x2 : Int32) (st : tST) : Option (Int32) := f_X0_openOnes_5 st tfu x1 x2 (0 : Int32) (0 : Int32)
theorem yd_X0_openOnes : yX0_openOnes.cls = RX0 ∧ yX0_openOnes.cls ≠ "java/lang/invoke/MethodHandle" ∧ yX0_openOnes.cls ≠ "java/lang/invoke/VarHandle" ∧ (parseMethodDescriptor yX0_openOnes.desc).map (fun d => d.parameters.length) = some 2 := by decide +kernel
set_option maxHeartbeats 4000000 in
set_option maxRecDepth 100000 in
theorem k_X0_openOnes_5 {l : Launch} {G : tG} {p : Program} {e : Env} {s : State} {m : MethodId} {below : List Frame} {meth : Method} {c : Code} {args : Array Value} {r : Int32} {st : tST} (S : CallFix p m c cX0_openOnes 5 s args wsL_law RX0) (hr : meth.sig.returnType = (some .int)) (hlk : meth.locks = false) : ∀ (n : Nat) (x1 : Int32) (x2 : Int32) (x3 : Int32) (x4 : Int32) (H : Heap) (locs : List Loc) (ls : Array Slot), tIn G (tA G s.heap.size) s st H locs → lv_has ls 5 [(0, .ref (tad G 8)), (1, .int x1), (2, .int x2), (3, .int x3), (4, .int x4)] → f_X0_openOnes_5 st n x1 x2 x3 x4 = some r → W p l e rm_X0_openOnes s m args below meth c H locs 0 0 (tZI G below args s r st) (F0 m 5 ls []) := by
  have hx := S.1
  have hb := S.2.1
  have hown := S.2.2.2.1
  have hts := S.2.2.2.2
  intro n
  induction n with
  | zero => intro x1 x2 x3 x4 H locs ls hI hl hf; exact nomatch (show (none : Option (Int32)) = some _ from hf)
  | succ n ih =>
    intro x1 x2 x3 x4 H locs ls hI hl hf
    rw [f_X0_openOnes_5] at hf
    refine lv_iload hx hb dX0_openOnes_5 (lv_at hl 4 rfl) ?_
    refine lv_aload_n hx hb dX0_openOnes_7 rfl (lv_at hl 0 rfl) ?_
    refine tg_X0_5 S hI mw_52 dX0_openOnes_8 ?_
    refine tk_icmp_ge (tgt := 60) hx hb hf dX0_openOnes_11 (by decide) (fun hf => ?_) (fun hf => ?_)
    · refine lv_iload_n hx hb dX0_openOnes_60 rfl (lv_at hl 3 rfl) ?_
      exact tk_riR S hr hlk hI hf dX0_openOnes_61
    · refine lv_aload_n hx hb dX0_openOnes_14 rfl (lv_at hl 0 rfl) ?_
      refine tg_X0_2 S hI mw_48 dX0_openOnes_15 ?_
      refine lv_iload hx hb dX0_openOnes_18 (lv_at hl 4 rfl) ?_
      refine tk_iald S hI (k := 11) (n := 12) rfl hf dX0_openOnes_20 (fun v1 hf => ?_)
      refine tk_if_ne (tgt := 54) hx hb hf dX0_openOnes_21 (by decide) (fun hf => ?_) (fun hf => ?_)
      · refine tk_let hf (fun i2 ei2 hf => ?_)
        refine lv_iinc (v := i2) (lv' := [(4, .int i2), (0, .ref (tad G 8)), (1, .int x1), (2, .int x2), (3, .int x3)]) hx hb dX0_openOnes_54 hl (k := 4) rfl (by rw [ei2]; rfl) (by decide) rfl (fun ls hl => ?_)
        refine lv_goto (tgt := 5) hx hb dX0_openOnes_57 (by decide) ?_
        exact ih x1 x2 x3 i2 _ _ _ hI (lv_sub hl [1, 2, 3, 4, 0] rfl) hf
      · refine lv_aload_n hx hb dX0_openOnes_24 rfl (lv_at hl 0 rfl) ?_
        refine tg_X0_0 S hI mw_46 dX0_openOnes_25 ?_
        refine lv_iload hx hb dX0_openOnes_28 (lv_at hl 4 rfl) ?_
        refine tk_iald S hI (k := 9) (n := 12) rfl hf dX0_openOnes_30 (fun v3 hf => ?_)
        refine lv_iload_n hx hb dX0_openOnes_31 rfl (lv_at hl 1 rfl) ?_
        refine tk_icmp_ne (tgt := 54) hx hb hf dX0_openOnes_32 (by decide) (fun hf => ?_) (fun hf => ?_)
        · refine tk_let hf (fun i4 ei4 hf => ?_)
          refine lv_iinc (v := i4) (lv' := [(4, .int i4), (0, .ref (tad G 8)), (1, .int x1), (2, .int x2), (3, .int x3)]) hx hb dX0_openOnes_54 hl (k := 4) rfl (by rw [ei4]; rfl) (by decide) rfl (fun ls hl => ?_)
          refine lv_goto (tgt := 5) hx hb dX0_openOnes_57 (by decide) ?_
          exact ih x1 x2 x3 i4 _ _ _ hI (lv_sub hl [1, 2, 3, 4, 0] rfl) hf
        · refine lv_aload_n hx hb dX0_openOnes_35 rfl (lv_at hl 0 rfl) ?_
          refine tg_X0_4 S hI mw_51 dX0_openOnes_36 ?_
          refine lv_iload hx hb dX0_openOnes_39 (lv_at hl 4 rfl) ?_
          refine tk_lald S hI (k := 13) (n := 12) rfl hf dX0_openOnes_41 (fun u5 hf => ?_)
          refine lv_iload_n hx hb dX0_openOnes_42 rfl (lv_at hl 2 rfl) ?_
          refine lv_lushr hx hb dX0_openOnes_43 rfl ?_
          refine lv_lconst (v := 1) hx hb dX0_openOnes_44 (by decide) ?_
          refine lv_land hx hb dX0_openOnes_45 ?_
          refine lv_lconst (v := 0) hx hb dX0_openOnes_46 (by decide) ?_
          refine W.lcmp hx hb dX0_openOnes_47 ?_
          refine tk_if_eq (tgt := 54) hx hb hf dX0_openOnes_48 (by decide) (fun hf => ?_) (fun hf => ?_)
          · refine tk_let hf (fun i6 ei6 hf => ?_)
            refine lv_iinc (v := i6) (lv' := [(4, .int i6), (0, .ref (tad G 8)), (1, .int x1), (2, .int x2), (3, .int x3)]) hx hb dX0_openOnes_54 hl (k := 4) rfl (by rw [ei6]; rfl) (by decide) rfl (fun ls hl => ?_)
            refine lv_goto (tgt := 5) hx hb dX0_openOnes_57 (by decide) ?_
            exact ih x1 x2 x3 i6 _ _ _ hI (lv_sub hl [1, 2, 3, 4, 0] rfl) hf
          · refine tk_let hf (fun i7 ei7 hf => ?_)
            refine lv_iinc (v := i7) (lv' := [(3, .int i7), (0, .ref (tad G 8)), (1, .int x1), (2, .int x2), (4, .int x4)]) hx hb dX0_openOnes_51 hl (k := 3) rfl (by rw [ei7]; rfl) (by decide) rfl (fun ls hl => ?_)
            refine tk_let hf (fun i8 ei8 hf => ?_)
            refine lv_iinc (v := i8) (lv' := [(4, .int i8), (3, .int i7), (0, .ref (tad G 8)), (1, .int x1), (2, .int x2)]) hx hb dX0_openOnes_54 hl (k := 4) rfl (by rw [ei8]; rfl) (by decide) rfl (fun ls hl => ?_)
            refine lv_goto (tgt := 5) hx hb dX0_openOnes_57 (by decide) ?_
            exact ih x1 x2 i7 i8 _ _ _ hI (lv_sub hl [2, 3, 4, 1, 0] rfl) hf
set_option maxHeartbeats 4000000 in
set_option maxRecDepth 100000 in
theorem c_X0_openOnes (l : Launch) (G : tG) (st : tST) (x1 : Int32) (x2 : Int32) {r : Int32} (hf : f_X0_openOnes x1 x2 st = some r) : tCI l G yX0_openOnes cX0_openOnes 5 (some .int) rm_X0_openOnes [.ref (tad G 8), .int x1, .int x2] st r st := by
  refine tk_entI (by decide +kernel) (Nat.le_of_ble_eq_true rfl) (fun p e s m below meth c ls S hr hlk hI hl => ?_)
  have hl : lv_has ls 5 [(0, .ref (tad G 8)), (1, .int x1), (2, .int x2)] := hl
  have S : CallFix p m c cX0_openOnes 5 s [.ref (tad G 8), .int x1, .int x2].toArray wsL_law RX0 := S
  have hx := S.1
  have hb := S.2.1
  have hown := S.2.2.2.1
  have hts := S.2.2.2.2
  unfold f_X0_openOnes at hf
  refine lv_iconst (v := 0) hx hb dX0_openOnes_0 (by decide) ?_
  refine lv_istore_n (lv' := [(3, .int (0 : Int32)), (0, .ref (tad G 8)), (1, .int x1), (2, .int x2)]) hx hb dX0_openOnes_1 rfl hl (by decide) rfl (fun ls hl => ?_)
  refine lv_iconst (v := 0) hx hb dX0_openOnes_2 (by decide) ?_
  refine lv_istore (lv' := [(4, .int (0 : Int32)), (3, .int (0 : Int32)), (0, .ref (tad G 8)), (1, .int x1), (2, .int x2)]) hx hb dX0_openOnes_3 hl (by decide) rfl (fun ls hl => ?_)
  exact k_X0_openOnes_5 S hr hlk tfu x1 x2 (0 : Int32) (0 : Int32) _ _ _ hI (lv_sub hl [2, 3, 4, 1, 0] rfl) hf
/-! X3_letterFact -/
abbrev rm_X3_letterFact : Room := { frames := 1, cells := 0, slots := 0, locals := 24 }
def f_X3_letterFact (x1 : Int32) (x2 : Int32) (st : tST) : Option (Int32) := tal 90 (tg_A st 4) x1 (fun v1 => (if x2 = (0 : Int32) then tal 64 (tg_A st 2) v1 (fun v2 => some v2) else (if x2 = (1 : Int32) then some v1 else (if x2 = (2 : Int32) then some x1 else (if x2 = (3 : Int32) then tal 90 (tg_A st 6) x1 (fun v3 => some v3) else (if x2 = (4 : Int32) then (f_X0_openOnes (1 : Int32) v1 st).bind (fun r4 => some r4) else (f_X0_openOnes (2 : Int32) v1 st).bind (fun r5 => some r5)))))))
theorem yd_X3_letterFact : yX3_letterFact.cls = RX3 ∧ yX3_letterFact.cls ≠ "java/lang/invoke/MethodHandle" ∧ yX3_letterFact.cls ≠ "java/lang/invoke/VarHandle" ∧ (parseMethodDescriptor yX3_letterFact.desc).map (fun d => d.parameters.length) = some 2 := by decide +kernel
set_option maxHeartbeats 4000000 in
set_option maxRecDepth 100000 in
theorem c_X3_letterFact (l : Launch) (G : tG) (st : tST) (x1 : Int32) (x2 : Int32) {r : Int32} (hf : f_X3_letterFact x1 x2 st = some r) : tCI l G yX3_letterFact cX3_letterFact 4 (some .int) rm_X3_letterFact [.ref (tad G 0), .int x1, .int x2] st r st := by
  refine tk_entI (by decide +kernel) (Nat.le_of_ble_eq_true rfl) (fun p e s m below meth c ls S hr hlk hI hl => ?_)
  have hl : lv_has ls 4 [(0, .ref (tad G 0)), (1, .int x1), (2, .int x2)] := hl
  have S : CallFix p m c cX3_letterFact 4 s [.ref (tad G 0), .int x1, .int x2].toArray wsL_law RX3 := S
  have hx := S.1
  have hb := S.2.1
  have hown := S.2.2.2.1
  have hts := S.2.2.2.2
  unfold f_X3_letterFact at hf
  refine lv_aload_n hx hb dX3_letterFact_0 rfl (lv_at hl 0 rfl) ?_
  refine tg_X3_5 S hI mw_21 dX3_letterFact_1 ?_
  refine tg_X1_0 S hI mw_256 dX3_letterFact_4 ?_
  refine lv_iload_n hx hb dX3_letterFact_7 rfl (lv_at hl 1 rfl) ?_
  refine tk_iald S hI (k := 4) (n := 90) rfl hf dX3_letterFact_8 (fun v1 hf => ?_)
  refine lv_istore_n (lv' := [(3, .int v1), (0, .ref (tad G 0)), (1, .int x1), (2, .int x2)]) hx hb dX3_letterFact_9 rfl hl (by decide) rfl (fun ls hl => ?_)
  refine lv_iload_n hx hb dX3_letterFact_10 rfl (lv_at hl 3 rfl) ?_
  refine tk_if hf (fun c1_0 hf => ?_) (fun c1_0 hf => ?_)
  · refine lv_tableIn (off := 33) (tgt := 44) hx hb dX3_letterFact_11 (by rw [c1_0]; decide) (by rw [c1_0]; decide) (by rw [c1_0]; rfl) (by decide) ?_
    refine lv_aload_n hx hb dX3_letterFact_44 rfl (lv_at hl 1 rfl) ?_
    refine tg_X3_2 S hI mw_15 dX3_letterFact_45 ?_
    refine lv_iload_n hx hb dX3_letterFact_48 rfl (lv_at hl 0 rfl) ?_
    refine tk_iald S hI (k := 2) (n := 64) rfl hf dX3_letterFact_49 (fun v2 hf => ?_)
    exact tk_riR S hr hlk hI hf dX3_letterFact_50
  refine tk_if hf (fun c1_1 hf => ?_) (fun c1_1 hf => ?_)
  · refine lv_tableIn (off := 40) (tgt := 51) hx hb dX3_letterFact_11 (by rw [c1_1]; decide) (by rw [c1_1]; decide) (by rw [c1_1]; rfl) (by decide) ?_
    refine lv_iload_n hx hb dX3_letterFact_51 rfl (lv_at hl 0 rfl) ?_
    exact tk_riR S hr hlk hI hf dX3_letterFact_52
  refine tk_if hf (fun c1_2 hf => ?_) (fun c1_2 hf => ?_)
  · refine lv_tableIn (off := 42) (tgt := 53) hx hb dX3_letterFact_11 (by rw [c1_2]; decide) (by rw [c1_2]; decide) (by rw [c1_2]; rfl) (by decide) ?_
    refine lv_iload_n hx hb dX3_letterFact_53 rfl (lv_at hl 2 rfl) ?_
    exact tk_riR S hr hlk hI hf dX3_letterFact_54
  refine tk_if hf (fun c1_3 hf => ?_) (fun c1_3 hf => ?_)
  · refine lv_tableIn (off := 44) (tgt := 55) hx hb dX3_letterFact_11 (by rw [c1_3]; decide) (by rw [c1_3]; decide) (by rw [c1_3]; rfl) (by decide) ?_
    refine lv_aload_n hx hb dX3_letterFact_55 rfl (lv_at hl 1 rfl) ?_
    refine tg_X3_5 S hI mw_21 dX3_letterFact_56 ?_
    refine tg_X1_2 S hI mw_341 dX3_letterFact_59 ?_
    refine lv_iload_n hx hb dX3_letterFact_62 rfl (lv_at hl 2 rfl) ?_
    refine tk_iald S hI (k := 6) (n := 90) rfl hf dX3_letterFact_63 (fun v3 hf => ?_)
    exact tk_riR S hr hlk hI hf dX3_letterFact_64
  refine tk_if hf (fun c1_4 hf => ?_) (fun c1_4 hf => ?_)
  · refine lv_tableIn (off := 54) (tgt := 65) hx hb dX3_letterFact_11 (by rw [c1_4]; decide) (by rw [c1_4]; decide) (by rw [c1_4]; rfl) (by decide) ?_
    refine lv_aload_n hx hb dX3_letterFact_65 rfl (lv_at hl 1 rfl) ?_
    refine tg_X3_6 S hI mw_25 dX3_letterFact_66 ?_
    refine lv_iconst (v := 1) hx hb dX3_letterFact_69 (by decide) ?_
    refine lv_iload_n hx hb dX3_letterFact_70 rfl (lv_at hl 0 rfl) ?_
    refine tk_bd hf (fun r4 hq hf => ?_)
    refine tk_vI S hI hl.1 (c_X0_openOnes l G st (1 : Int32) v1 hq) (cwV 2 hts (tk_gV mw_342 mw_343 mw_344 mw_24 mw_345) rfl rfl rfl yd_X0_openOnes ⟨Nat.le_of_ble_eq_true rfl, Nat.le_of_ble_eq_true rfl⟩) 8 0 rfl rfl rfl rfl [] rfl (Nat.le_of_ble_eq_true rfl) dX3_letterFact_71 (fun H locs hI => ?_)
    exact tk_riR S hr hlk hI hf dX3_letterFact_74
  refine lv_tableOut (tgt := 75) hx hb dX3_letterFact_11 (by have := lv_neT c1_0 (a := 0) (by decide); have := lv_neT c1_1 (a := 1) (by decide); have := lv_neT c1_2 (a := 2) (by decide); have := lv_neT c1_3 (a := 3) (by decide); have := lv_neT c1_4 (a := 4) (by decide); omega) (by decide) ?_
  refine lv_aload_n hx hb dX3_letterFact_75 rfl (lv_at hl 1 rfl) ?_
  refine tg_X3_6 S hI mw_25 dX3_letterFact_76 ?_
  refine lv_iconst (v := 2) hx hb dX3_letterFact_79 (by decide) ?_
  refine lv_iload_n hx hb dX3_letterFact_80 rfl (lv_at hl 0 rfl) ?_
  refine tk_bd hf (fun r5 hq hf => ?_)
  refine tk_vI S hI hl.1 (c_X0_openOnes l G st (2 : Int32) v1 hq) (cwV 2 hts (tk_gV mw_342 mw_343 mw_344 mw_24 mw_345) rfl rfl rfl yd_X0_openOnes ⟨Nat.le_of_ble_eq_true rfl, Nat.le_of_ble_eq_true rfl⟩) 8 0 rfl rfl rfl rfl [] rfl (Nat.le_of_ble_eq_true rfl) dX3_letterFact_81 (fun H locs hI => ?_)
  exact tk_riR S hr hlk hI hf dX3_letterFact_84
/-! X3_read -/
abbrev rm_X3_read : Room := { frames := 3, cells := 0, slots := 0, locals := 74 }
def f_X3_read (x1 : Int32) (x2 : Int32) (x3 : Int32) (st : tST) : Option (Int32 × tST) := (f_X3_isView x1).bind (fun r1 => (if r1 = 0 then some ((-1001 : Int32), st) else (f_X3_setOf x1 st).bind (fun r2 => tbd (f_X3_lineUp r2 st) (fun r3 s4 => (if x2 < 0 then some ((-1001 : Int32), s4) else (if x2 < r3 then (if x3 < 0 then some ((-1002 : Int32), s4) else (if x3 < (6 : Int32) then tal 90 (tg_A s4 18) x2 (fun v5 => (f_X3_letterFact v5 x3 s4).bind (fun r6 => some (r6, s4))) else some ((-1002 : Int32), s4))) else some ((-1001 : Int32), s4)))))))
theorem yd_X3_read : yX3_read.cls = RX3 ∧ yX3_read.cls ≠ "java/lang/invoke/MethodHandle" ∧ yX3_read.cls ≠ "java/lang/invoke/VarHandle" ∧ (parseMethodDescriptor yX3_read.desc).map (fun d => d.parameters.length) = some 3 := by decide +kernel
set_option maxHeartbeats 4000000 in
set_option maxRecDepth 100000 in
theorem c_X3_read (l : Launch) (G : tG) (st : tST) (x1 : Int32) (x2 : Int32) (x3 : Int32) {r : Int32} {st' : tST} (hf : f_X3_read x1 x2 x3 st = some (r, st')) : tCI l G yX3_read cX3_read 5 (some .int) rm_X3_read [.ref (tad G 0), .int x1, .int x2, .int x3] st r st' := by
  refine tk_entI (by decide +kernel) (Nat.le_of_ble_eq_true rfl) (fun p e s m below meth c ls S hr hlk hI hl => ?_)
  have hl : lv_has ls 5 [(0, .ref (tad G 0)), (1, .int x1), (2, .int x2), (3, .int x3)] := hl
  have S : CallFix p m c cX3_read 5 s [.ref (tad G 0), .int x1, .int x2, .int x3].toArray wsL_law RX3 := S
  have hx := S.1
  have hb := S.2.1
  have hown := S.2.2.2.1
  have hts := S.2.2.2.2
  unfold f_X3_read at hf
  refine lv_iload_n hx hb dX3_read_0 rfl (lv_at hl 1 rfl) ?_
  refine tk_bd hf (fun r1 hq hf => ?_)
  refine tk_sI S hI hl.1 (c_X3_isView l G st x1 hq) (va_cwS 1 hts (tk_gS mw_319 mw_320 mw_2 mw_321) rfl rfl rfl yd_X3_isView ⟨Nat.le_of_ble_eq_true rfl, Nat.le_of_ble_eq_true rfl⟩) rfl [] rfl (Nat.le_of_ble_eq_true rfl) dX3_read_1 (fun H locs hI => ?_)
  refine tk_if_ne (tgt := 11) hx hb hf dX3_read_4 (by decide) (fun hf => ?_) (fun hf => ?_)
  · refine lv_aload_n hx hb dX3_read_11 rfl (lv_at hl 0 rfl) ?_
    refine lv_aload_n hx hb dX3_read_12 rfl (lv_at hl 0 rfl) ?_
    refine lv_iload_n hx hb dX3_read_13 rfl (lv_at hl 1 rfl) ?_
    refine tk_bd hf (fun r2 hq hf => ?_)
    refine tk_vI S hI hl.1 (c_X3_setOf l G st x1 hq) (cwV 1 hts (tk_gV mw_159 mw_160 mw_161 mw_2 mw_162) rfl rfl rfl yd_X3_setOf ⟨Nat.le_of_ble_eq_true rfl, Nat.le_of_ble_eq_true rfl⟩) 0 3 rfl rfl rfl rfl [.ref (tad G 0)] rfl (Nat.le_of_ble_eq_true rfl) dX3_read_14 (fun H locs hI => ?_)
    refine tk_bd2 hf (fun r3 s4 hq hf => ?_)
    refine tk_vI S hI hl.1 (c_X3_lineUp l G st r2 hq) (cwV 1 hts (tk_gV mw_171 mw_172 mw_173 mw_2 mw_174) rfl rfl rfl yd_X3_lineUp ⟨Nat.le_of_ble_eq_true rfl, Nat.le_of_ble_eq_true rfl⟩) 0 3 rfl rfl rfl rfl [] rfl (Nat.le_of_ble_eq_true rfl) dX3_read_17 (fun H locs hI => ?_)
    refine lv_istore (lv' := [(4, .int r3), (0, .ref (tad G 0)), (1, .int x1), (2, .int x2), (3, .int x3)]) hx hb dX3_read_20 hl (by decide) rfl (fun ls hl => ?_)
    refine lv_iload_n hx hb dX3_read_22 rfl (lv_at hl 3 rfl) ?_
    refine tk_if_lt (tgt := 32) hx hb hf dX3_read_23 (by decide) (fun hf => ?_) (fun hf => ?_)
    · refine lv_sipush (v := -1001) hx hb dX3_read_32 (by decide) ?_
      exact tk_riW S hr hlk hI hf dX3_read_35
    · refine lv_iload_n hx hb dX3_read_26 rfl (lv_at hl 3 rfl) ?_
      refine lv_iload hx hb dX3_read_27 (lv_at hl 0 rfl) ?_
      refine tk_icmp_lt (tgt := 36) hx hb hf dX3_read_29 (by decide) (fun hf => ?_) (fun hf => ?_)
      · refine lv_iload_n hx hb dX3_read_36 rfl (lv_at hl 4 rfl) ?_
        refine tk_if_lt (tgt := 46) hx hb hf dX3_read_37 (by decide) (fun hf => ?_) (fun hf => ?_)
        · refine lv_sipush (v := -1002) hx hb dX3_read_46 (by decide) ?_
          exact tk_riW S hr hlk hI hf dX3_read_49
        · refine lv_iload_n hx hb dX3_read_40 rfl (lv_at hl 4 rfl) ?_
          refine lv_bipush (v := 6) hx hb dX3_read_41 (by decide) ?_
          refine tk_icmp_lt (tgt := 50) hx hb hf dX3_read_43 (by decide) (fun hf => ?_) (fun hf => ?_)
          · refine lv_aload_n hx hb dX3_read_50 rfl (lv_at hl 1 rfl) ?_
            refine lv_aload_n hx hb dX3_read_51 rfl (lv_at hl 1 rfl) ?_
            refine tg_X3_8 S hI mw_30 dX3_read_52 ?_
            refine lv_iload_n hx hb dX3_read_55 rfl (lv_at hl 3 rfl) ?_
            refine tk_iald S hI (k := 18) (n := 90) rfl hf dX3_read_56 (fun v5 hf => ?_)
            refine lv_iload_n hx hb dX3_read_57 rfl (lv_at hl 4 rfl) ?_
            refine tk_bd hf (fun r6 hq hf => ?_)
            refine tk_vI S hI hl.1 (c_X3_letterFact l G s4 v5 x3 hq) (cwV 2 hts (tk_gV mw_337 mw_338 mw_339 mw_2 mw_340) rfl rfl rfl yd_X3_letterFact ⟨Nat.le_of_ble_eq_true rfl, Nat.le_of_ble_eq_true rfl⟩) 0 3 rfl rfl rfl rfl [] rfl (Nat.le_of_ble_eq_true rfl) dX3_read_58 (fun H locs hI => ?_)
            exact tk_riW S hr hlk hI hf dX3_read_61
          · refine lv_sipush (v := -1002) hx hb dX3_read_46 (by decide) ?_
            exact tk_riW S hr hlk hI hf dX3_read_49
      · refine lv_sipush (v := -1001) hx hb dX3_read_32 (by decide) ?_
        exact tk_riW S hr hlk hI hf dX3_read_35
  · refine lv_sipush (v := -1001) hx hb dX3_read_7 (by decide) ?_
    exact tk_riW S hr hlk hI hf dX3_read_10
/-! X3_markOf -/
abbrev rm_X3_markOf : Room := { frames := 2, cells := 0, slots := 0, locals := 49 }
def f_X3_markOf (x1 : Int32) (st : tST) : Option (Int32) := (f_X3_setOf (0 : Int32) st).bind (fun r1 => (f_X3_setOf (1 : Int32) st).bind (fun r2 => (f_X3_thereBy r1 st).bind (fun r3 => (f_X1_holds x1 r3 r1 st).bind (fun r4 => (f_X3_thereBy r2 st).bind (fun r5 => (f_X1_holds x1 r5 r2 st).bind (fun r6 => (if r4 = 0 then (if r6 = 0 then some (3 : Int32) else some (1 : Int32)) else (if r6 = 0 then some (2 : Int32) else some (0 : Int32)))))))))
theorem yd_X3_markOf : yX3_markOf.cls = RX3 ∧ yX3_markOf.cls ≠ "java/lang/invoke/MethodHandle" ∧ yX3_markOf.cls ≠ "java/lang/invoke/VarHandle" ∧ (parseMethodDescriptor yX3_markOf.desc).map (fun d => d.parameters.length) = some 1 := by decide +kernel
set_option maxHeartbeats 4000000 in
set_option maxRecDepth 100000 in
theorem c_X3_markOf (l : Launch) (G : tG) (st : tST) (x1 : Int32) {r : Int32} (hf : f_X3_markOf x1 st = some r) : tCI l G yX3_markOf cX3_markOf 6 (some .int) rm_X3_markOf [.ref (tad G 0), .int x1] st r st := by
  refine tk_entI (by decide +kernel) (Nat.le_of_ble_eq_true rfl) (fun p e s m below meth c ls S hr hlk hI hl => ?_)
  have hl : lv_has ls 6 [(0, .ref (tad G 0)), (1, .int x1)] := hl
  have S : CallFix p m c cX3_markOf 6 s [.ref (tad G 0), .int x1].toArray wsL_law RX3 := S
  have hx := S.1
  have hb := S.2.1
  have hown := S.2.2.2.1
  have hts := S.2.2.2.2
  unfold f_X3_markOf at hf
  refine lv_aload_n hx hb dX3_markOf_0 rfl (lv_at hl 0 rfl) ?_
  refine lv_iconst (v := 0) hx hb dX3_markOf_1 (by decide) ?_
  refine tk_bd hf (fun r1 hq hf => ?_)
  refine tk_vI S hI hl.1 (c_X3_setOf l G st (0 : Int32) hq) (cwV 1 hts (tk_gV mw_159 mw_160 mw_161 mw_2 mw_162) rfl rfl rfl yd_X3_setOf ⟨Nat.le_of_ble_eq_true rfl, Nat.le_of_ble_eq_true rfl⟩) 0 3 rfl rfl rfl rfl [] rfl (Nat.le_of_ble_eq_true rfl) dX3_markOf_2 (fun H locs hI => ?_)
  refine lv_istore_n (lv' := [(2, .int r1), (0, .ref (tad G 0)), (1, .int x1)]) hx hb dX3_markOf_5 rfl hl (by decide) rfl (fun ls hl => ?_)
  refine lv_aload_n hx hb dX3_markOf_6 rfl (lv_at hl 1 rfl) ?_
  refine lv_iconst (v := 1) hx hb dX3_markOf_7 (by decide) ?_
  refine tk_bd hf (fun r2 hq hf => ?_)
  refine tk_vI S hI hl.1 (c_X3_setOf l G st (1 : Int32) hq) (cwV 1 hts (tk_gV mw_159 mw_160 mw_161 mw_2 mw_162) rfl rfl rfl yd_X3_setOf ⟨Nat.le_of_ble_eq_true rfl, Nat.le_of_ble_eq_true rfl⟩) 0 3 rfl rfl rfl rfl [] rfl (Nat.le_of_ble_eq_true rfl) dX3_markOf_8 (fun H locs hI => ?_)
  refine lv_istore_n (lv' := [(3, .int r2), (2, .int r1), (0, .ref (tad G 0)), (1, .int x1)]) hx hb dX3_markOf_11 rfl hl (by decide) rfl (fun ls hl => ?_)
  refine lv_aload_n hx hb dX3_markOf_12 rfl (lv_at hl 2 rfl) ?_
  refine tg_X3_5 S hI mw_21 dX3_markOf_13 ?_
  refine lv_iload_n hx hb dX3_markOf_16 rfl (lv_at hl 3 rfl) ?_
  refine lv_aload_n hx hb dX3_markOf_17 rfl (lv_at hl 2 rfl) ?_
  refine lv_iload_n hx hb dX3_markOf_18 rfl (lv_at hl 1 rfl) ?_
  refine tk_bd hf (fun r3 hq hf => ?_)
  refine tk_vL S hI hl.1 (c_X3_thereBy l G st r1 hq) (cwV 1 hts (tk_gV mw_175 mw_176 mw_177 mw_2 mw_178) rfl rfl rfl yd_X3_thereBy ⟨Nat.le_of_ble_eq_true rfl, Nat.le_of_ble_eq_true rfl⟩) 0 3 rfl rfl rfl rfl [.int x1, .ref (tad G 3)] rfl (Nat.le_of_ble_eq_true rfl) dX3_markOf_19 (fun H locs hI => ?_)
  refine lv_iload_n hx hb dX3_markOf_22 rfl (lv_at hl 1 rfl) ?_
  refine tk_bd hf (fun r4 hq hf => ?_)
  refine tk_vI S hI hl.1 (c_X1_holds l G st x1 r3 r1 hq) (cwV 3 hts (tk_gV mw_181 mw_182 mw_183 mw_20 mw_184) rfl rfl rfl yd_X1_holds ⟨Nat.le_of_ble_eq_true rfl, Nat.le_of_ble_eq_true rfl⟩) 3 1 rfl rfl rfl rfl [] rfl (Nat.le_of_ble_eq_true rfl) dX3_markOf_23 (fun H locs hI => ?_)
  refine lv_istore (lv' := [(4, .int r4), (3, .int r2), (2, .int r1), (0, .ref (tad G 0)), (1, .int x1)]) hx hb dX3_markOf_26 hl (by decide) rfl (fun ls hl => ?_)
  refine lv_aload_n hx hb dX3_markOf_28 rfl (lv_at hl 3 rfl) ?_
  refine tg_X3_5 S hI mw_21 dX3_markOf_29 ?_
  refine lv_iload_n hx hb dX3_markOf_32 rfl (lv_at hl 4 rfl) ?_
  refine lv_aload_n hx hb dX3_markOf_33 rfl (lv_at hl 3 rfl) ?_
  refine lv_iload_n hx hb dX3_markOf_34 rfl (lv_at hl 1 rfl) ?_
  refine tk_bd hf (fun r5 hq hf => ?_)
  refine tk_vL S hI hl.1 (c_X3_thereBy l G st r2 hq) (cwV 1 hts (tk_gV mw_175 mw_176 mw_177 mw_2 mw_178) rfl rfl rfl yd_X3_thereBy ⟨Nat.le_of_ble_eq_true rfl, Nat.le_of_ble_eq_true rfl⟩) 0 3 rfl rfl rfl rfl [.int x1, .ref (tad G 3)] rfl (Nat.le_of_ble_eq_true rfl) dX3_markOf_35 (fun H locs hI => ?_)
  refine lv_iload_n hx hb dX3_markOf_38 rfl (lv_at hl 1 rfl) ?_
  refine tk_bd hf (fun r6 hq hf => ?_)
  refine tk_vI S hI hl.1 (c_X1_holds l G st x1 r5 r2 hq) (cwV 3 hts (tk_gV mw_181 mw_182 mw_183 mw_20 mw_184) rfl rfl rfl yd_X1_holds ⟨Nat.le_of_ble_eq_true rfl, Nat.le_of_ble_eq_true rfl⟩) 3 1 rfl rfl rfl rfl [] rfl (Nat.le_of_ble_eq_true rfl) dX3_markOf_39 (fun H locs hI => ?_)
  refine lv_istore (lv' := [(5, .int r6), (4, .int r4), (3, .int r2), (2, .int r1), (0, .ref (tad G 0)), (1, .int x1)]) hx hb dX3_markOf_42 hl (by decide) rfl (fun ls hl => ?_)
  refine lv_iload hx hb dX3_markOf_44 (lv_at hl 1 rfl) ?_
  refine tk_if_eq (tgt := 60) hx hb hf dX3_markOf_46 (by decide) (fun hf => ?_) (fun hf => ?_)
  · refine lv_iload hx hb dX3_markOf_60 (lv_at hl 0 rfl) ?_
    refine tk_if_eq (tgt := 69) hx hb hf dX3_markOf_62 (by decide) (fun hf => ?_) (fun hf => ?_)
    · refine lv_iconst (v := 3) hx hb dX3_markOf_69 (by decide) ?_
      exact tk_riR S hr hlk hI hf dX3_markOf_70
    · refine lv_iconst (v := 1) hx hb dX3_markOf_65 (by decide) ?_
      refine lv_goto (tgt := 70) hx hb dX3_markOf_66 (by decide) ?_
      exact tk_riR S hr hlk hI hf dX3_markOf_70
  · refine lv_iload hx hb dX3_markOf_49 (lv_at hl 0 rfl) ?_
    refine tk_if_eq (tgt := 58) hx hb hf dX3_markOf_51 (by decide) (fun hf => ?_) (fun hf => ?_)
    · refine lv_iconst (v := 2) hx hb dX3_markOf_58 (by decide) ?_
      exact tk_riR S hr hlk hI hf dX3_markOf_59
    · refine lv_iconst (v := 0) hx hb dX3_markOf_54 (by decide) ?_
      refine lv_goto (tgt := 59) hx hb dX3_markOf_55 (by decide) ?_
      exact tk_riR S hr hlk hI hf dX3_markOf_59
/-! X3_placeFact -/
abbrev rm_X3_placeFact : Room := { frames := 3, cells := 0, slots := 0, locals := 74 }
def f_X3_placeFact (x1 : Int32) (x2 : Int32) (st : tST) : Option (Int32) := (if x2 = (0 : Int32) then tal 90 (tg_A st 4) x1 (fun v1 => some v1) else (if x2 = (1 : Int32) then tal 90 (tg_A st 5) x1 (fun v2 => some v2) else (if x2 = (2 : Int32) then tal 90 (tg_A st 6) x1 (fun v3 => some v3) else (f_X3_markOf x1 st).bind (fun r4 => some r4))))
theorem yd_X3_placeFact : yX3_placeFact.cls = RX3 ∧ yX3_placeFact.cls ≠ "java/lang/invoke/MethodHandle" ∧ yX3_placeFact.cls ≠ "java/lang/invoke/VarHandle" ∧ (parseMethodDescriptor yX3_placeFact.desc).map (fun d => d.parameters.length) = some 2 := by decide +kernel
set_option maxHeartbeats 4000000 in
set_option maxRecDepth 100000 in
theorem c_X3_placeFact (l : Launch) (G : tG) (st : tST) (x1 : Int32) (x2 : Int32) {r : Int32} (hf : f_X3_placeFact x1 x2 st = some r) : tCI l G yX3_placeFact cX3_placeFact 3 (some .int) rm_X3_placeFact [.ref (tad G 0), .int x1, .int x2] st r st := by
  refine tk_entI (by decide +kernel) (Nat.le_of_ble_eq_true rfl) (fun p e s m below meth c ls S hr hlk hI hl => ?_)
  have hl : lv_has ls 3 [(0, .ref (tad G 0)), (1, .int x1), (2, .int x2)] := hl
  have S : CallFix p m c cX3_placeFact 3 s [.ref (tad G 0), .int x1, .int x2].toArray wsL_law RX3 := S
  have hx := S.1
  have hb := S.2.1
  have hown := S.2.2.2.1
  have hts := S.2.2.2.2
  unfold f_X3_placeFact at hf
  refine lv_iload_n hx hb dX3_placeFact_0 rfl (lv_at hl 2 rfl) ?_
  refine tk_if hf (fun c1_0 hf => ?_) (fun c1_0 hf => ?_)
  · refine lv_tableIn (off := 27) (tgt := 28) hx hb dX3_placeFact_1 (by rw [c1_0]; decide) (by rw [c1_0]; decide) (by rw [c1_0]; rfl) (by decide) ?_
    refine lv_aload_n hx hb dX3_placeFact_28 rfl (lv_at hl 0 rfl) ?_
    refine tg_X3_5 S hI mw_21 dX3_placeFact_29 ?_
    refine tg_X1_0 S hI mw_256 dX3_placeFact_32 ?_
    refine lv_iload_n hx hb dX3_placeFact_35 rfl (lv_at hl 1 rfl) ?_
    refine tk_iald S hI (k := 4) (n := 90) rfl hf dX3_placeFact_36 (fun v1 hf => ?_)
    exact tk_riR S hr hlk hI hf dX3_placeFact_37
  refine tk_if hf (fun c1_1 hf => ?_) (fun c1_1 hf => ?_)
  · refine lv_tableIn (off := 37) (tgt := 38) hx hb dX3_placeFact_1 (by rw [c1_1]; decide) (by rw [c1_1]; decide) (by rw [c1_1]; rfl) (by decide) ?_
    refine lv_aload_n hx hb dX3_placeFact_38 rfl (lv_at hl 0 rfl) ?_
    refine tg_X3_5 S hI mw_21 dX3_placeFact_39 ?_
    refine tg_X1_1 S hI mw_369 dX3_placeFact_42 ?_
    refine lv_iload_n hx hb dX3_placeFact_45 rfl (lv_at hl 1 rfl) ?_
    refine tk_iald S hI (k := 5) (n := 90) rfl hf dX3_placeFact_46 (fun v2 hf => ?_)
    exact tk_riR S hr hlk hI hf dX3_placeFact_47
  refine tk_if hf (fun c1_2 hf => ?_) (fun c1_2 hf => ?_)
  · refine lv_tableIn (off := 47) (tgt := 48) hx hb dX3_placeFact_1 (by rw [c1_2]; decide) (by rw [c1_2]; decide) (by rw [c1_2]; rfl) (by decide) ?_
    refine lv_aload_n hx hb dX3_placeFact_48 rfl (lv_at hl 0 rfl) ?_
    refine tg_X3_5 S hI mw_21 dX3_placeFact_49 ?_
    refine tg_X1_2 S hI mw_341 dX3_placeFact_52 ?_
    refine lv_iload_n hx hb dX3_placeFact_55 rfl (lv_at hl 1 rfl) ?_
    refine tk_iald S hI (k := 6) (n := 90) rfl hf dX3_placeFact_56 (fun v3 hf => ?_)
    exact tk_riR S hr hlk hI hf dX3_placeFact_57
  refine lv_tableOut (tgt := 58) hx hb dX3_placeFact_1 (by have := lv_neT c1_0 (a := 0) (by decide); have := lv_neT c1_1 (a := 1) (by decide); have := lv_neT c1_2 (a := 2) (by decide); omega) (by decide) ?_
  refine lv_aload_n hx hb dX3_placeFact_58 rfl (lv_at hl 0 rfl) ?_
  refine lv_iload_n hx hb dX3_placeFact_59 rfl (lv_at hl 1 rfl) ?_
  refine tk_bd hf (fun r4 hq hf => ?_)
  refine tk_vI S hI hl.1 (c_X3_markOf l G st x1 hq) (cwV 1 hts (tk_gV mw_370 mw_371 mw_372 mw_2 mw_373) rfl rfl rfl yd_X3_markOf ⟨Nat.le_of_ble_eq_true rfl, Nat.le_of_ble_eq_true rfl⟩) 0 3 rfl rfl rfl rfl [] rfl (Nat.le_of_ble_eq_true rfl) dX3_placeFact_60 (fun H locs hI => ?_)
  exact tk_riR S hr hlk hI hf dX3_placeFact_63
/-! X3_place -/
abbrev rm_X3_place : Room := { frames := 4, cells := 0, slots := 0, locals := 96 }
def f_X3_place (x1 : Int32) (x2 : Int32) (st : tST) : Option (Int32) := (if x1 < 0 then some (-1001 : Int32) else (if x1 < (tg_I st 6) then (if x2 < 0 then some (-1002 : Int32) else (if x2 < (4 : Int32) then (f_X3_placeFact x1 x2 st).bind (fun r1 => some r1) else some (-1002 : Int32))) else some (-1001 : Int32)))
theorem yd_X3_place : yX3_place.cls = RX3 ∧ yX3_place.cls ≠ "java/lang/invoke/MethodHandle" ∧ yX3_place.cls ≠ "java/lang/invoke/VarHandle" ∧ (parseMethodDescriptor yX3_place.desc).map (fun d => d.parameters.length) = some 2 := by decide +kernel
set_option maxHeartbeats 4000000 in
set_option maxRecDepth 100000 in
theorem c_X3_place (l : Launch) (G : tG) (st : tST) (x1 : Int32) (x2 : Int32) {r : Int32} (hf : f_X3_place x1 x2 st = some r) : tCI l G yX3_place cX3_place 3 (some .int) rm_X3_place [.ref (tad G 0), .int x1, .int x2] st r st := by
  refine tk_entI (by decide +kernel) (Nat.le_of_ble_eq_true rfl) (fun p e s m below meth c ls S hr hlk hI hl => ?_)
  have hl : lv_has ls 3 [(0, .ref (tad G 0)), (1, .int x1), (2, .int x2)] := hl
  have S : CallFix p m c cX3_place 3 s [.ref (tad G 0), .int x1, .int x2].toArray wsL_law RX3 := S
  have hx := S.1
  have hb := S.2.1
  have hown := S.2.2.2.1
  have hts := S.2.2.2.2
  unfold f_X3_place at hf
  refine lv_iload_n hx hb dX3_place_0 rfl (lv_at hl 1 rfl) ?_
  refine tk_if_lt (tgt := 15) hx hb hf dX3_place_1 (by decide) (fun hf => ?_) (fun hf => ?_)
  · refine lv_sipush (v := -1001) hx hb dX3_place_15 (by decide) ?_
    exact tk_riR S hr hlk hI hf dX3_place_18
  · refine lv_iload_n hx hb dX3_place_4 rfl (lv_at hl 1 rfl) ?_
    refine lv_aload_n hx hb dX3_place_5 rfl (lv_at hl 0 rfl) ?_
    refine tg_X3_5 S hI mw_21 dX3_place_6 ?_
    refine tg_X1_4 S hI mw_114 dX3_place_9 ?_
    refine tk_icmp_lt (tgt := 19) hx hb hf dX3_place_12 (by decide) (fun hf => ?_) (fun hf => ?_)
    · refine lv_iload_n hx hb dX3_place_19 rfl (lv_at hl 2 rfl) ?_
      refine tk_if_lt (tgt := 28) hx hb hf dX3_place_20 (by decide) (fun hf => ?_) (fun hf => ?_)
      · refine lv_sipush (v := -1002) hx hb dX3_place_28 (by decide) ?_
        exact tk_riR S hr hlk hI hf dX3_place_31
      · refine lv_iload_n hx hb dX3_place_23 rfl (lv_at hl 2 rfl) ?_
        refine lv_iconst (v := 4) hx hb dX3_place_24 (by decide) ?_
        refine tk_icmp_lt (tgt := 32) hx hb hf dX3_place_25 (by decide) (fun hf => ?_) (fun hf => ?_)
        · refine lv_aload_n hx hb dX3_place_32 rfl (lv_at hl 0 rfl) ?_
          refine lv_iload_n hx hb dX3_place_33 rfl (lv_at hl 1 rfl) ?_
          refine lv_iload_n hx hb dX3_place_34 rfl (lv_at hl 2 rfl) ?_
          refine tk_bd hf (fun r1 hq hf => ?_)
          refine tk_vI S hI hl.1 (c_X3_placeFact l G st x1 x2 hq) (cwV 2 hts (tk_gV mw_365 mw_366 mw_367 mw_2 mw_368) rfl rfl rfl yd_X3_placeFact ⟨Nat.le_of_ble_eq_true rfl, Nat.le_of_ble_eq_true rfl⟩) 0 3 rfl rfl rfl rfl [] rfl (Nat.le_of_ble_eq_true rfl) dX3_place_35 (fun H locs hI => ?_)
          exact tk_riR S hr hlk hI hf dX3_place_38
        · refine lv_sipush (v := -1002) hx hb dX3_place_28 (by decide) ?_
          exact tk_riR S hr hlk hI hf dX3_place_31
    · refine lv_sipush (v := -1001) hx hb dX3_place_15 (by decide) ?_
      exact tk_riR S hr hlk hI hf dX3_place_18
/-! J13_bitCount_95d88 -/
abbrev rm_J13_bitCount_95d88 : Room := { frames := 0, cells := 0, slots := 0, locals := 0 }
def f_J13_bitCount_95d88 (x0 : Int64) : Option (Int32) := tlet (x0 - (((x0.toUInt64 >>> ((1 : Int32).toInt64.toUInt64 &&& Int64.toUInt64 63)).toInt64) &&& (6148914691236517205 : Int64))) (fun j1 => tlet ((j1 &&& (3689348814741910323 : Int64)) + (((j1.toUInt64 >>> ((2 : Int32).toInt64.toUInt64 &&& Int64.toUInt64 63)).toInt64) &&& (3689348814741910323 : Int64))) (fun j2 => tlet ((j2 + ((j2.toUInt64 >>> ((4 : Int32).toInt64.toUInt64 &&& Int64.toUInt64 63)).toInt64)) &&& (1085102592571150095 : Int64)) (fun j3 => tlet (j3 + ((j3.toUInt64 >>> ((8 : Int32).toInt64.toUInt64 &&& Int64.toUInt64 63)).toInt64)) (fun j4 => tlet (j4 + ((j4.toUInt64 >>> ((16 : Int32).toInt64.toUInt64 &&& Int64.toUInt64 63)).toInt64)) (fun j5 => tlet (j5 + ((j5.toUInt64 >>> ((32 : Int32).toInt64.toUInt64 &&& Int64.toUInt64 63)).toInt64)) (fun j6 => some ((j6.toInt32) &&& (127 : Int32))))))))
theorem yd_J13_bitCount_95d88 : yJ13_bitCount_95d88.cls ≠ "java/lang/invoke/MethodHandle" ∧ yJ13_bitCount_95d88.cls ≠ "java/lang/invoke/VarHandle" ∧ (parseMethodDescriptor yJ13_bitCount_95d88.desc).map (fun d => d.parameters.length) = some 1 := by decide +kernel
set_option maxHeartbeats 4000000 in
set_option maxRecDepth 100000 in
theorem c_J13_bitCount_95d88 (l : Launch) (G : tG) (st : tST) (x0 : Int64) {r : Int32} (hf : f_J13_bitCount_95d88 x0 = some r) : tCI l G yJ13_bitCount_95d88 cJ13_bitCount_95d88 2 (some .int) rm_J13_bitCount_95d88 [.long x0] st r st := by
  refine tk_entI (by decide +kernel) (Nat.le_of_ble_eq_true rfl) (fun p e s m below meth c ls S hr hlk hI hl => ?_)
  have hl : lv_has ls 2 [(0, .long x0)] := hl
  have S : CallFix p m c cJ13_bitCount_95d88 2 s [.long x0].toArray wsL_law RJ13 := S
  have hx := S.1
  have hb := S.2.1
  have hown := S.2.2.2.1
  have hts := S.2.2.2.2
  unfold f_J13_bitCount_95d88 at hf
  refine lv_lload_n hx hb dJ13_bitCount_95d88_0 rfl (lv_at hl 0 rfl) ?_
  refine lv_lload_n hx hb dJ13_bitCount_95d88_1 rfl (lv_at hl 0 rfl) ?_
  refine lv_iconst (v := 1) hx hb dJ13_bitCount_95d88_2 (by decide) ?_
  refine lv_lushr hx hb dJ13_bitCount_95d88_3 rfl ?_
  refine lv_ldc2 (v := 6148914691236517205) hx hb hown (hts _ mw_403) dJ13_bitCount_95d88_4 ?_
  refine lv_land hx hb dJ13_bitCount_95d88_7 ?_
  refine lv_lsub hx hb dJ13_bitCount_95d88_8 ?_
  refine tk_topl hf (fun j1 hf => ?_)
  refine lv_lstore_n (lv' := [(0, .long j1)]) hx hb dJ13_bitCount_95d88_9 rfl hl (by decide) rfl (fun ls hl => ?_)
  refine lv_lload_n hx hb dJ13_bitCount_95d88_10 rfl (lv_at hl 0 rfl) ?_
  refine lv_ldc2 (v := 3689348814741910323) hx hb hown (hts _ mw_404) dJ13_bitCount_95d88_11 ?_
  refine lv_land hx hb dJ13_bitCount_95d88_14 ?_
  refine lv_lload_n hx hb dJ13_bitCount_95d88_15 rfl (lv_at hl 0 rfl) ?_
  refine lv_iconst (v := 2) hx hb dJ13_bitCount_95d88_16 (by decide) ?_
  refine lv_lushr hx hb dJ13_bitCount_95d88_17 rfl ?_
  refine lv_ldc2 (v := 3689348814741910323) hx hb hown (hts _ mw_404) dJ13_bitCount_95d88_18 ?_
  refine lv_land hx hb dJ13_bitCount_95d88_21 ?_
  refine lv_ladd hx hb dJ13_bitCount_95d88_22 ?_
  refine tk_topl hf (fun j2 hf => ?_)
  refine lv_lstore_n (lv' := [(0, .long j2)]) hx hb dJ13_bitCount_95d88_23 rfl hl (by decide) rfl (fun ls hl => ?_)
  refine lv_lload_n hx hb dJ13_bitCount_95d88_24 rfl (lv_at hl 0 rfl) ?_
  refine lv_lload_n hx hb dJ13_bitCount_95d88_25 rfl (lv_at hl 0 rfl) ?_
  refine lv_iconst (v := 4) hx hb dJ13_bitCount_95d88_26 (by decide) ?_
  refine lv_lushr hx hb dJ13_bitCount_95d88_27 rfl ?_
  refine lv_ladd hx hb dJ13_bitCount_95d88_28 ?_
  refine lv_ldc2 (v := 1085102592571150095) hx hb hown (hts _ mw_405) dJ13_bitCount_95d88_29 ?_
  refine lv_land hx hb dJ13_bitCount_95d88_32 ?_
  refine tk_topl hf (fun j3 hf => ?_)
  refine lv_lstore_n (lv' := [(0, .long j3)]) hx hb dJ13_bitCount_95d88_33 rfl hl (by decide) rfl (fun ls hl => ?_)
  refine lv_lload_n hx hb dJ13_bitCount_95d88_34 rfl (lv_at hl 0 rfl) ?_
  refine lv_lload_n hx hb dJ13_bitCount_95d88_35 rfl (lv_at hl 0 rfl) ?_
  refine lv_bipush (v := 8) hx hb dJ13_bitCount_95d88_36 (by decide) ?_
  refine lv_lushr hx hb dJ13_bitCount_95d88_38 rfl ?_
  refine lv_ladd hx hb dJ13_bitCount_95d88_39 ?_
  refine tk_topl hf (fun j4 hf => ?_)
  refine lv_lstore_n (lv' := [(0, .long j4)]) hx hb dJ13_bitCount_95d88_40 rfl hl (by decide) rfl (fun ls hl => ?_)
  refine lv_lload_n hx hb dJ13_bitCount_95d88_41 rfl (lv_at hl 0 rfl) ?_
  refine lv_lload_n hx hb dJ13_bitCount_95d88_42 rfl (lv_at hl 0 rfl) ?_
  refine lv_bipush (v := 16) hx hb dJ13_bitCount_95d88_43 (by decide) ?_
  refine lv_lushr hx hb dJ13_bitCount_95d88_45 rfl ?_
  refine lv_ladd hx hb dJ13_bitCount_95d88_46 ?_
  refine tk_topl hf (fun j5 hf => ?_)
  refine lv_lstore_n (lv' := [(0, .long j5)]) hx hb dJ13_bitCount_95d88_47 rfl hl (by decide) rfl (fun ls hl => ?_)
  refine lv_lload_n hx hb dJ13_bitCount_95d88_48 rfl (lv_at hl 0 rfl) ?_
  refine lv_lload_n hx hb dJ13_bitCount_95d88_49 rfl (lv_at hl 0 rfl) ?_
  refine lv_bipush (v := 32) hx hb dJ13_bitCount_95d88_50 (by decide) ?_
  refine lv_lushr hx hb dJ13_bitCount_95d88_52 rfl ?_
  refine lv_ladd hx hb dJ13_bitCount_95d88_53 ?_
  refine tk_topl hf (fun j6 hf => ?_)
  refine lv_lstore_n (lv' := [(0, .long j6)]) hx hb dJ13_bitCount_95d88_54 rfl hl (by decide) rfl (fun ls hl => ?_)
  refine lv_lload_n hx hb dJ13_bitCount_95d88_55 rfl (lv_at hl 0 rfl) ?_
  refine lv_l2i hx hb dJ13_bitCount_95d88_56 rfl ?_
  refine lv_bipush (v := 127) hx hb dJ13_bitCount_95d88_57 (by decide) ?_
  refine lv_iand hx hb dJ13_bitCount_95d88_59 ?_
  exact tk_riR S hr hlk hI hf dJ13_bitCount_95d88_60
/-! X3_idleOf -/
abbrev rm_X3_idleOf : Room := { frames := 2, cells := 0, slots := 0, locals := 49 }
def f_X3_idleOf_67 (st : tST)  : Nat → Int32 → Int32 → Int64 → Int64 → Int64 → Int32 → Int32 → Option (Int32)
  | 0, _, _, _, _, _, _, _ => none
  | n + 1, x2, x3, x4, x6, x8, x10, x11 => (if (tg_I st 6) ≤ x11 then some x10 else (f_X1_holds x11 (x8 &&& x4) x2 st).bind (fun r1 => (if r1 = 0 then tlet (x11 + (1 : Int32)) (fun i2 => f_X3_idleOf_67 st n x2 x3 x4 x6 x8 x10 i2) else (f_X1_holds x11 (x8 &&& x6) x3 st).bind (fun r3 => (if r3 = 0 then tlet (x11 + (1 : Int32)) (fun i4 => f_X3_idleOf_67 st n x2 x3 x4 x6 x8 x10 i4) else tlet (x10 + (1 : Int32)) (fun i5 => tlet (x11 + (1 : Int32)) (fun i6 => f_X3_idleOf_67 st n x2 x3 x4 x6 x8 i5 i6)))))))
def f_X3_idleOf (x1 : Int32) (st : tST) : Option (Int32) := (f_X3_setOf (1 : Int32) st).bind (fun r1 => tlet (r1 ||| ((1 : Int32) <<< (x1 &&& (31 : Int32)))) (fun i2 => tlet (i2 &&& (((1 : Int32) <<< (x1 &&& (31 : Int32))) ^^^ (-1 : Int32))) (fun i3 => (f_X3_thereBy i2 st).bind (fun r4 => (f_X3_thereBy i3 st).bind (fun r5 => tal 12 (tg_B st 13) x1 (fun u6 => (f_J13_bitCount_95d88 ((u6 &&& (r4 ^^^ (-1 : Int64))) &&& (r5 ^^^ (-1 : Int64)))).bind (fun r7 => f_X3_idleOf_67 st tfu i2 i3 r4 r5 u6 r7 (0 : Int32))))))))
theorem yd_X3_idleOf : yX3_idleOf.cls = RX3 ∧ yX3_idleOf.cls ≠ "java/lang/invoke/MethodHandle" ∧ yX3_idleOf.cls ≠ "java/lang/invoke/VarHandle" ∧ (parseMethodDescriptor yX3_idleOf.desc).map (fun d => d.parameters.length) = some 1 := by decide +kernel
set_option maxHeartbeats 4000000 in
set_option maxRecDepth 100000 in
theorem k_X3_idleOf_67 {l : Launch} {G : tG} {p : Program} {e : Env} {s : State} {m : MethodId} {below : List Frame} {meth : Method} {c : Code} {args : Array Value} {r : Int32} {st : tST} (S : CallFix p m c cX3_idleOf 12 s args wsL_law RX3) (hr : meth.sig.returnType = (some .int)) (hlk : meth.locks = false) : ∀ (n : Nat) (x2 : Int32) (x3 : Int32) (x4 : Int64) (x6 : Int64) (x8 : Int64) (x10 : Int32) (x11 : Int32) (H : Heap) (locs : List Loc) (ls : Array Slot), tIn G (tA G s.heap.size) s st H locs → lv_has ls 12 [(0, .ref (tad G 0)), (2, .int x2), (3, .int x3), (4, .long x4), (6, .long x6), (8, .long x8), (10, .int x10), (11, .int x11)] → f_X3_idleOf_67 st n x2 x3 x4 x6 x8 x10 x11 = some r → W p l e rm_X3_idleOf s m args below meth c H locs 0 0 (tZI G below args s r st) (F0 m 67 ls []) := by
  have hx := S.1
  have hb := S.2.1
  have hown := S.2.2.2.1
  have hts := S.2.2.2.2
  intro n
  induction n with
  | zero => intro x2 x3 x4 x6 x8 x10 x11 H locs ls hI hl hf; exact nomatch (show (none : Option (Int32)) = some _ from hf)
  | succ n ih =>
    intro x2 x3 x4 x6 x8 x10 x11 H locs ls hI hl hf
    rw [f_X3_idleOf_67] at hf
    refine lv_iload hx hb dX3_idleOf_67 (lv_at hl 7 rfl) ?_
    refine lv_aload_n hx hb dX3_idleOf_69 rfl (lv_at hl 0 rfl) ?_
    refine tg_X3_5 S hI mw_21 dX3_idleOf_70 ?_
    refine tg_X1_4 S hI mw_114 dX3_idleOf_73 ?_
    refine tk_icmp_ge (tgt := 124) hx hb hf dX3_idleOf_76 (by decide) (fun hf => ?_) (fun hf => ?_)
    · refine lv_iload hx hb dX3_idleOf_124 (lv_at hl 6 rfl) ?_
      exact tk_riR S hr hlk hI hf dX3_idleOf_126
    · refine lv_aload_n hx hb dX3_idleOf_79 rfl (lv_at hl 0 rfl) ?_
      refine tg_X3_5 S hI mw_21 dX3_idleOf_80 ?_
      refine lv_iload hx hb dX3_idleOf_83 (lv_at hl 7 rfl) ?_
      refine lv_lload hx hb dX3_idleOf_85 (lv_at hl 5 rfl) ?_
      refine lv_lload hx hb dX3_idleOf_87 (lv_at hl 3 rfl) ?_
      refine lv_land hx hb dX3_idleOf_89 ?_
      refine lv_iload_n hx hb dX3_idleOf_90 rfl (lv_at hl 1 rfl) ?_
      refine tk_bd hf (fun r1 hq hf => ?_)
      refine tk_vI S hI hl.1 (c_X1_holds l G st x11 (x8 &&& x4) x2 hq) (cwV 3 hts (tk_gV mw_181 mw_182 mw_183 mw_20 mw_184) rfl rfl rfl yd_X1_holds ⟨Nat.le_of_ble_eq_true rfl, Nat.le_of_ble_eq_true rfl⟩) 3 1 rfl rfl rfl rfl [] rfl (Nat.le_of_ble_eq_true rfl) dX3_idleOf_91 (fun H locs hI => ?_)
      refine tk_if_eq (tgt := 118) hx hb hf dX3_idleOf_94 (by decide) (fun hf => ?_) (fun hf => ?_)
      · refine tk_let hf (fun i2 ei2 hf => ?_)
        refine lv_iinc (v := i2) (lv' := [(11, .int i2), (0, .ref (tad G 0)), (2, .int x2), (3, .int x3), (4, .long x4), (6, .long x6), (8, .long x8), (10, .int x10)]) hx hb dX3_idleOf_118 hl (k := 7) rfl (by rw [ei2]; rfl) (by decide) rfl (fun ls hl => ?_)
        refine lv_goto (tgt := 67) hx hb dX3_idleOf_121 (by decide) ?_
        exact ih x2 x3 x4 x6 x8 x10 i2 _ _ _ hI (lv_sub hl [1, 2, 3, 4, 5, 6, 7, 0] rfl) hf
      · refine lv_aload_n hx hb dX3_idleOf_97 rfl (lv_at hl 0 rfl) ?_
        refine tg_X3_5 S hI mw_21 dX3_idleOf_98 ?_
        refine lv_iload hx hb dX3_idleOf_101 (lv_at hl 7 rfl) ?_
        refine lv_lload hx hb dX3_idleOf_103 (lv_at hl 5 rfl) ?_
        refine lv_lload hx hb dX3_idleOf_105 (lv_at hl 4 rfl) ?_
        refine lv_land hx hb dX3_idleOf_107 ?_
        refine lv_iload_n hx hb dX3_idleOf_108 rfl (lv_at hl 2 rfl) ?_
        refine tk_bd hf (fun r3 hq hf => ?_)
        refine tk_vI S hI hl.1 (c_X1_holds l G st x11 (x8 &&& x6) x3 hq) (cwV 3 hts (tk_gV mw_181 mw_182 mw_183 mw_20 mw_184) rfl rfl rfl yd_X1_holds ⟨Nat.le_of_ble_eq_true rfl, Nat.le_of_ble_eq_true rfl⟩) 3 1 rfl rfl rfl rfl [] rfl (Nat.le_of_ble_eq_true rfl) dX3_idleOf_109 (fun H locs hI => ?_)
        refine tk_if_eq (tgt := 118) hx hb hf dX3_idleOf_112 (by decide) (fun hf => ?_) (fun hf => ?_)
        · refine tk_let hf (fun i4 ei4 hf => ?_)
          refine lv_iinc (v := i4) (lv' := [(11, .int i4), (0, .ref (tad G 0)), (2, .int x2), (3, .int x3), (4, .long x4), (6, .long x6), (8, .long x8), (10, .int x10)]) hx hb dX3_idleOf_118 hl (k := 7) rfl (by rw [ei4]; rfl) (by decide) rfl (fun ls hl => ?_)
          refine lv_goto (tgt := 67) hx hb dX3_idleOf_121 (by decide) ?_
          exact ih x2 x3 x4 x6 x8 x10 i4 _ _ _ hI (lv_sub hl [1, 2, 3, 4, 5, 6, 7, 0] rfl) hf
        · refine tk_let hf (fun i5 ei5 hf => ?_)
          refine lv_iinc (v := i5) (lv' := [(10, .int i5), (0, .ref (tad G 0)), (2, .int x2), (3, .int x3), (4, .long x4), (6, .long x6), (8, .long x8), (11, .int x11)]) hx hb dX3_idleOf_115 hl (k := 6) rfl (by rw [ei5]; rfl) (by decide) rfl (fun ls hl => ?_)
          refine tk_let hf (fun i6 ei6 hf => ?_)
          refine lv_iinc (v := i6) (lv' := [(11, .int i6), (10, .int i5), (0, .ref (tad G 0)), (2, .int x2), (3, .int x3), (4, .long x4), (6, .long x6), (8, .long x8)]) hx hb dX3_idleOf_118 hl (k := 7) rfl (by rw [ei6]; rfl) (by decide) rfl (fun ls hl => ?_)
          refine lv_goto (tgt := 67) hx hb dX3_idleOf_121 (by decide) ?_
          exact ih x2 x3 x4 x6 x8 i5 i6 _ _ _ hI (lv_sub hl [2, 3, 4, 5, 6, 7, 1, 0] rfl) hf
set_option maxHeartbeats 4000000 in
set_option maxRecDepth 100000 in
theorem c_X3_idleOf (l : Launch) (G : tG) (st : tST) (x1 : Int32) {r : Int32} (hf : f_X3_idleOf x1 st = some r) : tCI l G yX3_idleOf cX3_idleOf 12 (some .int) rm_X3_idleOf [.ref (tad G 0), .int x1] st r st := by
  refine tk_entI (by decide +kernel) (Nat.le_of_ble_eq_true rfl) (fun p e s m below meth c ls S hr hlk hI hl => ?_)
  have hl : lv_has ls 12 [(0, .ref (tad G 0)), (1, .int x1)] := hl
  have S : CallFix p m c cX3_idleOf 12 s [.ref (tad G 0), .int x1].toArray wsL_law RX3 := S
  have hx := S.1
  have hb := S.2.1
  have hown := S.2.2.2.1
  have hts := S.2.2.2.2
  unfold f_X3_idleOf at hf
  refine lv_aload_n hx hb dX3_idleOf_0 rfl (lv_at hl 0 rfl) ?_
  refine lv_iconst (v := 1) hx hb dX3_idleOf_1 (by decide) ?_
  refine tk_bd hf (fun r1 hq hf => ?_)
  refine tk_vI S hI hl.1 (c_X3_setOf l G st (1 : Int32) hq) (cwV 1 hts (tk_gV mw_159 mw_160 mw_161 mw_2 mw_162) rfl rfl rfl yd_X3_setOf ⟨Nat.le_of_ble_eq_true rfl, Nat.le_of_ble_eq_true rfl⟩) 0 3 rfl rfl rfl rfl [] rfl (Nat.le_of_ble_eq_true rfl) dX3_idleOf_2 (fun H locs hI => ?_)
  refine lv_iconst (v := 1) hx hb dX3_idleOf_5 (by decide) ?_
  refine lv_iload_n hx hb dX3_idleOf_6 rfl (lv_at hl 1 rfl) ?_
  refine lv_ishl hx hb dX3_idleOf_7 ?_
  refine lv_ior hx hb dX3_idleOf_8 ?_
  refine tk_topi hf (fun i2 hf => ?_)
  refine lv_istore_n (lv' := [(2, .int i2), (0, .ref (tad G 0)), (1, .int x1)]) hx hb dX3_idleOf_9 rfl hl (by decide) rfl (fun ls hl => ?_)
  refine lv_iload_n hx hb dX3_idleOf_10 rfl (lv_at hl 0 rfl) ?_
  refine lv_iconst (v := 1) hx hb dX3_idleOf_11 (by decide) ?_
  refine lv_iload_n hx hb dX3_idleOf_12 rfl (lv_at hl 2 rfl) ?_
  refine lv_ishl hx hb dX3_idleOf_13 ?_
  refine lv_iconst (v := -1) hx hb dX3_idleOf_14 (by decide) ?_
  refine lv_ixor hx hb dX3_idleOf_15 ?_
  refine lv_iand hx hb dX3_idleOf_16 ?_
  refine tk_topi hf (fun i3 hf => ?_)
  refine lv_istore_n (lv' := [(3, .int i3), (2, .int i2), (0, .ref (tad G 0)), (1, .int x1)]) hx hb dX3_idleOf_17 rfl hl (by decide) rfl (fun ls hl => ?_)
  refine lv_aload_n hx hb dX3_idleOf_18 rfl (lv_at hl 2 rfl) ?_
  refine lv_iload_n hx hb dX3_idleOf_19 rfl (lv_at hl 1 rfl) ?_
  refine tk_bd hf (fun r4 hq hf => ?_)
  refine tk_vL S hI hl.1 (c_X3_thereBy l G st i2 hq) (cwV 1 hts (tk_gV mw_175 mw_176 mw_177 mw_2 mw_178) rfl rfl rfl yd_X3_thereBy ⟨Nat.le_of_ble_eq_true rfl, Nat.le_of_ble_eq_true rfl⟩) 0 3 rfl rfl rfl rfl [] rfl (Nat.le_of_ble_eq_true rfl) dX3_idleOf_20 (fun H locs hI => ?_)
  refine lv_lstore (lv' := [(4, .long r4), (3, .int i3), (2, .int i2), (0, .ref (tad G 0)), (1, .int x1)]) hx hb dX3_idleOf_23 hl (by decide) rfl (fun ls hl => ?_)
  refine lv_aload_n hx hb dX3_idleOf_25 rfl (lv_at hl 3 rfl) ?_
  refine lv_iload_n hx hb dX3_idleOf_26 rfl (lv_at hl 1 rfl) ?_
  refine tk_bd hf (fun r5 hq hf => ?_)
  refine tk_vL S hI hl.1 (c_X3_thereBy l G st i3 hq) (cwV 1 hts (tk_gV mw_175 mw_176 mw_177 mw_2 mw_178) rfl rfl rfl yd_X3_thereBy ⟨Nat.le_of_ble_eq_true rfl, Nat.le_of_ble_eq_true rfl⟩) 0 3 rfl rfl rfl rfl [] rfl (Nat.le_of_ble_eq_true rfl) dX3_idleOf_27 (fun H locs hI => ?_)
  refine lv_lstore (lv' := [(6, .long r5), (4, .long r4), (3, .int i3), (2, .int i2), (0, .ref (tad G 0)), (1, .int x1)]) hx hb dX3_idleOf_30 hl (by decide) rfl (fun ls hl => ?_)
  refine lv_aload_n hx hb dX3_idleOf_32 rfl (lv_at hl 4 rfl) ?_
  refine tg_X3_6 S hI mw_25 dX3_idleOf_33 ?_
  refine tg_X0_4 S hI mw_180 dX3_idleOf_36 ?_
  refine lv_iload_n hx hb dX3_idleOf_39 rfl (lv_at hl 5 rfl) ?_
  refine tk_lald S hI (k := 13) (n := 12) rfl hf dX3_idleOf_40 (fun u6 hf => ?_)
  refine lv_lstore (lv' := [(8, .long u6), (6, .long r5), (4, .long r4), (3, .int i3), (2, .int i2), (0, .ref (tad G 0)), (1, .int x1)]) hx hb dX3_idleOf_41 hl (by decide) rfl (fun ls hl => ?_)
  refine lv_lload hx hb dX3_idleOf_43 (lv_at hl 0 rfl) ?_
  refine lv_lload hx hb dX3_idleOf_45 (lv_at hl 2 rfl) ?_
  refine lv_ldc2 (v := -1) hx hb hown (hts _ mw_131) dX3_idleOf_47 ?_
  refine lv_lxor hx hb dX3_idleOf_50 ?_
  refine lv_land hx hb dX3_idleOf_51 ?_
  refine lv_lload hx hb dX3_idleOf_52 (lv_at hl 1 rfl) ?_
  refine lv_ldc2 (v := -1) hx hb hown (hts _ mw_131) dX3_idleOf_54 ?_
  refine lv_lxor hx hb dX3_idleOf_57 ?_
  refine lv_land hx hb dX3_idleOf_58 ?_
  refine tk_bd hf (fun r7 hq hf => ?_)
  refine tk_sI S hI hl.1 (c_J13_bitCount_95d88 l G st ((u6 &&& (r4 ^^^ (-1 : Int64))) &&& (r5 ^^^ (-1 : Int64))) hq) (va_cwS 1 hts (tk_gS mw_399 mw_400 mw_401 mw_402) rfl rfl rfl yd_J13_bitCount_95d88 ⟨Nat.le_of_ble_eq_true rfl, Nat.le_of_ble_eq_true rfl⟩) rfl [] rfl (Nat.le_of_ble_eq_true rfl) dX3_idleOf_59 (fun H locs hI => ?_)
  refine lv_istore (lv' := [(10, .int r7), (8, .long u6), (6, .long r5), (4, .long r4), (3, .int i3), (2, .int i2), (0, .ref (tad G 0)), (1, .int x1)]) hx hb dX3_idleOf_62 hl (by decide) rfl (fun ls hl => ?_)
  refine lv_iconst (v := 0) hx hb dX3_idleOf_64 (by decide) ?_
  refine lv_istore (lv' := [(11, .int (0 : Int32)), (10, .int r7), (8, .long u6), (6, .long r5), (4, .long r4), (3, .int i3), (2, .int i2), (0, .ref (tad G 0)), (1, .int x1)]) hx hb dX3_idleOf_65 hl (by decide) rfl (fun ls hl => ?_)
  exact k_X3_idleOf_67 S hr hlk tfu i2 i3 r4 r5 u6 r7 (0 : Int32) _ _ _ hI (lv_sub hl [7, 6, 5, 4, 3, 2, 1, 0] rfl) hf
/-! X0_insertsUnder -/
abbrev rm_X0_insertsUnder : Room := { frames := 0, cells := 0, slots := 0, locals := 0 }
def f_X0_insertsUnder_4 (st : tST)  : Nat → Int32 → Int32 → Int32 → Option (Int32)
  | 0, _, _, _ => none
  | n + 1, x1, x2, x3 => (if (tg_I st 7) ≤ x3 then some x2 else (if x3 = x1 then tlet (x3 + (1 : Int32)) (fun i1 => f_X0_insertsUnder_4 st n x1 x2 i1) else tal 12 (tg_A st 9) x3 (fun v2 => (if v2 = 0 then tal 12 (tg_B st 13) x3 (fun u4 => tal 12 (tg_B st 13) x1 (fun u5 => (if (lg_cmp (u4 &&& u5) (0 : Int64)) = 0 then tlet (x3 + (1 : Int32)) (fun i6 => f_X0_insertsUnder_4 st n x1 x2 i6) else tlet (x2 ||| ((1 : Int32) <<< (x3 &&& (31 : Int32)))) (fun i7 => tlet (x3 + (1 : Int32)) (fun i8 => f_X0_insertsUnder_4 st n x1 i7 i8))))) else tlet (x3 + (1 : Int32)) (fun i3 => f_X0_insertsUnder_4 st n x1 x2 i3)))))
def f_X0_insertsUnder (x1 : Int32) (st : tST) : Option (Int32) := f_X0_insertsUnder_4 st tfu x1 (0 : Int32) (0 : Int32)
theorem yd_X0_insertsUnder : yX0_insertsUnder.cls = RX0 ∧ yX0_insertsUnder.cls ≠ "java/lang/invoke/MethodHandle" ∧ yX0_insertsUnder.cls ≠ "java/lang/invoke/VarHandle" ∧ (parseMethodDescriptor yX0_insertsUnder.desc).map (fun d => d.parameters.length) = some 1 := by decide +kernel
set_option maxHeartbeats 4000000 in
set_option maxRecDepth 100000 in
theorem k_X0_insertsUnder_4 {l : Launch} {G : tG} {p : Program} {e : Env} {s : State} {m : MethodId} {below : List Frame} {meth : Method} {c : Code} {args : Array Value} {r : Int32} {st : tST} (S : CallFix p m c cX0_insertsUnder 4 s args wsL_law RX0) (hr : meth.sig.returnType = (some .int)) (hlk : meth.locks = false) : ∀ (n : Nat) (x1 : Int32) (x2 : Int32) (x3 : Int32) (H : Heap) (locs : List Loc) (ls : Array Slot), tIn G (tA G s.heap.size) s st H locs → lv_has ls 4 [(0, .ref (tad G 8)), (1, .int x1), (2, .int x2), (3, .int x3)] → f_X0_insertsUnder_4 st n x1 x2 x3 = some r → W p l e rm_X0_insertsUnder s m args below meth c H locs 0 0 (tZI G below args s r st) (F0 m 4 ls []) := by
  have hx := S.1
  have hb := S.2.1
  have hown := S.2.2.2.1
  have hts := S.2.2.2.2
  intro n
  induction n with
  | zero => intro x1 x2 x3 H locs ls hI hl hf; exact nomatch (show (none : Option (Int32)) = some _ from hf)
  | succ n ih =>
    intro x1 x2 x3 H locs ls hI hl hf
    rw [f_X0_insertsUnder_4] at hf
    refine lv_iload_n hx hb dX0_insertsUnder_4 rfl (lv_at hl 3 rfl) ?_
    refine lv_aload_n hx hb dX0_insertsUnder_5 rfl (lv_at hl 0 rfl) ?_
    refine tg_X0_5 S hI mw_52 dX0_insertsUnder_6 ?_
    refine tk_icmp_ge (tgt := 56) hx hb hf dX0_insertsUnder_9 (by decide) (fun hf => ?_) (fun hf => ?_)
    · refine lv_iload_n hx hb dX0_insertsUnder_56 rfl (lv_at hl 2 rfl) ?_
      exact tk_riR S hr hlk hI hf dX0_insertsUnder_57
    · refine lv_iload_n hx hb dX0_insertsUnder_12 rfl (lv_at hl 3 rfl) ?_
      refine lv_iload_n hx hb dX0_insertsUnder_13 rfl (lv_at hl 1 rfl) ?_
      refine tk_icmp_eq (tgt := 50) hx hb hf dX0_insertsUnder_14 (by decide) (fun hf => ?_) (fun hf => ?_)
      · refine tk_let hf (fun i1 ei1 hf => ?_)
        refine lv_iinc (v := i1) (lv' := [(3, .int i1), (0, .ref (tad G 8)), (1, .int x1), (2, .int x2)]) hx hb dX0_insertsUnder_50 hl (k := 3) rfl (by rw [ei1]; rfl) (by decide) rfl (fun ls hl => ?_)
        refine lv_goto (tgt := 4) hx hb dX0_insertsUnder_53 (by decide) ?_
        exact ih x1 x2 i1 _ _ _ hI (lv_sub hl [1, 2, 3, 0] rfl) hf
      · refine lv_aload_n hx hb dX0_insertsUnder_17 rfl (lv_at hl 0 rfl) ?_
        refine tg_X0_0 S hI mw_46 dX0_insertsUnder_18 ?_
        refine lv_iload_n hx hb dX0_insertsUnder_21 rfl (lv_at hl 3 rfl) ?_
        refine tk_iald S hI (k := 9) (n := 12) rfl hf dX0_insertsUnder_22 (fun v2 hf => ?_)
        refine tk_if_ne (tgt := 50) hx hb hf dX0_insertsUnder_23 (by decide) (fun hf => ?_) (fun hf => ?_)
        · refine tk_let hf (fun i3 ei3 hf => ?_)
          refine lv_iinc (v := i3) (lv' := [(3, .int i3), (0, .ref (tad G 8)), (1, .int x1), (2, .int x2)]) hx hb dX0_insertsUnder_50 hl (k := 3) rfl (by rw [ei3]; rfl) (by decide) rfl (fun ls hl => ?_)
          refine lv_goto (tgt := 4) hx hb dX0_insertsUnder_53 (by decide) ?_
          exact ih x1 x2 i3 _ _ _ hI (lv_sub hl [1, 2, 3, 0] rfl) hf
        · refine lv_aload_n hx hb dX0_insertsUnder_26 rfl (lv_at hl 0 rfl) ?_
          refine tg_X0_4 S hI mw_51 dX0_insertsUnder_27 ?_
          refine lv_iload_n hx hb dX0_insertsUnder_30 rfl (lv_at hl 3 rfl) ?_
          refine tk_lald S hI (k := 13) (n := 12) rfl hf dX0_insertsUnder_31 (fun u4 hf => ?_)
          refine lv_aload_n hx hb dX0_insertsUnder_32 rfl (lv_at hl 0 rfl) ?_
          refine tg_X0_4 S hI mw_51 dX0_insertsUnder_33 ?_
          refine lv_iload_n hx hb dX0_insertsUnder_36 rfl (lv_at hl 1 rfl) ?_
          refine tk_lald S hI (k := 13) (n := 12) rfl hf dX0_insertsUnder_37 (fun u5 hf => ?_)
          refine lv_land hx hb dX0_insertsUnder_38 ?_
          refine lv_lconst (v := 0) hx hb dX0_insertsUnder_39 (by decide) ?_
          refine W.lcmp hx hb dX0_insertsUnder_40 ?_
          refine tk_if_eq (tgt := 50) hx hb hf dX0_insertsUnder_41 (by decide) (fun hf => ?_) (fun hf => ?_)
          · refine tk_let hf (fun i6 ei6 hf => ?_)
            refine lv_iinc (v := i6) (lv' := [(3, .int i6), (0, .ref (tad G 8)), (1, .int x1), (2, .int x2)]) hx hb dX0_insertsUnder_50 hl (k := 3) rfl (by rw [ei6]; rfl) (by decide) rfl (fun ls hl => ?_)
            refine lv_goto (tgt := 4) hx hb dX0_insertsUnder_53 (by decide) ?_
            exact ih x1 x2 i6 _ _ _ hI (lv_sub hl [1, 2, 3, 0] rfl) hf
          · refine lv_iload_n hx hb dX0_insertsUnder_44 rfl (lv_at hl 2 rfl) ?_
            refine lv_iconst (v := 1) hx hb dX0_insertsUnder_45 (by decide) ?_
            refine lv_iload_n hx hb dX0_insertsUnder_46 rfl (lv_at hl 3 rfl) ?_
            refine lv_ishl hx hb dX0_insertsUnder_47 ?_
            refine lv_ior hx hb dX0_insertsUnder_48 ?_
            refine tk_topi hf (fun i7 hf => ?_)
            refine lv_istore_n (lv' := [(2, .int i7), (0, .ref (tad G 8)), (1, .int x1), (3, .int x3)]) hx hb dX0_insertsUnder_49 rfl hl (by decide) rfl (fun ls hl => ?_)
            refine tk_let hf (fun i8 ei8 hf => ?_)
            refine lv_iinc (v := i8) (lv' := [(3, .int i8), (2, .int i7), (0, .ref (tad G 8)), (1, .int x1)]) hx hb dX0_insertsUnder_50 hl (k := 3) rfl (by rw [ei8]; rfl) (by decide) rfl (fun ls hl => ?_)
            refine lv_goto (tgt := 4) hx hb dX0_insertsUnder_53 (by decide) ?_
            exact ih x1 i7 i8 _ _ _ hI (lv_sub hl [2, 3, 1, 0] rfl) hf
set_option maxHeartbeats 4000000 in
set_option maxRecDepth 100000 in
theorem c_X0_insertsUnder (l : Launch) (G : tG) (st : tST) (x1 : Int32) {r : Int32} (hf : f_X0_insertsUnder x1 st = some r) : tCI l G yX0_insertsUnder cX0_insertsUnder 4 (some .int) rm_X0_insertsUnder [.ref (tad G 8), .int x1] st r st := by
  refine tk_entI (by decide +kernel) (Nat.le_of_ble_eq_true rfl) (fun p e s m below meth c ls S hr hlk hI hl => ?_)
  have hl : lv_has ls 4 [(0, .ref (tad G 8)), (1, .int x1)] := hl
  have S : CallFix p m c cX0_insertsUnder 4 s [.ref (tad G 8), .int x1].toArray wsL_law RX0 := S
  have hx := S.1
  have hb := S.2.1
  have hown := S.2.2.2.1
  have hts := S.2.2.2.2
  unfold f_X0_insertsUnder at hf
  refine lv_iconst (v := 0) hx hb dX0_insertsUnder_0 (by decide) ?_
  refine lv_istore_n (lv' := [(2, .int (0 : Int32)), (0, .ref (tad G 8)), (1, .int x1)]) hx hb dX0_insertsUnder_1 rfl hl (by decide) rfl (fun ls hl => ?_)
  refine lv_iconst (v := 0) hx hb dX0_insertsUnder_2 (by decide) ?_
  refine lv_istore_n (lv' := [(3, .int (0 : Int32)), (2, .int (0 : Int32)), (0, .ref (tad G 8)), (1, .int x1)]) hx hb dX0_insertsUnder_3 rfl hl (by decide) rfl (fun ls hl => ?_)
  exact k_X0_insertsUnder_4 S hr hlk tfu x1 (0 : Int32) (0 : Int32) _ _ _ hI (lv_sub hl [2, 3, 1, 0] rfl) hf
/-! X1_leadersUnder -/
abbrev rm_X1_leadersUnder : Room := { frames := 0, cells := 0, slots := 0, locals := 0 }
def f_X1_leadersUnder_4 (st : tST)  : Nat → Int32 → Int32 → Int32 → Option (Int32)
  | 0, _, _, _ => none
  | n + 1, x1, x2, x3 => (if (tg_I st 6) ≤ x3 then some x2 else tal 90 (tg_A st 6) x3 (fun v1 => (if v1 = x1 then tal 90 (tg_A st 5) x3 (fun v3 => (if v3 = (-1 : Int32) then tlet (x3 + (1 : Int32)) (fun i4 => f_X1_leadersUnder_4 st n x1 x2 i4) else tal 90 (tg_A st 5) x3 (fun v5 => tal 90 (tg_A st 6) v5 (fun v6 => (if v6 = (-1 : Int32) then tlet (x3 + (1 : Int32)) (fun i7 => f_X1_leadersUnder_4 st n x1 x2 i7) else tal 90 (tg_A st 5) x3 (fun v8 => tal 90 (tg_A st 6) v8 (fun v9 => tlet (x2 ||| ((1 : Int32) <<< (v9 &&& (31 : Int32)))) (fun i10 => tlet (x3 + (1 : Int32)) (fun i11 => f_X1_leadersUnder_4 st n x1 i10 i11))))))))) else tlet (x3 + (1 : Int32)) (fun i2 => f_X1_leadersUnder_4 st n x1 x2 i2))))
def f_X1_leadersUnder (x1 : Int32) (st : tST) : Option (Int32) := f_X1_leadersUnder_4 st tfu x1 (0 : Int32) (0 : Int32)
theorem yd_X1_leadersUnder : yX1_leadersUnder.cls = RX1 ∧ yX1_leadersUnder.cls ≠ "java/lang/invoke/MethodHandle" ∧ yX1_leadersUnder.cls ≠ "java/lang/invoke/VarHandle" ∧ (parseMethodDescriptor yX1_leadersUnder.desc).map (fun d => d.parameters.length) = some 1 := by decide +kernel
set_option maxHeartbeats 4000000 in
set_option maxRecDepth 100000 in
theorem k_X1_leadersUnder_4 {l : Launch} {G : tG} {p : Program} {e : Env} {s : State} {m : MethodId} {below : List Frame} {meth : Method} {c : Code} {args : Array Value} {r : Int32} {st : tST} (S : CallFix p m c cX1_leadersUnder 4 s args wsL_law RX1) (hr : meth.sig.returnType = (some .int)) (hlk : meth.locks = false) : ∀ (n : Nat) (x1 : Int32) (x2 : Int32) (x3 : Int32) (H : Heap) (locs : List Loc) (ls : Array Slot), tIn G (tA G s.heap.size) s st H locs → lv_has ls 4 [(0, .ref (tad G 3)), (1, .int x1), (2, .int x2), (3, .int x3)] → f_X1_leadersUnder_4 st n x1 x2 x3 = some r → W p l e rm_X1_leadersUnder s m args below meth c H locs 0 0 (tZI G below args s r st) (F0 m 4 ls []) := by
  have hx := S.1
  have hb := S.2.1
  have hown := S.2.2.2.1
  have hts := S.2.2.2.2
  intro n
  induction n with
  | zero => intro x1 x2 x3 H locs ls hI hl hf; exact nomatch (show (none : Option (Int32)) = some _ from hf)
  | succ n ih =>
    intro x1 x2 x3 H locs ls hI hl hf
    rw [f_X1_leadersUnder_4] at hf
    refine lv_iload_n hx hb dX1_leadersUnder_4 rfl (lv_at hl 3 rfl) ?_
    refine lv_aload_n hx hb dX1_leadersUnder_5 rfl (lv_at hl 0 rfl) ?_
    refine tg_X1_4 S hI mw_42 dX1_leadersUnder_6 ?_
    refine tk_icmp_ge (tgt := 69) hx hb hf dX1_leadersUnder_9 (by decide) (fun hf => ?_) (fun hf => ?_)
    · refine lv_iload_n hx hb dX1_leadersUnder_69 rfl (lv_at hl 2 rfl) ?_
      exact tk_riR S hr hlk hI hf dX1_leadersUnder_70
    · refine lv_aload_n hx hb dX1_leadersUnder_12 rfl (lv_at hl 0 rfl) ?_
      refine tg_X1_2 S hI mw_40 dX1_leadersUnder_13 ?_
      refine lv_iload_n hx hb dX1_leadersUnder_16 rfl (lv_at hl 3 rfl) ?_
      refine tk_iald S hI (k := 6) (n := 90) rfl hf dX1_leadersUnder_17 (fun v1 hf => ?_)
      refine lv_iload_n hx hb dX1_leadersUnder_18 rfl (lv_at hl 1 rfl) ?_
      refine tk_icmp_ne (tgt := 63) hx hb hf dX1_leadersUnder_19 (by decide) (fun hf => ?_) (fun hf => ?_)
      · refine tk_let hf (fun i2 ei2 hf => ?_)
        refine lv_iinc (v := i2) (lv' := [(3, .int i2), (0, .ref (tad G 3)), (1, .int x1), (2, .int x2)]) hx hb dX1_leadersUnder_63 hl (k := 3) rfl (by rw [ei2]; rfl) (by decide) rfl (fun ls hl => ?_)
        refine lv_goto (tgt := 4) hx hb dX1_leadersUnder_66 (by decide) ?_
        exact ih x1 x2 i2 _ _ _ hI (lv_sub hl [1, 2, 3, 0] rfl) hf
      · refine lv_aload_n hx hb dX1_leadersUnder_22 rfl (lv_at hl 0 rfl) ?_
        refine tg_X1_1 S hI mw_39 dX1_leadersUnder_23 ?_
        refine lv_iload_n hx hb dX1_leadersUnder_26 rfl (lv_at hl 3 rfl) ?_
        refine tk_iald S hI (k := 5) (n := 90) rfl hf dX1_leadersUnder_27 (fun v3 hf => ?_)
        refine lv_iconst (v := -1) hx hb dX1_leadersUnder_28 (by decide) ?_
        refine tk_icmp_eq (tgt := 63) hx hb hf dX1_leadersUnder_29 (by decide) (fun hf => ?_) (fun hf => ?_)
        · refine tk_let hf (fun i4 ei4 hf => ?_)
          refine lv_iinc (v := i4) (lv' := [(3, .int i4), (0, .ref (tad G 3)), (1, .int x1), (2, .int x2)]) hx hb dX1_leadersUnder_63 hl (k := 3) rfl (by rw [ei4]; rfl) (by decide) rfl (fun ls hl => ?_)
          refine lv_goto (tgt := 4) hx hb dX1_leadersUnder_66 (by decide) ?_
          exact ih x1 x2 i4 _ _ _ hI (lv_sub hl [1, 2, 3, 0] rfl) hf
        · refine lv_aload_n hx hb dX1_leadersUnder_32 rfl (lv_at hl 0 rfl) ?_
          refine tg_X1_2 S hI mw_40 dX1_leadersUnder_33 ?_
          refine lv_aload_n hx hb dX1_leadersUnder_36 rfl (lv_at hl 0 rfl) ?_
          refine tg_X1_1 S hI mw_39 dX1_leadersUnder_37 ?_
          refine lv_iload_n hx hb dX1_leadersUnder_40 rfl (lv_at hl 3 rfl) ?_
          refine tk_iald S hI (k := 5) (n := 90) rfl hf dX1_leadersUnder_41 (fun v5 hf => ?_)
          refine tk_iald S hI (k := 6) (n := 90) rfl hf dX1_leadersUnder_42 (fun v6 hf => ?_)
          refine lv_iconst (v := -1) hx hb dX1_leadersUnder_43 (by decide) ?_
          refine tk_icmp_eq (tgt := 63) hx hb hf dX1_leadersUnder_44 (by decide) (fun hf => ?_) (fun hf => ?_)
          · refine tk_let hf (fun i7 ei7 hf => ?_)
            refine lv_iinc (v := i7) (lv' := [(3, .int i7), (0, .ref (tad G 3)), (1, .int x1), (2, .int x2)]) hx hb dX1_leadersUnder_63 hl (k := 3) rfl (by rw [ei7]; rfl) (by decide) rfl (fun ls hl => ?_)
            refine lv_goto (tgt := 4) hx hb dX1_leadersUnder_66 (by decide) ?_
            exact ih x1 x2 i7 _ _ _ hI (lv_sub hl [1, 2, 3, 0] rfl) hf
          · refine lv_iload_n hx hb dX1_leadersUnder_47 rfl (lv_at hl 2 rfl) ?_
            refine lv_iconst (v := 1) hx hb dX1_leadersUnder_48 (by decide) ?_
            refine lv_aload_n hx hb dX1_leadersUnder_49 rfl (lv_at hl 0 rfl) ?_
            refine tg_X1_2 S hI mw_40 dX1_leadersUnder_50 ?_
            refine lv_aload_n hx hb dX1_leadersUnder_53 rfl (lv_at hl 0 rfl) ?_
            refine tg_X1_1 S hI mw_39 dX1_leadersUnder_54 ?_
            refine lv_iload_n hx hb dX1_leadersUnder_57 rfl (lv_at hl 3 rfl) ?_
            refine tk_iald S hI (k := 5) (n := 90) rfl hf dX1_leadersUnder_58 (fun v8 hf => ?_)
            refine tk_iald S hI (k := 6) (n := 90) rfl hf dX1_leadersUnder_59 (fun v9 hf => ?_)
            refine lv_ishl hx hb dX1_leadersUnder_60 ?_
            refine lv_ior hx hb dX1_leadersUnder_61 ?_
            refine tk_topi hf (fun i10 hf => ?_)
            refine lv_istore_n (lv' := [(2, .int i10), (0, .ref (tad G 3)), (1, .int x1), (3, .int x3)]) hx hb dX1_leadersUnder_62 rfl hl (by decide) rfl (fun ls hl => ?_)
            refine tk_let hf (fun i11 ei11 hf => ?_)
            refine lv_iinc (v := i11) (lv' := [(3, .int i11), (2, .int i10), (0, .ref (tad G 3)), (1, .int x1)]) hx hb dX1_leadersUnder_63 hl (k := 3) rfl (by rw [ei11]; rfl) (by decide) rfl (fun ls hl => ?_)
            refine lv_goto (tgt := 4) hx hb dX1_leadersUnder_66 (by decide) ?_
            exact ih x1 i10 i11 _ _ _ hI (lv_sub hl [2, 3, 1, 0] rfl) hf
set_option maxHeartbeats 4000000 in
set_option maxRecDepth 100000 in
theorem c_X1_leadersUnder (l : Launch) (G : tG) (st : tST) (x1 : Int32) {r : Int32} (hf : f_X1_leadersUnder x1 st = some r) : tCI l G yX1_leadersUnder cX1_leadersUnder 4 (some .int) rm_X1_leadersUnder [.ref (tad G 3), .int x1] st r st := by
  refine tk_entI (by decide +kernel) (Nat.le_of_ble_eq_true rfl) (fun p e s m below meth c ls S hr hlk hI hl => ?_)
  have hl : lv_has ls 4 [(0, .ref (tad G 3)), (1, .int x1)] := hl
  have S : CallFix p m c cX1_leadersUnder 4 s [.ref (tad G 3), .int x1].toArray wsL_law RX1 := S
  have hx := S.1
  have hb := S.2.1
  have hown := S.2.2.2.1
  have hts := S.2.2.2.2
  unfold f_X1_leadersUnder at hf
  refine lv_iconst (v := 0) hx hb dX1_leadersUnder_0 (by decide) ?_
  refine lv_istore_n (lv' := [(2, .int (0 : Int32)), (0, .ref (tad G 3)), (1, .int x1)]) hx hb dX1_leadersUnder_1 rfl hl (by decide) rfl (fun ls hl => ?_)
  refine lv_iconst (v := 0) hx hb dX1_leadersUnder_2 (by decide) ?_
  refine lv_istore_n (lv' := [(3, .int (0 : Int32)), (2, .int (0 : Int32)), (0, .ref (tad G 3)), (1, .int x1)]) hx hb dX1_leadersUnder_3 rfl hl (by decide) rfl (fun ls hl => ?_)
  exact k_X1_leadersUnder_4 S hr hlk tfu x1 (0 : Int32) (0 : Int32) _ _ _ hI (lv_sub hl [2, 3, 1, 0] rfl) hf
