/-! X3_letter -/
abbrev rm_X3_letter : Room := { frames := 0, cells := 0, slots := 0, locals := 0 }
def f_X3_letter (x1 : Int32) (st : tST) : Option (Int32 × tST) := (if x1 < (32 : Int32) then some ((-1002 : Int32), st) else (if x1 ≤ (126 : Int32) then (if (tg_I st 0) < (40 : Int32) then tas 40 (tg_I st 0) (tp_A st 1 ((tg_I st 0)).toNatClampNeg x1) (fun s1 => tlet (tp_I s1 0 ((tg_I s1 0) + (1 : Int32))) (fun s2 => some ((tg_I s2 0), s2))) else some ((-1004 : Int32), st)) else some ((-1002 : Int32), st)))
theorem yd_X3_letter : yX3_letter.cls = RX3 ∧ yX3_letter.cls ≠ "java/lang/invoke/MethodHandle" ∧ yX3_letter.cls ≠ "java/lang/invoke/VarHandle" ∧ (parseMethodDescriptor yX3_letter.desc).map (fun d => d.parameters.length) = some 1 := by decide +kernel
set_option maxHeartbeats 4000000 in
set_option maxRecDepth 100000 in
theorem c_X3_letter (l : Launch) (G : tG) (st : tST) (x1 : Int32) {r : Int32} {st' : tST} (hf : f_X3_letter x1 st = some (r, st')) : tCI l G yX3_letter cX3_letter 2 (some .int) rm_X3_letter [.ref (tad G 0), .int x1] st r st' := by
  refine tk_entI (by decide +kernel) (Nat.le_of_ble_eq_true rfl) (fun p e s m below meth c ls S hr hlk hI hl => ?_)
  have hl : lv_has ls 2 [(0, .ref (tad G 0)), (1, .int x1)] := hl
  have S : CallFix p m c cX3_letter 2 s [.ref (tad G 0), .int x1].toArray wsL_law RX3 := S
  have hx := S.1
  have hb := S.2.1
  have hown := S.2.2.2.1
  have hts := S.2.2.2.2
  unfold f_X3_letter at hf
  refine lv_iload_n hx hb dX3_letter_0 rfl (lv_at hl 1 rfl) ?_
  refine lv_bipush (v := 32) hx hb dX3_letter_1 (by decide) ?_
  refine tk_icmp_lt (tgt := 12) hx hb hf dX3_letter_3 (by decide) (fun hf => ?_) (fun hf => ?_)
  · refine lv_sipush (v := -1002) hx hb dX3_letter_12 (by decide) ?_
    exact tk_riW S hr hlk hI hf dX3_letter_15
  · refine lv_iload_n hx hb dX3_letter_6 rfl (lv_at hl 1 rfl) ?_
    refine lv_bipush (v := 126) hx hb dX3_letter_7 (by decide) ?_
    refine tk_icmp_le (tgt := 16) hx hb hf dX3_letter_9 (by decide) (fun hf => ?_) (fun hf => ?_)
    · refine lv_aload_n hx hb dX3_letter_16 rfl (lv_at hl 0 rfl) ?_
      refine tg_X3_1 S hI mw_14 dX3_letter_17 ?_
      refine lv_bipush (v := 40) hx hb dX3_letter_20 (by decide) ?_
      refine tk_icmp_lt (tgt := 29) hx hb hf dX3_letter_22 (by decide) (fun hf => ?_) (fun hf => ?_)
      · refine lv_aload_n hx hb dX3_letter_29 rfl (lv_at hl 0 rfl) ?_
        refine tg_X3_0 S hI mw_13 dX3_letter_30 ?_
        refine lv_aload_n hx hb dX3_letter_33 rfl (lv_at hl 0 rfl) ?_
        refine tg_X3_1 S hI mw_14 dX3_letter_34 ?_
        refine lv_iload_n hx hb dX3_letter_37 rfl (lv_at hl 1 rfl) ?_
        refine tk_iast S hI (k := 1) (n := 40) rfl (twa_1 G _) hf dX3_letter_38 (fun s1 H locs hI hf => ?_)
        refine lv_aload_n hx hb dX3_letter_39 rfl (lv_at hl 0 rfl) ?_
        refine lv_dup hx hb dX3_letter_40 rfl ?_
        refine tg_X3_1 S hI mw_14 dX3_letter_41 ?_
        refine lv_iconst (v := 1) hx hb dX3_letter_44 (by decide) ?_
        refine lv_iadd hx hb dX3_letter_45 ?_
        refine tp_X3_1 S hI mw_14 hf dX3_letter_46 (fun s2 H locs hI hf => ?_)
        refine lv_aload_n hx hb dX3_letter_49 rfl (lv_at hl 0 rfl) ?_
        refine tg_X3_1 S hI mw_14 dX3_letter_50 ?_
        exact tk_riW S hr hlk hI hf dX3_letter_53
      · refine lv_sipush (v := -1004) hx hb dX3_letter_25 (by decide) ?_
        exact tk_riW S hr hlk hI hf dX3_letter_28
    · refine lv_sipush (v := -1002) hx hb dX3_letter_12 (by decide) ?_
      exact tk_riW S hr hlk hI hf dX3_letter_15
/-! X3_blank -/
abbrev rm_X3_blank : Room := { frames := 0, cells := 0, slots := 0, locals := 0 }
def f_X3_blank (st : tST) : Option (Int32 × tST) := tlet (tg_I st 0) (fun i1 => tlet (tp_I st 0 (0 : Int32)) (fun s2 => some (i1, s2)))
theorem yd_X3_blank : yX3_blank.cls = RX3 ∧ yX3_blank.cls ≠ "java/lang/invoke/MethodHandle" ∧ yX3_blank.cls ≠ "java/lang/invoke/VarHandle" ∧ (parseMethodDescriptor yX3_blank.desc).map (fun d => d.parameters.length) = some 0 := by decide +kernel
set_option maxHeartbeats 4000000 in
set_option maxRecDepth 100000 in
theorem c_X3_blank (l : Launch) (G : tG) (st : tST) {r : Int32} {st' : tST} (hf : f_X3_blank st = some (r, st')) : tCI l G yX3_blank cX3_blank 2 (some .int) rm_X3_blank [.ref (tad G 0)] st r st' := by
  refine tk_entI (by decide +kernel) (Nat.le_of_ble_eq_true rfl) (fun p e s m below meth c ls S hr hlk hI hl => ?_)
  have hl : lv_has ls 2 [(0, .ref (tad G 0))] := hl
  have S : CallFix p m c cX3_blank 2 s [.ref (tad G 0)].toArray wsL_law RX3 := S
  have hx := S.1
  have hb := S.2.1
  have hown := S.2.2.2.1
  have hts := S.2.2.2.2
  unfold f_X3_blank at hf
  refine lv_aload_n hx hb dX3_blank_0 rfl (lv_at hl 0 rfl) ?_
  refine tg_X3_1 S hI mw_14 dX3_blank_1 ?_
  refine tk_topi hf (fun i1 hf => ?_)
  refine lv_istore_n (lv' := [(1, .int i1), (0, .ref (tad G 0))]) hx hb dX3_blank_4 rfl hl (by decide) rfl (fun ls hl => ?_)
  refine lv_aload_n hx hb dX3_blank_5 rfl (lv_at hl 1 rfl) ?_
  refine lv_iconst (v := 0) hx hb dX3_blank_6 (by decide) ?_
  refine tp_X3_1 S hI mw_14 hf dX3_blank_7 (fun s2 H locs hI hf => ?_)
  refine lv_iload_n hx hb dX3_blank_10 rfl (lv_at hl 0 rfl) ?_
  exact tk_riW S hr hlk hI hf dX3_blank_11
/-! X1_openGap -/
abbrev rm_X1_openGap : Room := { frames := 0, cells := 0, slots := 0, locals := 0 }
def f_X1_openGap_86 : Nat → Int32 → Int32 → Int32 → tST → Option (tST)
  | 0, _, _, _, _ => none
  | n + 1, x1, x2, x3, st => (if (tg_I st 6) ≤ x3 then some st else tal 90 (tg_A st 5) x3 (fun v1 => (if v1 < x1 then tlet (x3 + (1 : Int32)) (fun i2 => f_X1_openGap_86 n x1 x2 i2 st) else tal 90 (tg_A st 5) x3 (fun v3 => tas 90 x3 (tp_A st 5 (x3).toNatClampNeg (v3 + x2)) (fun s4 => tlet (x3 + (1 : Int32)) (fun i5 => f_X1_openGap_86 n x1 x2 i5 s4))))))
def f_X1_openGap_7 : Nat → Int32 → Int32 → Int32 → tST → Option (tST)
  | 0, _, _, _, _ => none
  | n + 1, x1, x2, x3, st => (if x3 < x1 then tlet (tp_I st 6 ((tg_I st 6) + x2)) (fun s1 => f_X1_openGap_86 tfu x1 x2 (0 : Int32) s1) else tal 90 (tg_A st 4) x3 (fun v2 => tas 90 (x3 + x2) (tp_A st 4 ((x3 + x2)).toNatClampNeg v2) (fun s3 => tal 90 (tg_A s3 5) x3 (fun v4 => tas 90 (x3 + x2) (tp_A s3 5 ((x3 + x2)).toNatClampNeg v4) (fun s5 => tal 90 (tg_A s5 6) x3 (fun v6 => tas 90 (x3 + x2) (tp_A s5 6 ((x3 + x2)).toNatClampNeg v6) (fun s7 => tal 90 (tg_A s7 7) x3 (fun v8 => tas 90 (x3 + x2) (tp_A s7 7 ((x3 + x2)).toNatClampNeg v8) (fun s9 => tlet (x3 + (-1 : Int32)) (fun i10 => f_X1_openGap_7 n x1 x2 i10 s9))))))))))
def f_X1_openGap (x1 : Int32) (x2 : Int32) (st : tST) : Option (tST) := tlet ((tg_I st 6) - (1 : Int32)) (fun i1 => f_X1_openGap_7 tfu x1 x2 i1 st)
theorem yd_X1_openGap : yX1_openGap.cls = RX1 ∧ yX1_openGap.cls ≠ "java/lang/invoke/MethodHandle" ∧ yX1_openGap.cls ≠ "java/lang/invoke/VarHandle" ∧ (parseMethodDescriptor yX1_openGap.desc).map (fun d => d.parameters.length) = some 2 := by decide +kernel
set_option maxHeartbeats 4000000 in
set_option maxRecDepth 100000 in
theorem k_X1_openGap_86 {l : Launch} {G : tG} {p : Program} {e : Env} {s : State} {m : MethodId} {below : List Frame} {meth : Method} {c : Code} {args : Array Value} {st' : tST} (S : CallFix p m c cX1_openGap 4 s args wsL_law RX1) (hr : meth.sig.returnType = none) (hlk : meth.locks = false) : ∀ (n : Nat) (x1 : Int32) (x2 : Int32) (x3 : Int32) (st : tST) (H : Heap) (locs : List Loc) (ls : Array Slot), tIn G (tA G s.heap.size) s st H locs → lv_has ls 4 [(0, .ref (tad G 3)), (1, .int x1), (2, .int x2), (3, .int x3)] → f_X1_openGap_86 n x1 x2 x3 st = some st' → W p l e rm_X1_openGap s m args below meth c H locs 0 0 (tZV G below args s st') (F0 m 86 ls []) := by
  have hx := S.1
  have hb := S.2.1
  have hown := S.2.2.2.1
  have hts := S.2.2.2.2
  intro n
  induction n with
  | zero => intro x1 x2 x3 st H locs ls hI hl hf; exact nomatch (show (none : Option (tST)) = some _ from hf)
  | succ n ih =>
    intro x1 x2 x3 st H locs ls hI hl hf
    rw [f_X1_openGap_86] at hf
    refine lv_iload_n hx hb dX1_openGap_86 rfl (lv_at hl 3 rfl) ?_
    refine lv_aload_n hx hb dX1_openGap_87 rfl (lv_at hl 0 rfl) ?_
    refine tg_X1_4 S hI mw_42 dX1_openGap_88 ?_
    refine tk_icmp_ge (tgt := 120) hx hb hf dX1_openGap_91 (by decide) (fun hf => ?_) (fun hf => ?_)
    · exact tk_rvW S hr hlk hI hf dX1_openGap_120
    · refine lv_aload_n hx hb dX1_openGap_94 rfl (lv_at hl 0 rfl) ?_
      refine tg_X1_1 S hI mw_39 dX1_openGap_95 ?_
      refine lv_iload_n hx hb dX1_openGap_98 rfl (lv_at hl 3 rfl) ?_
      refine tk_iald S hI (k := 5) (n := 90) rfl hf dX1_openGap_99 (fun v1 hf => ?_)
      refine lv_iload_n hx hb dX1_openGap_100 rfl (lv_at hl 1 rfl) ?_
      refine tk_icmp_lt (tgt := 114) hx hb hf dX1_openGap_101 (by decide) (fun hf => ?_) (fun hf => ?_)
      · refine tk_let hf (fun i2 ei2 hf => ?_)
        refine lv_iinc (v := i2) (lv' := [(3, .int i2), (0, .ref (tad G 3)), (1, .int x1), (2, .int x2)]) hx hb dX1_openGap_114 hl (k := 3) rfl (by rw [ei2]; rfl) (by decide) rfl (fun ls hl => ?_)
        refine lv_goto (tgt := 86) hx hb dX1_openGap_117 (by decide) ?_
        exact ih x1 x2 i2 st _ _ _ hI (lv_sub hl [1, 2, 3, 0] rfl) hf
      · refine lv_aload_n hx hb dX1_openGap_104 rfl (lv_at hl 0 rfl) ?_
        refine tg_X1_1 S hI mw_39 dX1_openGap_105 ?_
        refine lv_iload_n hx hb dX1_openGap_108 rfl (lv_at hl 3 rfl) ?_
        refine lv_dup2_11 hx hb dX1_openGap_109 rfl rfl ?_
        refine tk_iald S hI (k := 5) (n := 90) rfl hf dX1_openGap_110 (fun v3 hf => ?_)
        refine lv_iload_n hx hb dX1_openGap_111 rfl (lv_at hl 2 rfl) ?_
        refine lv_iadd hx hb dX1_openGap_112 ?_
        refine tk_iast S hI (k := 5) (n := 90) rfl (twa_5 G _) hf dX1_openGap_113 (fun s4 H locs hI hf => ?_)
        refine tk_let hf (fun i5 ei5 hf => ?_)
        refine lv_iinc (v := i5) (lv' := [(3, .int i5), (0, .ref (tad G 3)), (1, .int x1), (2, .int x2)]) hx hb dX1_openGap_114 hl (k := 3) rfl (by rw [ei5]; rfl) (by decide) rfl (fun ls hl => ?_)
        refine lv_goto (tgt := 86) hx hb dX1_openGap_117 (by decide) ?_
        exact ih x1 x2 i5 s4 _ _ _ hI (lv_sub hl [1, 2, 3, 0] rfl) hf
set_option maxHeartbeats 4000000 in
set_option maxRecDepth 100000 in
theorem k_X1_openGap_7 {l : Launch} {G : tG} {p : Program} {e : Env} {s : State} {m : MethodId} {below : List Frame} {meth : Method} {c : Code} {args : Array Value} {st' : tST} (S : CallFix p m c cX1_openGap 4 s args wsL_law RX1) (hr : meth.sig.returnType = none) (hlk : meth.locks = false) : ∀ (n : Nat) (x1 : Int32) (x2 : Int32) (x3 : Int32) (st : tST) (H : Heap) (locs : List Loc) (ls : Array Slot), tIn G (tA G s.heap.size) s st H locs → lv_has ls 4 [(0, .ref (tad G 3)), (1, .int x1), (2, .int x2), (3, .int x3)] → f_X1_openGap_7 n x1 x2 x3 st = some st' → W p l e rm_X1_openGap s m args below meth c H locs 0 0 (tZV G below args s st') (F0 m 7 ls []) := by
  have hx := S.1
  have hb := S.2.1
  have hown := S.2.2.2.1
  have hts := S.2.2.2.2
  intro n
  induction n with
  | zero => intro x1 x2 x3 st H locs ls hI hl hf; exact nomatch (show (none : Option (tST)) = some _ from hf)
  | succ n ih =>
    intro x1 x2 x3 st H locs ls hI hl hf
    rw [f_X1_openGap_7] at hf
    refine lv_iload_n hx hb dX1_openGap_7 rfl (lv_at hl 3 rfl) ?_
    refine lv_iload_n hx hb dX1_openGap_8 rfl (lv_at hl 1 rfl) ?_
    refine tk_icmp_lt (tgt := 74) hx hb hf dX1_openGap_9 (by decide) (fun hf => ?_) (fun hf => ?_)
    · refine lv_aload_n hx hb dX1_openGap_74 rfl (lv_at hl 0 rfl) ?_
      refine lv_dup hx hb dX1_openGap_75 rfl ?_
      refine tg_X1_4 S hI mw_42 dX1_openGap_76 ?_
      refine lv_iload_n hx hb dX1_openGap_79 rfl (lv_at hl 2 rfl) ?_
      refine lv_iadd hx hb dX1_openGap_80 ?_
      refine tp_X1_4 S hI mw_42 hf dX1_openGap_81 (fun s1 H locs hI hf => ?_)
      refine lv_iconst (v := 0) hx hb dX1_openGap_84 (by decide) ?_
      refine lv_istore_n (lv' := [(3, .int (0 : Int32)), (0, .ref (tad G 3)), (1, .int x1), (2, .int x2)]) hx hb dX1_openGap_85 rfl hl (by decide) rfl (fun ls hl => ?_)
      exact k_X1_openGap_86 S hr hlk tfu x1 x2 (0 : Int32) s1 _ _ _ hI (lv_sub hl [1, 2, 3, 0] rfl) hf
    · refine lv_aload_n hx hb dX1_openGap_12 rfl (lv_at hl 0 rfl) ?_
      refine tg_X1_0 S hI mw_38 dX1_openGap_13 ?_
      refine lv_iload_n hx hb dX1_openGap_16 rfl (lv_at hl 3 rfl) ?_
      refine lv_iload_n hx hb dX1_openGap_17 rfl (lv_at hl 2 rfl) ?_
      refine lv_iadd hx hb dX1_openGap_18 ?_
      refine lv_aload_n hx hb dX1_openGap_19 rfl (lv_at hl 0 rfl) ?_
      refine tg_X1_0 S hI mw_38 dX1_openGap_20 ?_
      refine lv_iload_n hx hb dX1_openGap_23 rfl (lv_at hl 3 rfl) ?_
      refine tk_iald S hI (k := 4) (n := 90) rfl hf dX1_openGap_24 (fun v2 hf => ?_)
      refine tk_iast S hI (k := 4) (n := 90) rfl (twa_4 G _) hf dX1_openGap_25 (fun s3 H locs hI hf => ?_)
      refine lv_aload_n hx hb dX1_openGap_26 rfl (lv_at hl 0 rfl) ?_
      refine tg_X1_1 S hI mw_39 dX1_openGap_27 ?_
      refine lv_iload_n hx hb dX1_openGap_30 rfl (lv_at hl 3 rfl) ?_
      refine lv_iload_n hx hb dX1_openGap_31 rfl (lv_at hl 2 rfl) ?_
      refine lv_iadd hx hb dX1_openGap_32 ?_
      refine lv_aload_n hx hb dX1_openGap_33 rfl (lv_at hl 0 rfl) ?_
      refine tg_X1_1 S hI mw_39 dX1_openGap_34 ?_
      refine lv_iload_n hx hb dX1_openGap_37 rfl (lv_at hl 3 rfl) ?_
      refine tk_iald S hI (k := 5) (n := 90) rfl hf dX1_openGap_38 (fun v4 hf => ?_)
      refine tk_iast S hI (k := 5) (n := 90) rfl (twa_5 G _) hf dX1_openGap_39 (fun s5 H locs hI hf => ?_)
      refine lv_aload_n hx hb dX1_openGap_40 rfl (lv_at hl 0 rfl) ?_
      refine tg_X1_2 S hI mw_40 dX1_openGap_41 ?_
      refine lv_iload_n hx hb dX1_openGap_44 rfl (lv_at hl 3 rfl) ?_
      refine lv_iload_n hx hb dX1_openGap_45 rfl (lv_at hl 2 rfl) ?_
      refine lv_iadd hx hb dX1_openGap_46 ?_
      refine lv_aload_n hx hb dX1_openGap_47 rfl (lv_at hl 0 rfl) ?_
      refine tg_X1_2 S hI mw_40 dX1_openGap_48 ?_
      refine lv_iload_n hx hb dX1_openGap_51 rfl (lv_at hl 3 rfl) ?_
      refine tk_iald S hI (k := 6) (n := 90) rfl hf dX1_openGap_52 (fun v6 hf => ?_)
      refine tk_iast S hI (k := 6) (n := 90) rfl (twa_6 G _) hf dX1_openGap_53 (fun s7 H locs hI hf => ?_)
      refine lv_aload_n hx hb dX1_openGap_54 rfl (lv_at hl 0 rfl) ?_
      refine tg_X1_3 S hI mw_41 dX1_openGap_55 ?_
      refine lv_iload_n hx hb dX1_openGap_58 rfl (lv_at hl 3 rfl) ?_
      refine lv_iload_n hx hb dX1_openGap_59 rfl (lv_at hl 2 rfl) ?_
      refine lv_iadd hx hb dX1_openGap_60 ?_
      refine lv_aload_n hx hb dX1_openGap_61 rfl (lv_at hl 0 rfl) ?_
      refine tg_X1_3 S hI mw_41 dX1_openGap_62 ?_
      refine lv_iload_n hx hb dX1_openGap_65 rfl (lv_at hl 3 rfl) ?_
      refine tk_iald S hI (k := 7) (n := 90) rfl hf dX1_openGap_66 (fun v8 hf => ?_)
      refine tk_iast S hI (k := 7) (n := 90) rfl (twa_7 G _) hf dX1_openGap_67 (fun s9 H locs hI hf => ?_)
      refine tk_let hf (fun i10 ei10 hf => ?_)
      refine lv_iinc (v := i10) (lv' := [(3, .int i10), (0, .ref (tad G 3)), (1, .int x1), (2, .int x2)]) hx hb dX1_openGap_68 hl (k := 3) rfl (by rw [ei10]; rfl) (by decide) rfl (fun ls hl => ?_)
      refine lv_goto (tgt := 7) hx hb dX1_openGap_71 (by decide) ?_
      exact ih x1 x2 i10 s9 _ _ _ hI (lv_sub hl [1, 2, 3, 0] rfl) hf
set_option maxHeartbeats 4000000 in
set_option maxRecDepth 100000 in
theorem c_X1_openGap (l : Launch) (G : tG) (st : tST) (x1 : Int32) (x2 : Int32) {st' : tST} (hf : f_X1_openGap x1 x2 st = some st') : tCV l G yX1_openGap cX1_openGap 4 none rm_X1_openGap [.ref (tad G 3), .int x1, .int x2] st st' := by
  refine tk_entV (by decide +kernel) (Nat.le_of_ble_eq_true rfl) (fun p e s m below meth c ls S hr hlk hI hl => ?_)
  have hl : lv_has ls 4 [(0, .ref (tad G 3)), (1, .int x1), (2, .int x2)] := hl
  have S : CallFix p m c cX1_openGap 4 s [.ref (tad G 3), .int x1, .int x2].toArray wsL_law RX1 := S
  have hx := S.1
  have hb := S.2.1
  have hown := S.2.2.2.1
  have hts := S.2.2.2.2
  unfold f_X1_openGap at hf
  refine lv_aload_n hx hb dX1_openGap_0 rfl (lv_at hl 0 rfl) ?_
  refine tg_X1_4 S hI mw_42 dX1_openGap_1 ?_
  refine lv_iconst (v := 1) hx hb dX1_openGap_4 (by decide) ?_
  refine lv_isub hx hb dX1_openGap_5 ?_
  refine tk_topi hf (fun i1 hf => ?_)
  refine lv_istore_n (lv' := [(3, .int i1), (0, .ref (tad G 3)), (1, .int x1), (2, .int x2)]) hx hb dX1_openGap_6 rfl hl (by decide) rfl (fun ls hl => ?_)
  exact k_X1_openGap_7 S hr hlk tfu x1 x2 i1 st _ _ _ hI (lv_sub hl [1, 2, 3, 0] rfl) hf
/-! X1_put -/
abbrev rm_X1_put : Room := { frames := 0, cells := 0, slots := 0, locals := 0 }
def f_X1_put (x1 : Int32) (x2 : Int32) (x3 : Int32) (x4 : Int32) (st : tST) : Option (tST) := tas 90 x1 (tp_A st 4 (x1).toNatClampNeg x2) (fun s1 => tas 90 x1 (tp_A s1 5 (x1).toNatClampNeg x3) (fun s2 => tas 90 x1 (tp_A s2 6 (x1).toNatClampNeg x4) (fun s3 => tas 90 x1 (tp_A s3 7 (x1).toNatClampNeg (0 : Int32)) (fun s4 => (if x3 = (-1 : Int32) then some s4 else tal 90 (tg_A s4 7) x3 (fun v5 => tas 90 x3 (tp_A s4 7 (x3).toNatClampNeg (v5 ||| ((1 : Int32) <<< (x4 &&& (31 : Int32))))) (fun s6 => some s6)))))))
theorem yd_X1_put : yX1_put.cls = RX1 ∧ yX1_put.cls ≠ "java/lang/invoke/MethodHandle" ∧ yX1_put.cls ≠ "java/lang/invoke/VarHandle" ∧ (parseMethodDescriptor yX1_put.desc).map (fun d => d.parameters.length) = some 4 := by decide +kernel
set_option maxHeartbeats 4000000 in
set_option maxRecDepth 100000 in
theorem c_X1_put (l : Launch) (G : tG) (st : tST) (x1 : Int32) (x2 : Int32) (x3 : Int32) (x4 : Int32) {st' : tST} (hf : f_X1_put x1 x2 x3 x4 st = some st') : tCV l G yX1_put cX1_put 5 none rm_X1_put [.ref (tad G 3), .int x1, .int x2, .int x3, .int x4] st st' := by
  refine tk_entV (by decide +kernel) (Nat.le_of_ble_eq_true rfl) (fun p e s m below meth c ls S hr hlk hI hl => ?_)
  have hl : lv_has ls 5 [(0, .ref (tad G 3)), (1, .int x1), (2, .int x2), (3, .int x3), (4, .int x4)] := hl
  have S : CallFix p m c cX1_put 5 s [.ref (tad G 3), .int x1, .int x2, .int x3, .int x4].toArray wsL_law RX1 := S
  have hx := S.1
  have hb := S.2.1
  have hown := S.2.2.2.1
  have hts := S.2.2.2.2
  unfold f_X1_put at hf
  refine lv_aload_n hx hb dX1_put_0 rfl (lv_at hl 0 rfl) ?_
  refine tg_X1_0 S hI mw_38 dX1_put_1 ?_
  refine lv_iload_n hx hb dX1_put_4 rfl (lv_at hl 1 rfl) ?_
  refine lv_iload_n hx hb dX1_put_5 rfl (lv_at hl 2 rfl) ?_
  refine tk_iast S hI (k := 4) (n := 90) rfl (twa_4 G _) hf dX1_put_6 (fun s1 H locs hI hf => ?_)
  refine lv_aload_n hx hb dX1_put_7 rfl (lv_at hl 0 rfl) ?_
  refine tg_X1_1 S hI mw_39 dX1_put_8 ?_
  refine lv_iload_n hx hb dX1_put_11 rfl (lv_at hl 1 rfl) ?_
  refine lv_iload_n hx hb dX1_put_12 rfl (lv_at hl 3 rfl) ?_
  refine tk_iast S hI (k := 5) (n := 90) rfl (twa_5 G _) hf dX1_put_13 (fun s2 H locs hI hf => ?_)
  refine lv_aload_n hx hb dX1_put_14 rfl (lv_at hl 0 rfl) ?_
  refine tg_X1_2 S hI mw_40 dX1_put_15 ?_
  refine lv_iload_n hx hb dX1_put_18 rfl (lv_at hl 1 rfl) ?_
  refine lv_iload hx hb dX1_put_19 (lv_at hl 4 rfl) ?_
  refine tk_iast S hI (k := 6) (n := 90) rfl (twa_6 G _) hf dX1_put_21 (fun s3 H locs hI hf => ?_)
  refine lv_aload_n hx hb dX1_put_22 rfl (lv_at hl 0 rfl) ?_
  refine tg_X1_3 S hI mw_41 dX1_put_23 ?_
  refine lv_iload_n hx hb dX1_put_26 rfl (lv_at hl 1 rfl) ?_
  refine lv_iconst (v := 0) hx hb dX1_put_27 (by decide) ?_
  refine tk_iast S hI (k := 7) (n := 90) rfl (twa_7 G _) hf dX1_put_28 (fun s4 H locs hI hf => ?_)
  refine lv_iload_n hx hb dX1_put_29 rfl (lv_at hl 3 rfl) ?_
  refine lv_iconst (v := -1) hx hb dX1_put_30 (by decide) ?_
  refine tk_icmp_eq (tgt := 47) hx hb hf dX1_put_31 (by decide) (fun hf => ?_) (fun hf => ?_)
  · exact tk_rvW S hr hlk hI hf dX1_put_47
  · refine lv_aload_n hx hb dX1_put_34 rfl (lv_at hl 0 rfl) ?_
    refine tg_X1_3 S hI mw_41 dX1_put_35 ?_
    refine lv_iload_n hx hb dX1_put_38 rfl (lv_at hl 3 rfl) ?_
    refine lv_dup2_11 hx hb dX1_put_39 rfl rfl ?_
    refine tk_iald S hI (k := 7) (n := 90) rfl hf dX1_put_40 (fun v5 hf => ?_)
    refine lv_iconst (v := 1) hx hb dX1_put_41 (by decide) ?_
    refine lv_iload hx hb dX1_put_42 (lv_at hl 4 rfl) ?_
    refine lv_ishl hx hb dX1_put_44 ?_
    refine lv_ior hx hb dX1_put_45 ?_
    refine tk_iast S hI (k := 7) (n := 90) rfl (twa_7 G _) hf dX1_put_46 (fun s6 H locs hI hf => ?_)
    exact tk_rvW S hr hlk hI hf dX1_put_47
/-! X3_addLetter -/
abbrev rm_X3_addLetter : Room := { frames := 1, cells := 0, slots := 0, locals := 24 }
def f_X3_addLetter (x1 : Int32) (x2 : Int32) (x3 : Int32) (st : tST) : Option (tST) := tas 64 (tg_I st 1) (tp_A st 2 ((tg_I st 1)).toNatClampNeg x1) (fun s1 => (f_X1_openGap x2 (1 : Int32) s1).bind (fun s2 => (f_X1_put x2 (tg_I s2 1) (-1 : Int32) x3 s2).bind (fun s3 => tlet (tp_I s3 1 ((tg_I s3 1) + (1 : Int32))) (fun s4 => some s4))))
theorem yd_X3_addLetter : yX3_addLetter.cls = RX3 ∧ yX3_addLetter.cls ≠ "java/lang/invoke/MethodHandle" ∧ yX3_addLetter.cls ≠ "java/lang/invoke/VarHandle" ∧ (parseMethodDescriptor yX3_addLetter.desc).map (fun d => d.parameters.length) = some 3 := by decide +kernel
set_option maxHeartbeats 4000000 in
set_option maxRecDepth 100000 in
theorem c_X3_addLetter (l : Launch) (G : tG) (st : tST) (x1 : Int32) (x2 : Int32) (x3 : Int32) {st' : tST} (hf : f_X3_addLetter x1 x2 x3 st = some st') : tCV l G yX3_addLetter cX3_addLetter 4 none rm_X3_addLetter [.ref (tad G 0), .int x1, .int x2, .int x3] st st' := by
  refine tk_entV (by decide +kernel) (Nat.le_of_ble_eq_true rfl) (fun p e s m below meth c ls S hr hlk hI hl => ?_)
  have hl : lv_has ls 4 [(0, .ref (tad G 0)), (1, .int x1), (2, .int x2), (3, .int x3)] := hl
  have S : CallFix p m c cX3_addLetter 4 s [.ref (tad G 0), .int x1, .int x2, .int x3].toArray wsL_law RX3 := S
  have hx := S.1
  have hb := S.2.1
  have hown := S.2.2.2.1
  have hts := S.2.2.2.2
  unfold f_X3_addLetter at hf
  refine lv_aload_n hx hb dX3_addLetter_0 rfl (lv_at hl 0 rfl) ?_
  refine tg_X3_2 S hI mw_15 dX3_addLetter_1 ?_
  refine lv_aload_n hx hb dX3_addLetter_4 rfl (lv_at hl 0 rfl) ?_
  refine tg_X3_3 S hI mw_16 dX3_addLetter_5 ?_
  refine lv_iload_n hx hb dX3_addLetter_8 rfl (lv_at hl 1 rfl) ?_
  refine tk_iast S hI (k := 2) (n := 64) rfl (twa_2 G _) hf dX3_addLetter_9 (fun s1 H locs hI hf => ?_)
  refine lv_aload_n hx hb dX3_addLetter_10 rfl (lv_at hl 0 rfl) ?_
  refine tg_X3_5 S hI mw_21 dX3_addLetter_11 ?_
  refine lv_iload_n hx hb dX3_addLetter_14 rfl (lv_at hl 2 rfl) ?_
  refine lv_iconst (v := 1) hx hb dX3_addLetter_15 (by decide) ?_
  refine tk_bd hf (fun s2 hq hf => ?_)
  refine tk_vV S hI hl.1 (c_X1_openGap l G s1 x2 (1 : Int32) hq) (cwV 2 hts (tk_gV mw_120 mw_121 mw_122 mw_20 mw_123) rfl rfl rfl yd_X1_openGap ⟨Nat.le_of_ble_eq_true rfl, Nat.le_of_ble_eq_true rfl⟩) 3 1 rfl rfl rfl rfl [] rfl (Nat.le_of_ble_eq_true rfl) dX3_addLetter_16 (fun H locs hI => ?_)
  refine lv_aload_n hx hb dX3_addLetter_19 rfl (lv_at hl 0 rfl) ?_
  refine tg_X3_5 S hI mw_21 dX3_addLetter_20 ?_
  refine lv_iload_n hx hb dX3_addLetter_23 rfl (lv_at hl 2 rfl) ?_
  refine lv_aload_n hx hb dX3_addLetter_24 rfl (lv_at hl 0 rfl) ?_
  refine tg_X3_3 S hI mw_16 dX3_addLetter_25 ?_
  refine lv_iconst (v := -1) hx hb dX3_addLetter_28 (by decide) ?_
  refine lv_iload_n hx hb dX3_addLetter_29 rfl (lv_at hl 3 rfl) ?_
  refine tk_bd hf (fun s3 hq hf => ?_)
  refine tk_vV S hI hl.1 (c_X1_put l G s2 x2 (tg_I s2 1) (-1 : Int32) x3 hq) (cwV 4 hts (tk_gV mw_124 mw_125 mw_126 mw_20 mw_127) rfl rfl rfl yd_X1_put ⟨Nat.le_of_ble_eq_true rfl, Nat.le_of_ble_eq_true rfl⟩) 3 1 rfl rfl rfl rfl [] rfl (Nat.le_of_ble_eq_true rfl) dX3_addLetter_30 (fun H locs hI => ?_)
  refine lv_aload_n hx hb dX3_addLetter_33 rfl (lv_at hl 0 rfl) ?_
  refine lv_dup hx hb dX3_addLetter_34 rfl ?_
  refine tg_X3_3 S hI mw_16 dX3_addLetter_35 ?_
  refine lv_iconst (v := 1) hx hb dX3_addLetter_38 (by decide) ?_
  refine lv_iadd hx hb dX3_addLetter_39 ?_
  refine tp_X3_3 S hI mw_16 hf dX3_addLetter_40 (fun s4 H locs hI hf => ?_)
  exact tk_rvW S hr hlk hI hf dX3_addLetter_43
/-! X3_firstLetters -/
abbrev rm_X3_firstLetters : Room := { frames := 0, cells := 0, slots := 0, locals := 0 }
def f_X3_firstLetters (x0 : Int32) : Option (Int64) := (if x0 < (64 : Int32) then some (((1 : Int64) <<< (x0.toInt64 &&& (63 : Int64))) - (1 : Int64)) else some (-1 : Int64))
theorem yd_X3_firstLetters : yX3_firstLetters.cls ≠ "java/lang/invoke/MethodHandle" ∧ yX3_firstLetters.cls ≠ "java/lang/invoke/VarHandle" ∧ (parseMethodDescriptor yX3_firstLetters.desc).map (fun d => d.parameters.length) = some 1 := by decide +kernel
set_option maxHeartbeats 4000000 in
set_option maxRecDepth 100000 in
theorem c_X3_firstLetters (l : Launch) (G : tG) (st : tST) (x0 : Int32) {r : Int64} (hf : f_X3_firstLetters x0 = some r) : tCL l G yX3_firstLetters cX3_firstLetters 1 (some .long) rm_X3_firstLetters [.int x0] st r st := by
  refine tk_entL (by decide +kernel) (Nat.le_of_ble_eq_true rfl) (fun p e s m below meth c ls S hr hlk hI hl => ?_)
  have hl : lv_has ls 1 [(0, .int x0)] := hl
  have S : CallFix p m c cX3_firstLetters 1 s [.int x0].toArray wsL_law RX3 := S
  have hx := S.1
  have hb := S.2.1
  have hown := S.2.2.2.1
  have hts := S.2.2.2.2
  unfold f_X3_firstLetters at hf
  refine lv_iload_n hx hb dX3_firstLetters_0 rfl (lv_at hl 0 rfl) ?_
  refine lv_bipush (v := 64) hx hb dX3_firstLetters_1 (by decide) ?_
  refine tk_icmp_lt (tgt := 12) hx hb hf dX3_firstLetters_3 (by decide) (fun hf => ?_) (fun hf => ?_)
  · refine lv_lconst (v := 1) hx hb dX3_firstLetters_12 (by decide) ?_
    refine lv_iload_n hx hb dX3_firstLetters_13 rfl (lv_at hl 0 rfl) ?_
    refine lv_lshl hx hb dX3_firstLetters_14 rfl ?_
    refine lv_lconst (v := 1) hx hb dX3_firstLetters_15 (by decide) ?_
    refine lv_lsub hx hb dX3_firstLetters_16 ?_
    exact tk_rlR S hr hlk hI hf dX3_firstLetters_17
  · refine lv_ldc2 (v := -1) hx hb hown (hts _ mw_131) dX3_firstLetters_6 ?_
    refine lv_goto (tgt := 17) hx hb dX3_firstLetters_9 (by decide) ?_
    exact tk_rlR S hr hlk hI hf dX3_firstLetters_17
/-! X3_startText@1 -/
abbrev rm_X3_startText_a1 : Room := { frames := 2, cells := 0, slots := 0, locals := 47 }
def f_X3_startText_a1_23 : Nat → Int32 → Int32 → tST → Option (tST)
  | 0, _, _, _ => none
  | n + 1, x2, x3, st => (if x2 ≤ x3 then (f_X3_firstLetters (tg_I st 1)).bind (fun r1 => tlet (tp_L st 0 r1) (fun s2 => some s2)) else (if (64 : Int32) ≤ x3 then (f_X3_firstLetters (tg_I st 1)).bind (fun r3 => tlet (tp_L st 0 r3) (fun s4 => some s4)) else tal 40 (tg_A st 1) x3 (fun v5 => (f_X3_addLetter v5 x3 (-1 : Int32) st).bind (fun s6 => tlet (x3 + (1 : Int32)) (fun i7 => f_X3_startText_a1_23 n x2 i7 s6)))))
def f_X3_startText_a1 (x2 : Int32) (st : tST) : Option (tST) := tlet (tp_I st 6 (0 : Int32)) (fun s1 => tlet (tp_I s1 7 (0 : Int32)) (fun s2 => tlet (tp_I s2 1 (0 : Int32)) (fun s3 => f_X3_startText_a1_23 tfu x2 (0 : Int32) s3)))
theorem yd_X3_startText : yX3_startText.cls = RX3 ∧ yX3_startText.cls ≠ "java/lang/invoke/MethodHandle" ∧ yX3_startText.cls ≠ "java/lang/invoke/VarHandle" ∧ (parseMethodDescriptor yX3_startText.desc).map (fun d => d.parameters.length) = some 2 := by decide +kernel
set_option maxHeartbeats 4000000 in
set_option maxRecDepth 100000 in
theorem k_X3_startText_a1_23 {l : Launch} {G : tG} {p : Program} {e : Env} {s : State} {m : MethodId} {below : List Frame} {meth : Method} {c : Code} {args : Array Value} {st' : tST} (S : CallFix p m c cX3_startText 4 s args wsL_law RX3) (hr : meth.sig.returnType = none) (hlk : meth.locks = false) : ∀ (n : Nat) (x2 : Int32) (x3 : Int32) (st : tST) (H : Heap) (locs : List Loc) (ls : Array Slot), tIn G (tA G s.heap.size) s st H locs → lv_has ls 4 [(0, .ref (tad G 0)), (1, .ref (tad G 1)), (2, .int x2), (3, .int x3)] → f_X3_startText_a1_23 n x2 x3 st = some st' → W p l e rm_X3_startText_a1 s m args below meth c H locs 0 0 (tZV G below args s st') (F0 m 23 ls []) := by
  have hx := S.1
  have hb := S.2.1
  have hown := S.2.2.2.1
  have hts := S.2.2.2.2
  intro n
  induction n with
  | zero => intro x2 x3 st H locs ls hI hl hf; exact nomatch (show (none : Option (tST)) = some _ from hf)
  | succ n ih =>
    intro x2 x3 st H locs ls hI hl hf
    rw [f_X3_startText_a1_23] at hf
    refine lv_iload_n hx hb dX3_startText_23 rfl (lv_at hl 3 rfl) ?_
    refine lv_iload_n hx hb dX3_startText_24 rfl (lv_at hl 2 rfl) ?_
    refine tk_icmp_ge (tgt := 49) hx hb hf dX3_startText_25 (by decide) (fun hf => ?_) (fun hf => ?_)
    · refine lv_aload_n hx hb dX3_startText_49 rfl (lv_at hl 0 rfl) ?_
      refine lv_aload_n hx hb dX3_startText_50 rfl (lv_at hl 0 rfl) ?_
      refine tg_X3_3 S hI mw_16 dX3_startText_51 ?_
      refine tk_bd hf (fun r1 hq hf => ?_)
      refine tk_sL S hI hl.1 (c_X3_firstLetters l G st (tg_I st 1) hq) (va_cwS 1 hts (tk_gS mw_128 mw_129 mw_2 mw_130) rfl rfl rfl yd_X3_firstLetters ⟨Nat.le_of_ble_eq_true rfl, Nat.le_of_ble_eq_true rfl⟩) rfl [.ref (tad G 0)] rfl (Nat.le_of_ble_eq_true rfl) dX3_startText_54 (fun H locs hI => ?_)
      refine tp_X3_4 S hI mw_17 hf dX3_startText_57 (fun s2 H locs hI hf => ?_)
      exact tk_rvW S hr hlk hI hf dX3_startText_60
    · refine lv_iload_n hx hb dX3_startText_28 rfl (lv_at hl 3 rfl) ?_
      refine lv_bipush (v := 64) hx hb dX3_startText_29 (by decide) ?_
      refine tk_icmp_ge (tgt := 49) hx hb hf dX3_startText_31 (by decide) (fun hf => ?_) (fun hf => ?_)
      · refine lv_aload_n hx hb dX3_startText_49 rfl (lv_at hl 0 rfl) ?_
        refine lv_aload_n hx hb dX3_startText_50 rfl (lv_at hl 0 rfl) ?_
        refine tg_X3_3 S hI mw_16 dX3_startText_51 ?_
        refine tk_bd hf (fun r3 hq hf => ?_)
        refine tk_sL S hI hl.1 (c_X3_firstLetters l G st (tg_I st 1) hq) (va_cwS 1 hts (tk_gS mw_128 mw_129 mw_2 mw_130) rfl rfl rfl yd_X3_firstLetters ⟨Nat.le_of_ble_eq_true rfl, Nat.le_of_ble_eq_true rfl⟩) rfl [.ref (tad G 0)] rfl (Nat.le_of_ble_eq_true rfl) dX3_startText_54 (fun H locs hI => ?_)
        refine tp_X3_4 S hI mw_17 hf dX3_startText_57 (fun s4 H locs hI hf => ?_)
        exact tk_rvW S hr hlk hI hf dX3_startText_60
      · refine lv_aload_n hx hb dX3_startText_34 rfl (lv_at hl 0 rfl) ?_
        refine lv_aload_n hx hb dX3_startText_35 rfl (lv_at hl 1 rfl) ?_
        refine lv_iload_n hx hb dX3_startText_36 rfl (lv_at hl 3 rfl) ?_
        refine tk_iald S hI (k := 1) (n := 40) rfl hf dX3_startText_37 (fun v5 hf => ?_)
        refine lv_iload_n hx hb dX3_startText_38 rfl (lv_at hl 3 rfl) ?_
        refine lv_iconst (v := -1) hx hb dX3_startText_39 (by decide) ?_
        refine tk_bd hf (fun s6 hq hf => ?_)
        refine tk_vV S hI hl.1 (c_X3_addLetter l G st v5 x3 (-1 : Int32) hq) (cwV 3 hts (tk_gV mw_116 mw_117 mw_118 mw_2 mw_119) rfl rfl rfl yd_X3_addLetter ⟨Nat.le_of_ble_eq_true rfl, Nat.le_of_ble_eq_true rfl⟩) 0 3 rfl rfl rfl rfl [] rfl (Nat.le_of_ble_eq_true rfl) dX3_startText_40 (fun H locs hI => ?_)
        refine tk_let hf (fun i7 ei7 hf => ?_)
        refine lv_iinc (v := i7) (lv' := [(3, .int i7), (0, .ref (tad G 0)), (1, .ref (tad G 1)), (2, .int x2)]) hx hb dX3_startText_43 hl (k := 3) rfl (by rw [ei7]; rfl) (by decide) rfl (fun ls hl => ?_)
        refine lv_goto (tgt := 23) hx hb dX3_startText_46 (by decide) ?_
        exact ih x2 i7 s6 _ _ _ hI (lv_sub hl [1, 2, 3, 0] rfl) hf
set_option maxHeartbeats 4000000 in
set_option maxRecDepth 100000 in
theorem c_X3_startText_a1 (l : Launch) (G : tG) (st : tST) (x2 : Int32) {st' : tST} (hf : f_X3_startText_a1 x2 st = some st') : tCV l G yX3_startText cX3_startText 4 none rm_X3_startText_a1 [.ref (tad G 0), .ref (tad G 1), .int x2] st st' := by
  refine tk_entV (by decide +kernel) (Nat.le_of_ble_eq_true rfl) (fun p e s m below meth c ls S hr hlk hI hl => ?_)
  have hl : lv_has ls 4 [(0, .ref (tad G 0)), (1, .ref (tad G 1)), (2, .int x2)] := hl
  have S : CallFix p m c cX3_startText 4 s [.ref (tad G 0), .ref (tad G 1), .int x2].toArray wsL_law RX3 := S
  have hx := S.1
  have hb := S.2.1
  have hown := S.2.2.2.1
  have hts := S.2.2.2.2
  unfold f_X3_startText_a1 at hf
  refine lv_aload_n hx hb dX3_startText_0 rfl (lv_at hl 0 rfl) ?_
  refine tg_X3_5 S hI mw_21 dX3_startText_1 ?_
  refine lv_iconst (v := 0) hx hb dX3_startText_4 (by decide) ?_
  refine tp_X1_4 S hI mw_114 hf dX3_startText_5 (fun s1 H locs hI hf => ?_)
  refine lv_aload_n hx hb dX3_startText_8 rfl (lv_at hl 0 rfl) ?_
  refine tg_X3_6 S hI mw_25 dX3_startText_9 ?_
  refine lv_iconst (v := 0) hx hb dX3_startText_12 (by decide) ?_
  refine tp_X0_5 S hI mw_115 hf dX3_startText_13 (fun s2 H locs hI hf => ?_)
  refine lv_aload_n hx hb dX3_startText_16 rfl (lv_at hl 0 rfl) ?_
  refine lv_iconst (v := 0) hx hb dX3_startText_17 (by decide) ?_
  refine tp_X3_3 S hI mw_16 hf dX3_startText_18 (fun s3 H locs hI hf => ?_)
  refine lv_iconst (v := 0) hx hb dX3_startText_21 (by decide) ?_
  refine lv_istore_n (lv' := [(3, .int (0 : Int32)), (0, .ref (tad G 0)), (1, .ref (tad G 1)), (2, .int x2)]) hx hb dX3_startText_22 rfl hl (by decide) rfl (fun ls hl => ?_)
  exact k_X3_startText_a1_23 S hr hlk tfu x2 (0 : Int32) s3 _ _ _ hI (lv_sub hl [1, 2, 3, 0] rfl) hf
/-! X3_begin -/
abbrev rm_X3_begin : Room := { frames := 3, cells := 0, slots := 0, locals := 70 }
def f_X3_begin (st : tST) : Option (Int32 × tST) := (f_X3_startText_a1 (tg_I st 0) st).bind (fun s1 => tlet (tp_I s1 0 (0 : Int32)) (fun s2 => tlet (tp_I s2 4 ((tg_I s2 4) + (1 : Int32))) (fun s3 => some ((tg_I s3 1), s3))))
theorem yd_X3_begin : yX3_begin.cls = RX3 ∧ yX3_begin.cls ≠ "java/lang/invoke/MethodHandle" ∧ yX3_begin.cls ≠ "java/lang/invoke/VarHandle" ∧ (parseMethodDescriptor yX3_begin.desc).map (fun d => d.parameters.length) = some 0 := by decide +kernel
set_option maxHeartbeats 4000000 in
set_option maxRecDepth 100000 in
theorem c_X3_begin (l : Launch) (G : tG) (st : tST) {r : Int32} {st' : tST} (hf : f_X3_begin st = some (r, st')) : tCI l G yX3_begin cX3_begin 1 (some .int) rm_X3_begin [.ref (tad G 0)] st r st' := by
  refine tk_entI (by decide +kernel) (Nat.le_of_ble_eq_true rfl) (fun p e s m below meth c ls S hr hlk hI hl => ?_)
  have hl : lv_has ls 1 [(0, .ref (tad G 0))] := hl
  have S : CallFix p m c cX3_begin 1 s [.ref (tad G 0)].toArray wsL_law RX3 := S
  have hx := S.1
  have hb := S.2.1
  have hown := S.2.2.2.1
  have hts := S.2.2.2.2
  unfold f_X3_begin at hf
  refine lv_aload_n hx hb dX3_begin_0 rfl (lv_at hl 0 rfl) ?_
  refine lv_aload_n hx hb dX3_begin_1 rfl (lv_at hl 0 rfl) ?_
  refine tg_X3_0 S hI mw_13 dX3_begin_2 ?_
  refine lv_aload_n hx hb dX3_begin_5 rfl (lv_at hl 0 rfl) ?_
  refine tg_X3_1 S hI mw_14 dX3_begin_6 ?_
  refine tk_bd hf (fun s1 hq hf => ?_)
  refine tk_vV S hI hl.1 (c_X3_startText_a1 l G st (tg_I st 0) hq) (cwV 2 hts (tk_gV mw_110 mw_111 mw_112 mw_2 mw_113) rfl rfl rfl yd_X3_startText ⟨Nat.le_of_ble_eq_true rfl, Nat.le_of_ble_eq_true rfl⟩) 0 3 rfl rfl rfl rfl [] rfl (Nat.le_of_ble_eq_true rfl) dX3_begin_9 (fun H locs hI => ?_)
  refine lv_aload_n hx hb dX3_begin_12 rfl (lv_at hl 0 rfl) ?_
  refine lv_iconst (v := 0) hx hb dX3_begin_13 (by decide) ?_
  refine tp_X3_1 S hI mw_14 hf dX3_begin_14 (fun s2 H locs hI hf => ?_)
  refine lv_aload_n hx hb dX3_begin_17 rfl (lv_at hl 0 rfl) ?_
  refine lv_dup hx hb dX3_begin_18 rfl ?_
  refine tg_X3_11 S hI mw_33 dX3_begin_19 ?_
  refine lv_iconst (v := 1) hx hb dX3_begin_22 (by decide) ?_
  refine lv_iadd hx hb dX3_begin_23 ?_
  refine tp_X3_11 S hI mw_33 hf dX3_begin_24 (fun s3 H locs hI hf => ?_)
  refine lv_aload_n hx hb dX3_begin_27 rfl (lv_at hl 0 rfl) ?_
  refine tg_X3_3 S hI mw_16 dX3_begin_28 ?_
  exact tk_riW S hr hlk hI hf dX3_begin_31
/-! X3_isAuthor -/
abbrev rm_X3_isAuthor : Room := { frames := 0, cells := 0, slots := 0, locals := 0 }
def f_X3_isAuthor (x0 : Int32) : Option (Int32) := (if x0 < 0 then tzr (0 : Int32) (some (0 : Int32)) else (if (4 : Int32) ≤ x0 then tzr (0 : Int32) (some (0 : Int32)) else tzr (1 : Int32) (some (1 : Int32))))
theorem yd_X3_isAuthor : yX3_isAuthor.cls ≠ "java/lang/invoke/MethodHandle" ∧ yX3_isAuthor.cls ≠ "java/lang/invoke/VarHandle" ∧ (parseMethodDescriptor yX3_isAuthor.desc).map (fun d => d.parameters.length) = some 1 := by decide +kernel
set_option maxHeartbeats 4000000 in
set_option maxRecDepth 100000 in
theorem c_X3_isAuthor (l : Launch) (G : tG) (st : tST) (x0 : Int32) {r : Int32} (hf : f_X3_isAuthor x0 = some r) : tCI l G yX3_isAuthor cX3_isAuthor 1 (some .boolean) rm_X3_isAuthor [.int x0] st r st := by
  refine tk_entI (by decide +kernel) (Nat.le_of_ble_eq_true rfl) (fun p e s m below meth c ls S hr hlk hI hl => ?_)
  have hl : lv_has ls 1 [(0, .int x0)] := hl
  have S : CallFix p m c cX3_isAuthor 1 s [.int x0].toArray wsL_law RX3 := S
  have hx := S.1
  have hb := S.2.1
  have hown := S.2.2.2.1
  have hts := S.2.2.2.2
  unfold f_X3_isAuthor at hf
  refine lv_iload_n hx hb dX3_isAuthor_0 rfl (lv_at hl 0 rfl) ?_
  refine tk_if_lt (tgt := 13) hx hb hf dX3_isAuthor_1 (by decide) (fun hf => ?_) (fun hf => ?_)
  · refine lv_iconst (v := 0) hx hb dX3_isAuthor_13 (by decide) ?_
    exact tk_rzR S hr hlk hI hf dX3_isAuthor_14
  · refine lv_iload_n hx hb dX3_isAuthor_4 rfl (lv_at hl 0 rfl) ?_
    refine lv_iconst (v := 4) hx hb dX3_isAuthor_5 (by decide) ?_
    refine tk_icmp_ge (tgt := 13) hx hb hf dX3_isAuthor_6 (by decide) (fun hf => ?_) (fun hf => ?_)
    · refine lv_iconst (v := 0) hx hb dX3_isAuthor_13 (by decide) ?_
      exact tk_rzR S hr hlk hI hf dX3_isAuthor_14
    · refine lv_iconst (v := 1) hx hb dX3_isAuthor_9 (by decide) ?_
      refine lv_goto (tgt := 14) hx hb dX3_isAuthor_10 (by decide) ?_
      exact tk_rzR S hr hlk hI hf dX3_isAuthor_14
/-! X0_inStatus -/
abbrev rm_X0_inStatus : Room := { frames := 0, cells := 0, slots := 0, locals := 0 }
def f_X0_inStatus_4 (st : tST)  : Nat → Int32 → Int32 → Int32 → Option (Int32)
  | 0, _, _, _ => none
  | n + 1, x1, x2, x3 => (if (tg_I st 7) ≤ x3 then some x2 else tal 12 (tg_A st 11) x3 (fun v1 => (if v1 = x1 then tlet (x2 ||| ((1 : Int32) <<< (x3 &&& (31 : Int32)))) (fun i3 => tlet (x3 + (1 : Int32)) (fun i4 => f_X0_inStatus_4 st n x1 i3 i4)) else tlet (x3 + (1 : Int32)) (fun i2 => f_X0_inStatus_4 st n x1 x2 i2))))
def f_X0_inStatus (x1 : Int32) (st : tST) : Option (Int32) := f_X0_inStatus_4 st tfu x1 (0 : Int32) (0 : Int32)
theorem yd_X0_inStatus : yX0_inStatus.cls = RX0 ∧ yX0_inStatus.cls ≠ "java/lang/invoke/MethodHandle" ∧ yX0_inStatus.cls ≠ "java/lang/invoke/VarHandle" ∧ (parseMethodDescriptor yX0_inStatus.desc).map (fun d => d.parameters.length) = some 1 := by decide +kernel
set_option maxHeartbeats 4000000 in
set_option maxRecDepth 100000 in
theorem k_X0_inStatus_4 {l : Launch} {G : tG} {p : Program} {e : Env} {s : State} {m : MethodId} {below : List Frame} {meth : Method} {c : Code} {args : Array Value} {r : Int32} {st : tST} (S : CallFix p m c cX0_inStatus 4 s args wsL_law RX0) (hr : meth.sig.returnType = (some .int)) (hlk : meth.locks = false) : ∀ (n : Nat) (x1 : Int32) (x2 : Int32) (x3 : Int32) (H : Heap) (locs : List Loc) (ls : Array Slot), tIn G (tA G s.heap.size) s st H locs → lv_has ls 4 [(0, .ref (tad G 8)), (1, .int x1), (2, .int x2), (3, .int x3)] → f_X0_inStatus_4 st n x1 x2 x3 = some r → W p l e rm_X0_inStatus s m args below meth c H locs 0 0 (tZI G below args s r st) (F0 m 4 ls []) := by
  have hx := S.1
  have hb := S.2.1
  have hown := S.2.2.2.1
  have hts := S.2.2.2.2
  intro n
  induction n with
  | zero => intro x1 x2 x3 H locs ls hI hl hf; exact nomatch (show (none : Option (Int32)) = some _ from hf)
  | succ n ih =>
    intro x1 x2 x3 H locs ls hI hl hf
    rw [f_X0_inStatus_4] at hf
    refine lv_iload_n hx hb dX0_inStatus_4 rfl (lv_at hl 3 rfl) ?_
    refine lv_aload_n hx hb dX0_inStatus_5 rfl (lv_at hl 0 rfl) ?_
    refine tg_X0_5 S hI mw_52 dX0_inStatus_6 ?_
    refine tk_icmp_ge (tgt := 34) hx hb hf dX0_inStatus_9 (by decide) (fun hf => ?_) (fun hf => ?_)
    · refine lv_iload_n hx hb dX0_inStatus_34 rfl (lv_at hl 2 rfl) ?_
      exact tk_riR S hr hlk hI hf dX0_inStatus_35
    · refine lv_aload_n hx hb dX0_inStatus_12 rfl (lv_at hl 0 rfl) ?_
      refine tg_X0_2 S hI mw_48 dX0_inStatus_13 ?_
      refine lv_iload_n hx hb dX0_inStatus_16 rfl (lv_at hl 3 rfl) ?_
      refine tk_iald S hI (k := 11) (n := 12) rfl hf dX0_inStatus_17 (fun v1 hf => ?_)
      refine lv_iload_n hx hb dX0_inStatus_18 rfl (lv_at hl 1 rfl) ?_
      refine tk_icmp_ne (tgt := 28) hx hb hf dX0_inStatus_19 (by decide) (fun hf => ?_) (fun hf => ?_)
      · refine tk_let hf (fun i2 ei2 hf => ?_)
        refine lv_iinc (v := i2) (lv' := [(3, .int i2), (0, .ref (tad G 8)), (1, .int x1), (2, .int x2)]) hx hb dX0_inStatus_28 hl (k := 3) rfl (by rw [ei2]; rfl) (by decide) rfl (fun ls hl => ?_)
        refine lv_goto (tgt := 4) hx hb dX0_inStatus_31 (by decide) ?_
        exact ih x1 x2 i2 _ _ _ hI (lv_sub hl [1, 2, 3, 0] rfl) hf
      · refine lv_iload_n hx hb dX0_inStatus_22 rfl (lv_at hl 2 rfl) ?_
        refine lv_iconst (v := 1) hx hb dX0_inStatus_23 (by decide) ?_
        refine lv_iload_n hx hb dX0_inStatus_24 rfl (lv_at hl 3 rfl) ?_
        refine lv_ishl hx hb dX0_inStatus_25 ?_
        refine lv_ior hx hb dX0_inStatus_26 ?_
        refine tk_topi hf (fun i3 hf => ?_)
        refine lv_istore_n (lv' := [(2, .int i3), (0, .ref (tad G 8)), (1, .int x1), (3, .int x3)]) hx hb dX0_inStatus_27 rfl hl (by decide) rfl (fun ls hl => ?_)
        refine tk_let hf (fun i4 ei4 hf => ?_)
        refine lv_iinc (v := i4) (lv' := [(3, .int i4), (2, .int i3), (0, .ref (tad G 8)), (1, .int x1)]) hx hb dX0_inStatus_28 hl (k := 3) rfl (by rw [ei4]; rfl) (by decide) rfl (fun ls hl => ?_)
        refine lv_goto (tgt := 4) hx hb dX0_inStatus_31 (by decide) ?_
        exact ih x1 i3 i4 _ _ _ hI (lv_sub hl [2, 3, 1, 0] rfl) hf
set_option maxHeartbeats 4000000 in
set_option maxRecDepth 100000 in
theorem c_X0_inStatus (l : Launch) (G : tG) (st : tST) (x1 : Int32) {r : Int32} (hf : f_X0_inStatus x1 st = some r) : tCI l G yX0_inStatus cX0_inStatus 4 (some .int) rm_X0_inStatus [.ref (tad G 8), .int x1] st r st := by
  refine tk_entI (by decide +kernel) (Nat.le_of_ble_eq_true rfl) (fun p e s m below meth c ls S hr hlk hI hl => ?_)
  have hl : lv_has ls 4 [(0, .ref (tad G 8)), (1, .int x1)] := hl
  have S : CallFix p m c cX0_inStatus 4 s [.ref (tad G 8), .int x1].toArray wsL_law RX0 := S
  have hx := S.1
  have hb := S.2.1
  have hown := S.2.2.2.1
  have hts := S.2.2.2.2
  unfold f_X0_inStatus at hf
  refine lv_iconst (v := 0) hx hb dX0_inStatus_0 (by decide) ?_
  refine lv_istore_n (lv' := [(2, .int (0 : Int32)), (0, .ref (tad G 8)), (1, .int x1)]) hx hb dX0_inStatus_1 rfl hl (by decide) rfl (fun ls hl => ?_)
  refine lv_iconst (v := 0) hx hb dX0_inStatus_2 (by decide) ?_
  refine lv_istore_n (lv' := [(3, .int (0 : Int32)), (2, .int (0 : Int32)), (0, .ref (tad G 8)), (1, .int x1)]) hx hb dX0_inStatus_3 rfl hl (by decide) rfl (fun ls hl => ?_)
  exact k_X0_inStatus_4 S hr hlk tfu x1 (0 : Int32) (0 : Int32) _ _ _ hI (lv_sub hl [2, 3, 1, 0] rfl) hf
/-! X0_seenBy -/
abbrev rm_X0_seenBy : Room := { frames := 0, cells := 0, slots := 0, locals := 0 }
def f_X0_seenBy_4 (st : tST)  : Nat → Int32 → Int32 → Int32 → Option (Int32)
  | 0, _, _, _ => none
  | n + 1, x1, x2, x3 => (if (tg_I st 7) ≤ x3 then some x2 else tal 12 (tg_A st 10) x3 (fun v1 => (if v1 = x1 then tlet (x2 ||| ((1 : Int32) <<< (x3 &&& (31 : Int32)))) (fun i2 => tlet (x3 + (1 : Int32)) (fun i3 => f_X0_seenBy_4 st n x1 i2 i3)) else tal 12 (tg_A st 12) x3 (fun v4 => (if v4 = (1 : Int32) then tlet (x2 ||| ((1 : Int32) <<< (x3 &&& (31 : Int32)))) (fun i6 => tlet (x3 + (1 : Int32)) (fun i7 => f_X0_seenBy_4 st n x1 i6 i7)) else tlet (x3 + (1 : Int32)) (fun i5 => f_X0_seenBy_4 st n x1 x2 i5))))))
def f_X0_seenBy (x1 : Int32) (st : tST) : Option (Int32) := f_X0_seenBy_4 st tfu x1 (0 : Int32) (0 : Int32)
theorem yd_X0_seenBy : yX0_seenBy.cls = RX0 ∧ yX0_seenBy.cls ≠ "java/lang/invoke/MethodHandle" ∧ yX0_seenBy.cls ≠ "java/lang/invoke/VarHandle" ∧ (parseMethodDescriptor yX0_seenBy.desc).map (fun d => d.parameters.length) = some 1 := by decide +kernel
set_option maxHeartbeats 4000000 in
set_option maxRecDepth 100000 in
theorem k_X0_seenBy_4 {l : Launch} {G : tG} {p : Program} {e : Env} {s : State} {m : MethodId} {below : List Frame} {meth : Method} {c : Code} {args : Array Value} {r : Int32} {st : tST} (S : CallFix p m c cX0_seenBy 4 s args wsL_law RX0) (hr : meth.sig.returnType = (some .int)) (hlk : meth.locks = false) : ∀ (n : Nat) (x1 : Int32) (x2 : Int32) (x3 : Int32) (H : Heap) (locs : List Loc) (ls : Array Slot), tIn G (tA G s.heap.size) s st H locs → lv_has ls 4 [(0, .ref (tad G 8)), (1, .int x1), (2, .int x2), (3, .int x3)] → f_X0_seenBy_4 st n x1 x2 x3 = some r → W p l e rm_X0_seenBy s m args below meth c H locs 0 0 (tZI G below args s r st) (F0 m 4 ls []) := by
  have hx := S.1
  have hb := S.2.1
  have hown := S.2.2.2.1
  have hts := S.2.2.2.2
  intro n
  induction n with
  | zero => intro x1 x2 x3 H locs ls hI hl hf; exact nomatch (show (none : Option (Int32)) = some _ from hf)
  | succ n ih =>
    intro x1 x2 x3 H locs ls hI hl hf
    rw [f_X0_seenBy_4] at hf
    refine lv_iload_n hx hb dX0_seenBy_4 rfl (lv_at hl 3 rfl) ?_
    refine lv_aload_n hx hb dX0_seenBy_5 rfl (lv_at hl 0 rfl) ?_
    refine tg_X0_5 S hI mw_52 dX0_seenBy_6 ?_
    refine tk_icmp_ge (tgt := 44) hx hb hf dX0_seenBy_9 (by decide) (fun hf => ?_) (fun hf => ?_)
    · refine lv_iload_n hx hb dX0_seenBy_44 rfl (lv_at hl 2 rfl) ?_
      exact tk_riR S hr hlk hI hf dX0_seenBy_45
    · refine lv_aload_n hx hb dX0_seenBy_12 rfl (lv_at hl 0 rfl) ?_
      refine tg_X0_1 S hI mw_47 dX0_seenBy_13 ?_
      refine lv_iload_n hx hb dX0_seenBy_16 rfl (lv_at hl 3 rfl) ?_
      refine tk_iald S hI (k := 10) (n := 12) rfl hf dX0_seenBy_17 (fun v1 hf => ?_)
      refine lv_iload_n hx hb dX0_seenBy_18 rfl (lv_at hl 1 rfl) ?_
      refine tk_icmp_eq (tgt := 32) hx hb hf dX0_seenBy_19 (by decide) (fun hf => ?_) (fun hf => ?_)
      · refine lv_iload_n hx hb dX0_seenBy_32 rfl (lv_at hl 2 rfl) ?_
        refine lv_iconst (v := 1) hx hb dX0_seenBy_33 (by decide) ?_
        refine lv_iload_n hx hb dX0_seenBy_34 rfl (lv_at hl 3 rfl) ?_
        refine lv_ishl hx hb dX0_seenBy_35 ?_
        refine lv_ior hx hb dX0_seenBy_36 ?_
        refine tk_topi hf (fun i2 hf => ?_)
        refine lv_istore_n (lv' := [(2, .int i2), (0, .ref (tad G 8)), (1, .int x1), (3, .int x3)]) hx hb dX0_seenBy_37 rfl hl (by decide) rfl (fun ls hl => ?_)
        refine tk_let hf (fun i3 ei3 hf => ?_)
        refine lv_iinc (v := i3) (lv' := [(3, .int i3), (2, .int i2), (0, .ref (tad G 8)), (1, .int x1)]) hx hb dX0_seenBy_38 hl (k := 3) rfl (by rw [ei3]; rfl) (by decide) rfl (fun ls hl => ?_)
        refine lv_goto (tgt := 4) hx hb dX0_seenBy_41 (by decide) ?_
        exact ih x1 i2 i3 _ _ _ hI (lv_sub hl [2, 3, 1, 0] rfl) hf
      · refine lv_aload_n hx hb dX0_seenBy_22 rfl (lv_at hl 0 rfl) ?_
        refine tg_X0_3 S hI mw_49 dX0_seenBy_23 ?_
        refine lv_iload_n hx hb dX0_seenBy_26 rfl (lv_at hl 3 rfl) ?_
        refine tk_iald S hI (k := 12) (n := 12) rfl hf dX0_seenBy_27 (fun v4 hf => ?_)
        refine lv_iconst (v := 1) hx hb dX0_seenBy_28 (by decide) ?_
        refine tk_icmp_ne (tgt := 38) hx hb hf dX0_seenBy_29 (by decide) (fun hf => ?_) (fun hf => ?_)
        · refine tk_let hf (fun i5 ei5 hf => ?_)
          refine lv_iinc (v := i5) (lv' := [(3, .int i5), (0, .ref (tad G 8)), (1, .int x1), (2, .int x2)]) hx hb dX0_seenBy_38 hl (k := 3) rfl (by rw [ei5]; rfl) (by decide) rfl (fun ls hl => ?_)
          refine lv_goto (tgt := 4) hx hb dX0_seenBy_41 (by decide) ?_
          exact ih x1 x2 i5 _ _ _ hI (lv_sub hl [1, 2, 3, 0] rfl) hf
        · refine lv_iload_n hx hb dX0_seenBy_32 rfl (lv_at hl 2 rfl) ?_
          refine lv_iconst (v := 1) hx hb dX0_seenBy_33 (by decide) ?_
          refine lv_iload_n hx hb dX0_seenBy_34 rfl (lv_at hl 3 rfl) ?_
          refine lv_ishl hx hb dX0_seenBy_35 ?_
          refine lv_ior hx hb dX0_seenBy_36 ?_
          refine tk_topi hf (fun i6 hf => ?_)
          refine lv_istore_n (lv' := [(2, .int i6), (0, .ref (tad G 8)), (1, .int x1), (3, .int x3)]) hx hb dX0_seenBy_37 rfl hl (by decide) rfl (fun ls hl => ?_)
          refine tk_let hf (fun i7 ei7 hf => ?_)
          refine lv_iinc (v := i7) (lv' := [(3, .int i7), (2, .int i6), (0, .ref (tad G 8)), (1, .int x1)]) hx hb dX0_seenBy_38 hl (k := 3) rfl (by rw [ei7]; rfl) (by decide) rfl (fun ls hl => ?_)
          refine lv_goto (tgt := 4) hx hb dX0_seenBy_41 (by decide) ?_
          exact ih x1 i6 i7 _ _ _ hI (lv_sub hl [2, 3, 1, 0] rfl) hf
set_option maxHeartbeats 4000000 in
set_option maxRecDepth 100000 in
theorem c_X0_seenBy (l : Launch) (G : tG) (st : tST) (x1 : Int32) {r : Int32} (hf : f_X0_seenBy x1 st = some r) : tCI l G yX0_seenBy cX0_seenBy 4 (some .int) rm_X0_seenBy [.ref (tad G 8), .int x1] st r st := by
  refine tk_entI (by decide +kernel) (Nat.le_of_ble_eq_true rfl) (fun p e s m below meth c ls S hr hlk hI hl => ?_)
  have hl : lv_has ls 4 [(0, .ref (tad G 8)), (1, .int x1)] := hl
  have S : CallFix p m c cX0_seenBy 4 s [.ref (tad G 8), .int x1].toArray wsL_law RX0 := S
  have hx := S.1
  have hb := S.2.1
  have hown := S.2.2.2.1
  have hts := S.2.2.2.2
  unfold f_X0_seenBy at hf
  refine lv_iconst (v := 0) hx hb dX0_seenBy_0 (by decide) ?_
  refine lv_istore_n (lv' := [(2, .int (0 : Int32)), (0, .ref (tad G 8)), (1, .int x1)]) hx hb dX0_seenBy_1 rfl hl (by decide) rfl (fun ls hl => ?_)
  refine lv_iconst (v := 0) hx hb dX0_seenBy_2 (by decide) ?_
  refine lv_istore_n (lv' := [(3, .int (0 : Int32)), (2, .int (0 : Int32)), (0, .ref (tad G 8)), (1, .int x1)]) hx hb dX0_seenBy_3 rfl hl (by decide) rfl (fun ls hl => ?_)
  exact k_X0_seenBy_4 S hr hlk tfu x1 (0 : Int32) (0 : Int32) _ _ _ hI (lv_sub hl [2, 3, 1, 0] rfl) hf
/-! X3_setOf -/
abbrev rm_X3_setOf : Room := { frames := 1, cells := 0, slots := 0, locals := 23 }
def f_X3_setOf (x1 : Int32) (st : tST) : Option (Int32) := (f_X0_inStatus (1 : Int32) st).bind (fun r1 => (f_X0_inStatus (0 : Int32) st).bind (fun r2 => (if x1 = 0 then some r1 else (if x1 = (1 : Int32) then some (r1 ||| r2) else (f_X0_seenBy (x1 - (2 : Int32)) st).bind (fun r3 => some (r1 ||| (r2 &&& r3)))))))
theorem yd_X3_setOf : yX3_setOf.cls = RX3 ∧ yX3_setOf.cls ≠ "java/lang/invoke/MethodHandle" ∧ yX3_setOf.cls ≠ "java/lang/invoke/VarHandle" ∧ (parseMethodDescriptor yX3_setOf.desc).map (fun d => d.parameters.length) = some 1 := by decide +kernel
set_option maxHeartbeats 4000000 in
set_option maxRecDepth 100000 in
theorem c_X3_setOf (l : Launch) (G : tG) (st : tST) (x1 : Int32) {r : Int32} (hf : f_X3_setOf x1 st = some r) : tCI l G yX3_setOf cX3_setOf 4 (some .int) rm_X3_setOf [.ref (tad G 0), .int x1] st r st := by
  refine tk_entI (by decide +kernel) (Nat.le_of_ble_eq_true rfl) (fun p e s m below meth c ls S hr hlk hI hl => ?_)
  have hl : lv_has ls 4 [(0, .ref (tad G 0)), (1, .int x1)] := hl
  have S : CallFix p m c cX3_setOf 4 s [.ref (tad G 0), .int x1].toArray wsL_law RX3 := S
  have hx := S.1
  have hb := S.2.1
  have hown := S.2.2.2.1
  have hts := S.2.2.2.2
  unfold f_X3_setOf at hf
  refine lv_aload_n hx hb dX3_setOf_0 rfl (lv_at hl 0 rfl) ?_
  refine tg_X3_6 S hI mw_25 dX3_setOf_1 ?_
  refine lv_iconst (v := 1) hx hb dX3_setOf_4 (by decide) ?_
  refine tk_bd hf (fun r1 hq hf => ?_)
  refine tk_vI S hI hl.1 (c_X0_inStatus l G st (1 : Int32) hq) (cwV 1 hts (tk_gV mw_163 mw_164 mw_165 mw_24 mw_166) rfl rfl rfl yd_X0_inStatus ⟨Nat.le_of_ble_eq_true rfl, Nat.le_of_ble_eq_true rfl⟩) 8 0 rfl rfl rfl rfl [] rfl (Nat.le_of_ble_eq_true rfl) dX3_setOf_5 (fun H locs hI => ?_)
  refine lv_istore_n (lv' := [(2, .int r1), (0, .ref (tad G 0)), (1, .int x1)]) hx hb dX3_setOf_8 rfl hl (by decide) rfl (fun ls hl => ?_)
  refine lv_aload_n hx hb dX3_setOf_9 rfl (lv_at hl 1 rfl) ?_
  refine tg_X3_6 S hI mw_25 dX3_setOf_10 ?_
  refine lv_iconst (v := 0) hx hb dX3_setOf_13 (by decide) ?_
  refine tk_bd hf (fun r2 hq hf => ?_)
  refine tk_vI S hI hl.1 (c_X0_inStatus l G st (0 : Int32) hq) (cwV 1 hts (tk_gV mw_163 mw_164 mw_165 mw_24 mw_166) rfl rfl rfl yd_X0_inStatus ⟨Nat.le_of_ble_eq_true rfl, Nat.le_of_ble_eq_true rfl⟩) 8 0 rfl rfl rfl rfl [] rfl (Nat.le_of_ble_eq_true rfl) dX3_setOf_14 (fun H locs hI => ?_)
  refine lv_istore_n (lv' := [(3, .int r2), (2, .int r1), (0, .ref (tad G 0)), (1, .int x1)]) hx hb dX3_setOf_17 rfl hl (by decide) rfl (fun ls hl => ?_)
  refine lv_iload_n hx hb dX3_setOf_18 rfl (lv_at hl 3 rfl) ?_
  refine tk_if_ne (tgt := 24) hx hb hf dX3_setOf_19 (by decide) (fun hf => ?_) (fun hf => ?_)
  · refine lv_iload_n hx hb dX3_setOf_24 rfl (lv_at hl 3 rfl) ?_
    refine lv_iconst (v := 1) hx hb dX3_setOf_25 (by decide) ?_
    refine tk_icmp_ne (tgt := 33) hx hb hf dX3_setOf_26 (by decide) (fun hf => ?_) (fun hf => ?_)
    · refine lv_iload_n hx hb dX3_setOf_33 rfl (lv_at hl 1 rfl) ?_
      refine lv_iload_n hx hb dX3_setOf_34 rfl (lv_at hl 0 rfl) ?_
      refine lv_aload_n hx hb dX3_setOf_35 rfl (lv_at hl 2 rfl) ?_
      refine tg_X3_6 S hI mw_25 dX3_setOf_36 ?_
      refine lv_iload_n hx hb dX3_setOf_39 rfl (lv_at hl 3 rfl) ?_
      refine lv_iconst (v := 2) hx hb dX3_setOf_40 (by decide) ?_
      refine lv_isub hx hb dX3_setOf_41 ?_
      refine tk_bd hf (fun r3 hq hf => ?_)
      refine tk_vI S hI hl.1 (c_X0_seenBy l G st (x1 - (2 : Int32)) hq) (cwV 1 hts (tk_gV mw_167 mw_168 mw_169 mw_24 mw_170) rfl rfl rfl yd_X0_seenBy ⟨Nat.le_of_ble_eq_true rfl, Nat.le_of_ble_eq_true rfl⟩) 8 0 rfl rfl rfl rfl [.int r2, .int r1] rfl (Nat.le_of_ble_eq_true rfl) dX3_setOf_42 (fun H locs hI => ?_)
      refine lv_iand hx hb dX3_setOf_45 ?_
      refine lv_ior hx hb dX3_setOf_46 ?_
      exact tk_riR S hr hlk hI hf dX3_setOf_47
    · refine lv_iload_n hx hb dX3_setOf_29 rfl (lv_at hl 1 rfl) ?_
      refine lv_iload_n hx hb dX3_setOf_30 rfl (lv_at hl 0 rfl) ?_
      refine lv_ior hx hb dX3_setOf_31 ?_
      exact tk_riR S hr hlk hI hf dX3_setOf_32
  · refine lv_iload_n hx hb dX3_setOf_22 rfl (lv_at hl 1 rfl) ?_
    exact tk_riR S hr hlk hI hf dX3_setOf_23
/-! X3_thereBy -/
abbrev rm_X3_thereBy : Room := { frames := 0, cells := 0, slots := 0, locals := 0 }
def f_X3_thereBy_11 (st : tST)  : Nat → Int32 → Int64 → Int64 → Int32 → Option (Int64)
  | 0, _, _, _, _ => none
  | n + 1, x1, x2, x4, x6 => (if (tg_I st 7) ≤ x6 then some (x2 &&& (x4 ^^^ (-1 : Int64))) else (if ((x1 >>> (x6 &&& (31 : Int32))) &&& (1 : Int32)) = 0 then tlet (x6 + (1 : Int32)) (fun i1 => f_X3_thereBy_11 st n x1 x2 x4 i1) else tal 12 (tg_A st 9) x6 (fun v2 => (if v2 = 0 then tal 12 (tg_B st 13) x6 (fun u8 => tlet (x2 ||| u8) (fun j9 => tlet (x6 + (1 : Int32)) (fun i10 => f_X3_thereBy_11 st n x1 j9 x4 i10))) else tal 12 (tg_A st 9) x6 (fun v3 => (if v3 = (1 : Int32) then tal 12 (tg_B st 13) x6 (fun u5 => tlet (x4 ||| u5) (fun j6 => tlet (x6 + (1 : Int32)) (fun i7 => f_X3_thereBy_11 st n x1 x2 j6 i7))) else tlet (x6 + (1 : Int32)) (fun i4 => f_X3_thereBy_11 st n x1 x2 x4 i4)))))))
def f_X3_thereBy (x1 : Int32) (st : tST) : Option (Int64) := tlet (tg_L st 0) (fun j1 => f_X3_thereBy_11 st tfu x1 j1 (0 : Int64) (0 : Int32))
theorem yd_X3_thereBy : yX3_thereBy.cls = RX3 ∧ yX3_thereBy.cls ≠ "java/lang/invoke/MethodHandle" ∧ yX3_thereBy.cls ≠ "java/lang/invoke/VarHandle" ∧ (parseMethodDescriptor yX3_thereBy.desc).map (fun d => d.parameters.length) = some 1 := by decide +kernel
set_option maxHeartbeats 4000000 in
set_option maxRecDepth 100000 in
theorem k_X3_thereBy_11 {l : Launch} {G : tG} {p : Program} {e : Env} {s : State} {m : MethodId} {below : List Frame} {meth : Method} {c : Code} {args : Array Value} {r : Int64} {st : tST} (S : CallFix p m c cX3_thereBy 7 s args wsL_law RX3) (hr : meth.sig.returnType = (some .long)) (hlk : meth.locks = false) : ∀ (n : Nat) (x1 : Int32) (x2 : Int64) (x4 : Int64) (x6 : Int32) (H : Heap) (locs : List Loc) (ls : Array Slot), tIn G (tA G s.heap.size) s st H locs → lv_has ls 7 [(0, .ref (tad G 0)), (1, .int x1), (2, .long x2), (4, .long x4), (6, .int x6)] → f_X3_thereBy_11 st n x1 x2 x4 x6 = some r → W p l e rm_X3_thereBy s m args below meth c H locs 0 0 (tZL G below args s r st) (F0 m 11 ls []) := by
  have hx := S.1
  have hb := S.2.1
  have hown := S.2.2.2.1
  have hts := S.2.2.2.2
  intro n
  induction n with
  | zero => intro x1 x2 x4 x6 H locs ls hI hl hf; exact nomatch (show (none : Option (Int64)) = some _ from hf)
  | succ n ih =>
    intro x1 x2 x4 x6 H locs ls hI hl hf
    rw [f_X3_thereBy_11] at hf
    refine lv_iload hx hb dX3_thereBy_11 (lv_at hl 4 rfl) ?_
    refine lv_aload_n hx hb dX3_thereBy_13 rfl (lv_at hl 0 rfl) ?_
    refine tg_X3_6 S hI mw_25 dX3_thereBy_14 ?_
    refine tg_X0_5 S hI mw_115 dX3_thereBy_17 ?_
    refine tk_icmp_ge (tgt := 96) hx hb hf dX3_thereBy_20 (by decide) (fun hf => ?_) (fun hf => ?_)
    · refine lv_lload_n hx hb dX3_thereBy_96 rfl (lv_at hl 2 rfl) ?_
      refine lv_lload hx hb dX3_thereBy_97 (lv_at hl 3 rfl) ?_
      refine lv_ldc2 (v := -1) hx hb hown (hts _ mw_131) dX3_thereBy_99 ?_
      refine lv_lxor hx hb dX3_thereBy_102 ?_
      refine lv_land hx hb dX3_thereBy_103 ?_
      exact tk_rlR S hr hlk hI hf dX3_thereBy_104
    · refine lv_iload_n hx hb dX3_thereBy_23 rfl (lv_at hl 1 rfl) ?_
      refine lv_iload hx hb dX3_thereBy_24 (lv_at hl 4 rfl) ?_
      refine lv_ishr hx hb dX3_thereBy_26 ?_
      refine lv_iconst (v := 1) hx hb dX3_thereBy_27 (by decide) ?_
      refine lv_iand hx hb dX3_thereBy_28 ?_
      refine tk_if_eq (tgt := 90) hx hb hf dX3_thereBy_29 (by decide) (fun hf => ?_) (fun hf => ?_)
      · refine tk_let hf (fun i1 ei1 hf => ?_)
        refine lv_iinc (v := i1) (lv' := [(6, .int i1), (0, .ref (tad G 0)), (1, .int x1), (2, .long x2), (4, .long x4)]) hx hb dX3_thereBy_90 hl (k := 4) rfl (by rw [ei1]; rfl) (by decide) rfl (fun ls hl => ?_)
        refine lv_goto (tgt := 11) hx hb dX3_thereBy_93 (by decide) ?_
        exact ih x1 x2 x4 i1 _ _ _ hI (lv_sub hl [1, 2, 3, 4, 0] rfl) hf
      · refine lv_aload_n hx hb dX3_thereBy_32 rfl (lv_at hl 0 rfl) ?_
        refine tg_X3_6 S hI mw_25 dX3_thereBy_33 ?_
        refine tg_X0_0 S hI mw_179 dX3_thereBy_36 ?_
        refine lv_iload hx hb dX3_thereBy_39 (lv_at hl 4 rfl) ?_
        refine tk_iald S hI (k := 9) (n := 12) rfl hf dX3_thereBy_41 (fun v2 hf => ?_)
        refine tk_if_ne (tgt := 61) hx hb hf dX3_thereBy_42 (by decide) (fun hf => ?_) (fun hf => ?_)
        · refine lv_aload_n hx hb dX3_thereBy_61 rfl (lv_at hl 0 rfl) ?_
          refine tg_X3_6 S hI mw_25 dX3_thereBy_62 ?_
          refine tg_X0_0 S hI mw_179 dX3_thereBy_65 ?_
          refine lv_iload hx hb dX3_thereBy_68 (lv_at hl 4 rfl) ?_
          refine tk_iald S hI (k := 9) (n := 12) rfl hf dX3_thereBy_70 (fun v3 hf => ?_)
          refine lv_iconst (v := 1) hx hb dX3_thereBy_71 (by decide) ?_
          refine tk_icmp_ne (tgt := 90) hx hb hf dX3_thereBy_72 (by decide) (fun hf => ?_) (fun hf => ?_)
          · refine tk_let hf (fun i4 ei4 hf => ?_)
            refine lv_iinc (v := i4) (lv' := [(6, .int i4), (0, .ref (tad G 0)), (1, .int x1), (2, .long x2), (4, .long x4)]) hx hb dX3_thereBy_90 hl (k := 4) rfl (by rw [ei4]; rfl) (by decide) rfl (fun ls hl => ?_)
            refine lv_goto (tgt := 11) hx hb dX3_thereBy_93 (by decide) ?_
            exact ih x1 x2 x4 i4 _ _ _ hI (lv_sub hl [1, 2, 3, 4, 0] rfl) hf
          · refine lv_lload hx hb dX3_thereBy_75 (lv_at hl 3 rfl) ?_
            refine lv_aload_n hx hb dX3_thereBy_77 rfl (lv_at hl 0 rfl) ?_
            refine tg_X3_6 S hI mw_25 dX3_thereBy_78 ?_
            refine tg_X0_4 S hI mw_180 dX3_thereBy_81 ?_
            refine lv_iload hx hb dX3_thereBy_84 (lv_at hl 4 rfl) ?_
            refine tk_lald S hI (k := 13) (n := 12) rfl hf dX3_thereBy_86 (fun u5 hf => ?_)
            refine lv_lor hx hb dX3_thereBy_87 ?_
            refine tk_topl hf (fun j6 hf => ?_)
            refine lv_lstore (lv' := [(4, .long j6), (0, .ref (tad G 0)), (1, .int x1), (2, .long x2), (6, .int x6)]) hx hb dX3_thereBy_88 hl (by decide) rfl (fun ls hl => ?_)
            refine tk_let hf (fun i7 ei7 hf => ?_)
            refine lv_iinc (v := i7) (lv' := [(6, .int i7), (4, .long j6), (0, .ref (tad G 0)), (1, .int x1), (2, .long x2)]) hx hb dX3_thereBy_90 hl (k := 4) rfl (by rw [ei7]; rfl) (by decide) rfl (fun ls hl => ?_)
            refine lv_goto (tgt := 11) hx hb dX3_thereBy_93 (by decide) ?_
            exact ih x1 x2 j6 i7 _ _ _ hI (lv_sub hl [2, 3, 4, 1, 0] rfl) hf
        · refine lv_lload_n hx hb dX3_thereBy_45 rfl (lv_at hl 2 rfl) ?_
          refine lv_aload_n hx hb dX3_thereBy_46 rfl (lv_at hl 0 rfl) ?_
          refine tg_X3_6 S hI mw_25 dX3_thereBy_47 ?_
          refine tg_X0_4 S hI mw_180 dX3_thereBy_50 ?_
          refine lv_iload hx hb dX3_thereBy_53 (lv_at hl 4 rfl) ?_
          refine tk_lald S hI (k := 13) (n := 12) rfl hf dX3_thereBy_55 (fun u8 hf => ?_)
          refine lv_lor hx hb dX3_thereBy_56 ?_
          refine tk_topl hf (fun j9 hf => ?_)
          refine lv_lstore_n (lv' := [(2, .long j9), (0, .ref (tad G 0)), (1, .int x1), (4, .long x4), (6, .int x6)]) hx hb dX3_thereBy_57 rfl hl (by decide) rfl (fun ls hl => ?_)
          refine lv_goto (tgt := 90) hx hb dX3_thereBy_58 (by decide) ?_
          refine tk_let hf (fun i10 ei10 hf => ?_)
          refine lv_iinc (v := i10) (lv' := [(6, .int i10), (2, .long j9), (0, .ref (tad G 0)), (1, .int x1), (4, .long x4)]) hx hb dX3_thereBy_90 hl (k := 4) rfl (by rw [ei10]; rfl) (by decide) rfl (fun ls hl => ?_)
          refine lv_goto (tgt := 11) hx hb dX3_thereBy_93 (by decide) ?_
          exact ih x1 j9 x4 i10 _ _ _ hI (lv_sub hl [2, 3, 1, 4, 0] rfl) hf
set_option maxHeartbeats 4000000 in
set_option maxRecDepth 100000 in
theorem c_X3_thereBy (l : Launch) (G : tG) (st : tST) (x1 : Int32) {r : Int64} (hf : f_X3_thereBy x1 st = some r) : tCL l G yX3_thereBy cX3_thereBy 7 (some .long) rm_X3_thereBy [.ref (tad G 0), .int x1] st r st := by
  refine tk_entL (by decide +kernel) (Nat.le_of_ble_eq_true rfl) (fun p e s m below meth c ls S hr hlk hI hl => ?_)
  have hl : lv_has ls 7 [(0, .ref (tad G 0)), (1, .int x1)] := hl
  have S : CallFix p m c cX3_thereBy 7 s [.ref (tad G 0), .int x1].toArray wsL_law RX3 := S
  have hx := S.1
  have hb := S.2.1
  have hown := S.2.2.2.1
  have hts := S.2.2.2.2
  unfold f_X3_thereBy at hf
  refine lv_aload_n hx hb dX3_thereBy_0 rfl (lv_at hl 0 rfl) ?_
  refine tg_X3_4 S hI mw_17 dX3_thereBy_1 ?_
  refine tk_topl hf (fun j1 hf => ?_)
  refine lv_lstore_n (lv' := [(2, .long j1), (0, .ref (tad G 0)), (1, .int x1)]) hx hb dX3_thereBy_4 rfl hl (by decide) rfl (fun ls hl => ?_)
  refine lv_lconst (v := 0) hx hb dX3_thereBy_5 (by decide) ?_
  refine lv_lstore (lv' := [(4, .long (0 : Int64)), (2, .long j1), (0, .ref (tad G 0)), (1, .int x1)]) hx hb dX3_thereBy_6 hl (by decide) rfl (fun ls hl => ?_)
  refine lv_iconst (v := 0) hx hb dX3_thereBy_8 (by decide) ?_
  refine lv_istore (lv' := [(6, .int (0 : Int32)), (4, .long (0 : Int64)), (2, .long j1), (0, .ref (tad G 0)), (1, .int x1)]) hx hb dX3_thereBy_9 hl (by decide) rfl (fun ls hl => ?_)
  exact k_X3_thereBy_11 S hr hlk tfu x1 j1 (0 : Int64) (0 : Int32) _ _ _ hI (lv_sub hl [3, 4, 2, 1, 0] rfl) hf
/-! X1_leadsTo -/
abbrev rm_X1_leadsTo : Room := { frames := 0, cells := 0, slots := 0, locals := 0 }
def f_X1_leadsTo_5 (st : tST)  : Nat → Int32 → Int32 → Int32 → Option (Int32)
  | 0, _, _, _ => none
  | n + 1, x2, x3, x4 => (if (90 : Int32) ≤ x4 then tzr (1 : Int32) (some (1 : Int32)) else tal 90 (tg_A st 5) x3 (fun v1 => (if v1 = (-1 : Int32) then tzr (1 : Int32) (some (1 : Int32)) else tal 90 (tg_A st 5) x3 (fun v2 => tal 90 (tg_A st 7) v2 (fun v3 => tlet (v3 &&& x2) (fun i4 => tal 90 (tg_A st 6) x3 (fun v5 => (if (i4 &&& (-i4)) = ((1 : Int32) <<< (v5 &&& (31 : Int32))) then tal 90 (tg_A st 5) x3 (fun v6 => tlet (x4 + (1 : Int32)) (fun i7 => f_X1_leadsTo_5 st n x2 v6 i7)) else tzr (0 : Int32) (some (0 : Int32))))))))))
def f_X1_leadsTo (x1 : Int32) (x2 : Int32) (st : tST) : Option (Int32) := f_X1_leadsTo_5 st tfu x2 x1 (0 : Int32)
theorem yd_X1_leadsTo : yX1_leadsTo.cls = RX1 ∧ yX1_leadsTo.cls ≠ "java/lang/invoke/MethodHandle" ∧ yX1_leadsTo.cls ≠ "java/lang/invoke/VarHandle" ∧ (parseMethodDescriptor yX1_leadsTo.desc).map (fun d => d.parameters.length) = some 2 := by decide +kernel
set_option maxHeartbeats 4000000 in
set_option maxRecDepth 100000 in
theorem k_X1_leadsTo_5 {l : Launch} {G : tG} {p : Program} {e : Env} {s : State} {m : MethodId} {below : List Frame} {meth : Method} {c : Code} {args : Array Value} {r : Int32} {st : tST} (S : CallFix p m c cX1_leadsTo 6 s args wsL_law RX1) (hr : meth.sig.returnType = (some .boolean)) (hlk : meth.locks = false) : ∀ (n : Nat) (x2 : Int32) (x3 : Int32) (x4 : Int32) (H : Heap) (locs : List Loc) (ls : Array Slot), tIn G (tA G s.heap.size) s st H locs → lv_has ls 6 [(0, .ref (tad G 3)), (2, .int x2), (3, .int x3), (4, .int x4)] → f_X1_leadsTo_5 st n x2 x3 x4 = some r → W p l e rm_X1_leadsTo s m args below meth c H locs 0 0 (tZI G below args s r st) (F0 m 5 ls []) := by
  have hx := S.1
  have hb := S.2.1
  have hown := S.2.2.2.1
  have hts := S.2.2.2.2
  intro n
  induction n with
  | zero => intro x2 x3 x4 H locs ls hI hl hf; exact nomatch (show (none : Option (Int32)) = some _ from hf)
  | succ n ih =>
    intro x2 x3 x4 H locs ls hI hl hf
    rw [f_X1_leadsTo_5] at hf
    refine lv_iload hx hb dX1_leadsTo_5 (lv_at hl 3 rfl) ?_
    refine lv_bipush (v := 90) hx hb dX1_leadsTo_7 (by decide) ?_
    refine tk_icmp_ge (tgt := 69) hx hb hf dX1_leadsTo_9 (by decide) (fun hf => ?_) (fun hf => ?_)
    · refine lv_iconst (v := 1) hx hb dX1_leadsTo_69 (by decide) ?_
      exact tk_rzR S hr hlk hI hf dX1_leadsTo_70
    · refine lv_aload_n hx hb dX1_leadsTo_12 rfl (lv_at hl 0 rfl) ?_
      refine tg_X1_1 S hI mw_39 dX1_leadsTo_13 ?_
      refine lv_iload_n hx hb dX1_leadsTo_16 rfl (lv_at hl 2 rfl) ?_
      refine tk_iald S hI (k := 5) (n := 90) rfl hf dX1_leadsTo_17 (fun v1 hf => ?_)
      refine lv_iconst (v := -1) hx hb dX1_leadsTo_18 (by decide) ?_
      refine tk_icmp_eq (tgt := 69) hx hb hf dX1_leadsTo_19 (by decide) (fun hf => ?_) (fun hf => ?_)
      · refine lv_iconst (v := 1) hx hb dX1_leadsTo_69 (by decide) ?_
        exact tk_rzR S hr hlk hI hf dX1_leadsTo_70
      · refine lv_aload_n hx hb dX1_leadsTo_22 rfl (lv_at hl 0 rfl) ?_
        refine tg_X1_3 S hI mw_41 dX1_leadsTo_23 ?_
        refine lv_aload_n hx hb dX1_leadsTo_26 rfl (lv_at hl 0 rfl) ?_
        refine tg_X1_1 S hI mw_39 dX1_leadsTo_27 ?_
        refine lv_iload_n hx hb dX1_leadsTo_30 rfl (lv_at hl 2 rfl) ?_
        refine tk_iald S hI (k := 5) (n := 90) rfl hf dX1_leadsTo_31 (fun v2 hf => ?_)
        refine tk_iald S hI (k := 7) (n := 90) rfl hf dX1_leadsTo_32 (fun v3 hf => ?_)
        refine lv_iload_n hx hb dX1_leadsTo_33 rfl (lv_at hl 1 rfl) ?_
        refine lv_iand hx hb dX1_leadsTo_34 ?_
        refine tk_topi hf (fun i4 hf => ?_)
        refine lv_istore (lv' := [(5, .int i4), (0, .ref (tad G 3)), (2, .int x2), (3, .int x3), (4, .int x4)]) hx hb dX1_leadsTo_35 hl (by decide) rfl (fun ls hl => ?_)
        refine lv_iload hx hb dX1_leadsTo_37 (lv_at hl 0 rfl) ?_
        refine lv_iload hx hb dX1_leadsTo_39 (lv_at hl 0 rfl) ?_
        refine lv_ineg hx hb dX1_leadsTo_41 ?_
        refine lv_iand hx hb dX1_leadsTo_42 ?_
        refine lv_iconst (v := 1) hx hb dX1_leadsTo_43 (by decide) ?_
        refine lv_aload_n hx hb dX1_leadsTo_44 rfl (lv_at hl 1 rfl) ?_
        refine tg_X1_2 S hI mw_40 dX1_leadsTo_45 ?_
        refine lv_iload_n hx hb dX1_leadsTo_48 rfl (lv_at hl 3 rfl) ?_
        refine tk_iald S hI (k := 6) (n := 90) rfl hf dX1_leadsTo_49 (fun v5 hf => ?_)
        refine lv_ishl hx hb dX1_leadsTo_50 ?_
        refine tk_icmp_eq (tgt := 56) hx hb hf dX1_leadsTo_51 (by decide) (fun hf => ?_) (fun hf => ?_)
        · refine lv_aload_n hx hb dX1_leadsTo_56 rfl (lv_at hl 1 rfl) ?_
          refine tg_X1_1 S hI mw_39 dX1_leadsTo_57 ?_
          refine lv_iload_n hx hb dX1_leadsTo_60 rfl (lv_at hl 3 rfl) ?_
          refine tk_iald S hI (k := 5) (n := 90) rfl hf dX1_leadsTo_61 (fun v6 hf => ?_)
          refine lv_istore_n (lv' := [(3, .int v6), (5, .int i4), (0, .ref (tad G 3)), (2, .int x2), (4, .int x4)]) hx hb dX1_leadsTo_62 rfl hl (by decide) rfl (fun ls hl => ?_)
          refine tk_let hf (fun i7 ei7 hf => ?_)
          refine lv_iinc (v := i7) (lv' := [(4, .int i7), (3, .int v6), (5, .int i4), (0, .ref (tad G 3)), (2, .int x2)]) hx hb dX1_leadsTo_63 hl (k := 4) rfl (by rw [ei7]; rfl) (by decide) rfl (fun ls hl => ?_)
          refine lv_goto (tgt := 5) hx hb dX1_leadsTo_66 (by decide) ?_
          exact ih x2 v6 i7 _ _ _ hI (lv_sub hl [3, 4, 1, 0] rfl) hf
        · refine lv_iconst (v := 0) hx hb dX1_leadsTo_54 (by decide) ?_
          exact tk_rzR S hr hlk hI hf dX1_leadsTo_55
set_option maxHeartbeats 4000000 in
set_option maxRecDepth 100000 in
theorem c_X1_leadsTo (l : Launch) (G : tG) (st : tST) (x1 : Int32) (x2 : Int32) {r : Int32} (hf : f_X1_leadsTo x1 x2 st = some r) : tCI l G yX1_leadsTo cX1_leadsTo 6 (some .boolean) rm_X1_leadsTo [.ref (tad G 3), .int x1, .int x2] st r st := by
  refine tk_entI (by decide +kernel) (Nat.le_of_ble_eq_true rfl) (fun p e s m below meth c ls S hr hlk hI hl => ?_)
  have hl : lv_has ls 6 [(0, .ref (tad G 3)), (1, .int x1), (2, .int x2)] := hl
  have S : CallFix p m c cX1_leadsTo 6 s [.ref (tad G 3), .int x1, .int x2].toArray wsL_law RX1 := S
  have hx := S.1
  have hb := S.2.1
  have hown := S.2.2.2.1
  have hts := S.2.2.2.2
  unfold f_X1_leadsTo at hf
  refine lv_iload_n hx hb dX1_leadsTo_0 rfl (lv_at hl 1 rfl) ?_
  refine lv_istore_n (lv' := [(3, .int x1), (0, .ref (tad G 3)), (1, .int x1), (2, .int x2)]) hx hb dX1_leadsTo_1 rfl hl (by decide) rfl (fun ls hl => ?_)
  refine lv_iconst (v := 0) hx hb dX1_leadsTo_2 (by decide) ?_
  refine lv_istore (lv' := [(4, .int (0 : Int32)), (3, .int x1), (0, .ref (tad G 3)), (1, .int x1), (2, .int x2)]) hx hb dX1_leadsTo_3 hl (by decide) rfl (fun ls hl => ?_)
  exact k_X1_leadsTo_5 S hr hlk tfu x2 x1 (0 : Int32) _ _ _ hI (lv_sub hl [2, 4, 1, 0] rfl) hf
/-! X1_holds -/
abbrev rm_X1_holds : Room := { frames := 1, cells := 0, slots := 0, locals := 25 }
def f_X1_holds (x1 : Int32) (x2 : Int64) (x4 : Int32) (st : tST) : Option (Int32) := tal 90 (tg_A st 4) x1 (fun v1 => (if (lg_cmp (((x2.toUInt64 >>> (v1.toInt64.toUInt64 &&& Int64.toUInt64 63)).toInt64) &&& (1 : Int64)) (0 : Int64)) = 0 then tzr (0 : Int32) (some (0 : Int32)) else tal 90 (tg_A st 7) x1 (fun v2 => (if (v2 &&& x4) = 0 then (f_X1_leadsTo x1 x4 st).bind (fun r3 => (if r3 = 0 then tzr (0 : Int32) (some (0 : Int32)) else tzr (1 : Int32) (some (1 : Int32)))) else tzr (0 : Int32) (some (0 : Int32))))))
theorem yd_X1_holds : yX1_holds.cls = RX1 ∧ yX1_holds.cls ≠ "java/lang/invoke/MethodHandle" ∧ yX1_holds.cls ≠ "java/lang/invoke/VarHandle" ∧ (parseMethodDescriptor yX1_holds.desc).map (fun d => d.parameters.length) = some 3 := by decide +kernel
set_option maxHeartbeats 4000000 in
set_option maxRecDepth 100000 in
theorem c_X1_holds (l : Launch) (G : tG) (st : tST) (x1 : Int32) (x2 : Int64) (x4 : Int32) {r : Int32} (hf : f_X1_holds x1 x2 x4 st = some r) : tCI l G yX1_holds cX1_holds 5 (some .boolean) rm_X1_holds [.ref (tad G 3), .int x1, .long x2, .int x4] st r st := by
  refine tk_entI (by decide +kernel) (Nat.le_of_ble_eq_true rfl) (fun p e s m below meth c ls S hr hlk hI hl => ?_)
  have hl : lv_has ls 5 [(0, .ref (tad G 3)), (1, .int x1), (2, .long x2), (4, .int x4)] := hl
  have S : CallFix p m c cX1_holds 5 s [.ref (tad G 3), .int x1, .long x2, .int x4].toArray wsL_law RX1 := S
  have hx := S.1
  have hb := S.2.1
  have hown := S.2.2.2.1
  have hts := S.2.2.2.2
  unfold f_X1_holds at hf
  refine lv_lload_n hx hb dX1_holds_0 rfl (lv_at hl 2 rfl) ?_
  refine lv_aload_n hx hb dX1_holds_1 rfl (lv_at hl 0 rfl) ?_
  refine tg_X1_0 S hI mw_38 dX1_holds_2 ?_
  refine lv_iload_n hx hb dX1_holds_5 rfl (lv_at hl 1 rfl) ?_
  refine tk_iald S hI (k := 4) (n := 90) rfl hf dX1_holds_6 (fun v1 hf => ?_)
  refine lv_lushr hx hb dX1_holds_7 rfl ?_
  refine lv_lconst (v := 1) hx hb dX1_holds_8 (by decide) ?_
  refine lv_land hx hb dX1_holds_9 ?_
  refine lv_lconst (v := 0) hx hb dX1_holds_10 (by decide) ?_
  refine W.lcmp hx hb dX1_holds_11 ?_
  refine tk_if_eq (tgt := 41) hx hb hf dX1_holds_12 (by decide) (fun hf => ?_) (fun hf => ?_)
  · refine lv_iconst (v := 0) hx hb dX1_holds_41 (by decide) ?_
    exact tk_rzR S hr hlk hI hf dX1_holds_42
  · refine lv_aload_n hx hb dX1_holds_15 rfl (lv_at hl 0 rfl) ?_
    refine tg_X1_3 S hI mw_41 dX1_holds_16 ?_
    refine lv_iload_n hx hb dX1_holds_19 rfl (lv_at hl 1 rfl) ?_
    refine tk_iald S hI (k := 7) (n := 90) rfl hf dX1_holds_20 (fun v2 hf => ?_)
    refine lv_iload hx hb dX1_holds_21 (lv_at hl 3 rfl) ?_
    refine lv_iand hx hb dX1_holds_23 ?_
    refine tk_if_ne (tgt := 41) hx hb hf dX1_holds_24 (by decide) (fun hf => ?_) (fun hf => ?_)
    · refine lv_iconst (v := 0) hx hb dX1_holds_41 (by decide) ?_
      exact tk_rzR S hr hlk hI hf dX1_holds_42
    · refine lv_aload_n hx hb dX1_holds_27 rfl (lv_at hl 0 rfl) ?_
      refine lv_iload_n hx hb dX1_holds_28 rfl (lv_at hl 1 rfl) ?_
      refine lv_iload hx hb dX1_holds_29 (lv_at hl 3 rfl) ?_
      refine tk_bd hf (fun r3 hq hf => ?_)
      refine tk_vI S hI hl.1 (c_X1_leadsTo l G st x1 x4 hq) (cwV 2 hts (tk_gV mw_185 mw_186 mw_187 mw_20 mw_188) rfl rfl rfl yd_X1_leadsTo ⟨Nat.le_of_ble_eq_true rfl, Nat.le_of_ble_eq_true rfl⟩) 3 1 rfl rfl rfl rfl [] rfl (Nat.le_of_ble_eq_true rfl) dX1_holds_31 (fun H locs hI => ?_)
      refine tk_if_eq (tgt := 41) hx hb hf dX1_holds_34 (by decide) (fun hf => ?_) (fun hf => ?_)
      · refine lv_iconst (v := 0) hx hb dX1_holds_41 (by decide) ?_
        exact tk_rzR S hr hlk hI hf dX1_holds_42
      · refine lv_iconst (v := 1) hx hb dX1_holds_37 (by decide) ?_
        refine lv_goto (tgt := 42) hx hb dX1_holds_38 (by decide) ?_
        exact tk_rzR S hr hlk hI hf dX1_holds_42
