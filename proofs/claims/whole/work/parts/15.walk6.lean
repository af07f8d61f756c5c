/-! X4_within -/
abbrev rm_X4_within : Room := { frames := 0, cells := 0, slots := 0, locals := 0 }
def f_X4_within (x0 : Int32) (x1 : Int32) (x2 : Int32) : Option (Int32) := (if x0 < x1 then tzr (0 : Int32) (some (0 : Int32)) else (if x2 < x0 then tzr (0 : Int32) (some (0 : Int32)) else tzr (1 : Int32) (some (1 : Int32))))
theorem yd_X4_within : yX4_within.cls ≠ "java/lang/invoke/MethodHandle" ∧ yX4_within.cls ≠ "java/lang/invoke/VarHandle" ∧ (parseMethodDescriptor yX4_within.desc).map (fun d => d.parameters.length) = some 3 := by decide +kernel
set_option maxHeartbeats 4000000 in
set_option maxRecDepth 100000 in
theorem c_X4_within (l : Launch) (G : tG) (st : tST) (x0 : Int32) (x1 : Int32) (x2 : Int32) {r : Int32} (hf : f_X4_within x0 x1 x2 = some r) : tCI l G yX4_within cX4_within 3 (some .boolean) rm_X4_within [.int x0, .int x1, .int x2] st r st := by
  refine tk_entI (by decide +kernel) (Nat.le_of_ble_eq_true rfl) (fun p e s m below meth c ls S hr hlk hI hl => ?_)
  have hl : lv_has ls 3 [(0, .int x0), (1, .int x1), (2, .int x2)] := hl
  have S : CallFix p m c cX4_within 3 s [.int x0, .int x1, .int x2].toArray wsL_law RX4 := S
  have hx := S.1
  have hb := S.2.1
  have hown := S.2.2.2.1
  have hts := S.2.2.2.2
  unfold f_X4_within at hf
  refine lv_iload_n hx hb dX4_within_0 rfl (lv_at hl 0 rfl) ?_
  refine lv_iload_n hx hb dX4_within_1 rfl (lv_at hl 1 rfl) ?_
  refine tk_icmp_lt (tgt := 14) hx hb hf dX4_within_2 (by decide) (fun hf => ?_) (fun hf => ?_)
  · refine lv_iconst (v := 0) hx hb dX4_within_14 (by decide) ?_
    exact tk_rzR S hr hlk hI hf dX4_within_15
  · refine lv_iload_n hx hb dX4_within_5 rfl (lv_at hl 0 rfl) ?_
    refine lv_iload_n hx hb dX4_within_6 rfl (lv_at hl 2 rfl) ?_
    refine tk_icmp_gt (tgt := 14) hx hb hf dX4_within_7 (by decide) (fun hf => ?_) (fun hf => ?_)
    · refine lv_iconst (v := 0) hx hb dX4_within_14 (by decide) ?_
      exact tk_rzR S hr hlk hI hf dX4_within_15
    · refine lv_iconst (v := 1) hx hb dX4_within_10 (by decide) ?_
      refine lv_goto (tgt := 15) hx hb dX4_within_11 (by decide) ?_
      exact tk_rzR S hr hlk hI hf dX4_within_15
/-! X4_letter -/
abbrev rm_X4_letter : Room := { frames := 1, cells := 0, slots := 0, locals := 22 }
def f_X4_letter (x1 : Int32) (st : tST) : Option (Int32 × tST) := (f_X4_within x1 (32 : Int32) (126 : Int32)).bind (fun r1 => (if r1 = 0 then some ((-1002 : Int32), st) else (if (tg_I st 100) = (40 : Int32) then some ((-1004 : Int32), st) else tas 40 (tg_I st 100) (tp_A st 20 ((tg_I st 100)).toNatClampNeg x1) (fun s2 => tlet (tp_I s2 100 ((tg_I s2 100) + (1 : Int32))) (fun s3 => some ((tg_I s3 100), s3))))))
theorem yd_X4_letter : yX4_letter.cls = RX4 ∧ yX4_letter.cls ≠ "java/lang/invoke/MethodHandle" ∧ yX4_letter.cls ≠ "java/lang/invoke/VarHandle" ∧ (parseMethodDescriptor yX4_letter.desc).map (fun d => d.parameters.length) = some 1 := by decide +kernel
set_option maxHeartbeats 4000000 in
set_option maxRecDepth 100000 in
theorem c_X4_letter (l : Launch) (G : tG) (st : tST) (x1 : Int32) {r : Int32} {st' : tST} (hf : f_X4_letter x1 st = some (r, st')) : tCI l G yX4_letter cX4_letter 2 (some .int) rm_X4_letter [.ref (tad G 19), .int x1] st r st' := by
  refine tk_entI (by decide +kernel) (Nat.le_of_ble_eq_true rfl) (fun p e s m below meth c ls S hr hlk hI hl => ?_)
  have hl : lv_has ls 2 [(0, .ref (tad G 19)), (1, .int x1)] := hl
  have S : CallFix p m c cX4_letter 2 s [.ref (tad G 19), .int x1].toArray wsL_law RX4 := S
  have hx := S.1
  have hb := S.2.1
  have hown := S.2.2.2.1
  have hts := S.2.2.2.2
  unfold f_X4_letter at hf
  refine lv_iload_n hx hb dX4_letter_0 rfl (lv_at hl 1 rfl) ?_
  refine lv_bipush (v := 32) hx hb dX4_letter_1 (by decide) ?_
  refine lv_bipush (v := 126) hx hb dX4_letter_3 (by decide) ?_
  refine tk_bd hf (fun r1 hq hf => ?_)
  refine tk_sI S hI hl.1 (c_X4_within l G st x1 (32 : Int32) (126 : Int32) hq) (va_cwS 3 hts (tk_gS mw_95 mw_96 mw_5 mw_97) rfl rfl rfl yd_X4_within ⟨Nat.le_of_ble_eq_true rfl, Nat.le_of_ble_eq_true rfl⟩) rfl [] rfl (Nat.le_of_ble_eq_true rfl) dX4_letter_5 (fun H locs hI => ?_)
  refine tk_if_ne (tgt := 15) hx hb hf dX4_letter_8 (by decide) (fun hf => ?_) (fun hf => ?_)
  · refine lv_aload_n hx hb dX4_letter_15 rfl (lv_at hl 0 rfl) ?_
    refine tg_X4_0 S hI mw_94 dX4_letter_16 ?_
    refine lv_bipush (v := 40) hx hb dX4_letter_19 (by decide) ?_
    refine tk_icmp_ne (tgt := 28) hx hb hf dX4_letter_21 (by decide) (fun hf => ?_) (fun hf => ?_)
    · refine lv_aload_n hx hb dX4_letter_28 rfl (lv_at hl 0 rfl) ?_
      refine tg_X4_1 S hI mw_64 dX4_letter_29 ?_
      refine lv_aload_n hx hb dX4_letter_32 rfl (lv_at hl 0 rfl) ?_
      refine tg_X4_0 S hI mw_94 dX4_letter_33 ?_
      refine lv_iload_n hx hb dX4_letter_36 rfl (lv_at hl 1 rfl) ?_
      refine tk_iast S hI (k := 20) (n := 40) rfl (twa_20 G _) hf dX4_letter_37 (fun s2 H locs hI hf => ?_)
      refine lv_aload_n hx hb dX4_letter_38 rfl (lv_at hl 0 rfl) ?_
      refine lv_dup hx hb dX4_letter_39 rfl ?_
      refine tg_X4_0 S hI mw_94 dX4_letter_40 ?_
      refine lv_iconst (v := 1) hx hb dX4_letter_43 (by decide) ?_
      refine lv_iadd hx hb dX4_letter_44 ?_
      refine tp_X4_0 S hI mw_94 hf dX4_letter_45 (fun s3 H locs hI hf => ?_)
      refine lv_aload_n hx hb dX4_letter_48 rfl (lv_at hl 0 rfl) ?_
      refine tg_X4_0 S hI mw_94 dX4_letter_49 ?_
      exact tk_riW S hr hlk hI hf dX4_letter_52
    · refine lv_sipush (v := -1004) hx hb dX4_letter_24 (by decide) ?_
      exact tk_riW S hr hlk hI hf dX4_letter_27
  · refine lv_sipush (v := -1002) hx hb dX4_letter_11 (by decide) ?_
    exact tk_riW S hr hlk hI hf dX4_letter_14
/-! X4_blank -/
abbrev rm_X4_blank : Room := { frames := 0, cells := 0, slots := 0, locals := 0 }
def f_X4_blank (st : tST) : Option (Int32 × tST) := tlet (tg_I st 100) (fun i1 => tlet (tp_I st 100 (0 : Int32)) (fun s2 => some (i1, s2)))
theorem yd_X4_blank : yX4_blank.cls = RX4 ∧ yX4_blank.cls ≠ "java/lang/invoke/MethodHandle" ∧ yX4_blank.cls ≠ "java/lang/invoke/VarHandle" ∧ (parseMethodDescriptor yX4_blank.desc).map (fun d => d.parameters.length) = some 0 := by decide +kernel
set_option maxHeartbeats 4000000 in
set_option maxRecDepth 100000 in
theorem c_X4_blank (l : Launch) (G : tG) (st : tST) {r : Int32} {st' : tST} (hf : f_X4_blank st = some (r, st')) : tCI l G yX4_blank cX4_blank 2 (some .int) rm_X4_blank [.ref (tad G 19)] st r st' := by
  refine tk_entI (by decide +kernel) (Nat.le_of_ble_eq_true rfl) (fun p e s m below meth c ls S hr hlk hI hl => ?_)
  have hl : lv_has ls 2 [(0, .ref (tad G 19))] := hl
  have S : CallFix p m c cX4_blank 2 s [.ref (tad G 19)].toArray wsL_law RX4 := S
  have hx := S.1
  have hb := S.2.1
  have hown := S.2.2.2.1
  have hts := S.2.2.2.2
  unfold f_X4_blank at hf
  refine lv_aload_n hx hb dX4_blank_0 rfl (lv_at hl 0 rfl) ?_
  refine tg_X4_0 S hI mw_94 dX4_blank_1 ?_
  refine tk_topi hf (fun i1 hf => ?_)
  refine lv_istore_n (lv' := [(1, .int i1), (0, .ref (tad G 19))]) hx hb dX4_blank_4 rfl hl (by decide) rfl (fun ls hl => ?_)
  refine lv_aload_n hx hb dX4_blank_5 rfl (lv_at hl 1 rfl) ?_
  refine lv_iconst (v := 0) hx hb dX4_blank_6 (by decide) ?_
  refine tp_X4_0 S hI mw_94 hf dX4_blank_7 (fun s2 H locs hI hf => ?_)
  refine lv_iload_n hx hb dX4_blank_10 rfl (lv_at hl 0 rfl) ?_
  exact tk_riW S hr hlk hI hf dX4_blank_11
/-! X4_layOn -/
abbrev rm_X4_layOn : Room := { frames := 0, cells := 0, slots := 0, locals := 0 }
def f_X4_layOn_20 : Nat → Int32 → Int32 → tST → Option (tST)
  | 0, _, _, _ => none
  | n + 1, x2, x3, st => tal 90 (tg_A st 34) x3 (fun v1 => (if v1 = (-1 : Int32) then tas 90 x3 (tp_A st 34 (x3).toNatClampNeg x2) (fun s2 => some s2) else tal 90 (tg_A st 34) x3 (fun v3 => f_X4_layOn_20 n x2 v3 st)))
def f_X4_layOn (x1 : Int32) (x2 : Int32) (st : tST) : Option (tST) := tal 90 (tg_A st 33) x1 (fun v1 => (if v1 = (-1 : Int32) then tas 90 x1 (tp_A st 33 (x1).toNatClampNeg x2) (fun s2 => some s2) else f_X4_layOn_20 tfu x2 v1 st))
theorem yd_X4_layOn : yX4_layOn.cls = RX4 ∧ yX4_layOn.cls ≠ "java/lang/invoke/MethodHandle" ∧ yX4_layOn.cls ≠ "java/lang/invoke/VarHandle" ∧ (parseMethodDescriptor yX4_layOn.desc).map (fun d => d.parameters.length) = some 2 := by decide +kernel
set_option maxHeartbeats 4000000 in
set_option maxRecDepth 100000 in
theorem k_X4_layOn_20 {l : Launch} {G : tG} {p : Program} {e : Env} {s : State} {m : MethodId} {below : List Frame} {meth : Method} {c : Code} {args : Array Value} {st' : tST} (S : CallFix p m c cX4_layOn 4 s args wsL_law RX4) (hr : meth.sig.returnType = none) (hlk : meth.locks = false) : ∀ (n : Nat) (x2 : Int32) (x3 : Int32) (st : tST) (H : Heap) (locs : List Loc) (ls : Array Slot), tIn G (tA G s.heap.size) s st H locs → lv_has ls 4 [(0, .ref (tad G 19)), (2, .int x2), (3, .int x3)] → f_X4_layOn_20 n x2 x3 st = some st' → W p l e rm_X4_layOn s m args below meth c H locs 0 0 (tZV G below args s st') (F0 m 20 ls []) := by
  have hx := S.1
  have hb := S.2.1
  have hown := S.2.2.2.1
  have hts := S.2.2.2.2
  intro n
  induction n with
  | zero => intro x2 x3 st H locs ls hI hl hf; exact nomatch (show (none : Option (tST)) = some _ from hf)
  | succ n ih =>
    intro x2 x3 st H locs ls hI hl hf
    rw [f_X4_layOn_20] at hf
    refine lv_aload_n hx hb dX4_layOn_20 rfl (lv_at hl 0 rfl) ?_
    refine tg_X4_18 S hI mw_79 dX4_layOn_21 ?_
    refine lv_iload_n hx hb dX4_layOn_24 rfl (lv_at hl 2 rfl) ?_
    refine tk_iald S hI (k := 34) (n := 90) rfl hf dX4_layOn_25 (fun v1 hf => ?_)
    refine lv_iconst (v := -1) hx hb dX4_layOn_26 (by decide) ?_
    refine tk_icmp_eq (tgt := 40) hx hb hf dX4_layOn_27 (by decide) (fun hf => ?_) (fun hf => ?_)
    · refine lv_aload_n hx hb dX4_layOn_40 rfl (lv_at hl 0 rfl) ?_
      refine tg_X4_18 S hI mw_79 dX4_layOn_41 ?_
      refine lv_iload_n hx hb dX4_layOn_44 rfl (lv_at hl 2 rfl) ?_
      refine lv_iload_n hx hb dX4_layOn_45 rfl (lv_at hl 1 rfl) ?_
      refine tk_iast S hI (k := 34) (n := 90) rfl (twa_34 G _) hf dX4_layOn_46 (fun s2 H locs hI hf => ?_)
      exact tk_rvW S hr hlk hI hf dX4_layOn_47
    · refine lv_aload_n hx hb dX4_layOn_30 rfl (lv_at hl 0 rfl) ?_
      refine tg_X4_18 S hI mw_79 dX4_layOn_31 ?_
      refine lv_iload_n hx hb dX4_layOn_34 rfl (lv_at hl 2 rfl) ?_
      refine tk_iald S hI (k := 34) (n := 90) rfl hf dX4_layOn_35 (fun v3 hf => ?_)
      refine lv_istore_n (lv' := [(3, .int v3), (0, .ref (tad G 19)), (2, .int x2)]) hx hb dX4_layOn_36 rfl hl (by decide) rfl (fun ls hl => ?_)
      refine lv_goto (tgt := 20) hx hb dX4_layOn_37 (by decide) ?_
      exact ih x2 v3 st _ _ _ hI (lv_sub hl [1, 2, 0] rfl) hf
set_option maxHeartbeats 4000000 in
set_option maxRecDepth 100000 in
theorem c_X4_layOn (l : Launch) (G : tG) (st : tST) (x1 : Int32) (x2 : Int32) {st' : tST} (hf : f_X4_layOn x1 x2 st = some st') : tCV l G yX4_layOn cX4_layOn 4 none rm_X4_layOn [.ref (tad G 19), .int x1, .int x2] st st' := by
  refine tk_entV (by decide +kernel) (Nat.le_of_ble_eq_true rfl) (fun p e s m below meth c ls S hr hlk hI hl => ?_)
  have hl : lv_has ls 4 [(0, .ref (tad G 19)), (1, .int x1), (2, .int x2)] := hl
  have S : CallFix p m c cX4_layOn 4 s [.ref (tad G 19), .int x1, .int x2].toArray wsL_law RX4 := S
  have hx := S.1
  have hb := S.2.1
  have hown := S.2.2.2.1
  have hts := S.2.2.2.2
  unfold f_X4_layOn at hf
  refine lv_aload_n hx hb dX4_layOn_0 rfl (lv_at hl 0 rfl) ?_
  refine tg_X4_17 S hI mw_78 dX4_layOn_1 ?_
  refine lv_iload_n hx hb dX4_layOn_4 rfl (lv_at hl 1 rfl) ?_
  refine tk_iald S hI (k := 33) (n := 90) rfl hf dX4_layOn_5 (fun v1 hf => ?_)
  refine lv_istore_n (lv' := [(3, .int v1), (0, .ref (tad G 19)), (1, .int x1), (2, .int x2)]) hx hb dX4_layOn_6 rfl hl (by decide) rfl (fun ls hl => ?_)
  refine lv_iload_n hx hb dX4_layOn_7 rfl (lv_at hl 0 rfl) ?_
  refine lv_iconst (v := -1) hx hb dX4_layOn_8 (by decide) ?_
  refine tk_icmp_ne (tgt := 20) hx hb hf dX4_layOn_9 (by decide) (fun hf => ?_) (fun hf => ?_)
  · exact k_X4_layOn_20 S hr hlk tfu x2 v1 st _ _ _ hI (lv_sub hl [1, 3, 0] rfl) hf
  · refine lv_aload_n hx hb dX4_layOn_12 rfl (lv_at hl 1 rfl) ?_
    refine tg_X4_17 S hI mw_78 dX4_layOn_13 ?_
    refine lv_iload_n hx hb dX4_layOn_16 rfl (lv_at hl 2 rfl) ?_
    refine lv_iload_n hx hb dX4_layOn_17 rfl (lv_at hl 3 rfl) ?_
    refine tk_iast S hI (k := 33) (n := 90) rfl (twa_33 G _) hf dX4_layOn_18 (fun s2 H locs hI hf => ?_)
    exact tk_rvW S hr hlk hI hf dX4_layOn_19
/-! X4_layPlace -/
abbrev rm_X4_layPlace : Room := { frames := 1, cells := 0, slots := 0, locals := 23 }
def f_X4_layPlace_6 : Nat → Int32 → Int32 → Int32 → Int32 → Int32 → tST → Option (tST)
  | 0, _, _, _, _, _, _ => none
  | n + 1, x1, x2, x3, x4, x5, st => (if x5 ≤ x4 then tas 90 x4 (tp_A st 32 (x4).toNatClampNeg (tg_I st 112)) (fun s1 => tas 90 (tg_I s1 112) (tp_A s1 29 ((tg_I s1 112)).toNatClampNeg x1) (fun s2 => tas 90 (tg_I s2 112) (tp_A s2 30 ((tg_I s2 112)).toNatClampNeg x2) (fun s3 => tas 90 (tg_I s3 112) (tp_A s3 31 ((tg_I s3 112)).toNatClampNeg x3) (fun s4 => tas 90 (tg_I s4 112) (tp_A s4 33 ((tg_I s4 112)).toNatClampNeg (-1 : Int32)) (fun s5 => tas 90 (tg_I s5 112) (tp_A s5 34 ((tg_I s5 112)).toNatClampNeg (-1 : Int32)) (fun s6 => (if x2 = (-1 : Int32) then tlet (tp_I s6 112 ((tg_I s6 112) + (1 : Int32))) (fun s7 => some s7) else (f_X4_layOn x2 (tg_I s6 112) s6).bind (fun s8 => tlet (tp_I s8 112 ((tg_I s8 112) + (1 : Int32))) (fun s9 => some s9))))))))) else tal 90 (tg_A st 32) (x5 - (1 : Int32)) (fun v10 => tas 90 x5 (tp_A st 32 (x5).toNatClampNeg v10) (fun s11 => tlet (x5 + (-1 : Int32)) (fun i12 => f_X4_layPlace_6 n x1 x2 x3 x4 i12 s11))))
def f_X4_layPlace (x1 : Int32) (x2 : Int32) (x3 : Int32) (x4 : Int32) (st : tST) : Option (tST) := tlet (tg_I st 112) (fun i1 => f_X4_layPlace_6 tfu x1 x2 x3 x4 i1 st)
theorem yd_X4_layPlace : yX4_layPlace.cls = RX4 ∧ yX4_layPlace.cls ≠ "java/lang/invoke/MethodHandle" ∧ yX4_layPlace.cls ≠ "java/lang/invoke/VarHandle" ∧ (parseMethodDescriptor yX4_layPlace.desc).map (fun d => d.parameters.length) = some 4 := by decide +kernel
set_option maxHeartbeats 4000000 in
set_option maxRecDepth 100000 in
theorem k_X4_layPlace_6 {l : Launch} {G : tG} {p : Program} {e : Env} {s : State} {m : MethodId} {below : List Frame} {meth : Method} {c : Code} {args : Array Value} {st' : tST} (S : CallFix p m c cX4_layPlace 6 s args wsL_law RX4) (hr : meth.sig.returnType = none) (hlk : meth.locks = false) : ∀ (n : Nat) (x1 : Int32) (x2 : Int32) (x3 : Int32) (x4 : Int32) (x5 : Int32) (st : tST) (H : Heap) (locs : List Loc) (ls : Array Slot), tIn G (tA G s.heap.size) s st H locs → lv_has ls 6 [(0, .ref (tad G 19)), (1, .int x1), (2, .int x2), (3, .int x3), (4, .int x4), (5, .int x5)] → f_X4_layPlace_6 n x1 x2 x3 x4 x5 st = some st' → W p l e rm_X4_layPlace s m args below meth c H locs 0 0 (tZV G below args s st') (F0 m 6 ls []) := by
  have hx := S.1
  have hb := S.2.1
  have hown := S.2.2.2.1
  have hts := S.2.2.2.2
  intro n
  induction n with
  | zero => intro x1 x2 x3 x4 x5 st H locs ls hI hl hf; exact nomatch (show (none : Option (tST)) = some _ from hf)
  | succ n ih =>
    intro x1 x2 x3 x4 x5 st H locs ls hI hl hf
    rw [f_X4_layPlace_6] at hf
    refine lv_iload hx hb dX4_layPlace_6 (lv_at hl 5 rfl) ?_
    refine lv_iload hx hb dX4_layPlace_8 (lv_at hl 4 rfl) ?_
    refine tk_icmp_le (tgt := 35) hx hb hf dX4_layPlace_10 (by decide) (fun hf => ?_) (fun hf => ?_)
    · refine lv_aload_n hx hb dX4_layPlace_35 rfl (lv_at hl 0 rfl) ?_
      refine tg_X4_16 S hI mw_77 dX4_layPlace_36 ?_
      refine lv_iload hx hb dX4_layPlace_39 (lv_at hl 4 rfl) ?_
      refine lv_aload_n hx hb dX4_layPlace_41 rfl (lv_at hl 0 rfl) ?_
      refine tg_X4_12 S hI mw_137 dX4_layPlace_42 ?_
      refine tk_iast S hI (k := 32) (n := 90) rfl (twa_32 G _) hf dX4_layPlace_45 (fun s1 H locs hI hf => ?_)
      refine lv_aload_n hx hb dX4_layPlace_46 rfl (lv_at hl 0 rfl) ?_
      refine tg_X4_13 S hI mw_74 dX4_layPlace_47 ?_
      refine lv_aload_n hx hb dX4_layPlace_50 rfl (lv_at hl 0 rfl) ?_
      refine tg_X4_12 S hI mw_137 dX4_layPlace_51 ?_
      refine lv_iload_n hx hb dX4_layPlace_54 rfl (lv_at hl 1 rfl) ?_
      refine tk_iast S hI (k := 29) (n := 90) rfl (twa_29 G _) hf dX4_layPlace_55 (fun s2 H locs hI hf => ?_)
      refine lv_aload_n hx hb dX4_layPlace_56 rfl (lv_at hl 0 rfl) ?_
      refine tg_X4_14 S hI mw_75 dX4_layPlace_57 ?_
      refine lv_aload_n hx hb dX4_layPlace_60 rfl (lv_at hl 0 rfl) ?_
      refine tg_X4_12 S hI mw_137 dX4_layPlace_61 ?_
      refine lv_iload_n hx hb dX4_layPlace_64 rfl (lv_at hl 2 rfl) ?_
      refine tk_iast S hI (k := 30) (n := 90) rfl (twa_30 G _) hf dX4_layPlace_65 (fun s3 H locs hI hf => ?_)
      refine lv_aload_n hx hb dX4_layPlace_66 rfl (lv_at hl 0 rfl) ?_
      refine tg_X4_15 S hI mw_76 dX4_layPlace_67 ?_
      refine lv_aload_n hx hb dX4_layPlace_70 rfl (lv_at hl 0 rfl) ?_
      refine tg_X4_12 S hI mw_137 dX4_layPlace_71 ?_
      refine lv_iload_n hx hb dX4_layPlace_74 rfl (lv_at hl 3 rfl) ?_
      refine tk_iast S hI (k := 31) (n := 90) rfl (twa_31 G _) hf dX4_layPlace_75 (fun s4 H locs hI hf => ?_)
      refine lv_aload_n hx hb dX4_layPlace_76 rfl (lv_at hl 0 rfl) ?_
      refine tg_X4_17 S hI mw_78 dX4_layPlace_77 ?_
      refine lv_aload_n hx hb dX4_layPlace_80 rfl (lv_at hl 0 rfl) ?_
      refine tg_X4_12 S hI mw_137 dX4_layPlace_81 ?_
      refine lv_iconst (v := -1) hx hb dX4_layPlace_84 (by decide) ?_
      refine tk_iast S hI (k := 33) (n := 90) rfl (twa_33 G _) hf dX4_layPlace_85 (fun s5 H locs hI hf => ?_)
      refine lv_aload_n hx hb dX4_layPlace_86 rfl (lv_at hl 0 rfl) ?_
      refine tg_X4_18 S hI mw_79 dX4_layPlace_87 ?_
      refine lv_aload_n hx hb dX4_layPlace_90 rfl (lv_at hl 0 rfl) ?_
      refine tg_X4_12 S hI mw_137 dX4_layPlace_91 ?_
      refine lv_iconst (v := -1) hx hb dX4_layPlace_94 (by decide) ?_
      refine tk_iast S hI (k := 34) (n := 90) rfl (twa_34 G _) hf dX4_layPlace_95 (fun s6 H locs hI hf => ?_)
      refine lv_iload_n hx hb dX4_layPlace_96 rfl (lv_at hl 2 rfl) ?_
      refine lv_iconst (v := -1) hx hb dX4_layPlace_97 (by decide) ?_
      refine tk_icmp_eq (tgt := 110) hx hb hf dX4_layPlace_98 (by decide) (fun hf => ?_) (fun hf => ?_)
      · refine lv_aload_n hx hb dX4_layPlace_110 rfl (lv_at hl 0 rfl) ?_
        refine lv_dup hx hb dX4_layPlace_111 rfl ?_
        refine tg_X4_12 S hI mw_137 dX4_layPlace_112 ?_
        refine lv_iconst (v := 1) hx hb dX4_layPlace_115 (by decide) ?_
        refine lv_iadd hx hb dX4_layPlace_116 ?_
        refine tp_X4_12 S hI mw_137 hf dX4_layPlace_117 (fun s7 H locs hI hf => ?_)
        exact tk_rvW S hr hlk hI hf dX4_layPlace_120
      · refine lv_aload_n hx hb dX4_layPlace_101 rfl (lv_at hl 0 rfl) ?_
        refine lv_iload_n hx hb dX4_layPlace_102 rfl (lv_at hl 2 rfl) ?_
        refine lv_aload_n hx hb dX4_layPlace_103 rfl (lv_at hl 0 rfl) ?_
        refine tg_X4_12 S hI mw_137 dX4_layPlace_104 ?_
        refine tk_bd hf (fun s8 hq hf => ?_)
        refine tk_vV S hI hl.1 (c_X4_layOn l G s6 x2 (tg_I s6 112) hq) (cwV 2 hts (tk_gV mw_148 mw_149 mw_150 mw_5 mw_151) rfl rfl rfl yd_X4_layOn ⟨Nat.le_of_ble_eq_true rfl, Nat.le_of_ble_eq_true rfl⟩) 19 4 rfl rfl rfl rfl [] rfl (Nat.le_of_ble_eq_true rfl) dX4_layPlace_107 (fun H locs hI => ?_)
        refine lv_aload_n hx hb dX4_layPlace_110 rfl (lv_at hl 0 rfl) ?_
        refine lv_dup hx hb dX4_layPlace_111 rfl ?_
        refine tg_X4_12 S hI mw_137 dX4_layPlace_112 ?_
        refine lv_iconst (v := 1) hx hb dX4_layPlace_115 (by decide) ?_
        refine lv_iadd hx hb dX4_layPlace_116 ?_
        refine tp_X4_12 S hI mw_137 hf dX4_layPlace_117 (fun s9 H locs hI hf => ?_)
        exact tk_rvW S hr hlk hI hf dX4_layPlace_120
    · refine lv_aload_n hx hb dX4_layPlace_13 rfl (lv_at hl 0 rfl) ?_
      refine tg_X4_16 S hI mw_77 dX4_layPlace_14 ?_
      refine lv_iload hx hb dX4_layPlace_17 (lv_at hl 5 rfl) ?_
      refine lv_aload_n hx hb dX4_layPlace_19 rfl (lv_at hl 0 rfl) ?_
      refine tg_X4_16 S hI mw_77 dX4_layPlace_20 ?_
      refine lv_iload hx hb dX4_layPlace_23 (lv_at hl 5 rfl) ?_
      refine lv_iconst (v := 1) hx hb dX4_layPlace_25 (by decide) ?_
      refine lv_isub hx hb dX4_layPlace_26 ?_
      refine tk_iald S hI (k := 32) (n := 90) rfl hf dX4_layPlace_27 (fun v10 hf => ?_)
      refine tk_iast S hI (k := 32) (n := 90) rfl (twa_32 G _) hf dX4_layPlace_28 (fun s11 H locs hI hf => ?_)
      refine tk_let hf (fun i12 ei12 hf => ?_)
      refine lv_iinc (v := i12) (lv' := [(5, .int i12), (0, .ref (tad G 19)), (1, .int x1), (2, .int x2), (3, .int x3), (4, .int x4)]) hx hb dX4_layPlace_29 hl (k := 5) rfl (by rw [ei12]; rfl) (by decide) rfl (fun ls hl => ?_)
      refine lv_goto (tgt := 6) hx hb dX4_layPlace_32 (by decide) ?_
      exact ih x1 x2 x3 x4 i12 s11 _ _ _ hI (lv_sub hl [1, 2, 3, 4, 5, 0] rfl) hf
set_option maxHeartbeats 4000000 in
set_option maxRecDepth 100000 in
theorem c_X4_layPlace (l : Launch) (G : tG) (st : tST) (x1 : Int32) (x2 : Int32) (x3 : Int32) (x4 : Int32) {st' : tST} (hf : f_X4_layPlace x1 x2 x3 x4 st = some st') : tCV l G yX4_layPlace cX4_layPlace 6 none rm_X4_layPlace [.ref (tad G 19), .int x1, .int x2, .int x3, .int x4] st st' := by
  refine tk_entV (by decide +kernel) (Nat.le_of_ble_eq_true rfl) (fun p e s m below meth c ls S hr hlk hI hl => ?_)
  have hl : lv_has ls 6 [(0, .ref (tad G 19)), (1, .int x1), (2, .int x2), (3, .int x3), (4, .int x4)] := hl
  have S : CallFix p m c cX4_layPlace 6 s [.ref (tad G 19), .int x1, .int x2, .int x3, .int x4].toArray wsL_law RX4 := S
  have hx := S.1
  have hb := S.2.1
  have hown := S.2.2.2.1
  have hts := S.2.2.2.2
  unfold f_X4_layPlace at hf
  refine lv_aload_n hx hb dX4_layPlace_0 rfl (lv_at hl 0 rfl) ?_
  refine tg_X4_12 S hI mw_137 dX4_layPlace_1 ?_
  refine tk_topi hf (fun i1 hf => ?_)
  refine lv_istore (lv' := [(5, .int i1), (0, .ref (tad G 19)), (1, .int x1), (2, .int x2), (3, .int x3), (4, .int x4)]) hx hb dX4_layPlace_4 hl (by decide) rfl (fun ls hl => ?_)
  exact k_X4_layPlace_6 S hr hlk tfu x1 x2 x3 x4 i1 st _ _ _ hI (lv_sub hl [1, 2, 3, 4, 5, 0] rfl) hf
/-! X4_comes -/
abbrev rm_X4_comes : Room := { frames := 2, cells := 0, slots := 0, locals := 48 }
def f_X4_comes (x1 : Int32) (x2 : Int32) (x3 : Int32) (st : tST) : Option (tST) := tas 64 (tg_I st 102) (tp_A st 21 ((tg_I st 102)).toNatClampNeg x1) (fun s1 => tas 64 (tg_I s1 102) (tp_A s1 22 ((tg_I s1 102)).toNatClampNeg x2) (fun s2 => tas 64 (tg_I s2 102) (tp_A s2 24 ((tg_I s2 102)).toNatClampNeg (0 : Int32)) (fun s3 => tas 64 (tg_I s3 102) (tp_A s3 23 ((tg_I s3 102)).toNatClampNeg (tg_I s3 112)) (fun s4 => (f_X4_layPlace (tg_I s4 102) (-1 : Int32) x2 x3 s4).bind (fun s5 => tlet (tp_I s5 102 ((tg_I s5 102) + (1 : Int32))) (fun s6 => some s6))))))
theorem yd_X4_comes : yX4_comes.cls = RX4 ∧ yX4_comes.cls ≠ "java/lang/invoke/MethodHandle" ∧ yX4_comes.cls ≠ "java/lang/invoke/VarHandle" ∧ (parseMethodDescriptor yX4_comes.desc).map (fun d => d.parameters.length) = some 3 := by decide +kernel
set_option maxHeartbeats 4000000 in
set_option maxRecDepth 100000 in
theorem c_X4_comes (l : Launch) (G : tG) (st : tST) (x1 : Int32) (x2 : Int32) (x3 : Int32) {st' : tST} (hf : f_X4_comes x1 x2 x3 st = some st') : tCV l G yX4_comes cX4_comes 4 none rm_X4_comes [.ref (tad G 19), .int x1, .int x2, .int x3] st st' := by
  refine tk_entV (by decide +kernel) (Nat.le_of_ble_eq_true rfl) (fun p e s m below meth c ls S hr hlk hI hl => ?_)
  have hl : lv_has ls 4 [(0, .ref (tad G 19)), (1, .int x1), (2, .int x2), (3, .int x3)] := hl
  have S : CallFix p m c cX4_comes 4 s [.ref (tad G 19), .int x1, .int x2, .int x3].toArray wsL_law RX4 := S
  have hx := S.1
  have hb := S.2.1
  have hown := S.2.2.2.1
  have hts := S.2.2.2.2
  unfold f_X4_comes at hf
  refine lv_aload_n hx hb dX4_comes_0 rfl (lv_at hl 0 rfl) ?_
  refine tg_X4_3 S hI mw_65 dX4_comes_1 ?_
  refine lv_aload_n hx hb dX4_comes_4 rfl (lv_at hl 0 rfl) ?_
  refine tg_X4_2 S hI mw_136 dX4_comes_5 ?_
  refine lv_iload_n hx hb dX4_comes_8 rfl (lv_at hl 1 rfl) ?_
  refine tk_iast S hI (k := 21) (n := 64) rfl (twa_21 G _) hf dX4_comes_9 (fun s1 H locs hI hf => ?_)
  refine lv_aload_n hx hb dX4_comes_10 rfl (lv_at hl 0 rfl) ?_
  refine tg_X4_4 S hI mw_66 dX4_comes_11 ?_
  refine lv_aload_n hx hb dX4_comes_14 rfl (lv_at hl 0 rfl) ?_
  refine tg_X4_2 S hI mw_136 dX4_comes_15 ?_
  refine lv_iload_n hx hb dX4_comes_18 rfl (lv_at hl 2 rfl) ?_
  refine tk_iast S hI (k := 22) (n := 64) rfl (twa_22 G _) hf dX4_comes_19 (fun s2 H locs hI hf => ?_)
  refine lv_aload_n hx hb dX4_comes_20 rfl (lv_at hl 0 rfl) ?_
  refine tg_X4_6 S hI mw_68 dX4_comes_21 ?_
  refine lv_aload_n hx hb dX4_comes_24 rfl (lv_at hl 0 rfl) ?_
  refine tg_X4_2 S hI mw_136 dX4_comes_25 ?_
  refine lv_iconst (v := 0) hx hb dX4_comes_28 (by decide) ?_
  refine tk_iast S hI (k := 24) (n := 64) rfl (twa_24 G _) hf dX4_comes_29 (fun s3 H locs hI hf => ?_)
  refine lv_aload_n hx hb dX4_comes_30 rfl (lv_at hl 0 rfl) ?_
  refine tg_X4_5 S hI mw_67 dX4_comes_31 ?_
  refine lv_aload_n hx hb dX4_comes_34 rfl (lv_at hl 0 rfl) ?_
  refine tg_X4_2 S hI mw_136 dX4_comes_35 ?_
  refine lv_aload_n hx hb dX4_comes_38 rfl (lv_at hl 0 rfl) ?_
  refine tg_X4_12 S hI mw_137 dX4_comes_39 ?_
  refine tk_iast S hI (k := 23) (n := 64) rfl (twa_23 G _) hf dX4_comes_42 (fun s4 H locs hI hf => ?_)
  refine lv_aload_n hx hb dX4_comes_43 rfl (lv_at hl 0 rfl) ?_
  refine lv_aload_n hx hb dX4_comes_44 rfl (lv_at hl 0 rfl) ?_
  refine tg_X4_2 S hI mw_136 dX4_comes_45 ?_
  refine lv_iconst (v := -1) hx hb dX4_comes_48 (by decide) ?_
  refine lv_iload_n hx hb dX4_comes_49 rfl (lv_at hl 2 rfl) ?_
  refine lv_iload_n hx hb dX4_comes_50 rfl (lv_at hl 3 rfl) ?_
  refine tk_bd hf (fun s5 hq hf => ?_)
  refine tk_vV S hI hl.1 (c_X4_layPlace l G s4 (tg_I s4 102) (-1 : Int32) x2 x3 hq) (cwV 4 hts (tk_gV mw_144 mw_145 mw_146 mw_5 mw_147) rfl rfl rfl yd_X4_layPlace ⟨Nat.le_of_ble_eq_true rfl, Nat.le_of_ble_eq_true rfl⟩) 19 4 rfl rfl rfl rfl [] rfl (Nat.le_of_ble_eq_true rfl) dX4_comes_51 (fun H locs hI => ?_)
  refine lv_aload_n hx hb dX4_comes_54 rfl (lv_at hl 0 rfl) ?_
  refine lv_dup hx hb dX4_comes_55 rfl ?_
  refine tg_X4_2 S hI mw_136 dX4_comes_56 ?_
  refine lv_iconst (v := 1) hx hb dX4_comes_59 (by decide) ?_
  refine lv_iadd hx hb dX4_comes_60 ?_
  refine tp_X4_2 S hI mw_136 hf dX4_comes_61 (fun s6 H locs hI hf => ?_)
  exact tk_rvW S hr hlk hI hf dX4_comes_64
/-! X4_begin -/
abbrev rm_X4_begin : Room := { frames := 3, cells := 0, slots := 0, locals := 71 }
def f_X4_begin_17 : Nat → Int32 → tST → Option (Int32 × tST)
  | 0, _, _ => none
  | n + 1, x1, st => (if (tg_I st 100) ≤ x1 then tlet (tp_I st 119 ((tg_I st 119) + (1 : Int32))) (fun s1 => tlet (tp_I s1 100 (0 : Int32)) (fun s2 => some ((tg_I s2 102), s2))) else tal 40 (tg_A st 20) x1 (fun v3 => (f_X4_comes v3 (-1 : Int32) (tg_I st 112) st).bind (fun s4 => tlet (x1 + (1 : Int32)) (fun i5 => f_X4_begin_17 n i5 s4))))
def f_X4_begin (st : tST) : Option (Int32 × tST) := tlet (tp_I st 102 (0 : Int32)) (fun s1 => tlet (tp_I s1 112 (0 : Int32)) (fun s2 => tlet (tp_I s2 107 (0 : Int32)) (fun s3 => f_X4_begin_17 tfu (0 : Int32) s3)))
theorem yd_X4_begin : yX4_begin.cls = RX4 ∧ yX4_begin.cls ≠ "java/lang/invoke/MethodHandle" ∧ yX4_begin.cls ≠ "java/lang/invoke/VarHandle" ∧ (parseMethodDescriptor yX4_begin.desc).map (fun d => d.parameters.length) = some 0 := by decide +kernel
set_option maxHeartbeats 4000000 in
set_option maxRecDepth 100000 in
theorem k_X4_begin_17 {l : Launch} {G : tG} {p : Program} {e : Env} {s : State} {m : MethodId} {below : List Frame} {meth : Method} {c : Code} {args : Array Value} {r : Int32} {st' : tST} (S : CallFix p m c cX4_begin 2 s args wsL_law RX4) (hr : meth.sig.returnType = (some .int)) (hlk : meth.locks = false) : ∀ (n : Nat) (x1 : Int32) (st : tST) (H : Heap) (locs : List Loc) (ls : Array Slot), tIn G (tA G s.heap.size) s st H locs → lv_has ls 2 [(0, .ref (tad G 19)), (1, .int x1)] → f_X4_begin_17 n x1 st = some (r, st') → W p l e rm_X4_begin s m args below meth c H locs 0 0 (tZI G below args s r st') (F0 m 17 ls []) := by
  have hx := S.1
  have hb := S.2.1
  have hown := S.2.2.2.1
  have hts := S.2.2.2.2
  intro n
  induction n with
  | zero => intro x1 st H locs ls hI hl hf; exact nomatch (show (none : Option (Int32 × tST)) = some _ from hf)
  | succ n ih =>
    intro x1 st H locs ls hI hl hf
    rw [f_X4_begin_17] at hf
    refine lv_iload_n hx hb dX4_begin_17 rfl (lv_at hl 1 rfl) ?_
    refine lv_aload_n hx hb dX4_begin_18 rfl (lv_at hl 0 rfl) ?_
    refine tg_X4_0 S hI mw_94 dX4_begin_19 ?_
    refine tk_icmp_ge (tgt := 46) hx hb hf dX4_begin_22 (by decide) (fun hf => ?_) (fun hf => ?_)
    · refine lv_aload_n hx hb dX4_begin_46 rfl (lv_at hl 0 rfl) ?_
      refine lv_dup hx hb dX4_begin_47 rfl ?_
      refine tg_X4_19 S hI mw_139 dX4_begin_48 ?_
      refine lv_iconst (v := 1) hx hb dX4_begin_51 (by decide) ?_
      refine lv_iadd hx hb dX4_begin_52 ?_
      refine tp_X4_19 S hI mw_139 hf dX4_begin_53 (fun s1 H locs hI hf => ?_)
      refine lv_aload_n hx hb dX4_begin_56 rfl (lv_at hl 0 rfl) ?_
      refine lv_iconst (v := 0) hx hb dX4_begin_57 (by decide) ?_
      refine tp_X4_0 S hI mw_94 hf dX4_begin_58 (fun s2 H locs hI hf => ?_)
      refine lv_aload_n hx hb dX4_begin_61 rfl (lv_at hl 0 rfl) ?_
      refine tg_X4_2 S hI mw_136 dX4_begin_62 ?_
      exact tk_riW S hr hlk hI hf dX4_begin_65
    · refine lv_aload_n hx hb dX4_begin_25 rfl (lv_at hl 0 rfl) ?_
      refine lv_aload_n hx hb dX4_begin_26 rfl (lv_at hl 0 rfl) ?_
      refine tg_X4_1 S hI mw_64 dX4_begin_27 ?_
      refine lv_iload_n hx hb dX4_begin_30 rfl (lv_at hl 1 rfl) ?_
      refine tk_iald S hI (k := 20) (n := 40) rfl hf dX4_begin_31 (fun v3 hf => ?_)
      refine lv_iconst (v := -1) hx hb dX4_begin_32 (by decide) ?_
      refine lv_aload_n hx hb dX4_begin_33 rfl (lv_at hl 0 rfl) ?_
      refine tg_X4_12 S hI mw_137 dX4_begin_34 ?_
      refine tk_bd hf (fun s4 hq hf => ?_)
      refine tk_vV S hI hl.1 (c_X4_comes l G st v3 (-1 : Int32) (tg_I st 112) hq) (cwV 3 hts (tk_gV mw_140 mw_141 mw_142 mw_5 mw_143) rfl rfl rfl yd_X4_comes ⟨Nat.le_of_ble_eq_true rfl, Nat.le_of_ble_eq_true rfl⟩) 19 4 rfl rfl rfl rfl [] rfl (Nat.le_of_ble_eq_true rfl) dX4_begin_37 (fun H locs hI => ?_)
      refine tk_let hf (fun i5 ei5 hf => ?_)
      refine lv_iinc (v := i5) (lv' := [(1, .int i5), (0, .ref (tad G 19))]) hx hb dX4_begin_40 hl (k := 1) rfl (by rw [ei5]; rfl) (by decide) rfl (fun ls hl => ?_)
      refine lv_goto (tgt := 17) hx hb dX4_begin_43 (by decide) ?_
      exact ih i5 s4 _ _ _ hI (lv_sub hl [1, 0] rfl) hf
set_option maxHeartbeats 4000000 in
set_option maxRecDepth 100000 in
theorem c_X4_begin (l : Launch) (G : tG) (st : tST) {r : Int32} {st' : tST} (hf : f_X4_begin st = some (r, st')) : tCI l G yX4_begin cX4_begin 2 (some .int) rm_X4_begin [.ref (tad G 19)] st r st' := by
  refine tk_entI (by decide +kernel) (Nat.le_of_ble_eq_true rfl) (fun p e s m below meth c ls S hr hlk hI hl => ?_)
  have hl : lv_has ls 2 [(0, .ref (tad G 19))] := hl
  have S : CallFix p m c cX4_begin 2 s [.ref (tad G 19)].toArray wsL_law RX4 := S
  have hx := S.1
  have hb := S.2.1
  have hown := S.2.2.2.1
  have hts := S.2.2.2.2
  unfold f_X4_begin at hf
  refine lv_aload_n hx hb dX4_begin_0 rfl (lv_at hl 0 rfl) ?_
  refine lv_iconst (v := 0) hx hb dX4_begin_1 (by decide) ?_
  refine tp_X4_2 S hI mw_136 hf dX4_begin_2 (fun s1 H locs hI hf => ?_)
  refine lv_aload_n hx hb dX4_begin_5 rfl (lv_at hl 0 rfl) ?_
  refine lv_iconst (v := 0) hx hb dX4_begin_6 (by decide) ?_
  refine tp_X4_12 S hI mw_137 hf dX4_begin_7 (fun s2 H locs hI hf => ?_)
  refine lv_aload_n hx hb dX4_begin_10 rfl (lv_at hl 0 rfl) ?_
  refine lv_iconst (v := 0) hx hb dX4_begin_11 (by decide) ?_
  refine tp_X4_7 S hI mw_138 hf dX4_begin_12 (fun s3 H locs hI hf => ?_)
  refine lv_iconst (v := 0) hx hb dX4_begin_15 (by decide) ?_
  refine lv_istore_n (lv' := [(1, .int (0 : Int32)), (0, .ref (tad G 19))]) hx hb dX4_begin_16 rfl hl (by decide) rfl (fun ls hl => ?_)
  exact k_X4_begin_17 S hr hlk tfu (0 : Int32) s3 _ _ _ hI (lv_sub hl [1, 0] rfl) hf
/-! X4_isAuthor -/
abbrev rm_X4_isAuthor : Room := { frames := 1, cells := 0, slots := 0, locals := 22 }
def f_X4_isAuthor (x0 : Int32) : Option (Int32) := (f_X4_within x0 (0 : Int32) (3 : Int32)).bind (fun r1 => tzr r1 (some r1))
theorem yd_X4_isAuthor : yX4_isAuthor.cls ≠ "java/lang/invoke/MethodHandle" ∧ yX4_isAuthor.cls ≠ "java/lang/invoke/VarHandle" ∧ (parseMethodDescriptor yX4_isAuthor.desc).map (fun d => d.parameters.length) = some 1 := by decide +kernel
set_option maxHeartbeats 4000000 in
set_option maxRecDepth 100000 in
theorem c_X4_isAuthor (l : Launch) (G : tG) (st : tST) (x0 : Int32) {r : Int32} (hf : f_X4_isAuthor x0 = some r) : tCI l G yX4_isAuthor cX4_isAuthor 1 (some .boolean) rm_X4_isAuthor [.int x0] st r st := by
  refine tk_entI (by decide +kernel) (Nat.le_of_ble_eq_true rfl) (fun p e s m below meth c ls S hr hlk hI hl => ?_)
  have hl : lv_has ls 1 [(0, .int x0)] := hl
  have S : CallFix p m c cX4_isAuthor 1 s [.int x0].toArray wsL_law RX4 := S
  have hx := S.1
  have hb := S.2.1
  have hown := S.2.2.2.1
  have hts := S.2.2.2.2
  unfold f_X4_isAuthor at hf
  refine lv_iload_n hx hb dX4_isAuthor_0 rfl (lv_at hl 0 rfl) ?_
  refine lv_iconst (v := 0) hx hb dX4_isAuthor_1 (by decide) ?_
  refine lv_iconst (v := 3) hx hb dX4_isAuthor_2 (by decide) ?_
  refine tk_bd hf (fun r1 hq hf => ?_)
  refine tk_sI S hI hl.1 (c_X4_within l G st x0 (0 : Int32) (3 : Int32) hq) (va_cwS 3 hts (tk_gS mw_95 mw_96 mw_5 mw_97) rfl rfl rfl yd_X4_within ⟨Nat.le_of_ble_eq_true rfl, Nat.le_of_ble_eq_true rfl⟩) rfl [] rfl (Nat.le_of_ble_eq_true rfl) dX4_isAuthor_3 (fun H locs hI => ?_)
  exact tk_rzR S hr hlk hI hf dX4_isAuthor_6
/-! X4_setOf -/
abbrev rm_X4_setOf : Room := { frames := 0, cells := 0, slots := 0, locals := 0 }
def f_X4_setOf_4 (st : tST)  : Nat → Int32 → Int32 → Int32 → Option (Int32)
  | 0, _, _, _ => none
  | n + 1, x1, x2, x3 => (if (tg_I st 107) ≤ x3 then some x2 else (if x1 = (1 : Int32) then tal 12 (tg_A st 27) x3 (fun v1 => (if v1 = (1 : Int32) then tlet (x2 ||| ((1 : Int32) <<< (x3 &&& (31 : Int32)))) (fun i2 => tlet (x3 + (1 : Int32)) (fun i3 => f_X4_setOf_4 st n x1 i2 i3)) else tal 12 (tg_A st 27) x3 (fun v4 => (if v4 = 0 then tlet (x2 ||| ((1 : Int32) <<< (x3 &&& (31 : Int32)))) (fun i7 => tlet (x3 + (1 : Int32)) (fun i8 => f_X4_setOf_4 st n x1 i7 i8)) else tlet (x2 ||| (0 : Int32)) (fun i5 => tlet (x3 + (1 : Int32)) (fun i6 => f_X4_setOf_4 st n x1 i5 i6)))))) else (if x1 ≤ (1 : Int32) then tal 12 (tg_A st 27) x3 (fun v9 => (if v9 = (1 : Int32) then tlet (x2 ||| ((1 : Int32) <<< (x3 &&& (31 : Int32)))) (fun i10 => tlet (x3 + (1 : Int32)) (fun i11 => f_X4_setOf_4 st n x1 i10 i11)) else tal 12 (tg_A st 27) x3 (fun v12 => (if v12 = 0 then tlet (x2 ||| (0 : Int32)) (fun i15 => tlet (x3 + (1 : Int32)) (fun i16 => f_X4_setOf_4 st n x1 i15 i16)) else tlet (x2 ||| (0 : Int32)) (fun i13 => tlet (x3 + (1 : Int32)) (fun i14 => f_X4_setOf_4 st n x1 i13 i14)))))) else tal 12 (tg_A st 26) x3 (fun v17 => (if v17 = (x1 - (2 : Int32)) then tal 12 (tg_A st 27) x3 (fun v18 => (if v18 = (1 : Int32) then tlet (x2 ||| ((1 : Int32) <<< (x3 &&& (31 : Int32)))) (fun i19 => tlet (x3 + (1 : Int32)) (fun i20 => f_X4_setOf_4 st n x1 i19 i20)) else tal 12 (tg_A st 27) x3 (fun v21 => (if v21 = 0 then tlet (x2 ||| ((1 : Int32) <<< (x3 &&& (31 : Int32)))) (fun i24 => tlet (x3 + (1 : Int32)) (fun i25 => f_X4_setOf_4 st n x1 i24 i25)) else tlet (x2 ||| (0 : Int32)) (fun i22 => tlet (x3 + (1 : Int32)) (fun i23 => f_X4_setOf_4 st n x1 i22 i23)))))) else tal 12 (tg_A st 28) x3 (fun v26 => (if v26 = 0 then tal 12 (tg_A st 27) x3 (fun v27 => (if v27 = (1 : Int32) then tlet (x2 ||| ((1 : Int32) <<< (x3 &&& (31 : Int32)))) (fun i28 => tlet (x3 + (1 : Int32)) (fun i29 => f_X4_setOf_4 st n x1 i28 i29)) else tal 12 (tg_A st 27) x3 (fun v30 => (if v30 = 0 then tlet (x2 ||| (0 : Int32)) (fun i33 => tlet (x3 + (1 : Int32)) (fun i34 => f_X4_setOf_4 st n x1 i33 i34)) else tlet (x2 ||| (0 : Int32)) (fun i31 => tlet (x3 + (1 : Int32)) (fun i32 => f_X4_setOf_4 st n x1 i31 i32)))))) else tal 12 (tg_A st 27) x3 (fun v35 => (if v35 = (1 : Int32) then tlet (x2 ||| ((1 : Int32) <<< (x3 &&& (31 : Int32)))) (fun i36 => tlet (x3 + (1 : Int32)) (fun i37 => f_X4_setOf_4 st n x1 i36 i37)) else tal 12 (tg_A st 27) x3 (fun v38 => (if v38 = 0 then tlet (x2 ||| ((1 : Int32) <<< (x3 &&& (31 : Int32)))) (fun i41 => tlet (x3 + (1 : Int32)) (fun i42 => f_X4_setOf_4 st n x1 i41 i42)) else tlet (x2 ||| (0 : Int32)) (fun i39 => tlet (x3 + (1 : Int32)) (fun i40 => f_X4_setOf_4 st n x1 i39 i40)))))))))))))
def f_X4_setOf (x1 : Int32) (st : tST) : Option (Int32) := f_X4_setOf_4 st tfu x1 (0 : Int32) (0 : Int32)
theorem yd_X4_setOf : yX4_setOf.cls = RX4 ∧ yX4_setOf.cls ≠ "java/lang/invoke/MethodHandle" ∧ yX4_setOf.cls ≠ "java/lang/invoke/VarHandle" ∧ (parseMethodDescriptor yX4_setOf.desc).map (fun d => d.parameters.length) = some 1 := by decide +kernel
set_option maxHeartbeats 4000000 in
set_option maxRecDepth 100000 in
theorem k_X4_setOf_4 {l : Launch} {G : tG} {p : Program} {e : Env} {s : State} {m : MethodId} {below : List Frame} {meth : Method} {c : Code} {args : Array Value} {r : Int32} {st : tST} (S : CallFix p m c cX4_setOf 5 s args wsL_law RX4) (hr : meth.sig.returnType = (some .int)) (hlk : meth.locks = false) : ∀ (n : Nat) (x1 : Int32) (x2 : Int32) (x3 : Int32) (H : Heap) (locs : List Loc) (ls : Array Slot), tIn G (tA G s.heap.size) s st H locs → lv_has ls 5 [(0, .ref (tad G 19)), (1, .int x1), (2, .int x2), (3, .int x3)] → f_X4_setOf_4 st n x1 x2 x3 = some r → W p l e rm_X4_setOf s m args below meth c H locs 0 0 (tZI G below args s r st) (F0 m 4 ls []) := by
  have hx := S.1
  have hb := S.2.1
  have hown := S.2.2.2.1
  have hts := S.2.2.2.2
  intro n
  induction n with
  | zero => intro x1 x2 x3 H locs ls hI hl hf; exact nomatch (show (none : Option (Int32)) = some _ from hf)
  | succ n ih =>
    intro x1 x2 x3 H locs ls hI hl hf
    rw [f_X4_setOf_4] at hf
    refine lv_iload_n hx hb dX4_setOf_4 rfl (lv_at hl 3 rfl) ?_
    refine lv_aload_n hx hb dX4_setOf_5 rfl (lv_at hl 0 rfl) ?_
    refine tg_X4_7 S hI mw_138 dX4_setOf_6 ?_
    refine tk_icmp_ge (tgt := 90) hx hb hf dX4_setOf_9 (by decide) (fun hf => ?_) (fun hf => ?_)
    · refine lv_iload_n hx hb dX4_setOf_90 rfl (lv_at hl 2 rfl) ?_
      exact tk_riR S hr hlk hI hf dX4_setOf_91
    · refine lv_iload_n hx hb dX4_setOf_12 rfl (lv_at hl 1 rfl) ?_
      refine lv_iconst (v := 1) hx hb dX4_setOf_13 (by decide) ?_
      refine tk_icmp_eq (tgt := 43) hx hb hf dX4_setOf_14 (by decide) (fun hf => ?_) (fun hf => ?_)
      · refine lv_iconst (v := 1) hx hb dX4_setOf_43 (by decide) ?_
        refine lv_goto (tgt := 48) hx hb dX4_setOf_44 (by decide) ?_
        refine lv_istore (lv' := [(4, .int (1 : Int32)), (0, .ref (tad G 19)), (1, .int x1), (2, .int x2), (3, .int x3)]) hx hb dX4_setOf_48 hl (by decide) rfl (fun ls hl => ?_)
        refine lv_iload_n hx hb dX4_setOf_50 rfl (lv_at hl 3 rfl) ?_
        refine lv_aload_n hx hb dX4_setOf_51 rfl (lv_at hl 1 rfl) ?_
        refine tg_X4_10 S hI mw_71 dX4_setOf_52 ?_
        refine lv_iload_n hx hb dX4_setOf_55 rfl (lv_at hl 4 rfl) ?_
        refine tk_iald S hI (k := 27) (n := 12) rfl hf dX4_setOf_56 (fun v1 hf => ?_)
        refine lv_iconst (v := 1) hx hb dX4_setOf_57 (by decide) ?_
        refine tk_icmp_eq (tgt := 75) hx hb hf dX4_setOf_58 (by decide) (fun hf => ?_) (fun hf => ?_)
        · refine lv_iconst (v := 1) hx hb dX4_setOf_75 (by decide) ?_
          refine lv_iload_n hx hb dX4_setOf_76 rfl (lv_at hl 4 rfl) ?_
          refine lv_ishl hx hb dX4_setOf_77 ?_
          refine lv_goto (tgt := 82) hx hb dX4_setOf_78 (by decide) ?_
          refine lv_ior hx hb dX4_setOf_82 ?_
          refine tk_topi hf (fun i2 hf => ?_)
          refine lv_istore_n (lv' := [(2, .int i2), (4, .int (1 : Int32)), (0, .ref (tad G 19)), (1, .int x1), (3, .int x3)]) hx hb dX4_setOf_83 rfl hl (by decide) rfl (fun ls hl => ?_)
          refine tk_let hf (fun i3 ei3 hf => ?_)
          refine lv_iinc (v := i3) (lv' := [(3, .int i3), (2, .int i2), (4, .int (1 : Int32)), (0, .ref (tad G 19)), (1, .int x1)]) hx hb dX4_setOf_84 hl (k := 4) rfl (by rw [ei3]; rfl) (by decide) rfl (fun ls hl => ?_)
          refine lv_goto (tgt := 4) hx hb dX4_setOf_87 (by decide) ?_
          exact ih x1 i2 i3 _ _ _ hI (lv_sub hl [3, 4, 1, 0] rfl) hf
        · refine lv_aload_n hx hb dX4_setOf_61 rfl (lv_at hl 1 rfl) ?_
          refine tg_X4_10 S hI mw_71 dX4_setOf_62 ?_
          refine lv_iload_n hx hb dX4_setOf_65 rfl (lv_at hl 4 rfl) ?_
          refine tk_iald S hI (k := 27) (n := 12) rfl hf dX4_setOf_66 (fun v4 hf => ?_)
          refine tk_if_ne (tgt := 81) hx hb hf dX4_setOf_67 (by decide) (fun hf => ?_) (fun hf => ?_)
          · refine lv_iconst (v := 0) hx hb dX4_setOf_81 (by decide) ?_
            refine lv_ior hx hb dX4_setOf_82 ?_
            refine tk_topi hf (fun i5 hf => ?_)
            refine lv_istore_n (lv' := [(2, .int i5), (4, .int (1 : Int32)), (0, .ref (tad G 19)), (1, .int x1), (3, .int x3)]) hx hb dX4_setOf_83 rfl hl (by decide) rfl (fun ls hl => ?_)
            refine tk_let hf (fun i6 ei6 hf => ?_)
            refine lv_iinc (v := i6) (lv' := [(3, .int i6), (2, .int i5), (4, .int (1 : Int32)), (0, .ref (tad G 19)), (1, .int x1)]) hx hb dX4_setOf_84 hl (k := 4) rfl (by rw [ei6]; rfl) (by decide) rfl (fun ls hl => ?_)
            refine lv_goto (tgt := 4) hx hb dX4_setOf_87 (by decide) ?_
            exact ih x1 i5 i6 _ _ _ hI (lv_sub hl [3, 4, 1, 0] rfl) hf
          · refine lv_iload hx hb dX4_setOf_70 (lv_at hl 0 rfl) ?_
            refine lv_if_eq (tgt := 81) hx hb dX4_setOf_72 (by decide) (fun h => absurd h (by decide)) (fun _ => ?_)
            refine lv_iconst (v := 1) hx hb dX4_setOf_75 (by decide) ?_
            refine lv_iload_n hx hb dX4_setOf_76 rfl (lv_at hl 4 rfl) ?_
            refine lv_ishl hx hb dX4_setOf_77 ?_
            refine lv_goto (tgt := 82) hx hb dX4_setOf_78 (by decide) ?_
            refine lv_ior hx hb dX4_setOf_82 ?_
            refine tk_topi hf (fun i7 hf => ?_)
            refine lv_istore_n (lv' := [(2, .int i7), (4, .int (1 : Int32)), (0, .ref (tad G 19)), (1, .int x1), (3, .int x3)]) hx hb dX4_setOf_83 rfl hl (by decide) rfl (fun ls hl => ?_)
            refine tk_let hf (fun i8 ei8 hf => ?_)
            refine lv_iinc (v := i8) (lv' := [(3, .int i8), (2, .int i7), (4, .int (1 : Int32)), (0, .ref (tad G 19)), (1, .int x1)]) hx hb dX4_setOf_84 hl (k := 4) rfl (by rw [ei8]; rfl) (by decide) rfl (fun ls hl => ?_)
            refine lv_goto (tgt := 4) hx hb dX4_setOf_87 (by decide) ?_
            exact ih x1 i7 i8 _ _ _ hI (lv_sub hl [3, 4, 1, 0] rfl) hf
      · refine lv_iload_n hx hb dX4_setOf_17 rfl (lv_at hl 1 rfl) ?_
        refine lv_iconst (v := 1) hx hb dX4_setOf_18 (by decide) ?_
        refine tk_icmp_le (tgt := 47) hx hb hf dX4_setOf_19 (by decide) (fun hf => ?_) (fun hf => ?_)
        · refine lv_iconst (v := 0) hx hb dX4_setOf_47 (by decide) ?_
          refine lv_istore (lv' := [(4, .int (0 : Int32)), (0, .ref (tad G 19)), (1, .int x1), (2, .int x2), (3, .int x3)]) hx hb dX4_setOf_48 hl (by decide) rfl (fun ls hl => ?_)
          refine lv_iload_n hx hb dX4_setOf_50 rfl (lv_at hl 3 rfl) ?_
          refine lv_aload_n hx hb dX4_setOf_51 rfl (lv_at hl 1 rfl) ?_
          refine tg_X4_10 S hI mw_71 dX4_setOf_52 ?_
          refine lv_iload_n hx hb dX4_setOf_55 rfl (lv_at hl 4 rfl) ?_
          refine tk_iald S hI (k := 27) (n := 12) rfl hf dX4_setOf_56 (fun v9 hf => ?_)
          refine lv_iconst (v := 1) hx hb dX4_setOf_57 (by decide) ?_
          refine tk_icmp_eq (tgt := 75) hx hb hf dX4_setOf_58 (by decide) (fun hf => ?_) (fun hf => ?_)
          · refine lv_iconst (v := 1) hx hb dX4_setOf_75 (by decide) ?_
            refine lv_iload_n hx hb dX4_setOf_76 rfl (lv_at hl 4 rfl) ?_
            refine lv_ishl hx hb dX4_setOf_77 ?_
            refine lv_goto (tgt := 82) hx hb dX4_setOf_78 (by decide) ?_
            refine lv_ior hx hb dX4_setOf_82 ?_
            refine tk_topi hf (fun i10 hf => ?_)
            refine lv_istore_n (lv' := [(2, .int i10), (4, .int (0 : Int32)), (0, .ref (tad G 19)), (1, .int x1), (3, .int x3)]) hx hb dX4_setOf_83 rfl hl (by decide) rfl (fun ls hl => ?_)
            refine tk_let hf (fun i11 ei11 hf => ?_)
            refine lv_iinc (v := i11) (lv' := [(3, .int i11), (2, .int i10), (4, .int (0 : Int32)), (0, .ref (tad G 19)), (1, .int x1)]) hx hb dX4_setOf_84 hl (k := 4) rfl (by rw [ei11]; rfl) (by decide) rfl (fun ls hl => ?_)
            refine lv_goto (tgt := 4) hx hb dX4_setOf_87 (by decide) ?_
            exact ih x1 i10 i11 _ _ _ hI (lv_sub hl [3, 4, 1, 0] rfl) hf
          · refine lv_aload_n hx hb dX4_setOf_61 rfl (lv_at hl 1 rfl) ?_
            refine tg_X4_10 S hI mw_71 dX4_setOf_62 ?_
            refine lv_iload_n hx hb dX4_setOf_65 rfl (lv_at hl 4 rfl) ?_
            refine tk_iald S hI (k := 27) (n := 12) rfl hf dX4_setOf_66 (fun v12 hf => ?_)
            refine tk_if_ne (tgt := 81) hx hb hf dX4_setOf_67 (by decide) (fun hf => ?_) (fun hf => ?_)
            · refine lv_iconst (v := 0) hx hb dX4_setOf_81 (by decide) ?_
              refine lv_ior hx hb dX4_setOf_82 ?_
              refine tk_topi hf (fun i13 hf => ?_)
              refine lv_istore_n (lv' := [(2, .int i13), (4, .int (0 : Int32)), (0, .ref (tad G 19)), (1, .int x1), (3, .int x3)]) hx hb dX4_setOf_83 rfl hl (by decide) rfl (fun ls hl => ?_)
              refine tk_let hf (fun i14 ei14 hf => ?_)
              refine lv_iinc (v := i14) (lv' := [(3, .int i14), (2, .int i13), (4, .int (0 : Int32)), (0, .ref (tad G 19)), (1, .int x1)]) hx hb dX4_setOf_84 hl (k := 4) rfl (by rw [ei14]; rfl) (by decide) rfl (fun ls hl => ?_)
              refine lv_goto (tgt := 4) hx hb dX4_setOf_87 (by decide) ?_
              exact ih x1 i13 i14 _ _ _ hI (lv_sub hl [3, 4, 1, 0] rfl) hf
            · refine lv_iload hx hb dX4_setOf_70 (lv_at hl 0 rfl) ?_
              refine lv_if_eq (tgt := 81) hx hb dX4_setOf_72 (by decide) (fun _ => ?_) (fun h => absurd h (by decide))
              refine lv_iconst (v := 0) hx hb dX4_setOf_81 (by decide) ?_
              refine lv_ior hx hb dX4_setOf_82 ?_
              refine tk_topi hf (fun i15 hf => ?_)
              refine lv_istore_n (lv' := [(2, .int i15), (4, .int (0 : Int32)), (0, .ref (tad G 19)), (1, .int x1), (3, .int x3)]) hx hb dX4_setOf_83 rfl hl (by decide) rfl (fun ls hl => ?_)
              refine tk_let hf (fun i16 ei16 hf => ?_)
              refine lv_iinc (v := i16) (lv' := [(3, .int i16), (2, .int i15), (4, .int (0 : Int32)), (0, .ref (tad G 19)), (1, .int x1)]) hx hb dX4_setOf_84 hl (k := 4) rfl (by rw [ei16]; rfl) (by decide) rfl (fun ls hl => ?_)
              refine lv_goto (tgt := 4) hx hb dX4_setOf_87 (by decide) ?_
              exact ih x1 i15 i16 _ _ _ hI (lv_sub hl [3, 4, 1, 0] rfl) hf
        · refine lv_aload_n hx hb dX4_setOf_22 rfl (lv_at hl 0 rfl) ?_
          refine tg_X4_9 S hI mw_70 dX4_setOf_23 ?_
          refine lv_iload_n hx hb dX4_setOf_26 rfl (lv_at hl 3 rfl) ?_
          refine tk_iald S hI (k := 26) (n := 12) rfl hf dX4_setOf_27 (fun v17 hf => ?_)
          refine lv_iload_n hx hb dX4_setOf_28 rfl (lv_at hl 1 rfl) ?_
          refine lv_iconst (v := 2) hx hb dX4_setOf_29 (by decide) ?_
          refine lv_isub hx hb dX4_setOf_30 ?_
          refine tk_icmp_eq (tgt := 43) hx hb hf dX4_setOf_31 (by decide) (fun hf => ?_) (fun hf => ?_)
          · refine lv_iconst (v := 1) hx hb dX4_setOf_43 (by decide) ?_
            refine lv_goto (tgt := 48) hx hb dX4_setOf_44 (by decide) ?_
            refine lv_istore (lv' := [(4, .int (1 : Int32)), (0, .ref (tad G 19)), (1, .int x1), (2, .int x2), (3, .int x3)]) hx hb dX4_setOf_48 hl (by decide) rfl (fun ls hl => ?_)
            refine lv_iload_n hx hb dX4_setOf_50 rfl (lv_at hl 3 rfl) ?_
            refine lv_aload_n hx hb dX4_setOf_51 rfl (lv_at hl 1 rfl) ?_
            refine tg_X4_10 S hI mw_71 dX4_setOf_52 ?_
            refine lv_iload_n hx hb dX4_setOf_55 rfl (lv_at hl 4 rfl) ?_
            refine tk_iald S hI (k := 27) (n := 12) rfl hf dX4_setOf_56 (fun v18 hf => ?_)
            refine lv_iconst (v := 1) hx hb dX4_setOf_57 (by decide) ?_
            refine tk_icmp_eq (tgt := 75) hx hb hf dX4_setOf_58 (by decide) (fun hf => ?_) (fun hf => ?_)
            · refine lv_iconst (v := 1) hx hb dX4_setOf_75 (by decide) ?_
              refine lv_iload_n hx hb dX4_setOf_76 rfl (lv_at hl 4 rfl) ?_
              refine lv_ishl hx hb dX4_setOf_77 ?_
              refine lv_goto (tgt := 82) hx hb dX4_setOf_78 (by decide) ?_
              refine lv_ior hx hb dX4_setOf_82 ?_
              refine tk_topi hf (fun i19 hf => ?_)
              refine lv_istore_n (lv' := [(2, .int i19), (4, .int (1 : Int32)), (0, .ref (tad G 19)), (1, .int x1), (3, .int x3)]) hx hb dX4_setOf_83 rfl hl (by decide) rfl (fun ls hl => ?_)
              refine tk_let hf (fun i20 ei20 hf => ?_)
              refine lv_iinc (v := i20) (lv' := [(3, .int i20), (2, .int i19), (4, .int (1 : Int32)), (0, .ref (tad G 19)), (1, .int x1)]) hx hb dX4_setOf_84 hl (k := 4) rfl (by rw [ei20]; rfl) (by decide) rfl (fun ls hl => ?_)
              refine lv_goto (tgt := 4) hx hb dX4_setOf_87 (by decide) ?_
              exact ih x1 i19 i20 _ _ _ hI (lv_sub hl [3, 4, 1, 0] rfl) hf
            · refine lv_aload_n hx hb dX4_setOf_61 rfl (lv_at hl 1 rfl) ?_
              refine tg_X4_10 S hI mw_71 dX4_setOf_62 ?_
              refine lv_iload_n hx hb dX4_setOf_65 rfl (lv_at hl 4 rfl) ?_
              refine tk_iald S hI (k := 27) (n := 12) rfl hf dX4_setOf_66 (fun v21 hf => ?_)
              refine tk_if_ne (tgt := 81) hx hb hf dX4_setOf_67 (by decide) (fun hf => ?_) (fun hf => ?_)
              · refine lv_iconst (v := 0) hx hb dX4_setOf_81 (by decide) ?_
                refine lv_ior hx hb dX4_setOf_82 ?_
                refine tk_topi hf (fun i22 hf => ?_)
                refine lv_istore_n (lv' := [(2, .int i22), (4, .int (1 : Int32)), (0, .ref (tad G 19)), (1, .int x1), (3, .int x3)]) hx hb dX4_setOf_83 rfl hl (by decide) rfl (fun ls hl => ?_)
                refine tk_let hf (fun i23 ei23 hf => ?_)
                refine lv_iinc (v := i23) (lv' := [(3, .int i23), (2, .int i22), (4, .int (1 : Int32)), (0, .ref (tad G 19)), (1, .int x1)]) hx hb dX4_setOf_84 hl (k := 4) rfl (by rw [ei23]; rfl) (by decide) rfl (fun ls hl => ?_)
                refine lv_goto (tgt := 4) hx hb dX4_setOf_87 (by decide) ?_
                exact ih x1 i22 i23 _ _ _ hI (lv_sub hl [3, 4, 1, 0] rfl) hf
              · refine lv_iload hx hb dX4_setOf_70 (lv_at hl 0 rfl) ?_
                refine lv_if_eq (tgt := 81) hx hb dX4_setOf_72 (by decide) (fun h => absurd h (by decide)) (fun _ => ?_)
                refine lv_iconst (v := 1) hx hb dX4_setOf_75 (by decide) ?_
                refine lv_iload_n hx hb dX4_setOf_76 rfl (lv_at hl 4 rfl) ?_
                refine lv_ishl hx hb dX4_setOf_77 ?_
                refine lv_goto (tgt := 82) hx hb dX4_setOf_78 (by decide) ?_
                refine lv_ior hx hb dX4_setOf_82 ?_
                refine tk_topi hf (fun i24 hf => ?_)
                refine lv_istore_n (lv' := [(2, .int i24), (4, .int (1 : Int32)), (0, .ref (tad G 19)), (1, .int x1), (3, .int x3)]) hx hb dX4_setOf_83 rfl hl (by decide) rfl (fun ls hl => ?_)
                refine tk_let hf (fun i25 ei25 hf => ?_)
                refine lv_iinc (v := i25) (lv' := [(3, .int i25), (2, .int i24), (4, .int (1 : Int32)), (0, .ref (tad G 19)), (1, .int x1)]) hx hb dX4_setOf_84 hl (k := 4) rfl (by rw [ei25]; rfl) (by decide) rfl (fun ls hl => ?_)
                refine lv_goto (tgt := 4) hx hb dX4_setOf_87 (by decide) ?_
                exact ih x1 i24 i25 _ _ _ hI (lv_sub hl [3, 4, 1, 0] rfl) hf
          · refine lv_aload_n hx hb dX4_setOf_34 rfl (lv_at hl 0 rfl) ?_
            refine tg_X4_11 S hI mw_73 dX4_setOf_35 ?_
            refine lv_iload_n hx hb dX4_setOf_38 rfl (lv_at hl 3 rfl) ?_
            refine tk_zald S hI (k := 28) (n := 12) rfl hf dX4_setOf_39 (fun v26 hf => ?_)
            refine tk_if_eq (tgt := 47) hx hb hf dX4_setOf_40 (by decide) (fun hf => ?_) (fun hf => ?_)
            · refine lv_iconst (v := 0) hx hb dX4_setOf_47 (by decide) ?_
              refine lv_istore (lv' := [(4, .int (0 : Int32)), (0, .ref (tad G 19)), (1, .int x1), (2, .int x2), (3, .int x3)]) hx hb dX4_setOf_48 hl (by decide) rfl (fun ls hl => ?_)
              refine lv_iload_n hx hb dX4_setOf_50 rfl (lv_at hl 3 rfl) ?_
              refine lv_aload_n hx hb dX4_setOf_51 rfl (lv_at hl 1 rfl) ?_
              refine tg_X4_10 S hI mw_71 dX4_setOf_52 ?_
              refine lv_iload_n hx hb dX4_setOf_55 rfl (lv_at hl 4 rfl) ?_
              refine tk_iald S hI (k := 27) (n := 12) rfl hf dX4_setOf_56 (fun v27 hf => ?_)
              refine lv_iconst (v := 1) hx hb dX4_setOf_57 (by decide) ?_
              refine tk_icmp_eq (tgt := 75) hx hb hf dX4_setOf_58 (by decide) (fun hf => ?_) (fun hf => ?_)
              · refine lv_iconst (v := 1) hx hb dX4_setOf_75 (by decide) ?_
                refine lv_iload_n hx hb dX4_setOf_76 rfl (lv_at hl 4 rfl) ?_
                refine lv_ishl hx hb dX4_setOf_77 ?_
                refine lv_goto (tgt := 82) hx hb dX4_setOf_78 (by decide) ?_
                refine lv_ior hx hb dX4_setOf_82 ?_
                refine tk_topi hf (fun i28 hf => ?_)
                refine lv_istore_n (lv' := [(2, .int i28), (4, .int (0 : Int32)), (0, .ref (tad G 19)), (1, .int x1), (3, .int x3)]) hx hb dX4_setOf_83 rfl hl (by decide) rfl (fun ls hl => ?_)
                refine tk_let hf (fun i29 ei29 hf => ?_)
                refine lv_iinc (v := i29) (lv' := [(3, .int i29), (2, .int i28), (4, .int (0 : Int32)), (0, .ref (tad G 19)), (1, .int x1)]) hx hb dX4_setOf_84 hl (k := 4) rfl (by rw [ei29]; rfl) (by decide) rfl (fun ls hl => ?_)
                refine lv_goto (tgt := 4) hx hb dX4_setOf_87 (by decide) ?_
                exact ih x1 i28 i29 _ _ _ hI (lv_sub hl [3, 4, 1, 0] rfl) hf
              · refine lv_aload_n hx hb dX4_setOf_61 rfl (lv_at hl 1 rfl) ?_
                refine tg_X4_10 S hI mw_71 dX4_setOf_62 ?_
                refine lv_iload_n hx hb dX4_setOf_65 rfl (lv_at hl 4 rfl) ?_
                refine tk_iald S hI (k := 27) (n := 12) rfl hf dX4_setOf_66 (fun v30 hf => ?_)
                refine tk_if_ne (tgt := 81) hx hb hf dX4_setOf_67 (by decide) (fun hf => ?_) (fun hf => ?_)
                · refine lv_iconst (v := 0) hx hb dX4_setOf_81 (by decide) ?_
                  refine lv_ior hx hb dX4_setOf_82 ?_
                  refine tk_topi hf (fun i31 hf => ?_)
                  refine lv_istore_n (lv' := [(2, .int i31), (4, .int (0 : Int32)), (0, .ref (tad G 19)), (1, .int x1), (3, .int x3)]) hx hb dX4_setOf_83 rfl hl (by decide) rfl (fun ls hl => ?_)
                  refine tk_let hf (fun i32 ei32 hf => ?_)
                  refine lv_iinc (v := i32) (lv' := [(3, .int i32), (2, .int i31), (4, .int (0 : Int32)), (0, .ref (tad G 19)), (1, .int x1)]) hx hb dX4_setOf_84 hl (k := 4) rfl (by rw [ei32]; rfl) (by decide) rfl (fun ls hl => ?_)
                  refine lv_goto (tgt := 4) hx hb dX4_setOf_87 (by decide) ?_
                  exact ih x1 i31 i32 _ _ _ hI (lv_sub hl [3, 4, 1, 0] rfl) hf
                · refine lv_iload hx hb dX4_setOf_70 (lv_at hl 0 rfl) ?_
                  refine lv_if_eq (tgt := 81) hx hb dX4_setOf_72 (by decide) (fun _ => ?_) (fun h => absurd h (by decide))
                  refine lv_iconst (v := 0) hx hb dX4_setOf_81 (by decide) ?_
                  refine lv_ior hx hb dX4_setOf_82 ?_
                  refine tk_topi hf (fun i33 hf => ?_)
                  refine lv_istore_n (lv' := [(2, .int i33), (4, .int (0 : Int32)), (0, .ref (tad G 19)), (1, .int x1), (3, .int x3)]) hx hb dX4_setOf_83 rfl hl (by decide) rfl (fun ls hl => ?_)
                  refine tk_let hf (fun i34 ei34 hf => ?_)
                  refine lv_iinc (v := i34) (lv' := [(3, .int i34), (2, .int i33), (4, .int (0 : Int32)), (0, .ref (tad G 19)), (1, .int x1)]) hx hb dX4_setOf_84 hl (k := 4) rfl (by rw [ei34]; rfl) (by decide) rfl (fun ls hl => ?_)
                  refine lv_goto (tgt := 4) hx hb dX4_setOf_87 (by decide) ?_
                  exact ih x1 i33 i34 _ _ _ hI (lv_sub hl [3, 4, 1, 0] rfl) hf
            · refine lv_iconst (v := 1) hx hb dX4_setOf_43 (by decide) ?_
              refine lv_goto (tgt := 48) hx hb dX4_setOf_44 (by decide) ?_
              refine lv_istore (lv' := [(4, .int (1 : Int32)), (0, .ref (tad G 19)), (1, .int x1), (2, .int x2), (3, .int x3)]) hx hb dX4_setOf_48 hl (by decide) rfl (fun ls hl => ?_)
              refine lv_iload_n hx hb dX4_setOf_50 rfl (lv_at hl 3 rfl) ?_
              refine lv_aload_n hx hb dX4_setOf_51 rfl (lv_at hl 1 rfl) ?_
              refine tg_X4_10 S hI mw_71 dX4_setOf_52 ?_
              refine lv_iload_n hx hb dX4_setOf_55 rfl (lv_at hl 4 rfl) ?_
              refine tk_iald S hI (k := 27) (n := 12) rfl hf dX4_setOf_56 (fun v35 hf => ?_)
              refine lv_iconst (v := 1) hx hb dX4_setOf_57 (by decide) ?_
              refine tk_icmp_eq (tgt := 75) hx hb hf dX4_setOf_58 (by decide) (fun hf => ?_) (fun hf => ?_)
              · refine lv_iconst (v := 1) hx hb dX4_setOf_75 (by decide) ?_
                refine lv_iload_n hx hb dX4_setOf_76 rfl (lv_at hl 4 rfl) ?_
                refine lv_ishl hx hb dX4_setOf_77 ?_
                refine lv_goto (tgt := 82) hx hb dX4_setOf_78 (by decide) ?_
                refine lv_ior hx hb dX4_setOf_82 ?_
                refine tk_topi hf (fun i36 hf => ?_)
                refine lv_istore_n (lv' := [(2, .int i36), (4, .int (1 : Int32)), (0, .ref (tad G 19)), (1, .int x1), (3, .int x3)]) hx hb dX4_setOf_83 rfl hl (by decide) rfl (fun ls hl => ?_)
                refine tk_let hf (fun i37 ei37 hf => ?_)
                refine lv_iinc (v := i37) (lv' := [(3, .int i37), (2, .int i36), (4, .int (1 : Int32)), (0, .ref (tad G 19)), (1, .int x1)]) hx hb dX4_setOf_84 hl (k := 4) rfl (by rw [ei37]; rfl) (by decide) rfl (fun ls hl => ?_)
                refine lv_goto (tgt := 4) hx hb dX4_setOf_87 (by decide) ?_
                exact ih x1 i36 i37 _ _ _ hI (lv_sub hl [3, 4, 1, 0] rfl) hf
              · refine lv_aload_n hx hb dX4_setOf_61 rfl (lv_at hl 1 rfl) ?_
                refine tg_X4_10 S hI mw_71 dX4_setOf_62 ?_
                refine lv_iload_n hx hb dX4_setOf_65 rfl (lv_at hl 4 rfl) ?_
                refine tk_iald S hI (k := 27) (n := 12) rfl hf dX4_setOf_66 (fun v38 hf => ?_)
                refine tk_if_ne (tgt := 81) hx hb hf dX4_setOf_67 (by decide) (fun hf => ?_) (fun hf => ?_)
                · refine lv_iconst (v := 0) hx hb dX4_setOf_81 (by decide) ?_
                  refine lv_ior hx hb dX4_setOf_82 ?_
                  refine tk_topi hf (fun i39 hf => ?_)
                  refine lv_istore_n (lv' := [(2, .int i39), (4, .int (1 : Int32)), (0, .ref (tad G 19)), (1, .int x1), (3, .int x3)]) hx hb dX4_setOf_83 rfl hl (by decide) rfl (fun ls hl => ?_)
                  refine tk_let hf (fun i40 ei40 hf => ?_)
                  refine lv_iinc (v := i40) (lv' := [(3, .int i40), (2, .int i39), (4, .int (1 : Int32)), (0, .ref (tad G 19)), (1, .int x1)]) hx hb dX4_setOf_84 hl (k := 4) rfl (by rw [ei40]; rfl) (by decide) rfl (fun ls hl => ?_)
                  refine lv_goto (tgt := 4) hx hb dX4_setOf_87 (by decide) ?_
                  exact ih x1 i39 i40 _ _ _ hI (lv_sub hl [3, 4, 1, 0] rfl) hf
                · refine lv_iload hx hb dX4_setOf_70 (lv_at hl 0 rfl) ?_
                  refine lv_if_eq (tgt := 81) hx hb dX4_setOf_72 (by decide) (fun h => absurd h (by decide)) (fun _ => ?_)
                  refine lv_iconst (v := 1) hx hb dX4_setOf_75 (by decide) ?_
                  refine lv_iload_n hx hb dX4_setOf_76 rfl (lv_at hl 4 rfl) ?_
                  refine lv_ishl hx hb dX4_setOf_77 ?_
                  refine lv_goto (tgt := 82) hx hb dX4_setOf_78 (by decide) ?_
                  refine lv_ior hx hb dX4_setOf_82 ?_
                  refine tk_topi hf (fun i41 hf => ?_)
                  refine lv_istore_n (lv' := [(2, .int i41), (4, .int (1 : Int32)), (0, .ref (tad G 19)), (1, .int x1), (3, .int x3)]) hx hb dX4_setOf_83 rfl hl (by decide) rfl (fun ls hl => ?_)
                  refine tk_let hf (fun i42 ei42 hf => ?_)
                  refine lv_iinc (v := i42) (lv' := [(3, .int i42), (2, .int i41), (4, .int (1 : Int32)), (0, .ref (tad G 19)), (1, .int x1)]) hx hb dX4_setOf_84 hl (k := 4) rfl (by rw [ei42]; rfl) (by decide) rfl (fun ls hl => ?_)
                  refine lv_goto (tgt := 4) hx hb dX4_setOf_87 (by decide) ?_
                  exact ih x1 i41 i42 _ _ _ hI (lv_sub hl [3, 4, 1, 0] rfl) hf
set_option maxHeartbeats 4000000 in
set_option maxRecDepth 100000 in
theorem c_X4_setOf (l : Launch) (G : tG) (st : tST) (x1 : Int32) {r : Int32} (hf : f_X4_setOf x1 st = some r) : tCI l G yX4_setOf cX4_setOf 5 (some .int) rm_X4_setOf [.ref (tad G 19), .int x1] st r st := by
  refine tk_entI (by decide +kernel) (Nat.le_of_ble_eq_true rfl) (fun p e s m below meth c ls S hr hlk hI hl => ?_)
  have hl : lv_has ls 5 [(0, .ref (tad G 19)), (1, .int x1)] := hl
  have S : CallFix p m c cX4_setOf 5 s [.ref (tad G 19), .int x1].toArray wsL_law RX4 := S
  have hx := S.1
  have hb := S.2.1
  have hown := S.2.2.2.1
  have hts := S.2.2.2.2
  unfold f_X4_setOf at hf
  refine lv_iconst (v := 0) hx hb dX4_setOf_0 (by decide) ?_
  refine lv_istore_n (lv' := [(2, .int (0 : Int32)), (0, .ref (tad G 19)), (1, .int x1)]) hx hb dX4_setOf_1 rfl hl (by decide) rfl (fun ls hl => ?_)
  refine lv_iconst (v := 0) hx hb dX4_setOf_2 (by decide) ?_
  refine lv_istore_n (lv' := [(3, .int (0 : Int32)), (2, .int (0 : Int32)), (0, .ref (tad G 19)), (1, .int x1)]) hx hb dX4_setOf_3 rfl hl (by decide) rfl (fun ls hl => ?_)
  exact k_X4_setOf_4 S hr hlk tfu x1 (0 : Int32) (0 : Int32) _ _ _ hI (lv_sub hl [2, 3, 1, 0] rfl) hf
/-! X4_has -/
abbrev rm_X4_has : Room := { frames := 0, cells := 0, slots := 0, locals := 0 }
def f_X4_has (x0 : Int32) (x1 : Int32) : Option (Int32) := (if ((x0 >>> (x1 &&& (31 : Int32))) &&& (1 : Int32)) = (1 : Int32) then tzr (1 : Int32) (some (1 : Int32)) else tzr (0 : Int32) (some (0 : Int32)))
theorem yd_X4_has : yX4_has.cls ≠ "java/lang/invoke/MethodHandle" ∧ yX4_has.cls ≠ "java/lang/invoke/VarHandle" ∧ (parseMethodDescriptor yX4_has.desc).map (fun d => d.parameters.length) = some 2 := by decide +kernel
set_option maxHeartbeats 4000000 in
set_option maxRecDepth 100000 in
theorem c_X4_has (l : Launch) (G : tG) (st : tST) (x0 : Int32) (x1 : Int32) {r : Int32} (hf : f_X4_has x0 x1 = some r) : tCI l G yX4_has cX4_has 2 (some .boolean) rm_X4_has [.int x0, .int x1] st r st := by
  refine tk_entI (by decide +kernel) (Nat.le_of_ble_eq_true rfl) (fun p e s m below meth c ls S hr hlk hI hl => ?_)
  have hl : lv_has ls 2 [(0, .int x0), (1, .int x1)] := hl
  have S : CallFix p m c cX4_has 2 s [.int x0, .int x1].toArray wsL_law RX4 := S
  have hx := S.1
  have hb := S.2.1
  have hown := S.2.2.2.1
  have hts := S.2.2.2.2
  unfold f_X4_has at hf
  refine lv_iload_n hx hb dX4_has_0 rfl (lv_at hl 0 rfl) ?_
  refine lv_iload_n hx hb dX4_has_1 rfl (lv_at hl 1 rfl) ?_
  refine lv_ishr hx hb dX4_has_2 ?_
  refine lv_iconst (v := 1) hx hb dX4_has_3 (by decide) ?_
  refine lv_iand hx hb dX4_has_4 ?_
  refine lv_iconst (v := 1) hx hb dX4_has_5 (by decide) ?_
  refine tk_icmp_ne (tgt := 13) hx hb hf dX4_has_6 (by decide) (fun hf => ?_) (fun hf => ?_)
  · refine lv_iconst (v := 0) hx hb dX4_has_13 (by decide) ?_
    exact tk_rzR S hr hlk hI hf dX4_has_14
  · refine lv_iconst (v := 1) hx hb dX4_has_9 (by decide) ?_
    refine lv_goto (tgt := 14) hx hb dX4_has_10 (by decide) ?_
    exact tk_rzR S hr hlk hI hf dX4_has_14
/-! X4_isThere -/
abbrev rm_X4_isThere : Room := { frames := 1, cells := 0, slots := 0, locals := 21 }
def f_X4_isThere (x1 : Int32) (x2 : Int32) (st : tST) : Option (Int32) := tal 64 (tg_A st 22) x1 (fun v1 => (if v1 = (-1 : Int32) then tal 64 (tg_A st 24) x1 (fun v2 => (if (v2 &&& x2) = 0 then tzr (1 : Int32) (some (1 : Int32)) else tzr (0 : Int32) (some (0 : Int32)))) else tal 64 (tg_A st 22) x1 (fun v3 => (f_X4_has x2 v3).bind (fun r4 => (if r4 = 0 then tzr (0 : Int32) (some (0 : Int32)) else tal 64 (tg_A st 24) x1 (fun v5 => (if (v5 &&& x2) = 0 then tzr (1 : Int32) (some (1 : Int32)) else tzr (0 : Int32) (some (0 : Int32)))))))))
theorem yd_X4_isThere : yX4_isThere.cls = RX4 ∧ yX4_isThere.cls ≠ "java/lang/invoke/MethodHandle" ∧ yX4_isThere.cls ≠ "java/lang/invoke/VarHandle" ∧ (parseMethodDescriptor yX4_isThere.desc).map (fun d => d.parameters.length) = some 2 := by decide +kernel
set_option maxHeartbeats 4000000 in
set_option maxRecDepth 100000 in
theorem c_X4_isThere (l : Launch) (G : tG) (st : tST) (x1 : Int32) (x2 : Int32) {r : Int32} (hf : f_X4_isThere x1 x2 st = some r) : tCI l G yX4_isThere cX4_isThere 4 (some .boolean) rm_X4_isThere [.ref (tad G 19), .int x1, .int x2] st r st := by
  refine tk_entI (by decide +kernel) (Nat.le_of_ble_eq_true rfl) (fun p e s m below meth c ls S hr hlk hI hl => ?_)
  have hl : lv_has ls 4 [(0, .ref (tad G 19)), (1, .int x1), (2, .int x2)] := hl
  have S : CallFix p m c cX4_isThere 4 s [.ref (tad G 19), .int x1, .int x2].toArray wsL_law RX4 := S
  have hx := S.1
  have hb := S.2.1
  have hown := S.2.2.2.1
  have hts := S.2.2.2.2
  unfold f_X4_isThere at hf
  refine lv_aload_n hx hb dX4_isThere_0 rfl (lv_at hl 0 rfl) ?_
  refine tg_X4_4 S hI mw_66 dX4_isThere_1 ?_
  refine lv_iload_n hx hb dX4_isThere_4 rfl (lv_at hl 1 rfl) ?_
  refine tk_iald S hI (k := 22) (n := 64) rfl hf dX4_isThere_5 (fun v1 hf => ?_)
  refine lv_iconst (v := -1) hx hb dX4_isThere_6 (by decide) ?_
  refine tk_icmp_eq (tgt := 23) hx hb hf dX4_isThere_7 (by decide) (fun hf => ?_) (fun hf => ?_)
  · refine lv_iconst (v := 1) hx hb dX4_isThere_23 (by decide) ?_
    refine lv_goto (tgt := 28) hx hb dX4_isThere_24 (by decide) ?_
    refine lv_istore_n (lv' := [(3, .int (1 : Int32)), (0, .ref (tad G 19)), (1, .int x1), (2, .int x2)]) hx hb dX4_isThere_28 rfl hl (by decide) rfl (fun ls hl => ?_)
    refine lv_iload_n hx hb dX4_isThere_29 rfl (lv_at hl 0 rfl) ?_
    refine lv_if_eq (tgt := 48) hx hb dX4_isThere_30 (by decide) (fun h => absurd h (by decide)) (fun _ => ?_)
    refine lv_aload_n hx hb dX4_isThere_33 rfl (lv_at hl 1 rfl) ?_
    refine tg_X4_6 S hI mw_68 dX4_isThere_34 ?_
    refine lv_iload_n hx hb dX4_isThere_37 rfl (lv_at hl 2 rfl) ?_
    refine tk_iald S hI (k := 24) (n := 64) rfl hf dX4_isThere_38 (fun v2 hf => ?_)
    refine lv_iload_n hx hb dX4_isThere_39 rfl (lv_at hl 3 rfl) ?_
    refine lv_iand hx hb dX4_isThere_40 ?_
    refine tk_if_ne (tgt := 48) hx hb hf dX4_isThere_41 (by decide) (fun hf => ?_) (fun hf => ?_)
    · refine lv_iconst (v := 0) hx hb dX4_isThere_48 (by decide) ?_
      exact tk_rzR S hr hlk hI hf dX4_isThere_49
    · refine lv_iconst (v := 1) hx hb dX4_isThere_44 (by decide) ?_
      refine lv_goto (tgt := 49) hx hb dX4_isThere_45 (by decide) ?_
      exact tk_rzR S hr hlk hI hf dX4_isThere_49
  · refine lv_iload_n hx hb dX4_isThere_10 rfl (lv_at hl 2 rfl) ?_
    refine lv_aload_n hx hb dX4_isThere_11 rfl (lv_at hl 0 rfl) ?_
    refine tg_X4_4 S hI mw_66 dX4_isThere_12 ?_
    refine lv_iload_n hx hb dX4_isThere_15 rfl (lv_at hl 1 rfl) ?_
    refine tk_iald S hI (k := 22) (n := 64) rfl hf dX4_isThere_16 (fun v3 hf => ?_)
    refine tk_bd hf (fun r4 hq hf => ?_)
    refine tk_sI S hI hl.1 (c_X4_has l G st x2 v3 hq) (va_cwS 2 hts (tk_gS mw_229 mw_230 mw_5 mw_231) rfl rfl rfl yd_X4_has ⟨Nat.le_of_ble_eq_true rfl, Nat.le_of_ble_eq_true rfl⟩) rfl [] rfl (Nat.le_of_ble_eq_true rfl) dX4_isThere_17 (fun H locs hI => ?_)
    refine tk_if_eq (tgt := 27) hx hb hf dX4_isThere_20 (by decide) (fun hf => ?_) (fun hf => ?_)
    · refine lv_iconst (v := 0) hx hb dX4_isThere_27 (by decide) ?_
      refine lv_istore_n (lv' := [(3, .int (0 : Int32)), (0, .ref (tad G 19)), (1, .int x1), (2, .int x2)]) hx hb dX4_isThere_28 rfl hl (by decide) rfl (fun ls hl => ?_)
      refine lv_iload_n hx hb dX4_isThere_29 rfl (lv_at hl 0 rfl) ?_
      refine lv_if_eq (tgt := 48) hx hb dX4_isThere_30 (by decide) (fun _ => ?_) (fun h => absurd h (by decide))
      refine lv_iconst (v := 0) hx hb dX4_isThere_48 (by decide) ?_
      exact tk_rzR S hr hlk hI hf dX4_isThere_49
    · refine lv_iconst (v := 1) hx hb dX4_isThere_23 (by decide) ?_
      refine lv_goto (tgt := 28) hx hb dX4_isThere_24 (by decide) ?_
      refine lv_istore_n (lv' := [(3, .int (1 : Int32)), (0, .ref (tad G 19)), (1, .int x1), (2, .int x2)]) hx hb dX4_isThere_28 rfl hl (by decide) rfl (fun ls hl => ?_)
      refine lv_iload_n hx hb dX4_isThere_29 rfl (lv_at hl 0 rfl) ?_
      refine lv_if_eq (tgt := 48) hx hb dX4_isThere_30 (by decide) (fun h => absurd h (by decide)) (fun _ => ?_)
      refine lv_aload_n hx hb dX4_isThere_33 rfl (lv_at hl 1 rfl) ?_
      refine tg_X4_6 S hI mw_68 dX4_isThere_34 ?_
      refine lv_iload_n hx hb dX4_isThere_37 rfl (lv_at hl 2 rfl) ?_
      refine tk_iald S hI (k := 24) (n := 64) rfl hf dX4_isThere_38 (fun v5 hf => ?_)
      refine lv_iload_n hx hb dX4_isThere_39 rfl (lv_at hl 3 rfl) ?_
      refine lv_iand hx hb dX4_isThere_40 ?_
      refine tk_if_ne (tgt := 48) hx hb hf dX4_isThere_41 (by decide) (fun hf => ?_) (fun hf => ?_)
      · refine lv_iconst (v := 0) hx hb dX4_isThere_48 (by decide) ?_
        exact tk_rzR S hr hlk hI hf dX4_isThere_49
      · refine lv_iconst (v := 1) hx hb dX4_isThere_44 (by decide) ?_
        refine lv_goto (tgt := 49) hx hb dX4_isThere_45 (by decide) ?_
        exact tk_rzR S hr hlk hI hf dX4_isThere_49
/-! X4_leadsOn -/
abbrev rm_X4_leadsOn : Room := { frames := 1, cells := 0, slots := 0, locals := 21 }
def f_X4_leadsOn_7 (st : tST)  : Nat → Int32 → Int32 → Option (Int32)
  | 0, _, _ => none
  | n + 1, x2, x3 => (if x3 = (-1 : Int32) then some x3 else tal 90 (tg_A st 31) x3 (fun v1 => (f_X4_has x2 v1).bind (fun r2 => (if r2 = 0 then tal 90 (tg_A st 34) x3 (fun v3 => f_X4_leadsOn_7 st n x2 v3) else some x3))))
def f_X4_leadsOn (x1 : Int32) (x2 : Int32) (st : tST) : Option (Int32) := tal 90 (tg_A st 33) x1 (fun v1 => f_X4_leadsOn_7 st tfu x2 v1)
theorem yd_X4_leadsOn : yX4_leadsOn.cls = RX4 ∧ yX4_leadsOn.cls ≠ "java/lang/invoke/MethodHandle" ∧ yX4_leadsOn.cls ≠ "java/lang/invoke/VarHandle" ∧ (parseMethodDescriptor yX4_leadsOn.desc).map (fun d => d.parameters.length) = some 2 := by decide +kernel
set_option maxHeartbeats 4000000 in
set_option maxRecDepth 100000 in
theorem k_X4_leadsOn_7 {l : Launch} {G : tG} {p : Program} {e : Env} {s : State} {m : MethodId} {below : List Frame} {meth : Method} {c : Code} {args : Array Value} {r : Int32} {st : tST} (S : CallFix p m c cX4_leadsOn 4 s args wsL_law RX4) (hr : meth.sig.returnType = (some .int)) (hlk : meth.locks = false) : ∀ (n : Nat) (x2 : Int32) (x3 : Int32) (H : Heap) (locs : List Loc) (ls : Array Slot), tIn G (tA G s.heap.size) s st H locs → lv_has ls 4 [(0, .ref (tad G 19)), (2, .int x2), (3, .int x3)] → f_X4_leadsOn_7 st n x2 x3 = some r → W p l e rm_X4_leadsOn s m args below meth c H locs 0 0 (tZI G below args s r st) (F0 m 7 ls []) := by
  have hx := S.1
  have hb := S.2.1
  have hown := S.2.2.2.1
  have hts := S.2.2.2.2
  intro n
  induction n with
  | zero => intro x2 x3 H locs ls hI hl hf; exact nomatch (show (none : Option (Int32)) = some _ from hf)
  | succ n ih =>
    intro x2 x3 H locs ls hI hl hf
    rw [f_X4_leadsOn_7] at hf
    refine lv_iload_n hx hb dX4_leadsOn_7 rfl (lv_at hl 2 rfl) ?_
    refine lv_iconst (v := -1) hx hb dX4_leadsOn_8 (by decide) ?_
    refine tk_icmp_eq (tgt := 35) hx hb hf dX4_leadsOn_9 (by decide) (fun hf => ?_) (fun hf => ?_)
    · refine lv_iload_n hx hb dX4_leadsOn_35 rfl (lv_at hl 2 rfl) ?_
      exact tk_riR S hr hlk hI hf dX4_leadsOn_36
    · refine lv_iload_n hx hb dX4_leadsOn_12 rfl (lv_at hl 1 rfl) ?_
      refine lv_aload_n hx hb dX4_leadsOn_13 rfl (lv_at hl 0 rfl) ?_
      refine tg_X4_15 S hI mw_76 dX4_leadsOn_14 ?_
      refine lv_iload_n hx hb dX4_leadsOn_17 rfl (lv_at hl 2 rfl) ?_
      refine tk_iald S hI (k := 31) (n := 90) rfl hf dX4_leadsOn_18 (fun v1 hf => ?_)
      refine tk_bd hf (fun r2 hq hf => ?_)
      refine tk_sI S hI hl.1 (c_X4_has l G st x2 v1 hq) (va_cwS 2 hts (tk_gS mw_229 mw_230 mw_5 mw_231) rfl rfl rfl yd_X4_has ⟨Nat.le_of_ble_eq_true rfl, Nat.le_of_ble_eq_true rfl⟩) rfl [] rfl (Nat.le_of_ble_eq_true rfl) dX4_leadsOn_19 (fun H locs hI => ?_)
      refine tk_if_ne (tgt := 35) hx hb hf dX4_leadsOn_22 (by decide) (fun hf => ?_) (fun hf => ?_)
      · refine lv_iload_n hx hb dX4_leadsOn_35 rfl (lv_at hl 2 rfl) ?_
        exact tk_riR S hr hlk hI hf dX4_leadsOn_36
      · refine lv_aload_n hx hb dX4_leadsOn_25 rfl (lv_at hl 0 rfl) ?_
        refine tg_X4_18 S hI mw_79 dX4_leadsOn_26 ?_
        refine lv_iload_n hx hb dX4_leadsOn_29 rfl (lv_at hl 2 rfl) ?_
        refine tk_iald S hI (k := 34) (n := 90) rfl hf dX4_leadsOn_30 (fun v3 hf => ?_)
        refine lv_istore_n (lv' := [(3, .int v3), (0, .ref (tad G 19)), (2, .int x2)]) hx hb dX4_leadsOn_31 rfl hl (by decide) rfl (fun ls hl => ?_)
        refine lv_goto (tgt := 7) hx hb dX4_leadsOn_32 (by decide) ?_
        exact ih x2 v3 _ _ _ hI (lv_sub hl [1, 2, 0] rfl) hf
set_option maxHeartbeats 4000000 in
set_option maxRecDepth 100000 in
theorem c_X4_leadsOn (l : Launch) (G : tG) (st : tST) (x1 : Int32) (x2 : Int32) {r : Int32} (hf : f_X4_leadsOn x1 x2 st = some r) : tCI l G yX4_leadsOn cX4_leadsOn 4 (some .int) rm_X4_leadsOn [.ref (tad G 19), .int x1, .int x2] st r st := by
  refine tk_entI (by decide +kernel) (Nat.le_of_ble_eq_true rfl) (fun p e s m below meth c ls S hr hlk hI hl => ?_)
  have hl : lv_has ls 4 [(0, .ref (tad G 19)), (1, .int x1), (2, .int x2)] := hl
  have S : CallFix p m c cX4_leadsOn 4 s [.ref (tad G 19), .int x1, .int x2].toArray wsL_law RX4 := S
  have hx := S.1
  have hb := S.2.1
  have hown := S.2.2.2.1
  have hts := S.2.2.2.2
  unfold f_X4_leadsOn at hf
  refine lv_aload_n hx hb dX4_leadsOn_0 rfl (lv_at hl 0 rfl) ?_
  refine tg_X4_17 S hI mw_78 dX4_leadsOn_1 ?_
  refine lv_iload_n hx hb dX4_leadsOn_4 rfl (lv_at hl 1 rfl) ?_
  refine tk_iald S hI (k := 33) (n := 90) rfl hf dX4_leadsOn_5 (fun v1 hf => ?_)
  refine lv_istore_n (lv' := [(3, .int v1), (0, .ref (tad G 19)), (1, .int x1), (2, .int x2)]) hx hb dX4_leadsOn_6 rfl hl (by decide) rfl (fun ls hl => ?_)
  exact k_X4_leadsOn_7 S hr hlk tfu x2 v1 _ _ _ hI (lv_sub hl [1, 3, 0] rfl) hf
/-! X4_standsAt -/
abbrev rm_X4_standsAt : Room := { frames := 2, cells := 0, slots := 0, locals := 44 }
def f_X4_standsAt_15 (st : tST)  : Nat → Int32 → Int32 → Int32 → Option (Int32)
  | 0, _, _, _ => none
  | n + 1, x2, x3, x4 => (if x4 = (-1 : Int32) then some x3 else (f_X4_leadsOn x4 x2 st).bind (fun r1 => f_X4_standsAt_15 st n x2 x4 r1))
def f_X4_standsAt (x1 : Int32) (x2 : Int32) (st : tST) : Option (Int32) := tal 64 (tg_A st 23) x1 (fun v1 => (f_X4_leadsOn v1 x2 st).bind (fun r2 => f_X4_standsAt_15 st tfu x2 v1 r2))
theorem yd_X4_standsAt : yX4_standsAt.cls = RX4 ∧ yX4_standsAt.cls ≠ "java/lang/invoke/MethodHandle" ∧ yX4_standsAt.cls ≠ "java/lang/invoke/VarHandle" ∧ (parseMethodDescriptor yX4_standsAt.desc).map (fun d => d.parameters.length) = some 2 := by decide +kernel
set_option maxHeartbeats 4000000 in
set_option maxRecDepth 100000 in
theorem k_X4_standsAt_15 {l : Launch} {G : tG} {p : Program} {e : Env} {s : State} {m : MethodId} {below : List Frame} {meth : Method} {c : Code} {args : Array Value} {r : Int32} {st : tST} (S : CallFix p m c cX4_standsAt 5 s args wsL_law RX4) (hr : meth.sig.returnType = (some .int)) (hlk : meth.locks = false) : ∀ (n : Nat) (x2 : Int32) (x3 : Int32) (x4 : Int32) (H : Heap) (locs : List Loc) (ls : Array Slot), tIn G (tA G s.heap.size) s st H locs → lv_has ls 5 [(0, .ref (tad G 19)), (2, .int x2), (3, .int x3), (4, .int x4)] → f_X4_standsAt_15 st n x2 x3 x4 = some r → W p l e rm_X4_standsAt s m args below meth c H locs 0 0 (tZI G below args s r st) (F0 m 15 ls []) := by
  have hx := S.1
  have hb := S.2.1
  have hown := S.2.2.2.1
  have hts := S.2.2.2.2
  intro n
  induction n with
  | zero => intro x2 x3 x4 H locs ls hI hl hf; exact nomatch (show (none : Option (Int32)) = some _ from hf)
  | succ n ih =>
    intro x2 x3 x4 H locs ls hI hl hf
    rw [f_X4_standsAt_15] at hf
    refine lv_iload hx hb dX4_standsAt_15 (lv_at hl 3 rfl) ?_
    refine lv_iconst (v := -1) hx hb dX4_standsAt_17 (by decide) ?_
    refine tk_icmp_eq (tgt := 35) hx hb hf dX4_standsAt_18 (by decide) (fun hf => ?_) (fun hf => ?_)
    · refine lv_iload_n hx hb dX4_standsAt_35 rfl (lv_at hl 2 rfl) ?_
      exact tk_riR S hr hlk hI hf dX4_standsAt_36
    · refine lv_iload hx hb dX4_standsAt_21 (lv_at hl 3 rfl) ?_
      refine lv_istore_n (lv' := [(3, .int x4), (0, .ref (tad G 19)), (2, .int x2), (4, .int x4)]) hx hb dX4_standsAt_23 rfl hl (by decide) rfl (fun ls hl => ?_)
      refine lv_aload_n hx hb dX4_standsAt_24 rfl (lv_at hl 1 rfl) ?_
      refine lv_iload_n hx hb dX4_standsAt_25 rfl (lv_at hl 0 rfl) ?_
      refine lv_iload_n hx hb dX4_standsAt_26 rfl (lv_at hl 2 rfl) ?_
      refine tk_bd hf (fun r1 hq hf => ?_)
      refine tk_vI S hI hl.1 (c_X4_leadsOn l G st x4 x2 hq) (cwV 2 hts (tk_gV mw_236 mw_237 mw_238 mw_5 mw_239) rfl rfl rfl yd_X4_leadsOn ⟨Nat.le_of_ble_eq_true rfl, Nat.le_of_ble_eq_true rfl⟩) 19 4 rfl rfl rfl rfl [] rfl (Nat.le_of_ble_eq_true rfl) dX4_standsAt_27 (fun H locs hI => ?_)
      refine lv_istore (lv' := [(4, .int r1), (3, .int x4), (0, .ref (tad G 19)), (2, .int x2)]) hx hb dX4_standsAt_30 hl (by decide) rfl (fun ls hl => ?_)
      refine lv_goto (tgt := 15) hx hb dX4_standsAt_32 (by decide) ?_
      exact ih x2 x4 r1 _ _ _ hI (lv_sub hl [2, 3, 1, 0] rfl) hf
set_option maxHeartbeats 4000000 in
set_option maxRecDepth 100000 in
theorem c_X4_standsAt (l : Launch) (G : tG) (st : tST) (x1 : Int32) (x2 : Int32) {r : Int32} (hf : f_X4_standsAt x1 x2 st = some r) : tCI l G yX4_standsAt cX4_standsAt 5 (some .int) rm_X4_standsAt [.ref (tad G 19), .int x1, .int x2] st r st := by
  refine tk_entI (by decide +kernel) (Nat.le_of_ble_eq_true rfl) (fun p e s m below meth c ls S hr hlk hI hl => ?_)
  have hl : lv_has ls 5 [(0, .ref (tad G 19)), (1, .int x1), (2, .int x2)] := hl
  have S : CallFix p m c cX4_standsAt 5 s [.ref (tad G 19), .int x1, .int x2].toArray wsL_law RX4 := S
  have hx := S.1
  have hb := S.2.1
  have hown := S.2.2.2.1
  have hts := S.2.2.2.2
  unfold f_X4_standsAt at hf
  refine lv_aload_n hx hb dX4_standsAt_0 rfl (lv_at hl 0 rfl) ?_
  refine tg_X4_5 S hI mw_67 dX4_standsAt_1 ?_
  refine lv_iload_n hx hb dX4_standsAt_4 rfl (lv_at hl 1 rfl) ?_
  refine tk_iald S hI (k := 23) (n := 64) rfl hf dX4_standsAt_5 (fun v1 hf => ?_)
  refine lv_istore_n (lv' := [(3, .int v1), (0, .ref (tad G 19)), (1, .int x1), (2, .int x2)]) hx hb dX4_standsAt_6 rfl hl (by decide) rfl (fun ls hl => ?_)
  refine lv_aload_n hx hb dX4_standsAt_7 rfl (lv_at hl 1 rfl) ?_
  refine lv_iload_n hx hb dX4_standsAt_8 rfl (lv_at hl 0 rfl) ?_
  refine lv_iload_n hx hb dX4_standsAt_9 rfl (lv_at hl 3 rfl) ?_
  refine tk_bd hf (fun r2 hq hf => ?_)
  refine tk_vI S hI hl.1 (c_X4_leadsOn l G st v1 x2 hq) (cwV 2 hts (tk_gV mw_236 mw_237 mw_238 mw_5 mw_239) rfl rfl rfl yd_X4_leadsOn ⟨Nat.le_of_ble_eq_true rfl, Nat.le_of_ble_eq_true rfl⟩) 19 4 rfl rfl rfl rfl [] rfl (Nat.le_of_ble_eq_true rfl) dX4_standsAt_10 (fun H locs hI => ?_)
  refine lv_istore (lv' := [(4, .int r2), (3, .int v1), (0, .ref (tad G 19)), (1, .int x1), (2, .int x2)]) hx hb dX4_standsAt_13 hl (by decide) rfl (fun ls hl => ?_)
  exact k_X4_standsAt_15 S hr hlk tfu x2 v1 r2 _ _ _ hI (lv_sub hl [2, 4, 1, 0] rfl) hf
/-! X4_layRead -/
abbrev rm_X4_layRead : Room := { frames := 3, cells := 0, slots := 0, locals := 68 }
def f_X4_layRead_67 : Nat → Int32 → tST → Option (tST)
  | 0, _, _ => none
  | n + 1, x2, st => (if (tg_I st 112) ≤ x2 then some st else tal 90 (tg_A st 32) x2 (fun v1 => tal 90 (tg_A st 36) v1 (fun v2 => (if v2 = 0 then tlet (x2 + (1 : Int32)) (fun i3 => f_X4_layRead_67 n i3 st) else tal 90 (tg_A st 32) x2 (fun v4 => tas 64 (tg_I st 121) (tp_A st 35 ((tg_I st 121)).toNatClampNeg v4) (fun s5 => tlet (tp_I s5 121 ((tg_I s5 121) + (1 : Int32))) (fun s6 => tlet (x2 + (1 : Int32)) (fun i7 => f_X4_layRead_67 n i7 s6))))))))
def f_X4_layRead_25 : Nat → Int32 → Int32 → tST → Option (tST)
  | 0, _, _, _ => none
  | n + 1, x1, x2, st => (if (tg_I st 102) ≤ x2 then tlet (tp_I st 121 (0 : Int32)) (fun s1 => f_X4_layRead_67 tfu (0 : Int32) s1) else (f_X4_isThere x2 x1 st).bind (fun r2 => (if r2 = 0 then tlet (x2 + (1 : Int32)) (fun i3 => f_X4_layRead_25 n x1 i3 st) else (f_X4_standsAt x2 x1 st).bind (fun r4 => tas 90 r4 (tp_A st 36 (r4).toNatClampNeg (vp_nar .boolean (1 : Int32))) (fun s5 => tlet (x2 + (1 : Int32)) (fun i6 => f_X4_layRead_25 n x1 i6 s5))))))
def f_X4_layRead_2 : Nat → Int32 → Int32 → tST → Option (tST)
  | 0, _, _, _ => none
  | n + 1, x1, x2, st => (if (tg_I st 112) ≤ x2 then f_X4_layRead_25 tfu x1 (0 : Int32) st else tas 90 x2 (tp_A st 36 (x2).toNatClampNeg (vp_nar .boolean (0 : Int32))) (fun s1 => tlet (x2 + (1 : Int32)) (fun i2 => f_X4_layRead_2 n x1 i2 s1)))
def f_X4_layRead (x1 : Int32) (st : tST) : Option (tST) := f_X4_layRead_2 tfu x1 (0 : Int32) st
theorem yd_X4_layRead : yX4_layRead.cls = RX4 ∧ yX4_layRead.cls ≠ "java/lang/invoke/MethodHandle" ∧ yX4_layRead.cls ≠ "java/lang/invoke/VarHandle" ∧ (parseMethodDescriptor yX4_layRead.desc).map (fun d => d.parameters.length) = some 1 := by decide +kernel
set_option maxHeartbeats 4000000 in
set_option maxRecDepth 100000 in
theorem k_X4_layRead_67 {l : Launch} {G : tG} {p : Program} {e : Env} {s : State} {m : MethodId} {below : List Frame} {meth : Method} {c : Code} {args : Array Value} {st' : tST} (S : CallFix p m c cX4_layRead 3 s args wsL_law RX4) (hr : meth.sig.returnType = none) (hlk : meth.locks = false) : ∀ (n : Nat) (x2 : Int32) (st : tST) (H : Heap) (locs : List Loc) (ls : Array Slot), tIn G (tA G s.heap.size) s st H locs → lv_has ls 3 [(0, .ref (tad G 19)), (2, .int x2)] → f_X4_layRead_67 n x2 st = some st' → W p l e rm_X4_layRead s m args below meth c H locs 0 0 (tZV G below args s st') (F0 m 67 ls []) := by
  have hx := S.1
  have hb := S.2.1
  have hown := S.2.2.2.1
  have hts := S.2.2.2.2
  intro n
  induction n with
  | zero => intro x2 st H locs ls hI hl hf; exact nomatch (show (none : Option (tST)) = some _ from hf)
  | succ n ih =>
    intro x2 st H locs ls hI hl hf
    rw [f_X4_layRead_67] at hf
    refine lv_iload_n hx hb dX4_layRead_67 rfl (lv_at hl 1 rfl) ?_
    refine lv_aload_n hx hb dX4_layRead_68 rfl (lv_at hl 0 rfl) ?_
    refine tg_X4_12 S hI mw_137 dX4_layRead_69 ?_
    refine tk_icmp_ge (tgt := 120) hx hb hf dX4_layRead_72 (by decide) (fun hf => ?_) (fun hf => ?_)
    · exact tk_rvW S hr hlk hI hf dX4_layRead_120
    · refine lv_aload_n hx hb dX4_layRead_75 rfl (lv_at hl 0 rfl) ?_
      refine tg_X4_23 S hI mw_81 dX4_layRead_76 ?_
      refine lv_aload_n hx hb dX4_layRead_79 rfl (lv_at hl 0 rfl) ?_
      refine tg_X4_16 S hI mw_77 dX4_layRead_80 ?_
      refine lv_iload_n hx hb dX4_layRead_83 rfl (lv_at hl 1 rfl) ?_
      refine tk_iald S hI (k := 32) (n := 90) rfl hf dX4_layRead_84 (fun v1 hf => ?_)
      refine tk_zald S hI (k := 36) (n := 90) rfl hf dX4_layRead_85 (fun v2 hf => ?_)
      refine tk_if_eq (tgt := 114) hx hb hf dX4_layRead_86 (by decide) (fun hf => ?_) (fun hf => ?_)
      · refine tk_let hf (fun i3 ei3 hf => ?_)
        refine lv_iinc (v := i3) (lv' := [(2, .int i3), (0, .ref (tad G 19))]) hx hb dX4_layRead_114 hl (k := 1) rfl (by rw [ei3]; rfl) (by decide) rfl (fun ls hl => ?_)
        refine lv_goto (tgt := 67) hx hb dX4_layRead_117 (by decide) ?_
        exact ih i3 st _ _ _ hI (lv_sub hl [1, 0] rfl) hf
      · refine lv_aload_n hx hb dX4_layRead_89 rfl (lv_at hl 0 rfl) ?_
        refine tg_X4_22 S hI mw_80 dX4_layRead_90 ?_
        refine lv_aload_n hx hb dX4_layRead_93 rfl (lv_at hl 0 rfl) ?_
        refine tg_X4_21 S hI mw_213 dX4_layRead_94 ?_
        refine lv_aload_n hx hb dX4_layRead_97 rfl (lv_at hl 0 rfl) ?_
        refine tg_X4_16 S hI mw_77 dX4_layRead_98 ?_
        refine lv_iload_n hx hb dX4_layRead_101 rfl (lv_at hl 1 rfl) ?_
        refine tk_iald S hI (k := 32) (n := 90) rfl hf dX4_layRead_102 (fun v4 hf => ?_)
        refine tk_iast S hI (k := 35) (n := 64) rfl (twa_35 G _) hf dX4_layRead_103 (fun s5 H locs hI hf => ?_)
        refine lv_aload_n hx hb dX4_layRead_104 rfl (lv_at hl 0 rfl) ?_
        refine lv_dup hx hb dX4_layRead_105 rfl ?_
        refine tg_X4_21 S hI mw_213 dX4_layRead_106 ?_
        refine lv_iconst (v := 1) hx hb dX4_layRead_109 (by decide) ?_
        refine lv_iadd hx hb dX4_layRead_110 ?_
        refine tp_X4_21 S hI mw_213 hf dX4_layRead_111 (fun s6 H locs hI hf => ?_)
        refine tk_let hf (fun i7 ei7 hf => ?_)
        refine lv_iinc (v := i7) (lv' := [(2, .int i7), (0, .ref (tad G 19))]) hx hb dX4_layRead_114 hl (k := 1) rfl (by rw [ei7]; rfl) (by decide) rfl (fun ls hl => ?_)
        refine lv_goto (tgt := 67) hx hb dX4_layRead_117 (by decide) ?_
        exact ih i7 s6 _ _ _ hI (lv_sub hl [1, 0] rfl) hf
set_option maxHeartbeats 4000000 in
set_option maxRecDepth 100000 in
theorem k_X4_layRead_25 {l : Launch} {G : tG} {p : Program} {e : Env} {s : State} {m : MethodId} {below : List Frame} {meth : Method} {c : Code} {args : Array Value} {st' : tST} (S : CallFix p m c cX4_layRead 3 s args wsL_law RX4) (hr : meth.sig.returnType = none) (hlk : meth.locks = false) : ∀ (n : Nat) (x1 : Int32) (x2 : Int32) (st : tST) (H : Heap) (locs : List Loc) (ls : Array Slot), tIn G (tA G s.heap.size) s st H locs → lv_has ls 3 [(0, .ref (tad G 19)), (1, .int x1), (2, .int x2)] → f_X4_layRead_25 n x1 x2 st = some st' → W p l e rm_X4_layRead s m args below meth c H locs 0 0 (tZV G below args s st') (F0 m 25 ls []) := by
  have hx := S.1
  have hb := S.2.1
  have hown := S.2.2.2.1
  have hts := S.2.2.2.2
  intro n
  induction n with
  | zero => intro x1 x2 st H locs ls hI hl hf; exact nomatch (show (none : Option (tST)) = some _ from hf)
  | succ n ih =>
    intro x1 x2 st H locs ls hI hl hf
    rw [f_X4_layRead_25] at hf
    refine lv_iload_n hx hb dX4_layRead_25 rfl (lv_at hl 2 rfl) ?_
    refine lv_aload_n hx hb dX4_layRead_26 rfl (lv_at hl 0 rfl) ?_
    refine tg_X4_2 S hI mw_136 dX4_layRead_27 ?_
    refine tk_icmp_ge (tgt := 60) hx hb hf dX4_layRead_30 (by decide) (fun hf => ?_) (fun hf => ?_)
    · refine lv_aload_n hx hb dX4_layRead_60 rfl (lv_at hl 0 rfl) ?_
      refine lv_iconst (v := 0) hx hb dX4_layRead_61 (by decide) ?_
      refine tp_X4_21 S hI mw_213 hf dX4_layRead_62 (fun s1 H locs hI hf => ?_)
      refine lv_iconst (v := 0) hx hb dX4_layRead_65 (by decide) ?_
      refine lv_istore_n (lv' := [(2, .int (0 : Int32)), (0, .ref (tad G 19)), (1, .int x1)]) hx hb dX4_layRead_66 rfl hl (by decide) rfl (fun ls hl => ?_)
      exact k_X4_layRead_67 S hr hlk tfu (0 : Int32) s1 _ _ _ hI (lv_sub hl [1, 0] rfl) hf
    · refine lv_aload_n hx hb dX4_layRead_33 rfl (lv_at hl 0 rfl) ?_
      refine lv_iload_n hx hb dX4_layRead_34 rfl (lv_at hl 2 rfl) ?_
      refine lv_iload_n hx hb dX4_layRead_35 rfl (lv_at hl 1 rfl) ?_
      refine tk_bd hf (fun r2 hq hf => ?_)
      refine tk_vI S hI hl.1 (c_X4_isThere l G st x2 x1 hq) (cwV 2 hts (tk_gV mw_225 mw_226 mw_227 mw_5 mw_228) rfl rfl rfl yd_X4_isThere ⟨Nat.le_of_ble_eq_true rfl, Nat.le_of_ble_eq_true rfl⟩) 19 4 rfl rfl rfl rfl [] rfl (Nat.le_of_ble_eq_true rfl) dX4_layRead_36 (fun H locs hI => ?_)
      refine tk_if_eq (tgt := 54) hx hb hf dX4_layRead_39 (by decide) (fun hf => ?_) (fun hf => ?_)
      · refine tk_let hf (fun i3 ei3 hf => ?_)
        refine lv_iinc (v := i3) (lv' := [(2, .int i3), (0, .ref (tad G 19)), (1, .int x1)]) hx hb dX4_layRead_54 hl (k := 2) rfl (by rw [ei3]; rfl) (by decide) rfl (fun ls hl => ?_)
        refine lv_goto (tgt := 25) hx hb dX4_layRead_57 (by decide) ?_
        exact ih x1 i3 st _ _ _ hI (lv_sub hl [1, 2, 0] rfl) hf
      · refine lv_aload_n hx hb dX4_layRead_42 rfl (lv_at hl 0 rfl) ?_
        refine tg_X4_23 S hI mw_81 dX4_layRead_43 ?_
        refine lv_aload_n hx hb dX4_layRead_46 rfl (lv_at hl 0 rfl) ?_
        refine lv_iload_n hx hb dX4_layRead_47 rfl (lv_at hl 2 rfl) ?_
        refine lv_iload_n hx hb dX4_layRead_48 rfl (lv_at hl 1 rfl) ?_
        refine tk_bd hf (fun r4 hq hf => ?_)
        refine tk_vI S hI hl.1 (c_X4_standsAt l G st x2 x1 hq) (cwV 2 hts (tk_gV mw_232 mw_233 mw_234 mw_5 mw_235) rfl rfl rfl yd_X4_standsAt ⟨Nat.le_of_ble_eq_true rfl, Nat.le_of_ble_eq_true rfl⟩) 19 4 rfl rfl rfl rfl [.ref (tad G 36)] rfl (Nat.le_of_ble_eq_true rfl) dX4_layRead_49 (fun H locs hI => ?_)
        refine lv_iconst (v := 1) hx hb dX4_layRead_52 (by decide) ?_
        refine tk_zast S hI (k := 36) (n := 90) rfl (twa_36 G _) hf dX4_layRead_53 (fun s5 H locs hI hf => ?_)
        refine tk_let hf (fun i6 ei6 hf => ?_)
        refine lv_iinc (v := i6) (lv' := [(2, .int i6), (0, .ref (tad G 19)), (1, .int x1)]) hx hb dX4_layRead_54 hl (k := 2) rfl (by rw [ei6]; rfl) (by decide) rfl (fun ls hl => ?_)
        refine lv_goto (tgt := 25) hx hb dX4_layRead_57 (by decide) ?_
        exact ih x1 i6 s5 _ _ _ hI (lv_sub hl [1, 2, 0] rfl) hf
set_option maxHeartbeats 4000000 in
set_option maxRecDepth 100000 in
theorem k_X4_layRead_2 {l : Launch} {G : tG} {p : Program} {e : Env} {s : State} {m : MethodId} {below : List Frame} {meth : Method} {c : Code} {args : Array Value} {st' : tST} (S : CallFix p m c cX4_layRead 3 s args wsL_law RX4) (hr : meth.sig.returnType = none) (hlk : meth.locks = false) : ∀ (n : Nat) (x1 : Int32) (x2 : Int32) (st : tST) (H : Heap) (locs : List Loc) (ls : Array Slot), tIn G (tA G s.heap.size) s st H locs → lv_has ls 3 [(0, .ref (tad G 19)), (1, .int x1), (2, .int x2)] → f_X4_layRead_2 n x1 x2 st = some st' → W p l e rm_X4_layRead s m args below meth c H locs 0 0 (tZV G below args s st') (F0 m 2 ls []) := by
  have hx := S.1
  have hb := S.2.1
  have hown := S.2.2.2.1
  have hts := S.2.2.2.2
  intro n
  induction n with
  | zero => intro x1 x2 st H locs ls hI hl hf; exact nomatch (show (none : Option (tST)) = some _ from hf)
  | succ n ih =>
    intro x1 x2 st H locs ls hI hl hf
    rw [f_X4_layRead_2] at hf
    refine lv_iload_n hx hb dX4_layRead_2 rfl (lv_at hl 2 rfl) ?_
    refine lv_aload_n hx hb dX4_layRead_3 rfl (lv_at hl 0 rfl) ?_
    refine tg_X4_12 S hI mw_137 dX4_layRead_4 ?_
    refine tk_icmp_ge (tgt := 23) hx hb hf dX4_layRead_7 (by decide) (fun hf => ?_) (fun hf => ?_)
    · refine lv_iconst (v := 0) hx hb dX4_layRead_23 (by decide) ?_
      refine lv_istore_n (lv' := [(2, .int (0 : Int32)), (0, .ref (tad G 19)), (1, .int x1)]) hx hb dX4_layRead_24 rfl hl (by decide) rfl (fun ls hl => ?_)
      exact k_X4_layRead_25 S hr hlk tfu x1 (0 : Int32) st _ _ _ hI (lv_sub hl [1, 2, 0] rfl) hf
    · refine lv_aload_n hx hb dX4_layRead_10 rfl (lv_at hl 0 rfl) ?_
      refine tg_X4_23 S hI mw_81 dX4_layRead_11 ?_
      refine lv_iload_n hx hb dX4_layRead_14 rfl (lv_at hl 2 rfl) ?_
      refine lv_iconst (v := 0) hx hb dX4_layRead_15 (by decide) ?_
      refine tk_zast S hI (k := 36) (n := 90) rfl (twa_36 G _) hf dX4_layRead_16 (fun s1 H locs hI hf => ?_)
      refine tk_let hf (fun i2 ei2 hf => ?_)
      refine lv_iinc (v := i2) (lv' := [(2, .int i2), (0, .ref (tad G 19)), (1, .int x1)]) hx hb dX4_layRead_17 hl (k := 2) rfl (by rw [ei2]; rfl) (by decide) rfl (fun ls hl => ?_)
      refine lv_goto (tgt := 2) hx hb dX4_layRead_20 (by decide) ?_
      exact ih x1 i2 s1 _ _ _ hI (lv_sub hl [1, 2, 0] rfl) hf
set_option maxHeartbeats 4000000 in
set_option maxRecDepth 100000 in
theorem c_X4_layRead (l : Launch) (G : tG) (st : tST) (x1 : Int32) {st' : tST} (hf : f_X4_layRead x1 st = some st') : tCV l G yX4_layRead cX4_layRead 3 none rm_X4_layRead [.ref (tad G 19), .int x1] st st' := by
  refine tk_entV (by decide +kernel) (Nat.le_of_ble_eq_true rfl) (fun p e s m below meth c ls S hr hlk hI hl => ?_)
  have hl : lv_has ls 3 [(0, .ref (tad G 19)), (1, .int x1)] := hl
  have S : CallFix p m c cX4_layRead 3 s [.ref (tad G 19), .int x1].toArray wsL_law RX4 := S
  have hx := S.1
  have hb := S.2.1
  have hown := S.2.2.2.1
  have hts := S.2.2.2.2
  unfold f_X4_layRead at hf
  refine lv_iconst (v := 0) hx hb dX4_layRead_0 (by decide) ?_
  refine lv_istore_n (lv' := [(2, .int (0 : Int32)), (0, .ref (tad G 19)), (1, .int x1)]) hx hb dX4_layRead_1 rfl hl (by decide) rfl (fun ls hl => ?_)
  exact k_X4_layRead_2 S hr hlk tfu x1 (0 : Int32) st _ _ _ hI (lv_sub hl [1, 2, 0] rfl) hf
/-! X4_inLine -/
abbrev rm_X4_inLine : Room := { frames := 0, cells := 0, slots := 0, locals := 0 }
def f_X4_inLine_2 (st : tST)  : Nat → Int32 → Int32 → Option (Int32)
  | 0, _, _ => none
  | n + 1, x1, x2 => tal 90 (tg_A st 32) x2 (fun v1 => (if v1 = x1 then some x2 else tlet (x2 + (1 : Int32)) (fun i2 => f_X4_inLine_2 st n x1 i2)))
def f_X4_inLine (x1 : Int32) (st : tST) : Option (Int32) := f_X4_inLine_2 st tfu x1 (0 : Int32)
theorem yd_X4_inLine : yX4_inLine.cls = RX4 ∧ yX4_inLine.cls ≠ "java/lang/invoke/MethodHandle" ∧ yX4_inLine.cls ≠ "java/lang/invoke/VarHandle" ∧ (parseMethodDescriptor yX4_inLine.desc).map (fun d => d.parameters.length) = some 1 := by decide +kernel
set_option maxHeartbeats 4000000 in
set_option maxRecDepth 100000 in
theorem k_X4_inLine_2 {l : Launch} {G : tG} {p : Program} {e : Env} {s : State} {m : MethodId} {below : List Frame} {meth : Method} {c : Code} {args : Array Value} {r : Int32} {st : tST} (S : CallFix p m c cX4_inLine 3 s args wsL_law RX4) (hr : meth.sig.returnType = (some .int)) (hlk : meth.locks = false) : ∀ (n : Nat) (x1 : Int32) (x2 : Int32) (H : Heap) (locs : List Loc) (ls : Array Slot), tIn G (tA G s.heap.size) s st H locs → lv_has ls 3 [(0, .ref (tad G 19)), (1, .int x1), (2, .int x2)] → f_X4_inLine_2 st n x1 x2 = some r → W p l e rm_X4_inLine s m args below meth c H locs 0 0 (tZI G below args s r st) (F0 m 2 ls []) := by
  have hx := S.1
  have hb := S.2.1
  have hown := S.2.2.2.1
  have hts := S.2.2.2.2
  intro n
  induction n with
  | zero => intro x1 x2 H locs ls hI hl hf; exact nomatch (show (none : Option (Int32)) = some _ from hf)
  | succ n ih =>
    intro x1 x2 H locs ls hI hl hf
    rw [f_X4_inLine_2] at hf
    refine lv_aload_n hx hb dX4_inLine_2 rfl (lv_at hl 0 rfl) ?_
    refine tg_X4_16 S hI mw_77 dX4_inLine_3 ?_
    refine lv_iload_n hx hb dX4_inLine_6 rfl (lv_at hl 2 rfl) ?_
    refine tk_iald S hI (k := 32) (n := 90) rfl hf dX4_inLine_7 (fun v1 hf => ?_)
    refine lv_iload_n hx hb dX4_inLine_8 rfl (lv_at hl 1 rfl) ?_
    refine tk_icmp_eq (tgt := 18) hx hb hf dX4_inLine_9 (by decide) (fun hf => ?_) (fun hf => ?_)
    · refine lv_iload_n hx hb dX4_inLine_18 rfl (lv_at hl 2 rfl) ?_
      exact tk_riR S hr hlk hI hf dX4_inLine_19
    · refine tk_let hf (fun i2 ei2 hf => ?_)
      refine lv_iinc (v := i2) (lv' := [(2, .int i2), (0, .ref (tad G 19)), (1, .int x1)]) hx hb dX4_inLine_12 hl (k := 2) rfl (by rw [ei2]; rfl) (by decide) rfl (fun ls hl => ?_)
      refine lv_goto (tgt := 2) hx hb dX4_inLine_15 (by decide) ?_
      exact ih x1 i2 _ _ _ hI (lv_sub hl [1, 2, 0] rfl) hf
set_option maxHeartbeats 4000000 in
set_option maxRecDepth 100000 in
theorem c_X4_inLine (l : Launch) (G : tG) (st : tST) (x1 : Int32) {r : Int32} (hf : f_X4_inLine x1 st = some r) : tCI l G yX4_inLine cX4_inLine 3 (some .int) rm_X4_inLine [.ref (tad G 19), .int x1] st r st := by
  refine tk_entI (by decide +kernel) (Nat.le_of_ble_eq_true rfl) (fun p e s m below meth c ls S hr hlk hI hl => ?_)
  have hl : lv_has ls 3 [(0, .ref (tad G 19)), (1, .int x1)] := hl
  have S : CallFix p m c cX4_inLine 3 s [.ref (tad G 19), .int x1].toArray wsL_law RX4 := S
  have hx := S.1
  have hb := S.2.1
  have hown := S.2.2.2.1
  have hts := S.2.2.2.2
  unfold f_X4_inLine at hf
  refine lv_iconst (v := 0) hx hb dX4_inLine_0 (by decide) ?_
  refine lv_istore_n (lv' := [(2, .int (0 : Int32)), (0, .ref (tad G 19)), (1, .int x1)]) hx hb dX4_inLine_1 rfl hl (by decide) rfl (fun ls hl => ?_)
  exact k_X4_inLine_2 S hr hlk tfu x1 (0 : Int32) _ _ _ hI (lv_sub hl [1, 2, 0] rfl) hf
