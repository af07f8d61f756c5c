/-! X3_changeFact -/
abbrev rm_X3_changeFact : Room := { frames := 3, cells := 0, slots := 0, locals := 80 }
def f_X3_changeFact (x1 : Int32) (x2 : Int32) (st : tST) : Option (Int32) := (if x2 = (0 : Int32) then tal 12 (tg_A st 9) x1 (fun v1 => some v1) else (if x2 = (1 : Int32) then tal 12 (tg_A st 10) x1 (fun v2 => some v2) else (if x2 = (2 : Int32) then tal 12 (tg_A st 11) x1 (fun v3 => some v3) else (if x2 = (3 : Int32) then tal 12 (tg_A st 12) x1 (fun v4 => some v4) else (if x2 = (4 : Int32) then tal 12 (tg_B st 13) x1 (fun u5 => (f_J13_bitCount_95d88 u5).bind (fun r6 => some r6)) else (if x2 = (5 : Int32) then (f_X3_idleOf x1 st).bind (fun r7 => some r7) else (f_X0_insertsUnder x1 st).bind (fun r8 => (f_X1_leadersUnder x1 st).bind (fun r9 => some (r8 ||| r9)))))))))
theorem yd_X3_changeFact : yX3_changeFact.cls = RX3 ∧ yX3_changeFact.cls ≠ "java/lang/invoke/MethodHandle" ∧ yX3_changeFact.cls ≠ "java/lang/invoke/VarHandle" ∧ (parseMethodDescriptor yX3_changeFact.desc).map (fun d => d.parameters.length) = some 2 := by decide +kernel
set_option maxHeartbeats 4000000 in
set_option maxRecDepth 100000 in
theorem c_X3_changeFact (l : Launch) (G : tG) (st : tST) (x1 : Int32) (x2 : Int32) {r : Int32} (hf : f_X3_changeFact x1 x2 st = some r) : tCI l G yX3_changeFact cX3_changeFact 3 (some .int) rm_X3_changeFact [.ref (tad G 0), .int x1, .int x2] st r st := by
  refine tk_entI (by decide +kernel) (Nat.le_of_ble_eq_true rfl) (fun p e s m below meth c ls S hr hlk hI hl => ?_)
  have hl : lv_has ls 3 [(0, .ref (tad G 0)), (1, .int x1), (2, .int x2)] := hl
  have S : CallFix p m c cX3_changeFact 3 s [.ref (tad G 0), .int x1, .int x2].toArray wsL_law RX3 := S
  have hx := S.1
  have hb := S.2.1
  have hown := S.2.2.2.1
  have hts := S.2.2.2.2
  unfold f_X3_changeFact at hf
  refine lv_iload_n hx hb dX3_changeFact_0 rfl (lv_at hl 2 rfl) ?_
  refine tk_if hf (fun c1_0 hf => ?_) (fun c1_0 hf => ?_)
  · refine lv_tableIn (off := 39) (tgt := 40) hx hb dX3_changeFact_1 (by rw [c1_0]; decide) (by rw [c1_0]; decide) (by rw [c1_0]; rfl) (by decide) ?_
    refine lv_aload_n hx hb dX3_changeFact_40 rfl (lv_at hl 0 rfl) ?_
    refine tg_X3_6 S hI mw_25 dX3_changeFact_41 ?_
    refine tg_X0_0 S hI mw_179 dX3_changeFact_44 ?_
    refine lv_iload_n hx hb dX3_changeFact_47 rfl (lv_at hl 1 rfl) ?_
    refine tk_iald S hI (k := 9) (n := 12) rfl hf dX3_changeFact_48 (fun v1 hf => ?_)
    exact tk_riR S hr hlk hI hf dX3_changeFact_49
  refine tk_if hf (fun c1_1 hf => ?_) (fun c1_1 hf => ?_)
  · refine lv_tableIn (off := 49) (tgt := 50) hx hb dX3_changeFact_1 (by rw [c1_1]; decide) (by rw [c1_1]; decide) (by rw [c1_1]; rfl) (by decide) ?_
    refine lv_aload_n hx hb dX3_changeFact_50 rfl (lv_at hl 0 rfl) ?_
    refine tg_X3_6 S hI mw_25 dX3_changeFact_51 ?_
    refine tg_X0_1 S hI mw_398 dX3_changeFact_54 ?_
    refine lv_iload_n hx hb dX3_changeFact_57 rfl (lv_at hl 1 rfl) ?_
    refine tk_iald S hI (k := 10) (n := 12) rfl hf dX3_changeFact_58 (fun v2 hf => ?_)
    exact tk_riR S hr hlk hI hf dX3_changeFact_59
  refine tk_if hf (fun c1_2 hf => ?_) (fun c1_2 hf => ?_)
  · refine lv_tableIn (off := 59) (tgt := 60) hx hb dX3_changeFact_1 (by rw [c1_2]; decide) (by rw [c1_2]; decide) (by rw [c1_2]; rfl) (by decide) ?_
    refine lv_aload_n hx hb dX3_changeFact_60 rfl (lv_at hl 0 rfl) ?_
    refine tg_X3_6 S hI mw_25 dX3_changeFact_61 ?_
    refine tg_X0_2 S hI mw_297 dX3_changeFact_64 ?_
    refine lv_iload_n hx hb dX3_changeFact_67 rfl (lv_at hl 1 rfl) ?_
    refine tk_iald S hI (k := 11) (n := 12) rfl hf dX3_changeFact_68 (fun v3 hf => ?_)
    exact tk_riR S hr hlk hI hf dX3_changeFact_69
  refine tk_if hf (fun c1_3 hf => ?_) (fun c1_3 hf => ?_)
  · refine lv_tableIn (off := 69) (tgt := 70) hx hb dX3_changeFact_1 (by rw [c1_3]; decide) (by rw [c1_3]; decide) (by rw [c1_3]; rfl) (by decide) ?_
    refine lv_aload_n hx hb dX3_changeFact_70 rfl (lv_at hl 0 rfl) ?_
    refine tg_X3_6 S hI mw_25 dX3_changeFact_71 ?_
    refine tg_X0_3 S hI mw_280 dX3_changeFact_74 ?_
    refine lv_iload_n hx hb dX3_changeFact_77 rfl (lv_at hl 1 rfl) ?_
    refine tk_iald S hI (k := 12) (n := 12) rfl hf dX3_changeFact_78 (fun v4 hf => ?_)
    exact tk_riR S hr hlk hI hf dX3_changeFact_79
  refine tk_if hf (fun c1_4 hf => ?_) (fun c1_4 hf => ?_)
  · refine lv_tableIn (off := 79) (tgt := 80) hx hb dX3_changeFact_1 (by rw [c1_4]; decide) (by rw [c1_4]; decide) (by rw [c1_4]; rfl) (by decide) ?_
    refine lv_aload_n hx hb dX3_changeFact_80 rfl (lv_at hl 0 rfl) ?_
    refine tg_X3_6 S hI mw_25 dX3_changeFact_81 ?_
    refine tg_X0_4 S hI mw_180 dX3_changeFact_84 ?_
    refine lv_iload_n hx hb dX3_changeFact_87 rfl (lv_at hl 1 rfl) ?_
    refine tk_lald S hI (k := 13) (n := 12) rfl hf dX3_changeFact_88 (fun u5 hf => ?_)
    refine tk_bd hf (fun r6 hq hf => ?_)
    refine tk_sI S hI hl.1 (c_J13_bitCount_95d88 l G st u5 hq) (va_cwS 1 hts (tk_gS mw_399 mw_400 mw_401 mw_402) rfl rfl rfl yd_J13_bitCount_95d88 ⟨Nat.le_of_ble_eq_true rfl, Nat.le_of_ble_eq_true rfl⟩) rfl [] rfl (Nat.le_of_ble_eq_true rfl) dX3_changeFact_89 (fun H locs hI => ?_)
    exact tk_riR S hr hlk hI hf dX3_changeFact_92
  refine tk_if hf (fun c1_5 hf => ?_) (fun c1_5 hf => ?_)
  · refine lv_tableIn (off := 92) (tgt := 93) hx hb dX3_changeFact_1 (by rw [c1_5]; decide) (by rw [c1_5]; decide) (by rw [c1_5]; rfl) (by decide) ?_
    refine lv_aload_n hx hb dX3_changeFact_93 rfl (lv_at hl 0 rfl) ?_
    refine lv_iload_n hx hb dX3_changeFact_94 rfl (lv_at hl 1 rfl) ?_
    refine tk_bd hf (fun r7 hq hf => ?_)
    refine tk_vI S hI hl.1 (c_X3_idleOf l G st x1 hq) (cwV 1 hts (tk_gV mw_406 mw_407 mw_408 mw_2 mw_409) rfl rfl rfl yd_X3_idleOf ⟨Nat.le_of_ble_eq_true rfl, Nat.le_of_ble_eq_true rfl⟩) 0 3 rfl rfl rfl rfl [] rfl (Nat.le_of_ble_eq_true rfl) dX3_changeFact_95 (fun H locs hI => ?_)
    exact tk_riR S hr hlk hI hf dX3_changeFact_98
  refine lv_tableOut (tgt := 99) hx hb dX3_changeFact_1 (by have := lv_neT c1_0 (a := 0) (by decide); have := lv_neT c1_1 (a := 1) (by decide); have := lv_neT c1_2 (a := 2) (by decide); have := lv_neT c1_3 (a := 3) (by decide); have := lv_neT c1_4 (a := 4) (by decide); have := lv_neT c1_5 (a := 5) (by decide); omega) (by decide) ?_
  refine lv_aload_n hx hb dX3_changeFact_99 rfl (lv_at hl 0 rfl) ?_
  refine tg_X3_6 S hI mw_25 dX3_changeFact_100 ?_
  refine lv_iload_n hx hb dX3_changeFact_103 rfl (lv_at hl 1 rfl) ?_
  refine tk_bd hf (fun r8 hq hf => ?_)
  refine tk_vI S hI hl.1 (c_X0_insertsUnder l G st x1 hq) (cwV 1 hts (tk_gV mw_410 mw_411 mw_412 mw_24 mw_413) rfl rfl rfl yd_X0_insertsUnder ⟨Nat.le_of_ble_eq_true rfl, Nat.le_of_ble_eq_true rfl⟩) 8 0 rfl rfl rfl rfl [] rfl (Nat.le_of_ble_eq_true rfl) dX3_changeFact_104 (fun H locs hI => ?_)
  refine lv_aload_n hx hb dX3_changeFact_107 rfl (lv_at hl 0 rfl) ?_
  refine tg_X3_5 S hI mw_21 dX3_changeFact_108 ?_
  refine lv_iload_n hx hb dX3_changeFact_111 rfl (lv_at hl 1 rfl) ?_
  refine tk_bd hf (fun r9 hq hf => ?_)
  refine tk_vI S hI hl.1 (c_X1_leadersUnder l G st x1 hq) (cwV 1 hts (tk_gV mw_414 mw_415 mw_416 mw_20 mw_417) rfl rfl rfl yd_X1_leadersUnder ⟨Nat.le_of_ble_eq_true rfl, Nat.le_of_ble_eq_true rfl⟩) 3 1 rfl rfl rfl rfl [.int r8] rfl (Nat.le_of_ble_eq_true rfl) dX3_changeFact_112 (fun H locs hI => ?_)
  refine lv_ior hx hb dX3_changeFact_115 ?_
  exact tk_riR S hr hlk hI hf dX3_changeFact_116
/-! X3_change -/
abbrev rm_X3_change : Room := { frames := 4, cells := 0, slots := 0, locals := 102 }
def f_X3_change (x1 : Int32) (x2 : Int32) (st : tST) : Option (Int32) := (f_X0_names x1 st).bind (fun r1 => (if r1 = 0 then some (-1001 : Int32) else (if x2 < 0 then some (-1002 : Int32) else (if x2 < (7 : Int32) then (f_X3_changeFact x1 x2 st).bind (fun r2 => some r2) else some (-1002 : Int32)))))
theorem yd_X3_change : yX3_change.cls = RX3 ∧ yX3_change.cls ≠ "java/lang/invoke/MethodHandle" ∧ yX3_change.cls ≠ "java/lang/invoke/VarHandle" ∧ (parseMethodDescriptor yX3_change.desc).map (fun d => d.parameters.length) = some 2 := by decide +kernel
set_option maxHeartbeats 4000000 in
set_option maxRecDepth 100000 in
theorem c_X3_change (l : Launch) (G : tG) (st : tST) (x1 : Int32) (x2 : Int32) {r : Int32} (hf : f_X3_change x1 x2 st = some r) : tCI l G yX3_change cX3_change 3 (some .int) rm_X3_change [.ref (tad G 0), .int x1, .int x2] st r st := by
  refine tk_entI (by decide +kernel) (Nat.le_of_ble_eq_true rfl) (fun p e s m below meth c ls S hr hlk hI hl => ?_)
  have hl : lv_has ls 3 [(0, .ref (tad G 0)), (1, .int x1), (2, .int x2)] := hl
  have S : CallFix p m c cX3_change 3 s [.ref (tad G 0), .int x1, .int x2].toArray wsL_law RX3 := S
  have hx := S.1
  have hb := S.2.1
  have hown := S.2.2.2.1
  have hts := S.2.2.2.2
  unfold f_X3_change at hf
  refine lv_aload_n hx hb dX3_change_0 rfl (lv_at hl 0 rfl) ?_
  refine tg_X3_6 S hI mw_25 dX3_change_1 ?_
  refine lv_iload_n hx hb dX3_change_4 rfl (lv_at hl 1 rfl) ?_
  refine tk_bd hf (fun r1 hq hf => ?_)
  refine tk_vI S hI hl.1 (c_X0_names l G st x1 hq) (cwV 1 hts (tk_gV mw_281 mw_282 mw_283 mw_24 mw_284) rfl rfl rfl yd_X0_names ⟨Nat.le_of_ble_eq_true rfl, Nat.le_of_ble_eq_true rfl⟩) 8 0 rfl rfl rfl rfl [] rfl (Nat.le_of_ble_eq_true rfl) dX3_change_5 (fun H locs hI => ?_)
  refine tk_if_ne (tgt := 15) hx hb hf dX3_change_8 (by decide) (fun hf => ?_) (fun hf => ?_)
  · refine lv_iload_n hx hb dX3_change_15 rfl (lv_at hl 2 rfl) ?_
    refine tk_if_lt (tgt := 25) hx hb hf dX3_change_16 (by decide) (fun hf => ?_) (fun hf => ?_)
    · refine lv_sipush (v := -1002) hx hb dX3_change_25 (by decide) ?_
      exact tk_riR S hr hlk hI hf dX3_change_28
    · refine lv_iload_n hx hb dX3_change_19 rfl (lv_at hl 2 rfl) ?_
      refine lv_bipush (v := 7) hx hb dX3_change_20 (by decide) ?_
      refine tk_icmp_lt (tgt := 29) hx hb hf dX3_change_22 (by decide) (fun hf => ?_) (fun hf => ?_)
      · refine lv_aload_n hx hb dX3_change_29 rfl (lv_at hl 0 rfl) ?_
        refine lv_iload_n hx hb dX3_change_30 rfl (lv_at hl 1 rfl) ?_
        refine lv_iload_n hx hb dX3_change_31 rfl (lv_at hl 2 rfl) ?_
        refine tk_bd hf (fun r2 hq hf => ?_)
        refine tk_vI S hI hl.1 (c_X3_changeFact l G st x1 x2 hq) (cwV 2 hts (tk_gV mw_394 mw_395 mw_396 mw_2 mw_397) rfl rfl rfl yd_X3_changeFact ⟨Nat.le_of_ble_eq_true rfl, Nat.le_of_ble_eq_true rfl⟩) 0 3 rfl rfl rfl rfl [] rfl (Nat.le_of_ble_eq_true rfl) dX3_change_32 (fun H locs hI => ?_)
        exact tk_riR S hr hlk hI hf dX3_change_35
      · refine lv_sipush (v := -1002) hx hb dX3_change_25 (by decide) ?_
        exact tk_riR S hr hlk hI hf dX3_change_28
  · refine lv_sipush (v := -1001) hx hb dX3_change_11 (by decide) ?_
    exact tk_riR S hr hlk hI hf dX3_change_14
/-! X2_take -/
abbrev rm_X2_take : Room := { frames := 0, cells := 0, slots := 0, locals := 0 }
def f_X2_take (x1 : Int32) (x2 : Int32) (st : tST) : Option (tST) := (if (tg_I st 8) = 0 then tas 90 (tg_I st 8) (tp_A st 15 ((tg_I st 8)).toNatClampNeg x2) (fun s1 => tas 90 (tg_I s1 8) (tp_A s1 16 ((tg_I s1 8)).toNatClampNeg (0 : Int32)) (fun s2 => tas 90 (tg_I s2 8) (tp_A s2 17 ((tg_I s2 8)).toNatClampNeg x1) (fun s3 => tlet (tp_I s3 8 ((tg_I s3 8) + (1 : Int32))) (fun s4 => tal 90 (tg_A s4 16) ((tg_I s4 8) - (1 : Int32)) (fun v5 => tas 90 ((tg_I s4 8) - (1 : Int32)) (tp_A s4 16 (((tg_I s4 8) - (1 : Int32))).toNatClampNeg (v5 + (1 : Int32))) (fun s6 => some s6)))))) else tal 90 (tg_A st 15) ((tg_I st 8) - (1 : Int32)) (fun v7 => (if v7 = x2 then tal 90 (tg_A st 16) ((tg_I st 8) - (1 : Int32)) (fun v8 => tas 90 ((tg_I st 8) - (1 : Int32)) (tp_A st 16 (((tg_I st 8) - (1 : Int32))).toNatClampNeg (v8 + (1 : Int32))) (fun s9 => some s9)) else tas 90 (tg_I st 8) (tp_A st 15 ((tg_I st 8)).toNatClampNeg x2) (fun s10 => tas 90 (tg_I s10 8) (tp_A s10 16 ((tg_I s10 8)).toNatClampNeg (0 : Int32)) (fun s11 => tas 90 (tg_I s11 8) (tp_A s11 17 ((tg_I s11 8)).toNatClampNeg x1) (fun s12 => tlet (tp_I s12 8 ((tg_I s12 8) + (1 : Int32))) (fun s13 => tal 90 (tg_A s13 16) ((tg_I s13 8) - (1 : Int32)) (fun v14 => tas 90 ((tg_I s13 8) - (1 : Int32)) (tp_A s13 16 (((tg_I s13 8) - (1 : Int32))).toNatClampNeg (v14 + (1 : Int32))) (fun s15 => some s15)))))))))
theorem yd_X2_take : yX2_take.cls = RX2 ∧ yX2_take.cls ≠ "java/lang/invoke/MethodHandle" ∧ yX2_take.cls ≠ "java/lang/invoke/VarHandle" ∧ (parseMethodDescriptor yX2_take.desc).map (fun d => d.parameters.length) = some 2 := by decide +kernel
set_option maxHeartbeats 4000000 in
set_option maxRecDepth 100000 in
theorem c_X2_take (l : Launch) (G : tG) (st : tST) (x1 : Int32) (x2 : Int32) {st' : tST} (hf : f_X2_take x1 x2 st = some st') : tCV l G yX2_take cX2_take 3 none rm_X2_take [.ref (tad G 14), .int x1, .int x2] st st' := by
  refine tk_entV (by decide +kernel) (Nat.le_of_ble_eq_true rfl) (fun p e s m below meth c ls S hr hlk hI hl => ?_)
  have hl : lv_has ls 3 [(0, .ref (tad G 14)), (1, .int x1), (2, .int x2)] := hl
  have S : CallFix p m c cX2_take 3 s [.ref (tad G 14), .int x1, .int x2].toArray wsL_law RX2 := S
  have hx := S.1
  have hb := S.2.1
  have hown := S.2.2.2.1
  have hts := S.2.2.2.2
  unfold f_X2_take at hf
  refine lv_aload_n hx hb dX2_take_0 rfl (lv_at hl 0 rfl) ?_
  refine tg_X2_3 S hI mw_59 dX2_take_1 ?_
  refine tk_if_eq (tgt := 22) hx hb hf dX2_take_4 (by decide) (fun hf => ?_) (fun hf => ?_)
  · refine lv_aload_n hx hb dX2_take_22 rfl (lv_at hl 0 rfl) ?_
    refine tg_X2_0 S hI mw_56 dX2_take_23 ?_
    refine lv_aload_n hx hb dX2_take_26 rfl (lv_at hl 0 rfl) ?_
    refine tg_X2_3 S hI mw_59 dX2_take_27 ?_
    refine lv_iload_n hx hb dX2_take_30 rfl (lv_at hl 2 rfl) ?_
    refine tk_iast S hI (k := 15) (n := 90) rfl (twa_15 G _) hf dX2_take_31 (fun s1 H locs hI hf => ?_)
    refine lv_aload_n hx hb dX2_take_32 rfl (lv_at hl 0 rfl) ?_
    refine tg_X2_1 S hI mw_57 dX2_take_33 ?_
    refine lv_aload_n hx hb dX2_take_36 rfl (lv_at hl 0 rfl) ?_
    refine tg_X2_3 S hI mw_59 dX2_take_37 ?_
    refine lv_iconst (v := 0) hx hb dX2_take_40 (by decide) ?_
    refine tk_iast S hI (k := 16) (n := 90) rfl (twa_16 G _) hf dX2_take_41 (fun s2 H locs hI hf => ?_)
    refine lv_aload_n hx hb dX2_take_42 rfl (lv_at hl 0 rfl) ?_
    refine tg_X2_2 S hI mw_58 dX2_take_43 ?_
    refine lv_aload_n hx hb dX2_take_46 rfl (lv_at hl 0 rfl) ?_
    refine tg_X2_3 S hI mw_59 dX2_take_47 ?_
    refine lv_iload_n hx hb dX2_take_50 rfl (lv_at hl 1 rfl) ?_
    refine tk_iast S hI (k := 17) (n := 90) rfl (twa_17 G _) hf dX2_take_51 (fun s3 H locs hI hf => ?_)
    refine lv_aload_n hx hb dX2_take_52 rfl (lv_at hl 0 rfl) ?_
    refine lv_dup hx hb dX2_take_53 rfl ?_
    refine tg_X2_3 S hI mw_59 dX2_take_54 ?_
    refine lv_iconst (v := 1) hx hb dX2_take_57 (by decide) ?_
    refine lv_iadd hx hb dX2_take_58 ?_
    refine tp_X2_3 S hI mw_59 hf dX2_take_59 (fun s4 H locs hI hf => ?_)
    refine lv_aload_n hx hb dX2_take_62 rfl (lv_at hl 0 rfl) ?_
    refine tg_X2_1 S hI mw_57 dX2_take_63 ?_
    refine lv_aload_n hx hb dX2_take_66 rfl (lv_at hl 0 rfl) ?_
    refine tg_X2_3 S hI mw_59 dX2_take_67 ?_
    refine lv_iconst (v := 1) hx hb dX2_take_70 (by decide) ?_
    refine lv_isub hx hb dX2_take_71 ?_
    refine lv_dup2_11 hx hb dX2_take_72 rfl rfl ?_
    refine tk_iald S hI (k := 16) (n := 90) rfl hf dX2_take_73 (fun v5 hf => ?_)
    refine lv_iconst (v := 1) hx hb dX2_take_74 (by decide) ?_
    refine lv_iadd hx hb dX2_take_75 ?_
    refine tk_iast S hI (k := 16) (n := 90) rfl (twa_16 G _) hf dX2_take_76 (fun s6 H locs hI hf => ?_)
    exact tk_rvW S hr hlk hI hf dX2_take_77
  · refine lv_aload_n hx hb dX2_take_7 rfl (lv_at hl 0 rfl) ?_
    refine tg_X2_0 S hI mw_56 dX2_take_8 ?_
    refine lv_aload_n hx hb dX2_take_11 rfl (lv_at hl 0 rfl) ?_
    refine tg_X2_3 S hI mw_59 dX2_take_12 ?_
    refine lv_iconst (v := 1) hx hb dX2_take_15 (by decide) ?_
    refine lv_isub hx hb dX2_take_16 ?_
    refine tk_iald S hI (k := 15) (n := 90) rfl hf dX2_take_17 (fun v7 hf => ?_)
    refine lv_iload_n hx hb dX2_take_18 rfl (lv_at hl 2 rfl) ?_
    refine tk_icmp_eq (tgt := 62) hx hb hf dX2_take_19 (by decide) (fun hf => ?_) (fun hf => ?_)
    · refine lv_aload_n hx hb dX2_take_62 rfl (lv_at hl 0 rfl) ?_
      refine tg_X2_1 S hI mw_57 dX2_take_63 ?_
      refine lv_aload_n hx hb dX2_take_66 rfl (lv_at hl 0 rfl) ?_
      refine tg_X2_3 S hI mw_59 dX2_take_67 ?_
      refine lv_iconst (v := 1) hx hb dX2_take_70 (by decide) ?_
      refine lv_isub hx hb dX2_take_71 ?_
      refine lv_dup2_11 hx hb dX2_take_72 rfl rfl ?_
      refine tk_iald S hI (k := 16) (n := 90) rfl hf dX2_take_73 (fun v8 hf => ?_)
      refine lv_iconst (v := 1) hx hb dX2_take_74 (by decide) ?_
      refine lv_iadd hx hb dX2_take_75 ?_
      refine tk_iast S hI (k := 16) (n := 90) rfl (twa_16 G _) hf dX2_take_76 (fun s9 H locs hI hf => ?_)
      exact tk_rvW S hr hlk hI hf dX2_take_77
    · refine lv_aload_n hx hb dX2_take_22 rfl (lv_at hl 0 rfl) ?_
      refine tg_X2_0 S hI mw_56 dX2_take_23 ?_
      refine lv_aload_n hx hb dX2_take_26 rfl (lv_at hl 0 rfl) ?_
      refine tg_X2_3 S hI mw_59 dX2_take_27 ?_
      refine lv_iload_n hx hb dX2_take_30 rfl (lv_at hl 2 rfl) ?_
      refine tk_iast S hI (k := 15) (n := 90) rfl (twa_15 G _) hf dX2_take_31 (fun s10 H locs hI hf => ?_)
      refine lv_aload_n hx hb dX2_take_32 rfl (lv_at hl 0 rfl) ?_
      refine tg_X2_1 S hI mw_57 dX2_take_33 ?_
      refine lv_aload_n hx hb dX2_take_36 rfl (lv_at hl 0 rfl) ?_
      refine tg_X2_3 S hI mw_59 dX2_take_37 ?_
      refine lv_iconst (v := 0) hx hb dX2_take_40 (by decide) ?_
      refine tk_iast S hI (k := 16) (n := 90) rfl (twa_16 G _) hf dX2_take_41 (fun s11 H locs hI hf => ?_)
      refine lv_aload_n hx hb dX2_take_42 rfl (lv_at hl 0 rfl) ?_
      refine tg_X2_2 S hI mw_58 dX2_take_43 ?_
      refine lv_aload_n hx hb dX2_take_46 rfl (lv_at hl 0 rfl) ?_
      refine tg_X2_3 S hI mw_59 dX2_take_47 ?_
      refine lv_iload_n hx hb dX2_take_50 rfl (lv_at hl 1 rfl) ?_
      refine tk_iast S hI (k := 17) (n := 90) rfl (twa_17 G _) hf dX2_take_51 (fun s12 H locs hI hf => ?_)
      refine lv_aload_n hx hb dX2_take_52 rfl (lv_at hl 0 rfl) ?_
      refine lv_dup hx hb dX2_take_53 rfl ?_
      refine tg_X2_3 S hI mw_59 dX2_take_54 ?_
      refine lv_iconst (v := 1) hx hb dX2_take_57 (by decide) ?_
      refine lv_iadd hx hb dX2_take_58 ?_
      refine tp_X2_3 S hI mw_59 hf dX2_take_59 (fun s13 H locs hI hf => ?_)
      refine lv_aload_n hx hb dX2_take_62 rfl (lv_at hl 0 rfl) ?_
      refine tg_X2_1 S hI mw_57 dX2_take_63 ?_
      refine lv_aload_n hx hb dX2_take_66 rfl (lv_at hl 0 rfl) ?_
      refine tg_X2_3 S hI mw_59 dX2_take_67 ?_
      refine lv_iconst (v := 1) hx hb dX2_take_70 (by decide) ?_
      refine lv_isub hx hb dX2_take_71 ?_
      refine lv_dup2_11 hx hb dX2_take_72 rfl rfl ?_
      refine tk_iald S hI (k := 16) (n := 90) rfl hf dX2_take_73 (fun v14 hf => ?_)
      refine lv_iconst (v := 1) hx hb dX2_take_74 (by decide) ?_
      refine lv_iadd hx hb dX2_take_75 ?_
      refine tk_iast S hI (k := 16) (n := 90) rfl (twa_16 G _) hf dX2_take_76 (fun s15 H locs hI hf => ?_)
      exact tk_rvW S hr hlk hI hf dX2_take_77
/-! X3_cutSpans -/
abbrev rm_X3_cutSpans : Room := { frames := 3, cells := 0, slots := 0, locals := 74 }
def f_X3_cutSpans_10 : Nat → Int32 → tST → Option (tST)
  | 0, _, _ => none
  | n + 1, x1, st => (if (tg_I st 6) ≤ x1 then some st else (f_X3_markOf x1 st).bind (fun r1 => (if r1 = (3 : Int32) then tlet (x1 + (1 : Int32)) (fun i2 => f_X3_cutSpans_10 n i2 st) else (f_X2_take x1 r1 st).bind (fun s3 => tlet (x1 + (1 : Int32)) (fun i4 => f_X3_cutSpans_10 n i4 s3)))))
def f_X3_cutSpans (st : tST) : Option (tST) := tlet (tp_I st 8 (0 : Int32)) (fun s1 => f_X3_cutSpans_10 tfu (0 : Int32) s1)
theorem yd_X3_cutSpans : yX3_cutSpans.cls = RX3 ∧ yX3_cutSpans.cls ≠ "java/lang/invoke/MethodHandle" ∧ yX3_cutSpans.cls ≠ "java/lang/invoke/VarHandle" ∧ (parseMethodDescriptor yX3_cutSpans.desc).map (fun d => d.parameters.length) = some 0 := by decide +kernel
set_option maxHeartbeats 4000000 in
set_option maxRecDepth 100000 in
theorem k_X3_cutSpans_10 {l : Launch} {G : tG} {p : Program} {e : Env} {s : State} {m : MethodId} {below : List Frame} {meth : Method} {c : Code} {args : Array Value} {st' : tST} (S : CallFix p m c cX3_cutSpans 3 s args wsL_law RX3) (hr : meth.sig.returnType = none) (hlk : meth.locks = false) : ∀ (n : Nat) (x1 : Int32) (st : tST) (H : Heap) (locs : List Loc) (ls : Array Slot), tIn G (tA G s.heap.size) s st H locs → lv_has ls 3 [(0, .ref (tad G 0)), (1, .int x1)] → f_X3_cutSpans_10 n x1 st = some st' → W p l e rm_X3_cutSpans s m args below meth c H locs 0 0 (tZV G below args s st') (F0 m 10 ls []) := by
  have hx := S.1
  have hb := S.2.1
  have hown := S.2.2.2.1
  have hts := S.2.2.2.2
  intro n
  induction n with
  | zero => intro x1 st H locs ls hI hl hf; exact nomatch (show (none : Option (tST)) = some _ from hf)
  | succ n ih =>
    intro x1 st H locs ls hI hl hf
    rw [f_X3_cutSpans_10] at hf
    refine lv_iload_n hx hb dX3_cutSpans_10 rfl (lv_at hl 1 rfl) ?_
    refine lv_aload_n hx hb dX3_cutSpans_11 rfl (lv_at hl 0 rfl) ?_
    refine tg_X3_5 S hI mw_21 dX3_cutSpans_12 ?_
    refine tg_X1_4 S hI mw_114 dX3_cutSpans_15 ?_
    refine tk_icmp_ge (tgt := 47) hx hb hf dX3_cutSpans_18 (by decide) (fun hf => ?_) (fun hf => ?_)
    · exact tk_rvW S hr hlk hI hf dX3_cutSpans_47
    · refine lv_aload_n hx hb dX3_cutSpans_21 rfl (lv_at hl 0 rfl) ?_
      refine lv_iload_n hx hb dX3_cutSpans_22 rfl (lv_at hl 1 rfl) ?_
      refine tk_bd hf (fun r1 hq hf => ?_)
      refine tk_vI S hI hl.1 (c_X3_markOf l G st x1 hq) (cwV 1 hts (tk_gV mw_370 mw_371 mw_372 mw_2 mw_373) rfl rfl rfl yd_X3_markOf ⟨Nat.le_of_ble_eq_true rfl, Nat.le_of_ble_eq_true rfl⟩) 0 3 rfl rfl rfl rfl [] rfl (Nat.le_of_ble_eq_true rfl) dX3_cutSpans_23 (fun H locs hI => ?_)
      refine lv_istore_n (lv' := [(2, .int r1), (0, .ref (tad G 0)), (1, .int x1)]) hx hb dX3_cutSpans_26 rfl hl (by decide) rfl (fun ls hl => ?_)
      refine lv_iload_n hx hb dX3_cutSpans_27 rfl (lv_at hl 0 rfl) ?_
      refine lv_iconst (v := 3) hx hb dX3_cutSpans_28 (by decide) ?_
      refine tk_icmp_eq (tgt := 41) hx hb hf dX3_cutSpans_29 (by decide) (fun hf => ?_) (fun hf => ?_)
      · refine tk_let hf (fun i2 ei2 hf => ?_)
        refine lv_iinc (v := i2) (lv' := [(1, .int i2), (2, .int r1), (0, .ref (tad G 0))]) hx hb dX3_cutSpans_41 hl (k := 2) rfl (by rw [ei2]; rfl) (by decide) rfl (fun ls hl => ?_)
        refine lv_goto (tgt := 10) hx hb dX3_cutSpans_44 (by decide) ?_
        exact ih i2 st _ _ _ hI (lv_sub hl [2, 0] rfl) hf
      · refine lv_aload_n hx hb dX3_cutSpans_32 rfl (lv_at hl 1 rfl) ?_
        refine tg_X3_7 S hI mw_29 dX3_cutSpans_33 ?_
        refine lv_iload_n hx hb dX3_cutSpans_36 rfl (lv_at hl 2 rfl) ?_
        refine lv_iload_n hx hb dX3_cutSpans_37 rfl (lv_at hl 0 rfl) ?_
        refine tk_bd hf (fun s3 hq hf => ?_)
        refine tk_vV S hI hl.1 (c_X2_take l G st x1 r1 hq) (cwV 2 hts (tk_gV mw_451 mw_452 mw_453 mw_28 mw_454) rfl rfl rfl yd_X2_take ⟨Nat.le_of_ble_eq_true rfl, Nat.le_of_ble_eq_true rfl⟩) 14 2 rfl rfl rfl rfl [] rfl (Nat.le_of_ble_eq_true rfl) dX3_cutSpans_38 (fun H locs hI => ?_)
        refine tk_let hf (fun i4 ei4 hf => ?_)
        refine lv_iinc (v := i4) (lv' := [(1, .int i4), (2, .int r1), (0, .ref (tad G 0))]) hx hb dX3_cutSpans_41 hl (k := 2) rfl (by rw [ei4]; rfl) (by decide) rfl (fun ls hl => ?_)
        refine lv_goto (tgt := 10) hx hb dX3_cutSpans_44 (by decide) ?_
        exact ih i4 s3 _ _ _ hI (lv_sub hl [2, 0] rfl) hf
set_option maxHeartbeats 4000000 in
set_option maxRecDepth 100000 in
theorem c_X3_cutSpans (l : Launch) (G : tG) (st : tST) {st' : tST} (hf : f_X3_cutSpans st = some st') : tCV l G yX3_cutSpans cX3_cutSpans 3 none rm_X3_cutSpans [.ref (tad G 0)] st st' := by
  refine tk_entV (by decide +kernel) (Nat.le_of_ble_eq_true rfl) (fun p e s m below meth c ls S hr hlk hI hl => ?_)
  have hl : lv_has ls 3 [(0, .ref (tad G 0))] := hl
  have S : CallFix p m c cX3_cutSpans 3 s [.ref (tad G 0)].toArray wsL_law RX3 := S
  have hx := S.1
  have hb := S.2.1
  have hown := S.2.2.2.1
  have hts := S.2.2.2.2
  unfold f_X3_cutSpans at hf
  refine lv_aload_n hx hb dX3_cutSpans_0 rfl (lv_at hl 0 rfl) ?_
  refine tg_X3_7 S hI mw_29 dX3_cutSpans_1 ?_
  refine lv_iconst (v := 0) hx hb dX3_cutSpans_4 (by decide) ?_
  refine tp_X2_3 S hI mw_446 hf dX3_cutSpans_5 (fun s1 H locs hI hf => ?_)
  refine lv_iconst (v := 0) hx hb dX3_cutSpans_8 (by decide) ?_
  refine lv_istore_n (lv' := [(1, .int (0 : Int32)), (0, .ref (tad G 0))]) hx hb dX3_cutSpans_9 rfl hl (by decide) rfl (fun ls hl => ?_)
  exact k_X3_cutSpans_10 S hr hlk tfu (0 : Int32) s1 _ _ _ hI (lv_sub hl [1, 0] rfl) hf
/-! X2_factOf -/
abbrev rm_X2_factOf : Room := { frames := 0, cells := 0, slots := 0, locals := 0 }
def f_X2_factOf (x1 : Int32) (x2 : Int32) (st : tST) : Option (Int32) := (if x2 = (1 : Int32) then tal 90 (tg_A st 15) x1 (fun v1 => some v1) else (if x2 = (2 : Int32) then tal 90 (tg_A st 16) x1 (fun v2 => some v2) else tal 90 (tg_A st 17) x1 (fun v3 => some v3)))
theorem yd_X2_factOf : yX2_factOf.cls = RX2 ∧ yX2_factOf.cls ≠ "java/lang/invoke/MethodHandle" ∧ yX2_factOf.cls ≠ "java/lang/invoke/VarHandle" ∧ (parseMethodDescriptor yX2_factOf.desc).map (fun d => d.parameters.length) = some 2 := by decide +kernel
set_option maxHeartbeats 4000000 in
set_option maxRecDepth 100000 in
theorem c_X2_factOf (l : Launch) (G : tG) (st : tST) (x1 : Int32) (x2 : Int32) {r : Int32} (hf : f_X2_factOf x1 x2 st = some r) : tCI l G yX2_factOf cX2_factOf 3 (some .int) rm_X2_factOf [.ref (tad G 14), .int x1, .int x2] st r st := by
  refine tk_entI (by decide +kernel) (Nat.le_of_ble_eq_true rfl) (fun p e s m below meth c ls S hr hlk hI hl => ?_)
  have hl : lv_has ls 3 [(0, .ref (tad G 14)), (1, .int x1), (2, .int x2)] := hl
  have S : CallFix p m c cX2_factOf 3 s [.ref (tad G 14), .int x1, .int x2].toArray wsL_law RX2 := S
  have hx := S.1
  have hb := S.2.1
  have hown := S.2.2.2.1
  have hts := S.2.2.2.2
  unfold f_X2_factOf at hf
  refine lv_iload_n hx hb dX2_factOf_0 rfl (lv_at hl 2 rfl) ?_
  refine tk_if hf (fun c1_1 hf => ?_) (fun c1_1 hf => ?_)
  · refine lv_lookup (off := 27) (tgt := 28) hx hb dX2_factOf_1 (by decide) (by rw [c1_1]; rfl) (by decide) ?_
    refine lv_aload_n hx hb dX2_factOf_28 rfl (lv_at hl 0 rfl) ?_
    refine tg_X2_0 S hI mw_56 dX2_factOf_29 ?_
    refine lv_iload_n hx hb dX2_factOf_32 rfl (lv_at hl 1 rfl) ?_
    refine tk_iald S hI (k := 15) (n := 90) rfl hf dX2_factOf_33 (fun v1 hf => ?_)
    exact tk_riR S hr hlk hI hf dX2_factOf_34
  refine tk_if hf (fun c1_2 hf => ?_) (fun c1_2 hf => ?_)
  · refine lv_lookup (off := 34) (tgt := 35) hx hb dX2_factOf_1 (by decide) (by rw [c1_2]; rfl) (by decide) ?_
    refine lv_aload_n hx hb dX2_factOf_35 rfl (lv_at hl 0 rfl) ?_
    refine tg_X2_1 S hI mw_57 dX2_factOf_36 ?_
    refine lv_iload_n hx hb dX2_factOf_39 rfl (lv_at hl 1 rfl) ?_
    refine tk_iald S hI (k := 16) (n := 90) rfl hf dX2_factOf_40 (fun v2 hf => ?_)
    exact tk_riR S hr hlk hI hf dX2_factOf_41
  refine lv_lookup (off := 41) (tgt := 42) hx hb dX2_factOf_1 (by decide) (by rw [lv_osw c1_1 (by decide), lv_osw c1_2 (by decide)]; rfl) (by decide) ?_
  refine lv_aload_n hx hb dX2_factOf_42 rfl (lv_at hl 0 rfl) ?_
  refine tg_X2_2 S hI mw_58 dX2_factOf_43 ?_
  refine lv_iload_n hx hb dX2_factOf_46 rfl (lv_at hl 1 rfl) ?_
  refine tk_iald S hI (k := 17) (n := 90) rfl hf dX2_factOf_47 (fun v3 hf => ?_)
  exact tk_riR S hr hlk hI hf dX2_factOf_48
/-! X3_span -/
abbrev rm_X3_span : Room := { frames := 4, cells := 0, slots := 0, locals := 96 }
def f_X3_span (x1 : Int32) (x2 : Int32) (st : tST) : Option (Int32 × tST) := (if x2 < 0 then some ((-1002 : Int32), st) else (if x2 < (4 : Int32) then (f_X3_cutSpans st).bind (fun s1 => (if x2 = 0 then some ((tg_I s1 8), s1) else (if x1 < 0 then some ((-1001 : Int32), s1) else (if x1 < (tg_I s1 8) then (f_X2_factOf x1 x2 s1).bind (fun r2 => some (r2, s1)) else some ((-1001 : Int32), s1))))) else some ((-1002 : Int32), st)))
theorem yd_X3_span : yX3_span.cls = RX3 ∧ yX3_span.cls ≠ "java/lang/invoke/MethodHandle" ∧ yX3_span.cls ≠ "java/lang/invoke/VarHandle" ∧ (parseMethodDescriptor yX3_span.desc).map (fun d => d.parameters.length) = some 2 := by decide +kernel
set_option maxHeartbeats 4000000 in
set_option maxRecDepth 100000 in
theorem c_X3_span (l : Launch) (G : tG) (st : tST) (x1 : Int32) (x2 : Int32) {r : Int32} {st' : tST} (hf : f_X3_span x1 x2 st = some (r, st')) : tCI l G yX3_span cX3_span 3 (some .int) rm_X3_span [.ref (tad G 0), .int x1, .int x2] st r st' := by
  refine tk_entI (by decide +kernel) (Nat.le_of_ble_eq_true rfl) (fun p e s m below meth c ls S hr hlk hI hl => ?_)
  have hl : lv_has ls 3 [(0, .ref (tad G 0)), (1, .int x1), (2, .int x2)] := hl
  have S : CallFix p m c cX3_span 3 s [.ref (tad G 0), .int x1, .int x2].toArray wsL_law RX3 := S
  have hx := S.1
  have hb := S.2.1
  have hown := S.2.2.2.1
  have hts := S.2.2.2.2
  unfold f_X3_span at hf
  refine lv_iload_n hx hb dX3_span_0 rfl (lv_at hl 2 rfl) ?_
  refine tk_if_lt (tgt := 9) hx hb hf dX3_span_1 (by decide) (fun hf => ?_) (fun hf => ?_)
  · refine lv_sipush (v := -1002) hx hb dX3_span_9 (by decide) ?_
    exact tk_riW S hr hlk hI hf dX3_span_12
  · refine lv_iload_n hx hb dX3_span_4 rfl (lv_at hl 2 rfl) ?_
    refine lv_iconst (v := 4) hx hb dX3_span_5 (by decide) ?_
    refine tk_icmp_lt (tgt := 13) hx hb hf dX3_span_6 (by decide) (fun hf => ?_) (fun hf => ?_)
    · refine lv_aload_n hx hb dX3_span_13 rfl (lv_at hl 0 rfl) ?_
      refine tk_bd hf (fun s1 hq hf => ?_)
      refine tk_vV S hI hl.1 (c_X3_cutSpans l G st  hq) (cwV 0 hts (tk_gV mw_447 mw_448 mw_449 mw_2 mw_450) rfl rfl rfl yd_X3_cutSpans ⟨Nat.le_of_ble_eq_true rfl, Nat.le_of_ble_eq_true rfl⟩) 0 3 rfl rfl rfl rfl [] rfl (Nat.le_of_ble_eq_true rfl) dX3_span_14 (fun H locs hI => ?_)
      refine lv_iload_n hx hb dX3_span_17 rfl (lv_at hl 2 rfl) ?_
      refine tk_if_ne (tgt := 29) hx hb hf dX3_span_18 (by decide) (fun hf => ?_) (fun hf => ?_)
      · refine lv_iload_n hx hb dX3_span_29 rfl (lv_at hl 1 rfl) ?_
        refine tk_if_lt (tgt := 44) hx hb hf dX3_span_30 (by decide) (fun hf => ?_) (fun hf => ?_)
        · refine lv_sipush (v := -1001) hx hb dX3_span_44 (by decide) ?_
          exact tk_riW S hr hlk hI hf dX3_span_47
        · refine lv_iload_n hx hb dX3_span_33 rfl (lv_at hl 1 rfl) ?_
          refine lv_aload_n hx hb dX3_span_34 rfl (lv_at hl 0 rfl) ?_
          refine tg_X3_7 S hI mw_29 dX3_span_35 ?_
          refine tg_X2_3 S hI mw_446 dX3_span_38 ?_
          refine tk_icmp_lt (tgt := 48) hx hb hf dX3_span_41 (by decide) (fun hf => ?_) (fun hf => ?_)
          · refine lv_aload_n hx hb dX3_span_48 rfl (lv_at hl 0 rfl) ?_
            refine tg_X3_7 S hI mw_29 dX3_span_49 ?_
            refine lv_iload_n hx hb dX3_span_52 rfl (lv_at hl 1 rfl) ?_
            refine lv_iload_n hx hb dX3_span_53 rfl (lv_at hl 2 rfl) ?_
            refine tk_bd hf (fun r2 hq hf => ?_)
            refine tk_vI S hI hl.1 (c_X2_factOf l G s1 x1 x2 hq) (cwV 2 hts (tk_gV mw_455 mw_456 mw_457 mw_28 mw_458) rfl rfl rfl yd_X2_factOf ⟨Nat.le_of_ble_eq_true rfl, Nat.le_of_ble_eq_true rfl⟩) 14 2 rfl rfl rfl rfl [] rfl (Nat.le_of_ble_eq_true rfl) dX3_span_54 (fun H locs hI => ?_)
            exact tk_riW S hr hlk hI hf dX3_span_57
          · refine lv_sipush (v := -1001) hx hb dX3_span_44 (by decide) ?_
            exact tk_riW S hr hlk hI hf dX3_span_47
      · refine lv_aload_n hx hb dX3_span_21 rfl (lv_at hl 0 rfl) ?_
        refine tg_X3_7 S hI mw_29 dX3_span_22 ?_
        refine tg_X2_3 S hI mw_446 dX3_span_25 ?_
        exact tk_riW S hr hlk hI hf dX3_span_28
    · refine lv_sipush (v := -1002) hx hb dX3_span_9 (by decide) ?_
      exact tk_riW S hr hlk hI hf dX3_span_12
/-! X3_readsAsPage -/
abbrev rm_X3_readsAsPage : Room := { frames := 2, cells := 0, slots := 0, locals := 49 }
def f_X3_readsAsPage_25 (st : tST)  : Nat → Int32 → Int64 → Int32 → Int32 → Option (Int32)
  | 0, _, _, _, _ => none
  | n + 1, x1, x2, x4, x5 => (if (tg_I st 6) ≤ x5 then (if x4 = (tg_I st 0) then tzr (1 : Int32) (some (1 : Int32)) else tzr (0 : Int32) (some (0 : Int32))) else (f_X1_holds x5 x2 x1 st).bind (fun r1 => (if r1 = 0 then tlet (x5 + (1 : Int32)) (fun i2 => f_X3_readsAsPage_25 st n x1 x2 x4 i2) else (if (tg_I st 0) ≤ x4 then tzr (0 : Int32) (some (0 : Int32)) else tal 90 (tg_A st 4) x5 (fun v3 => tal 64 (tg_A st 2) v3 (fun v4 => tal 40 (tg_A st 1) x4 (fun v5 => (if v4 = v5 then tlet (x4 + (1 : Int32)) (fun i6 => tlet (x5 + (1 : Int32)) (fun i7 => f_X3_readsAsPage_25 st n x1 x2 i6 i7)) else tzr (0 : Int32) (some (0 : Int32))))))))))
def f_X3_readsAsPage (x1 : Int32) (st : tST) : Option (Int32) := (f_X3_thereBy x1 st).bind (fun r1 => (f_J13_bitCount_95d88 r1).bind (fun r2 => (if r2 = (tg_I st 0) then f_X3_readsAsPage_25 st tfu x1 r1 (0 : Int32) (0 : Int32) else tzr (0 : Int32) (some (0 : Int32)))))
theorem yd_X3_readsAsPage : yX3_readsAsPage.cls = RX3 ∧ yX3_readsAsPage.cls ≠ "java/lang/invoke/MethodHandle" ∧ yX3_readsAsPage.cls ≠ "java/lang/invoke/VarHandle" ∧ (parseMethodDescriptor yX3_readsAsPage.desc).map (fun d => d.parameters.length) = some 1 := by decide +kernel
set_option maxHeartbeats 4000000 in
set_option maxRecDepth 100000 in
theorem k_X3_readsAsPage_25 {l : Launch} {G : tG} {p : Program} {e : Env} {s : State} {m : MethodId} {below : List Frame} {meth : Method} {c : Code} {args : Array Value} {r : Int32} {st : tST} (S : CallFix p m c cX3_readsAsPage 6 s args wsL_law RX3) (hr : meth.sig.returnType = (some .boolean)) (hlk : meth.locks = false) : ∀ (n : Nat) (x1 : Int32) (x2 : Int64) (x4 : Int32) (x5 : Int32) (H : Heap) (locs : List Loc) (ls : Array Slot), tIn G (tA G s.heap.size) s st H locs → lv_has ls 6 [(0, .ref (tad G 0)), (1, .int x1), (2, .long x2), (4, .int x4), (5, .int x5)] → f_X3_readsAsPage_25 st n x1 x2 x4 x5 = some r → W p l e rm_X3_readsAsPage s m args below meth c H locs 0 0 (tZI G below args s r st) (F0 m 25 ls []) := by
  have hx := S.1
  have hb := S.2.1
  have hown := S.2.2.2.1
  have hts := S.2.2.2.2
  intro n
  induction n with
  | zero => intro x1 x2 x4 x5 H locs ls hI hl hf; exact nomatch (show (none : Option (Int32)) = some _ from hf)
  | succ n ih =>
    intro x1 x2 x4 x5 H locs ls hI hl hf
    rw [f_X3_readsAsPage_25] at hf
    refine lv_iload hx hb dX3_readsAsPage_25 (lv_at hl 4 rfl) ?_
    refine lv_aload_n hx hb dX3_readsAsPage_27 rfl (lv_at hl 0 rfl) ?_
    refine tg_X3_5 S hI mw_21 dX3_readsAsPage_28 ?_
    refine tg_X1_4 S hI mw_114 dX3_readsAsPage_31 ?_
    refine tk_icmp_ge (tgt := 96) hx hb hf dX3_readsAsPage_34 (by decide) (fun hf => ?_) (fun hf => ?_)
    · refine lv_iload hx hb dX3_readsAsPage_96 (lv_at hl 3 rfl) ?_
      refine lv_aload_n hx hb dX3_readsAsPage_98 rfl (lv_at hl 0 rfl) ?_
      refine tg_X3_1 S hI mw_14 dX3_readsAsPage_99 ?_
      refine tk_icmp_ne (tgt := 109) hx hb hf dX3_readsAsPage_102 (by decide) (fun hf => ?_) (fun hf => ?_)
      · refine lv_iconst (v := 0) hx hb dX3_readsAsPage_109 (by decide) ?_
        exact tk_rzR S hr hlk hI hf dX3_readsAsPage_110
      · refine lv_iconst (v := 1) hx hb dX3_readsAsPage_105 (by decide) ?_
        refine lv_goto (tgt := 110) hx hb dX3_readsAsPage_106 (by decide) ?_
        exact tk_rzR S hr hlk hI hf dX3_readsAsPage_110
    · refine lv_aload_n hx hb dX3_readsAsPage_37 rfl (lv_at hl 0 rfl) ?_
      refine tg_X3_5 S hI mw_21 dX3_readsAsPage_38 ?_
      refine lv_iload hx hb dX3_readsAsPage_41 (lv_at hl 4 rfl) ?_
      refine lv_lload_n hx hb dX3_readsAsPage_43 rfl (lv_at hl 2 rfl) ?_
      refine lv_iload_n hx hb dX3_readsAsPage_44 rfl (lv_at hl 1 rfl) ?_
      refine tk_bd hf (fun r1 hq hf => ?_)
      refine tk_vI S hI hl.1 (c_X1_holds l G st x5 x2 x1 hq) (cwV 3 hts (tk_gV mw_181 mw_182 mw_183 mw_20 mw_184) rfl rfl rfl yd_X1_holds ⟨Nat.le_of_ble_eq_true rfl, Nat.le_of_ble_eq_true rfl⟩) 3 1 rfl rfl rfl rfl [] rfl (Nat.le_of_ble_eq_true rfl) dX3_readsAsPage_45 (fun H locs hI => ?_)
      refine tk_if_eq (tgt := 90) hx hb hf dX3_readsAsPage_48 (by decide) (fun hf => ?_) (fun hf => ?_)
      · refine tk_let hf (fun i2 ei2 hf => ?_)
        refine lv_iinc (v := i2) (lv' := [(5, .int i2), (0, .ref (tad G 0)), (1, .int x1), (2, .long x2), (4, .int x4)]) hx hb dX3_readsAsPage_90 hl (k := 4) rfl (by rw [ei2]; rfl) (by decide) rfl (fun ls hl => ?_)
        refine lv_goto (tgt := 25) hx hb dX3_readsAsPage_93 (by decide) ?_
        exact ih x1 x2 x4 i2 _ _ _ hI (lv_sub hl [1, 2, 3, 4, 0] rfl) hf
      · refine lv_iload hx hb dX3_readsAsPage_51 (lv_at hl 3 rfl) ?_
        refine lv_aload_n hx hb dX3_readsAsPage_53 rfl (lv_at hl 0 rfl) ?_
        refine tg_X3_1 S hI mw_14 dX3_readsAsPage_54 ?_
        refine tk_icmp_ge (tgt := 85) hx hb hf dX3_readsAsPage_57 (by decide) (fun hf => ?_) (fun hf => ?_)
        · refine lv_iconst (v := 0) hx hb dX3_readsAsPage_85 (by decide) ?_
          exact tk_rzR S hr hlk hI hf dX3_readsAsPage_86
        · refine lv_aload_n hx hb dX3_readsAsPage_60 rfl (lv_at hl 0 rfl) ?_
          refine tg_X3_2 S hI mw_15 dX3_readsAsPage_61 ?_
          refine lv_aload_n hx hb dX3_readsAsPage_64 rfl (lv_at hl 0 rfl) ?_
          refine tg_X3_5 S hI mw_21 dX3_readsAsPage_65 ?_
          refine tg_X1_0 S hI mw_256 dX3_readsAsPage_68 ?_
          refine lv_iload hx hb dX3_readsAsPage_71 (lv_at hl 4 rfl) ?_
          refine tk_iald S hI (k := 4) (n := 90) rfl hf dX3_readsAsPage_73 (fun v3 hf => ?_)
          refine tk_iald S hI (k := 2) (n := 64) rfl hf dX3_readsAsPage_74 (fun v4 hf => ?_)
          refine lv_aload_n hx hb dX3_readsAsPage_75 rfl (lv_at hl 0 rfl) ?_
          refine tg_X3_0 S hI mw_13 dX3_readsAsPage_76 ?_
          refine lv_iload hx hb dX3_readsAsPage_79 (lv_at hl 3 rfl) ?_
          refine tk_iald S hI (k := 1) (n := 40) rfl hf dX3_readsAsPage_81 (fun v5 hf => ?_)
          refine tk_icmp_eq (tgt := 87) hx hb hf dX3_readsAsPage_82 (by decide) (fun hf => ?_) (fun hf => ?_)
          · refine tk_let hf (fun i6 ei6 hf => ?_)
            refine lv_iinc (v := i6) (lv' := [(4, .int i6), (0, .ref (tad G 0)), (1, .int x1), (2, .long x2), (5, .int x5)]) hx hb dX3_readsAsPage_87 hl (k := 3) rfl (by rw [ei6]; rfl) (by decide) rfl (fun ls hl => ?_)
            refine tk_let hf (fun i7 ei7 hf => ?_)
            refine lv_iinc (v := i7) (lv' := [(5, .int i7), (4, .int i6), (0, .ref (tad G 0)), (1, .int x1), (2, .long x2)]) hx hb dX3_readsAsPage_90 hl (k := 4) rfl (by rw [ei7]; rfl) (by decide) rfl (fun ls hl => ?_)
            refine lv_goto (tgt := 25) hx hb dX3_readsAsPage_93 (by decide) ?_
            exact ih x1 x2 i6 i7 _ _ _ hI (lv_sub hl [2, 3, 4, 1, 0] rfl) hf
          · refine lv_iconst (v := 0) hx hb dX3_readsAsPage_85 (by decide) ?_
            exact tk_rzR S hr hlk hI hf dX3_readsAsPage_86
set_option maxHeartbeats 4000000 in
set_option maxRecDepth 100000 in
theorem c_X3_readsAsPage (l : Launch) (G : tG) (st : tST) (x1 : Int32) {r : Int32} (hf : f_X3_readsAsPage x1 st = some r) : tCI l G yX3_readsAsPage cX3_readsAsPage 6 (some .boolean) rm_X3_readsAsPage [.ref (tad G 0), .int x1] st r st := by
  refine tk_entI (by decide +kernel) (Nat.le_of_ble_eq_true rfl) (fun p e s m below meth c ls S hr hlk hI hl => ?_)
  have hl : lv_has ls 6 [(0, .ref (tad G 0)), (1, .int x1)] := hl
  have S : CallFix p m c cX3_readsAsPage 6 s [.ref (tad G 0), .int x1].toArray wsL_law RX3 := S
  have hx := S.1
  have hb := S.2.1
  have hown := S.2.2.2.1
  have hts := S.2.2.2.2
  unfold f_X3_readsAsPage at hf
  refine lv_aload_n hx hb dX3_readsAsPage_0 rfl (lv_at hl 0 rfl) ?_
  refine lv_iload_n hx hb dX3_readsAsPage_1 rfl (lv_at hl 1 rfl) ?_
  refine tk_bd hf (fun r1 hq hf => ?_)
  refine tk_vL S hI hl.1 (c_X3_thereBy l G st x1 hq) (cwV 1 hts (tk_gV mw_175 mw_176 mw_177 mw_2 mw_178) rfl rfl rfl yd_X3_thereBy ⟨Nat.le_of_ble_eq_true rfl, Nat.le_of_ble_eq_true rfl⟩) 0 3 rfl rfl rfl rfl [] rfl (Nat.le_of_ble_eq_true rfl) dX3_readsAsPage_2 (fun H locs hI => ?_)
  refine lv_lstore_n (lv' := [(2, .long r1), (0, .ref (tad G 0)), (1, .int x1)]) hx hb dX3_readsAsPage_5 rfl hl (by decide) rfl (fun ls hl => ?_)
  refine lv_lload_n hx hb dX3_readsAsPage_6 rfl (lv_at hl 0 rfl) ?_
  refine tk_bd hf (fun r2 hq hf => ?_)
  refine tk_sI S hI hl.1 (c_J13_bitCount_95d88 l G st r1 hq) (va_cwS 1 hts (tk_gS mw_399 mw_400 mw_401 mw_402) rfl rfl rfl yd_J13_bitCount_95d88 ⟨Nat.le_of_ble_eq_true rfl, Nat.le_of_ble_eq_true rfl⟩) rfl [] rfl (Nat.le_of_ble_eq_true rfl) dX3_readsAsPage_7 (fun H locs hI => ?_)
  refine lv_aload_n hx hb dX3_readsAsPage_10 rfl (lv_at hl 1 rfl) ?_
  refine tg_X3_1 S hI mw_14 dX3_readsAsPage_11 ?_
  refine tk_icmp_eq (tgt := 19) hx hb hf dX3_readsAsPage_14 (by decide) (fun hf => ?_) (fun hf => ?_)
  · refine lv_iconst (v := 0) hx hb dX3_readsAsPage_19 (by decide) ?_
    refine lv_istore (lv' := [(4, .int (0 : Int32)), (2, .long r1), (0, .ref (tad G 0)), (1, .int x1)]) hx hb dX3_readsAsPage_20 hl (by decide) rfl (fun ls hl => ?_)
    refine lv_iconst (v := 0) hx hb dX3_readsAsPage_22 (by decide) ?_
    refine lv_istore (lv' := [(5, .int (0 : Int32)), (4, .int (0 : Int32)), (2, .long r1), (0, .ref (tad G 0)), (1, .int x1)]) hx hb dX3_readsAsPage_23 hl (by decide) rfl (fun ls hl => ?_)
    exact k_X3_readsAsPage_25 S hr hlk tfu x1 r1 (0 : Int32) (0 : Int32) _ _ _ hI (lv_sub hl [3, 4, 2, 1, 0] rfl) hf
  · refine lv_iconst (v := 0) hx hb dX3_readsAsPage_17 (by decide) ?_
    exact tk_rzR S hr hlk hI hf dX3_readsAsPage_18
/-! J6_bitCount_0f7a4 -/
abbrev rm_J6_bitCount_0f7a4 : Room := { frames := 0, cells := 0, slots := 0, locals := 0 }
def f_J6_bitCount_0f7a4 (x0 : Int32) : Option (Int32) := tlet (x0 - (((x0.toUInt32 >>> ((1 : Int32).toUInt32 &&& Int32.toUInt32 31)).toInt32) &&& (1431655765 : Int32))) (fun i1 => tlet ((i1 &&& (858993459 : Int32)) + (((i1.toUInt32 >>> ((2 : Int32).toUInt32 &&& Int32.toUInt32 31)).toInt32) &&& (858993459 : Int32))) (fun i2 => tlet ((i2 + ((i2.toUInt32 >>> ((4 : Int32).toUInt32 &&& Int32.toUInt32 31)).toInt32)) &&& (252645135 : Int32)) (fun i3 => tlet (i3 + ((i3.toUInt32 >>> ((8 : Int32).toUInt32 &&& Int32.toUInt32 31)).toInt32)) (fun i4 => tlet (i4 + ((i4.toUInt32 >>> ((16 : Int32).toUInt32 &&& Int32.toUInt32 31)).toInt32)) (fun i5 => some (i5 &&& (63 : Int32)))))))
theorem yd_J6_bitCount_0f7a4 : yJ6_bitCount_0f7a4.cls ≠ "java/lang/invoke/MethodHandle" ∧ yJ6_bitCount_0f7a4.cls ≠ "java/lang/invoke/VarHandle" ∧ (parseMethodDescriptor yJ6_bitCount_0f7a4.desc).map (fun d => d.parameters.length) = some 1 := by decide +kernel
set_option maxHeartbeats 4000000 in
set_option maxRecDepth 100000 in
theorem c_J6_bitCount_0f7a4 (l : Launch) (G : tG) (st : tST) (x0 : Int32) {r : Int32} (hf : f_J6_bitCount_0f7a4 x0 = some r) : tCI l G yJ6_bitCount_0f7a4 cJ6_bitCount_0f7a4 1 (some .int) rm_J6_bitCount_0f7a4 [.int x0] st r st := by
  refine tk_entI (by decide +kernel) (Nat.le_of_ble_eq_true rfl) (fun p e s m below meth c ls S hr hlk hI hl => ?_)
  have hl : lv_has ls 1 [(0, .int x0)] := hl
  have S : CallFix p m c cJ6_bitCount_0f7a4 1 s [.int x0].toArray wsL_law RJ6 := S
  have hx := S.1
  have hb := S.2.1
  have hown := S.2.2.2.1
  have hts := S.2.2.2.2
  unfold f_J6_bitCount_0f7a4 at hf
  refine lv_iload_n hx hb dJ6_bitCount_0f7a4_0 rfl (lv_at hl 0 rfl) ?_
  refine lv_iload_n hx hb dJ6_bitCount_0f7a4_1 rfl (lv_at hl 0 rfl) ?_
  refine lv_iconst (v := 1) hx hb dJ6_bitCount_0f7a4_2 (by decide) ?_
  refine lv_iushr hx hb dJ6_bitCount_0f7a4_3 rfl ?_
  refine lv_ldcw (v := 1431655765) hx hb hown (hts _ mw_484) dJ6_bitCount_0f7a4_4 ?_
  refine lv_iand hx hb dJ6_bitCount_0f7a4_7 ?_
  refine lv_isub hx hb dJ6_bitCount_0f7a4_8 ?_
  refine tk_topi hf (fun i1 hf => ?_)
  refine lv_istore_n (lv' := [(0, .int i1)]) hx hb dJ6_bitCount_0f7a4_9 rfl hl (by decide) rfl (fun ls hl => ?_)
  refine lv_iload_n hx hb dJ6_bitCount_0f7a4_10 rfl (lv_at hl 0 rfl) ?_
  refine lv_ldcw (v := 858993459) hx hb hown (hts _ mw_485) dJ6_bitCount_0f7a4_11 ?_
  refine lv_iand hx hb dJ6_bitCount_0f7a4_14 ?_
  refine lv_iload_n hx hb dJ6_bitCount_0f7a4_15 rfl (lv_at hl 0 rfl) ?_
  refine lv_iconst (v := 2) hx hb dJ6_bitCount_0f7a4_16 (by decide) ?_
  refine lv_iushr hx hb dJ6_bitCount_0f7a4_17 rfl ?_
  refine lv_ldcw (v := 858993459) hx hb hown (hts _ mw_485) dJ6_bitCount_0f7a4_18 ?_
  refine lv_iand hx hb dJ6_bitCount_0f7a4_21 ?_
  refine lv_iadd hx hb dJ6_bitCount_0f7a4_22 ?_
  refine tk_topi hf (fun i2 hf => ?_)
  refine lv_istore_n (lv' := [(0, .int i2)]) hx hb dJ6_bitCount_0f7a4_23 rfl hl (by decide) rfl (fun ls hl => ?_)
  refine lv_iload_n hx hb dJ6_bitCount_0f7a4_24 rfl (lv_at hl 0 rfl) ?_
  refine lv_iload_n hx hb dJ6_bitCount_0f7a4_25 rfl (lv_at hl 0 rfl) ?_
  refine lv_iconst (v := 4) hx hb dJ6_bitCount_0f7a4_26 (by decide) ?_
  refine lv_iushr hx hb dJ6_bitCount_0f7a4_27 rfl ?_
  refine lv_iadd hx hb dJ6_bitCount_0f7a4_28 ?_
  refine lv_ldcw (v := 252645135) hx hb hown (hts _ mw_486) dJ6_bitCount_0f7a4_29 ?_
  refine lv_iand hx hb dJ6_bitCount_0f7a4_32 ?_
  refine tk_topi hf (fun i3 hf => ?_)
  refine lv_istore_n (lv' := [(0, .int i3)]) hx hb dJ6_bitCount_0f7a4_33 rfl hl (by decide) rfl (fun ls hl => ?_)
  refine lv_iload_n hx hb dJ6_bitCount_0f7a4_34 rfl (lv_at hl 0 rfl) ?_
  refine lv_iload_n hx hb dJ6_bitCount_0f7a4_35 rfl (lv_at hl 0 rfl) ?_
  refine lv_bipush (v := 8) hx hb dJ6_bitCount_0f7a4_36 (by decide) ?_
  refine lv_iushr hx hb dJ6_bitCount_0f7a4_38 rfl ?_
  refine lv_iadd hx hb dJ6_bitCount_0f7a4_39 ?_
  refine tk_topi hf (fun i4 hf => ?_)
  refine lv_istore_n (lv' := [(0, .int i4)]) hx hb dJ6_bitCount_0f7a4_40 rfl hl (by decide) rfl (fun ls hl => ?_)
  refine lv_iload_n hx hb dJ6_bitCount_0f7a4_41 rfl (lv_at hl 0 rfl) ?_
  refine lv_iload_n hx hb dJ6_bitCount_0f7a4_42 rfl (lv_at hl 0 rfl) ?_
  refine lv_bipush (v := 16) hx hb dJ6_bitCount_0f7a4_43 (by decide) ?_
  refine lv_iushr hx hb dJ6_bitCount_0f7a4_45 rfl ?_
  refine lv_iadd hx hb dJ6_bitCount_0f7a4_46 ?_
  refine tk_topi hf (fun i5 hf => ?_)
  refine lv_istore_n (lv' := [(0, .int i5)]) hx hb dJ6_bitCount_0f7a4_47 rfl hl (by decide) rfl (fun ls hl => ?_)
  refine lv_iload_n hx hb dJ6_bitCount_0f7a4_48 rfl (lv_at hl 0 rfl) ?_
  refine lv_bipush (v := 63) hx hb dJ6_bitCount_0f7a4_49 (by decide) ?_
  refine lv_iand hx hb dJ6_bitCount_0f7a4_51 ?_
  exact tk_riR S hr hlk hI hf dJ6_bitCount_0f7a4_52
/-! X3_seekPage -/
abbrev rm_X3_seekPage : Room := { frames := 3, cells := 0, slots := 0, locals := 74 }
def f_X3_seekPage_30 : Nat → Int32 → Int32 → Int32 → tST → Option (tST)
  | 0, _, _, _, _ => none
  | n + 1, x1, x2, x3, st => (if x2 < x3 then some st else (if (x3 &&& (x2 ^^^ (-1 : Int32))) = 0 then (f_X3_readsAsPage (x1 ||| x3) st).bind (fun r2 => (if r2 = 0 then tlet (x3 + (1 : Int32)) (fun i3 => f_X3_seekPage_30 n x1 x2 i3 st) else tlet (tp_I st 2 ((tg_I st 2) + (1 : Int32))) (fun s4 => (if (tg_I s4 3) = (-1 : Int32) then tlet (tp_I s4 3 x3) (fun s5 => tlet (x3 + (1 : Int32)) (fun i6 => f_X3_seekPage_30 n x1 x2 i6 s5)) else (f_J6_bitCount_0f7a4 x3).bind (fun r7 => (f_J6_bitCount_0f7a4 (tg_I s4 3)).bind (fun r8 => (if r8 ≤ r7 then tlet (x3 + (1 : Int32)) (fun i9 => f_X3_seekPage_30 n x1 x2 i9 s4) else tlet (tp_I s4 3 x3) (fun s10 => tlet (x3 + (1 : Int32)) (fun i11 => f_X3_seekPage_30 n x1 x2 i11 s10))))))))) else tlet (x3 + (1 : Int32)) (fun i1 => f_X3_seekPage_30 n x1 x2 i1 st)))
def f_X3_seekPage (st : tST) : Option (tST) := (f_X0_inStatus (1 : Int32) st).bind (fun r1 => (f_X0_inStatus (0 : Int32) st).bind (fun r2 => tlet (tp_I st 2 (0 : Int32)) (fun s3 => tlet (tp_I s3 3 (-1 : Int32)) (fun s4 => f_X3_seekPage_30 tfu r1 r2 (0 : Int32) s4))))
theorem yd_X3_seekPage : yX3_seekPage.cls = RX3 ∧ yX3_seekPage.cls ≠ "java/lang/invoke/MethodHandle" ∧ yX3_seekPage.cls ≠ "java/lang/invoke/VarHandle" ∧ (parseMethodDescriptor yX3_seekPage.desc).map (fun d => d.parameters.length) = some 0 := by decide +kernel
set_option maxHeartbeats 4000000 in
set_option maxRecDepth 100000 in
theorem k_X3_seekPage_30 {l : Launch} {G : tG} {p : Program} {e : Env} {s : State} {m : MethodId} {below : List Frame} {meth : Method} {c : Code} {args : Array Value} {st' : tST} (S : CallFix p m c cX3_seekPage 4 s args wsL_law RX3) (hr : meth.sig.returnType = none) (hlk : meth.locks = false) : ∀ (n : Nat) (x1 : Int32) (x2 : Int32) (x3 : Int32) (st : tST) (H : Heap) (locs : List Loc) (ls : Array Slot), tIn G (tA G s.heap.size) s st H locs → lv_has ls 4 [(0, .ref (tad G 0)), (1, .int x1), (2, .int x2), (3, .int x3)] → f_X3_seekPage_30 n x1 x2 x3 st = some st' → W p l e rm_X3_seekPage s m args below meth c H locs 0 0 (tZV G below args s st') (F0 m 30 ls []) := by
  have hx := S.1
  have hb := S.2.1
  have hown := S.2.2.2.1
  have hts := S.2.2.2.2
  intro n
  induction n with
  | zero => intro x1 x2 x3 st H locs ls hI hl hf; exact nomatch (show (none : Option (tST)) = some _ from hf)
  | succ n ih =>
    intro x1 x2 x3 st H locs ls hI hl hf
    rw [f_X3_seekPage_30] at hf
    refine lv_iload_n hx hb dX3_seekPage_30 rfl (lv_at hl 3 rfl) ?_
    refine lv_iload_n hx hb dX3_seekPage_31 rfl (lv_at hl 2 rfl) ?_
    refine tk_icmp_gt (tgt := 96) hx hb hf dX3_seekPage_32 (by decide) (fun hf => ?_) (fun hf => ?_)
    · exact tk_rvW S hr hlk hI hf dX3_seekPage_96
    · refine lv_iload_n hx hb dX3_seekPage_35 rfl (lv_at hl 3 rfl) ?_
      refine lv_iload_n hx hb dX3_seekPage_36 rfl (lv_at hl 2 rfl) ?_
      refine lv_iconst (v := -1) hx hb dX3_seekPage_37 (by decide) ?_
      refine lv_ixor hx hb dX3_seekPage_38 ?_
      refine lv_iand hx hb dX3_seekPage_39 ?_
      refine tk_if_ne (tgt := 90) hx hb hf dX3_seekPage_40 (by decide) (fun hf => ?_) (fun hf => ?_)
      · refine tk_let hf (fun i1 ei1 hf => ?_)
        refine lv_iinc (v := i1) (lv' := [(3, .int i1), (0, .ref (tad G 0)), (1, .int x1), (2, .int x2)]) hx hb dX3_seekPage_90 hl (k := 3) rfl (by rw [ei1]; rfl) (by decide) rfl (fun ls hl => ?_)
        refine lv_goto (tgt := 30) hx hb dX3_seekPage_93 (by decide) ?_
        exact ih x1 x2 i1 st _ _ _ hI (lv_sub hl [1, 2, 3, 0] rfl) hf
      · refine lv_aload_n hx hb dX3_seekPage_43 rfl (lv_at hl 0 rfl) ?_
        refine lv_iload_n hx hb dX3_seekPage_44 rfl (lv_at hl 1 rfl) ?_
        refine lv_iload_n hx hb dX3_seekPage_45 rfl (lv_at hl 3 rfl) ?_
        refine lv_ior hx hb dX3_seekPage_46 ?_
        refine tk_bd hf (fun r2 hq hf => ?_)
        refine tk_vI S hI hl.1 (c_X3_readsAsPage l G st (x1 ||| x3) hq) (cwV 1 hts (tk_gV mw_476 mw_477 mw_478 mw_2 mw_479) rfl rfl rfl yd_X3_readsAsPage ⟨Nat.le_of_ble_eq_true rfl, Nat.le_of_ble_eq_true rfl⟩) 0 3 rfl rfl rfl rfl [] rfl (Nat.le_of_ble_eq_true rfl) dX3_seekPage_47 (fun H locs hI => ?_)
        refine tk_if_eq (tgt := 90) hx hb hf dX3_seekPage_50 (by decide) (fun hf => ?_) (fun hf => ?_)
        · refine tk_let hf (fun i3 ei3 hf => ?_)
          refine lv_iinc (v := i3) (lv' := [(3, .int i3), (0, .ref (tad G 0)), (1, .int x1), (2, .int x2)]) hx hb dX3_seekPage_90 hl (k := 3) rfl (by rw [ei3]; rfl) (by decide) rfl (fun ls hl => ?_)
          refine lv_goto (tgt := 30) hx hb dX3_seekPage_93 (by decide) ?_
          exact ih x1 x2 i3 st _ _ _ hI (lv_sub hl [1, 2, 3, 0] rfl) hf
        · refine lv_aload_n hx hb dX3_seekPage_53 rfl (lv_at hl 0 rfl) ?_
          refine lv_dup hx hb dX3_seekPage_54 rfl ?_
          refine tg_X3_9 S hI mw_31 dX3_seekPage_55 ?_
          refine lv_iconst (v := 1) hx hb dX3_seekPage_58 (by decide) ?_
          refine lv_iadd hx hb dX3_seekPage_59 ?_
          refine tp_X3_9 S hI mw_31 hf dX3_seekPage_60 (fun s4 H locs hI hf => ?_)
          refine lv_aload_n hx hb dX3_seekPage_63 rfl (lv_at hl 0 rfl) ?_
          refine tg_X3_10 S hI mw_32 dX3_seekPage_64 ?_
          refine lv_iconst (v := -1) hx hb dX3_seekPage_67 (by decide) ?_
          refine tk_icmp_eq (tgt := 85) hx hb hf dX3_seekPage_68 (by decide) (fun hf => ?_) (fun hf => ?_)
          · refine lv_aload_n hx hb dX3_seekPage_85 rfl (lv_at hl 0 rfl) ?_
            refine lv_iload_n hx hb dX3_seekPage_86 rfl (lv_at hl 3 rfl) ?_
            refine tp_X3_10 S hI mw_32 hf dX3_seekPage_87 (fun s5 H locs hI hf => ?_)
            refine tk_let hf (fun i6 ei6 hf => ?_)
            refine lv_iinc (v := i6) (lv' := [(3, .int i6), (0, .ref (tad G 0)), (1, .int x1), (2, .int x2)]) hx hb dX3_seekPage_90 hl (k := 3) rfl (by rw [ei6]; rfl) (by decide) rfl (fun ls hl => ?_)
            refine lv_goto (tgt := 30) hx hb dX3_seekPage_93 (by decide) ?_
            exact ih x1 x2 i6 s5 _ _ _ hI (lv_sub hl [1, 2, 3, 0] rfl) hf
          · refine lv_iload_n hx hb dX3_seekPage_71 rfl (lv_at hl 3 rfl) ?_
            refine tk_bd hf (fun r7 hq hf => ?_)
            refine tk_sI S hI hl.1 (c_J6_bitCount_0f7a4 l G s4 x3 hq) (va_cwS 1 hts (tk_gS mw_480 mw_481 mw_482 mw_483) rfl rfl rfl yd_J6_bitCount_0f7a4 ⟨Nat.le_of_ble_eq_true rfl, Nat.le_of_ble_eq_true rfl⟩) rfl [] rfl (Nat.le_of_ble_eq_true rfl) dX3_seekPage_72 (fun H locs hI => ?_)
            refine lv_aload_n hx hb dX3_seekPage_75 rfl (lv_at hl 0 rfl) ?_
            refine tg_X3_10 S hI mw_32 dX3_seekPage_76 ?_
            refine tk_bd hf (fun r8 hq hf => ?_)
            refine tk_sI S hI hl.1 (c_J6_bitCount_0f7a4 l G s4 (tg_I s4 3) hq) (va_cwS 1 hts (tk_gS mw_480 mw_481 mw_482 mw_483) rfl rfl rfl yd_J6_bitCount_0f7a4 ⟨Nat.le_of_ble_eq_true rfl, Nat.le_of_ble_eq_true rfl⟩) rfl [.int r7] rfl (Nat.le_of_ble_eq_true rfl) dX3_seekPage_79 (fun H locs hI => ?_)
            refine tk_icmp_ge (tgt := 90) hx hb hf dX3_seekPage_82 (by decide) (fun hf => ?_) (fun hf => ?_)
            · refine tk_let hf (fun i9 ei9 hf => ?_)
              refine lv_iinc (v := i9) (lv' := [(3, .int i9), (0, .ref (tad G 0)), (1, .int x1), (2, .int x2)]) hx hb dX3_seekPage_90 hl (k := 3) rfl (by rw [ei9]; rfl) (by decide) rfl (fun ls hl => ?_)
              refine lv_goto (tgt := 30) hx hb dX3_seekPage_93 (by decide) ?_
              exact ih x1 x2 i9 s4 _ _ _ hI (lv_sub hl [1, 2, 3, 0] rfl) hf
            · refine lv_aload_n hx hb dX3_seekPage_85 rfl (lv_at hl 0 rfl) ?_
              refine lv_iload_n hx hb dX3_seekPage_86 rfl (lv_at hl 3 rfl) ?_
              refine tp_X3_10 S hI mw_32 hf dX3_seekPage_87 (fun s10 H locs hI hf => ?_)
              refine tk_let hf (fun i11 ei11 hf => ?_)
              refine lv_iinc (v := i11) (lv' := [(3, .int i11), (0, .ref (tad G 0)), (1, .int x1), (2, .int x2)]) hx hb dX3_seekPage_90 hl (k := 3) rfl (by rw [ei11]; rfl) (by decide) rfl (fun ls hl => ?_)
              refine lv_goto (tgt := 30) hx hb dX3_seekPage_93 (by decide) ?_
              exact ih x1 x2 i11 s10 _ _ _ hI (lv_sub hl [1, 2, 3, 0] rfl) hf
set_option maxHeartbeats 4000000 in
set_option maxRecDepth 100000 in
theorem c_X3_seekPage (l : Launch) (G : tG) (st : tST) {st' : tST} (hf : f_X3_seekPage st = some st') : tCV l G yX3_seekPage cX3_seekPage 4 none rm_X3_seekPage [.ref (tad G 0)] st st' := by
  refine tk_entV (by decide +kernel) (Nat.le_of_ble_eq_true rfl) (fun p e s m below meth c ls S hr hlk hI hl => ?_)
  have hl : lv_has ls 4 [(0, .ref (tad G 0))] := hl
  have S : CallFix p m c cX3_seekPage 4 s [.ref (tad G 0)].toArray wsL_law RX3 := S
  have hx := S.1
  have hb := S.2.1
  have hown := S.2.2.2.1
  have hts := S.2.2.2.2
  unfold f_X3_seekPage at hf
  refine lv_aload_n hx hb dX3_seekPage_0 rfl (lv_at hl 0 rfl) ?_
  refine tg_X3_6 S hI mw_25 dX3_seekPage_1 ?_
  refine lv_iconst (v := 1) hx hb dX3_seekPage_4 (by decide) ?_
  refine tk_bd hf (fun r1 hq hf => ?_)
  refine tk_vI S hI hl.1 (c_X0_inStatus l G st (1 : Int32) hq) (cwV 1 hts (tk_gV mw_163 mw_164 mw_165 mw_24 mw_166) rfl rfl rfl yd_X0_inStatus ⟨Nat.le_of_ble_eq_true rfl, Nat.le_of_ble_eq_true rfl⟩) 8 0 rfl rfl rfl rfl [] rfl (Nat.le_of_ble_eq_true rfl) dX3_seekPage_5 (fun H locs hI => ?_)
  refine lv_istore_n (lv' := [(1, .int r1), (0, .ref (tad G 0))]) hx hb dX3_seekPage_8 rfl hl (by decide) rfl (fun ls hl => ?_)
  refine lv_aload_n hx hb dX3_seekPage_9 rfl (lv_at hl 1 rfl) ?_
  refine tg_X3_6 S hI mw_25 dX3_seekPage_10 ?_
  refine lv_iconst (v := 0) hx hb dX3_seekPage_13 (by decide) ?_
  refine tk_bd hf (fun r2 hq hf => ?_)
  refine tk_vI S hI hl.1 (c_X0_inStatus l G st (0 : Int32) hq) (cwV 1 hts (tk_gV mw_163 mw_164 mw_165 mw_24 mw_166) rfl rfl rfl yd_X0_inStatus ⟨Nat.le_of_ble_eq_true rfl, Nat.le_of_ble_eq_true rfl⟩) 8 0 rfl rfl rfl rfl [] rfl (Nat.le_of_ble_eq_true rfl) dX3_seekPage_14 (fun H locs hI => ?_)
  refine lv_istore_n (lv' := [(2, .int r2), (1, .int r1), (0, .ref (tad G 0))]) hx hb dX3_seekPage_17 rfl hl (by decide) rfl (fun ls hl => ?_)
  refine lv_aload_n hx hb dX3_seekPage_18 rfl (lv_at hl 2 rfl) ?_
  refine lv_iconst (v := 0) hx hb dX3_seekPage_19 (by decide) ?_
  refine tp_X3_9 S hI mw_31 hf dX3_seekPage_20 (fun s3 H locs hI hf => ?_)
  refine lv_aload_n hx hb dX3_seekPage_23 rfl (lv_at hl 2 rfl) ?_
  refine lv_iconst (v := -1) hx hb dX3_seekPage_24 (by decide) ?_
  refine tp_X3_10 S hI mw_32 hf dX3_seekPage_25 (fun s4 H locs hI hf => ?_)
  refine lv_iconst (v := 0) hx hb dX3_seekPage_28 (by decide) ?_
  refine lv_istore_n (lv' := [(3, .int (0 : Int32)), (2, .int r2), (1, .int r1), (0, .ref (tad G 0))]) hx hb dX3_seekPage_29 rfl hl (by decide) rfl (fun ls hl => ?_)
  exact k_X3_seekPage_30 S hr hlk tfu r1 r2 (0 : Int32) s4 _ _ _ hI (lv_sub hl [3, 2, 1, 0] rfl) hf
/-! X3_found -/
abbrev rm_X3_found : Room := { frames := 4, cells := 0, slots := 0, locals := 97 }
def f_X3_found (x1 : Int32) (st : tST) : Option (Int32 × tST) := (if x1 < 0 then some ((-1002 : Int32), st) else (if x1 < (2 : Int32) then (f_X3_seekPage st).bind (fun s1 => (if x1 = 0 then some ((tg_I s1 2), s1) else some ((tg_I s1 3), s1))) else some ((-1002 : Int32), st)))
theorem yd_X3_found : yX3_found.cls = RX3 ∧ yX3_found.cls ≠ "java/lang/invoke/MethodHandle" ∧ yX3_found.cls ≠ "java/lang/invoke/VarHandle" ∧ (parseMethodDescriptor yX3_found.desc).map (fun d => d.parameters.length) = some 1 := by decide +kernel
set_option maxHeartbeats 4000000 in
set_option maxRecDepth 100000 in
theorem c_X3_found (l : Launch) (G : tG) (st : tST) (x1 : Int32) {r : Int32} {st' : tST} (hf : f_X3_found x1 st = some (r, st')) : tCI l G yX3_found cX3_found 2 (some .int) rm_X3_found [.ref (tad G 0), .int x1] st r st' := by
  refine tk_entI (by decide +kernel) (Nat.le_of_ble_eq_true rfl) (fun p e s m below meth c ls S hr hlk hI hl => ?_)
  have hl : lv_has ls 2 [(0, .ref (tad G 0)), (1, .int x1)] := hl
  have S : CallFix p m c cX3_found 2 s [.ref (tad G 0), .int x1].toArray wsL_law RX3 := S
  have hx := S.1
  have hb := S.2.1
  have hown := S.2.2.2.1
  have hts := S.2.2.2.2
  unfold f_X3_found at hf
  refine lv_iload_n hx hb dX3_found_0 rfl (lv_at hl 1 rfl) ?_
  refine tk_if_lt (tgt := 9) hx hb hf dX3_found_1 (by decide) (fun hf => ?_) (fun hf => ?_)
  · refine lv_sipush (v := -1002) hx hb dX3_found_9 (by decide) ?_
    exact tk_riW S hr hlk hI hf dX3_found_12
  · refine lv_iload_n hx hb dX3_found_4 rfl (lv_at hl 1 rfl) ?_
    refine lv_iconst (v := 2) hx hb dX3_found_5 (by decide) ?_
    refine tk_icmp_lt (tgt := 13) hx hb hf dX3_found_6 (by decide) (fun hf => ?_) (fun hf => ?_)
    · refine lv_aload_n hx hb dX3_found_13 rfl (lv_at hl 0 rfl) ?_
      refine tk_bd hf (fun s1 hq hf => ?_)
      refine tk_vV S hI hl.1 (c_X3_seekPage l G st  hq) (cwV 0 hts (tk_gV mw_472 mw_473 mw_474 mw_2 mw_475) rfl rfl rfl yd_X3_seekPage ⟨Nat.le_of_ble_eq_true rfl, Nat.le_of_ble_eq_true rfl⟩) 0 3 rfl rfl rfl rfl [] rfl (Nat.le_of_ble_eq_true rfl) dX3_found_14 (fun H locs hI => ?_)
      refine lv_iload_n hx hb dX3_found_17 rfl (lv_at hl 1 rfl) ?_
      refine tk_if_ne (tgt := 28) hx hb hf dX3_found_18 (by decide) (fun hf => ?_) (fun hf => ?_)
      · refine lv_aload_n hx hb dX3_found_28 rfl (lv_at hl 0 rfl) ?_
        refine tg_X3_10 S hI mw_32 dX3_found_29 ?_
        exact tk_riW S hr hlk hI hf dX3_found_32
      · refine lv_aload_n hx hb dX3_found_21 rfl (lv_at hl 0 rfl) ?_
        refine tg_X3_9 S hI mw_31 dX3_found_22 ?_
        refine lv_goto (tgt := 32) hx hb dX3_found_25 (by decide) ?_
        exact tk_riW S hr hlk hI hf dX3_found_32
    · refine lv_sipush (v := -1002) hx hb dX3_found_9 (by decide) ?_
      exact tk_riW S hr hlk hI hf dX3_found_12
/-! X1_tornBy -/
abbrev rm_X1_tornBy : Room := { frames := 1, cells := 0, slots := 0, locals := 20 }
def f_X1_tornBy_5 (st : tST)  : Nat → Int32 → Int64 → Int32 → Option (Int64)
  | 0, _, _, _ => none
  | n + 1, x1, x2, x4 => (if (tg_I st 6) ≤ x4 then some x2 else tal 90 (tg_A st 7) x4 (fun v1 => (f_J6_bitCount_0f7a4 (v1 &&& x1)).bind (fun r2 => (if r2 < (2 : Int32) then tlet (x4 + (1 : Int32)) (fun i3 => f_X1_tornBy_5 st n x1 x2 i3) else tal 90 (tg_A st 4) x4 (fun v4 => tlet (x2 ||| ((1 : Int64) <<< (v4.toInt64 &&& (63 : Int64)))) (fun j5 => tlet (x4 + (1 : Int32)) (fun i6 => f_X1_tornBy_5 st n x1 j5 i6)))))))
def f_X1_tornBy (x1 : Int32) (st : tST) : Option (Int64) := f_X1_tornBy_5 st tfu x1 (0 : Int64) (0 : Int32)
theorem yd_X1_tornBy : yX1_tornBy.cls = RX1 ∧ yX1_tornBy.cls ≠ "java/lang/invoke/MethodHandle" ∧ yX1_tornBy.cls ≠ "java/lang/invoke/VarHandle" ∧ (parseMethodDescriptor yX1_tornBy.desc).map (fun d => d.parameters.length) = some 1 := by decide +kernel
set_option maxHeartbeats 4000000 in
set_option maxRecDepth 100000 in
theorem k_X1_tornBy_5 {l : Launch} {G : tG} {p : Program} {e : Env} {s : State} {m : MethodId} {below : List Frame} {meth : Method} {c : Code} {args : Array Value} {r : Int64} {st : tST} (S : CallFix p m c cX1_tornBy 5 s args wsL_law RX1) (hr : meth.sig.returnType = (some .long)) (hlk : meth.locks = false) : ∀ (n : Nat) (x1 : Int32) (x2 : Int64) (x4 : Int32) (H : Heap) (locs : List Loc) (ls : Array Slot), tIn G (tA G s.heap.size) s st H locs → lv_has ls 5 [(0, .ref (tad G 3)), (1, .int x1), (2, .long x2), (4, .int x4)] → f_X1_tornBy_5 st n x1 x2 x4 = some r → W p l e rm_X1_tornBy s m args below meth c H locs 0 0 (tZL G below args s r st) (F0 m 5 ls []) := by
  have hx := S.1
  have hb := S.2.1
  have hown := S.2.2.2.1
  have hts := S.2.2.2.2
  intro n
  induction n with
  | zero => intro x1 x2 x4 H locs ls hI hl hf; exact nomatch (show (none : Option (Int64)) = some _ from hf)
  | succ n ih =>
    intro x1 x2 x4 H locs ls hI hl hf
    rw [f_X1_tornBy_5] at hf
    refine lv_iload hx hb dX1_tornBy_5 (lv_at hl 3 rfl) ?_
    refine lv_aload_n hx hb dX1_tornBy_7 rfl (lv_at hl 0 rfl) ?_
    refine tg_X1_4 S hI mw_42 dX1_tornBy_8 ?_
    refine tk_icmp_ge (tgt := 48) hx hb hf dX1_tornBy_11 (by decide) (fun hf => ?_) (fun hf => ?_)
    · refine lv_lload_n hx hb dX1_tornBy_48 rfl (lv_at hl 2 rfl) ?_
      exact tk_rlR S hr hlk hI hf dX1_tornBy_49
    · refine lv_aload_n hx hb dX1_tornBy_14 rfl (lv_at hl 0 rfl) ?_
      refine tg_X1_3 S hI mw_41 dX1_tornBy_15 ?_
      refine lv_iload hx hb dX1_tornBy_18 (lv_at hl 3 rfl) ?_
      refine tk_iald S hI (k := 7) (n := 90) rfl hf dX1_tornBy_20 (fun v1 hf => ?_)
      refine lv_iload_n hx hb dX1_tornBy_21 rfl (lv_at hl 1 rfl) ?_
      refine lv_iand hx hb dX1_tornBy_22 ?_
      refine tk_bd hf (fun r2 hq hf => ?_)
      refine tk_sI S hI hl.1 (c_J6_bitCount_0f7a4 l G st (v1 &&& x1) hq) (va_cwS 1 hts (tk_gS mw_509 mw_481 mw_482 mw_483) rfl rfl rfl yd_J6_bitCount_0f7a4 ⟨Nat.le_of_ble_eq_true rfl, Nat.le_of_ble_eq_true rfl⟩) rfl [] rfl (Nat.le_of_ble_eq_true rfl) dX1_tornBy_23 (fun H locs hI => ?_)
      refine lv_iconst (v := 2) hx hb dX1_tornBy_26 (by decide) ?_
      refine tk_icmp_lt (tgt := 42) hx hb hf dX1_tornBy_27 (by decide) (fun hf => ?_) (fun hf => ?_)
      · refine tk_let hf (fun i3 ei3 hf => ?_)
        refine lv_iinc (v := i3) (lv' := [(4, .int i3), (0, .ref (tad G 3)), (1, .int x1), (2, .long x2)]) hx hb dX1_tornBy_42 hl (k := 3) rfl (by rw [ei3]; rfl) (by decide) rfl (fun ls hl => ?_)
        refine lv_goto (tgt := 5) hx hb dX1_tornBy_45 (by decide) ?_
        exact ih x1 x2 i3 _ _ _ hI (lv_sub hl [1, 2, 3, 0] rfl) hf
      · refine lv_lload_n hx hb dX1_tornBy_30 rfl (lv_at hl 2 rfl) ?_
        refine lv_lconst (v := 1) hx hb dX1_tornBy_31 (by decide) ?_
        refine lv_aload_n hx hb dX1_tornBy_32 rfl (lv_at hl 0 rfl) ?_
        refine tg_X1_0 S hI mw_38 dX1_tornBy_33 ?_
        refine lv_iload hx hb dX1_tornBy_36 (lv_at hl 3 rfl) ?_
        refine tk_iald S hI (k := 4) (n := 90) rfl hf dX1_tornBy_38 (fun v4 hf => ?_)
        refine lv_lshl hx hb dX1_tornBy_39 rfl ?_
        refine lv_lor hx hb dX1_tornBy_40 ?_
        refine tk_topl hf (fun j5 hf => ?_)
        refine lv_lstore_n (lv' := [(2, .long j5), (0, .ref (tad G 3)), (1, .int x1), (4, .int x4)]) hx hb dX1_tornBy_41 rfl hl (by decide) rfl (fun ls hl => ?_)
        refine tk_let hf (fun i6 ei6 hf => ?_)
        refine lv_iinc (v := i6) (lv' := [(4, .int i6), (2, .long j5), (0, .ref (tad G 3)), (1, .int x1)]) hx hb dX1_tornBy_42 hl (k := 3) rfl (by rw [ei6]; rfl) (by decide) rfl (fun ls hl => ?_)
        refine lv_goto (tgt := 5) hx hb dX1_tornBy_45 (by decide) ?_
        exact ih x1 j5 i6 _ _ _ hI (lv_sub hl [2, 3, 1, 0] rfl) hf
set_option maxHeartbeats 4000000 in
set_option maxRecDepth 100000 in
theorem c_X1_tornBy (l : Launch) (G : tG) (st : tST) (x1 : Int32) {r : Int64} (hf : f_X1_tornBy x1 st = some r) : tCL l G yX1_tornBy cX1_tornBy 5 (some .long) rm_X1_tornBy [.ref (tad G 3), .int x1] st r st := by
  refine tk_entL (by decide +kernel) (Nat.le_of_ble_eq_true rfl) (fun p e s m below meth c ls S hr hlk hI hl => ?_)
  have hl : lv_has ls 5 [(0, .ref (tad G 3)), (1, .int x1)] := hl
  have S : CallFix p m c cX1_tornBy 5 s [.ref (tad G 3), .int x1].toArray wsL_law RX1 := S
  have hx := S.1
  have hb := S.2.1
  have hown := S.2.2.2.1
  have hts := S.2.2.2.2
  unfold f_X1_tornBy at hf
  refine lv_lconst (v := 0) hx hb dX1_tornBy_0 (by decide) ?_
  refine lv_lstore_n (lv' := [(2, .long (0 : Int64)), (0, .ref (tad G 3)), (1, .int x1)]) hx hb dX1_tornBy_1 rfl hl (by decide) rfl (fun ls hl => ?_)
  refine lv_iconst (v := 0) hx hb dX1_tornBy_2 (by decide) ?_
  refine lv_istore (lv' := [(4, .int (0 : Int32)), (2, .long (0 : Int64)), (0, .ref (tad G 3)), (1, .int x1)]) hx hb dX1_tornBy_3 hl (by decide) rfl (fun ls hl => ?_)
  exact k_X1_tornBy_5 S hr hlk tfu x1 (0 : Int64) (0 : Int32) _ _ _ hI (lv_sub hl [2, 3, 1, 0] rfl) hf
/-! X0_deletedTwice -/
abbrev rm_X0_deletedTwice : Room := { frames := 0, cells := 0, slots := 0, locals := 0 }
def f_X0_deletedTwice_7 (st : tST)  : Nat → Int64 → Int64 → Int32 → Option (Int64)
  | 0, _, _, _ => none
  | n + 1, x1, x3, x5 => (if (tg_I st 7) ≤ x5 then some x3 else tal 12 (tg_A st 11) x5 (fun v1 => (if v1 = 0 then tal 12 (tg_A st 9) x5 (fun v3 => (if v3 = (1 : Int32) then tal 12 (tg_B st 13) x5 (fun u5 => tlet (x3 ||| (x1 &&& u5)) (fun j6 => tal 12 (tg_B st 13) x5 (fun u7 => tlet (x1 ||| u7) (fun j8 => tlet (x5 + (1 : Int32)) (fun i9 => f_X0_deletedTwice_7 st n j8 j6 i9))))) else tlet (x5 + (1 : Int32)) (fun i4 => f_X0_deletedTwice_7 st n x1 x3 i4))) else tlet (x5 + (1 : Int32)) (fun i2 => f_X0_deletedTwice_7 st n x1 x3 i2))))
def f_X0_deletedTwice (st : tST) : Option (Int64) := f_X0_deletedTwice_7 st tfu (0 : Int64) (0 : Int64) (0 : Int32)
theorem yd_X0_deletedTwice : yX0_deletedTwice.cls = RX0 ∧ yX0_deletedTwice.cls ≠ "java/lang/invoke/MethodHandle" ∧ yX0_deletedTwice.cls ≠ "java/lang/invoke/VarHandle" ∧ (parseMethodDescriptor yX0_deletedTwice.desc).map (fun d => d.parameters.length) = some 0 := by decide +kernel
set_option maxHeartbeats 4000000 in
set_option maxRecDepth 100000 in
theorem k_X0_deletedTwice_7 {l : Launch} {G : tG} {p : Program} {e : Env} {s : State} {m : MethodId} {below : List Frame} {meth : Method} {c : Code} {args : Array Value} {r : Int64} {st : tST} (S : CallFix p m c cX0_deletedTwice 6 s args wsL_law RX0) (hr : meth.sig.returnType = (some .long)) (hlk : meth.locks = false) : ∀ (n : Nat) (x1 : Int64) (x3 : Int64) (x5 : Int32) (H : Heap) (locs : List Loc) (ls : Array Slot), tIn G (tA G s.heap.size) s st H locs → lv_has ls 6 [(0, .ref (tad G 8)), (1, .long x1), (3, .long x3), (5, .int x5)] → f_X0_deletedTwice_7 st n x1 x3 x5 = some r → W p l e rm_X0_deletedTwice s m args below meth c H locs 0 0 (tZL G below args s r st) (F0 m 7 ls []) := by
  have hx := S.1
  have hb := S.2.1
  have hown := S.2.2.2.1
  have hts := S.2.2.2.2
  intro n
  induction n with
  | zero => intro x1 x3 x5 H locs ls hI hl hf; exact nomatch (show (none : Option (Int64)) = some _ from hf)
  | succ n ih =>
    intro x1 x3 x5 H locs ls hI hl hf
    rw [f_X0_deletedTwice_7] at hf
    refine lv_iload hx hb dX0_deletedTwice_7 (lv_at hl 3 rfl) ?_
    refine lv_aload_n hx hb dX0_deletedTwice_9 rfl (lv_at hl 0 rfl) ?_
    refine tg_X0_5 S hI mw_52 dX0_deletedTwice_10 ?_
    refine tk_icmp_ge (tgt := 65) hx hb hf dX0_deletedTwice_13 (by decide) (fun hf => ?_) (fun hf => ?_)
    · refine lv_lload_n hx hb dX0_deletedTwice_65 rfl (lv_at hl 2 rfl) ?_
      exact tk_rlR S hr hlk hI hf dX0_deletedTwice_66
    · refine lv_aload_n hx hb dX0_deletedTwice_16 rfl (lv_at hl 0 rfl) ?_
      refine tg_X0_2 S hI mw_48 dX0_deletedTwice_17 ?_
      refine lv_iload hx hb dX0_deletedTwice_20 (lv_at hl 3 rfl) ?_
      refine tk_iald S hI (k := 11) (n := 12) rfl hf dX0_deletedTwice_22 (fun v1 hf => ?_)
      refine tk_if_ne (tgt := 59) hx hb hf dX0_deletedTwice_23 (by decide) (fun hf => ?_) (fun hf => ?_)
      · refine tk_let hf (fun i2 ei2 hf => ?_)
        refine lv_iinc (v := i2) (lv' := [(5, .int i2), (0, .ref (tad G 8)), (1, .long x1), (3, .long x3)]) hx hb dX0_deletedTwice_59 hl (k := 3) rfl (by rw [ei2]; rfl) (by decide) rfl (fun ls hl => ?_)
        refine lv_goto (tgt := 7) hx hb dX0_deletedTwice_62 (by decide) ?_
        exact ih x1 x3 i2 _ _ _ hI (lv_sub hl [1, 2, 3, 0] rfl) hf
      · refine lv_aload_n hx hb dX0_deletedTwice_26 rfl (lv_at hl 0 rfl) ?_
        refine tg_X0_0 S hI mw_46 dX0_deletedTwice_27 ?_
        refine lv_iload hx hb dX0_deletedTwice_30 (lv_at hl 3 rfl) ?_
        refine tk_iald S hI (k := 9) (n := 12) rfl hf dX0_deletedTwice_32 (fun v3 hf => ?_)
        refine lv_iconst (v := 1) hx hb dX0_deletedTwice_33 (by decide) ?_
        refine tk_icmp_ne (tgt := 59) hx hb hf dX0_deletedTwice_34 (by decide) (fun hf => ?_) (fun hf => ?_)
        · refine tk_let hf (fun i4 ei4 hf => ?_)
          refine lv_iinc (v := i4) (lv' := [(5, .int i4), (0, .ref (tad G 8)), (1, .long x1), (3, .long x3)]) hx hb dX0_deletedTwice_59 hl (k := 3) rfl (by rw [ei4]; rfl) (by decide) rfl (fun ls hl => ?_)
          refine lv_goto (tgt := 7) hx hb dX0_deletedTwice_62 (by decide) ?_
          exact ih x1 x3 i4 _ _ _ hI (lv_sub hl [1, 2, 3, 0] rfl) hf
        · refine lv_lload_n hx hb dX0_deletedTwice_37 rfl (lv_at hl 2 rfl) ?_
          refine lv_lload_n hx hb dX0_deletedTwice_38 rfl (lv_at hl 1 rfl) ?_
          refine lv_aload_n hx hb dX0_deletedTwice_39 rfl (lv_at hl 0 rfl) ?_
          refine tg_X0_4 S hI mw_51 dX0_deletedTwice_40 ?_
          refine lv_iload hx hb dX0_deletedTwice_43 (lv_at hl 3 rfl) ?_
          refine tk_lald S hI (k := 13) (n := 12) rfl hf dX0_deletedTwice_45 (fun u5 hf => ?_)
          refine lv_land hx hb dX0_deletedTwice_46 ?_
          refine lv_lor hx hb dX0_deletedTwice_47 ?_
          refine tk_topl hf (fun j6 hf => ?_)
          refine lv_lstore_n (lv' := [(3, .long j6), (0, .ref (tad G 8)), (1, .long x1), (5, .int x5)]) hx hb dX0_deletedTwice_48 rfl hl (by decide) rfl (fun ls hl => ?_)
          refine lv_lload_n hx hb dX0_deletedTwice_49 rfl (lv_at hl 2 rfl) ?_
          refine lv_aload_n hx hb dX0_deletedTwice_50 rfl (lv_at hl 1 rfl) ?_
          refine tg_X0_4 S hI mw_51 dX0_deletedTwice_51 ?_
          refine lv_iload hx hb dX0_deletedTwice_54 (lv_at hl 3 rfl) ?_
          refine tk_lald S hI (k := 13) (n := 12) rfl hf dX0_deletedTwice_56 (fun u7 hf => ?_)
          refine lv_lor hx hb dX0_deletedTwice_57 ?_
          refine tk_topl hf (fun j8 hf => ?_)
          refine lv_lstore_n (lv' := [(1, .long j8), (3, .long j6), (0, .ref (tad G 8)), (5, .int x5)]) hx hb dX0_deletedTwice_58 rfl hl (by decide) rfl (fun ls hl => ?_)
          refine tk_let hf (fun i9 ei9 hf => ?_)
          refine lv_iinc (v := i9) (lv' := [(5, .int i9), (1, .long j8), (3, .long j6), (0, .ref (tad G 8))]) hx hb dX0_deletedTwice_59 hl (k := 3) rfl (by rw [ei9]; rfl) (by decide) rfl (fun ls hl => ?_)
          refine lv_goto (tgt := 7) hx hb dX0_deletedTwice_62 (by decide) ?_
          exact ih j8 j6 i9 _ _ _ hI (lv_sub hl [3, 1, 2, 0] rfl) hf
set_option maxHeartbeats 4000000 in
set_option maxRecDepth 100000 in
theorem c_X0_deletedTwice (l : Launch) (G : tG) (st : tST) {r : Int64} (hf : f_X0_deletedTwice st = some r) : tCL l G yX0_deletedTwice cX0_deletedTwice 6 (some .long) rm_X0_deletedTwice [.ref (tad G 8)] st r st := by
  refine tk_entL (by decide +kernel) (Nat.le_of_ble_eq_true rfl) (fun p e s m below meth c ls S hr hlk hI hl => ?_)
  have hl : lv_has ls 6 [(0, .ref (tad G 8))] := hl
  have S : CallFix p m c cX0_deletedTwice 6 s [.ref (tad G 8)].toArray wsL_law RX0 := S
  have hx := S.1
  have hb := S.2.1
  have hown := S.2.2.2.1
  have hts := S.2.2.2.2
  unfold f_X0_deletedTwice at hf
  refine lv_lconst (v := 0) hx hb dX0_deletedTwice_0 (by decide) ?_
  refine lv_lstore_n (lv' := [(1, .long (0 : Int64)), (0, .ref (tad G 8))]) hx hb dX0_deletedTwice_1 rfl hl (by decide) rfl (fun ls hl => ?_)
  refine lv_lconst (v := 0) hx hb dX0_deletedTwice_2 (by decide) ?_
  refine lv_lstore_n (lv' := [(3, .long (0 : Int64)), (1, .long (0 : Int64)), (0, .ref (tad G 8))]) hx hb dX0_deletedTwice_3 rfl hl (by decide) rfl (fun ls hl => ?_)
  refine lv_iconst (v := 0) hx hb dX0_deletedTwice_4 (by decide) ?_
  refine lv_istore (lv' := [(5, .int (0 : Int32)), (3, .long (0 : Int64)), (1, .long (0 : Int64)), (0, .ref (tad G 8))]) hx hb dX0_deletedTwice_5 hl (by decide) rfl (fun ls hl => ?_)
  exact k_X0_deletedTwice_7 S hr hlk tfu (0 : Int64) (0 : Int64) (0 : Int32) _ _ _ hI (lv_sub hl [3, 2, 1, 0] rfl) hf
/-! X3_count -/
abbrev rm_X3_count : Room := { frames := 2, cells := 0, slots := 0, locals := 44 }
def f_X3_count (x1 : Int32) (st : tST) : Option (Int32) := (if x1 = (0 : Int32) then some (tg_I st 0) else (if x1 = (1 : Int32) then some (tg_I st 1) else (if x1 = (2 : Int32) then some (tg_I st 6) else (if x1 = (3 : Int32) then some (tg_I st 7) else (if x1 = (4 : Int32) then (f_X0_inStatus (0 : Int32) st).bind (fun r1 => (f_J6_bitCount_0f7a4 r1).bind (fun r2 => some r2)) else (if x1 = (5 : Int32) then (f_X0_inStatus (1 : Int32) st).bind (fun r3 => (f_J6_bitCount_0f7a4 r3).bind (fun r4 => some r4)) else (if x1 = (6 : Int32) then (f_X0_inStatus (0 : Int32) st).bind (fun r5 => (f_X1_tornBy r5 st).bind (fun r6 => (f_X0_deletedTwice st).bind (fun r7 => (f_J13_bitCount_95d88 (r6 ||| r7)).bind (fun r8 => some r8)))) else (if x1 = (7 : Int32) then some (tg_I st 4) else (if x1 = (8 : Int32) then some (tg_I st 5) else some (-1002 : Int32))))))))))
theorem yd_X3_count : yX3_count.cls = RX3 ∧ yX3_count.cls ≠ "java/lang/invoke/MethodHandle" ∧ yX3_count.cls ≠ "java/lang/invoke/VarHandle" ∧ (parseMethodDescriptor yX3_count.desc).map (fun d => d.parameters.length) = some 1 := by decide +kernel
set_option maxHeartbeats 4000000 in
set_option maxRecDepth 100000 in
theorem c_X3_count (l : Launch) (G : tG) (st : tST) (x1 : Int32) {r : Int32} (hf : f_X3_count x1 st = some r) : tCI l G yX3_count cX3_count 2 (some .int) rm_X3_count [.ref (tad G 0), .int x1] st r st := by
  refine tk_entI (by decide +kernel) (Nat.le_of_ble_eq_true rfl) (fun p e s m below meth c ls S hr hlk hI hl => ?_)
  have hl : lv_has ls 2 [(0, .ref (tad G 0)), (1, .int x1)] := hl
  have S : CallFix p m c cX3_count 2 s [.ref (tad G 0), .int x1].toArray wsL_law RX3 := S
  have hx := S.1
  have hb := S.2.1
  have hown := S.2.2.2.1
  have hts := S.2.2.2.2
  unfold f_X3_count at hf
  refine lv_iload_n hx hb dX3_count_0 rfl (lv_at hl 1 rfl) ?_
  refine tk_if hf (fun c1_0 hf => ?_) (fun c1_0 hf => ?_)
  · refine lv_tableIn (off := 51) (tgt := 52) hx hb dX3_count_1 (by rw [c1_0]; decide) (by rw [c1_0]; decide) (by rw [c1_0]; rfl) (by decide) ?_
    refine lv_aload_n hx hb dX3_count_52 rfl (lv_at hl 0 rfl) ?_
    refine tg_X3_1 S hI mw_14 dX3_count_53 ?_
    exact tk_riR S hr hlk hI hf dX3_count_56
  refine tk_if hf (fun c1_1 hf => ?_) (fun c1_1 hf => ?_)
  · refine lv_tableIn (off := 56) (tgt := 57) hx hb dX3_count_1 (by rw [c1_1]; decide) (by rw [c1_1]; decide) (by rw [c1_1]; rfl) (by decide) ?_
    refine lv_aload_n hx hb dX3_count_57 rfl (lv_at hl 0 rfl) ?_
    refine tg_X3_3 S hI mw_16 dX3_count_58 ?_
    exact tk_riR S hr hlk hI hf dX3_count_61
  refine tk_if hf (fun c1_2 hf => ?_) (fun c1_2 hf => ?_)
  · refine lv_tableIn (off := 61) (tgt := 62) hx hb dX3_count_1 (by rw [c1_2]; decide) (by rw [c1_2]; decide) (by rw [c1_2]; rfl) (by decide) ?_
    refine lv_aload_n hx hb dX3_count_62 rfl (lv_at hl 0 rfl) ?_
    refine tg_X3_5 S hI mw_21 dX3_count_63 ?_
    refine tg_X1_4 S hI mw_114 dX3_count_66 ?_
    exact tk_riR S hr hlk hI hf dX3_count_69
  refine tk_if hf (fun c1_3 hf => ?_) (fun c1_3 hf => ?_)
  · refine lv_tableIn (off := 69) (tgt := 70) hx hb dX3_count_1 (by rw [c1_3]; decide) (by rw [c1_3]; decide) (by rw [c1_3]; rfl) (by decide) ?_
    refine lv_aload_n hx hb dX3_count_70 rfl (lv_at hl 0 rfl) ?_
    refine tg_X3_6 S hI mw_25 dX3_count_71 ?_
    refine tg_X0_5 S hI mw_115 dX3_count_74 ?_
    exact tk_riR S hr hlk hI hf dX3_count_77
  refine tk_if hf (fun c1_4 hf => ?_) (fun c1_4 hf => ?_)
  · refine lv_tableIn (off := 77) (tgt := 78) hx hb dX3_count_1 (by rw [c1_4]; decide) (by rw [c1_4]; decide) (by rw [c1_4]; rfl) (by decide) ?_
    refine lv_aload_n hx hb dX3_count_78 rfl (lv_at hl 0 rfl) ?_
    refine tg_X3_6 S hI mw_25 dX3_count_79 ?_
    refine lv_iconst (v := 0) hx hb dX3_count_82 (by decide) ?_
    refine tk_bd hf (fun r1 hq hf => ?_)
    refine tk_vI S hI hl.1 (c_X0_inStatus l G st (0 : Int32) hq) (cwV 1 hts (tk_gV mw_163 mw_164 mw_165 mw_24 mw_166) rfl rfl rfl yd_X0_inStatus ⟨Nat.le_of_ble_eq_true rfl, Nat.le_of_ble_eq_true rfl⟩) 8 0 rfl rfl rfl rfl [] rfl (Nat.le_of_ble_eq_true rfl) dX3_count_83 (fun H locs hI => ?_)
    refine tk_bd hf (fun r2 hq hf => ?_)
    refine tk_sI S hI hl.1 (c_J6_bitCount_0f7a4 l G st r1 hq) (va_cwS 1 hts (tk_gS mw_480 mw_481 mw_482 mw_483) rfl rfl rfl yd_J6_bitCount_0f7a4 ⟨Nat.le_of_ble_eq_true rfl, Nat.le_of_ble_eq_true rfl⟩) rfl [] rfl (Nat.le_of_ble_eq_true rfl) dX3_count_86 (fun H locs hI => ?_)
    exact tk_riR S hr hlk hI hf dX3_count_89
  refine tk_if hf (fun c1_5 hf => ?_) (fun c1_5 hf => ?_)
  · refine lv_tableIn (off := 89) (tgt := 90) hx hb dX3_count_1 (by rw [c1_5]; decide) (by rw [c1_5]; decide) (by rw [c1_5]; rfl) (by decide) ?_
    refine lv_aload_n hx hb dX3_count_90 rfl (lv_at hl 0 rfl) ?_
    refine tg_X3_6 S hI mw_25 dX3_count_91 ?_
    refine lv_iconst (v := 1) hx hb dX3_count_94 (by decide) ?_
    refine tk_bd hf (fun r3 hq hf => ?_)
    refine tk_vI S hI hl.1 (c_X0_inStatus l G st (1 : Int32) hq) (cwV 1 hts (tk_gV mw_163 mw_164 mw_165 mw_24 mw_166) rfl rfl rfl yd_X0_inStatus ⟨Nat.le_of_ble_eq_true rfl, Nat.le_of_ble_eq_true rfl⟩) 8 0 rfl rfl rfl rfl [] rfl (Nat.le_of_ble_eq_true rfl) dX3_count_95 (fun H locs hI => ?_)
    refine tk_bd hf (fun r4 hq hf => ?_)
    refine tk_sI S hI hl.1 (c_J6_bitCount_0f7a4 l G st r3 hq) (va_cwS 1 hts (tk_gS mw_480 mw_481 mw_482 mw_483) rfl rfl rfl yd_J6_bitCount_0f7a4 ⟨Nat.le_of_ble_eq_true rfl, Nat.le_of_ble_eq_true rfl⟩) rfl [] rfl (Nat.le_of_ble_eq_true rfl) dX3_count_98 (fun H locs hI => ?_)
    exact tk_riR S hr hlk hI hf dX3_count_101
  refine tk_if hf (fun c1_6 hf => ?_) (fun c1_6 hf => ?_)
  · refine lv_tableIn (off := 101) (tgt := 102) hx hb dX3_count_1 (by rw [c1_6]; decide) (by rw [c1_6]; decide) (by rw [c1_6]; rfl) (by decide) ?_
    refine lv_aload_n hx hb dX3_count_102 rfl (lv_at hl 0 rfl) ?_
    refine tg_X3_5 S hI mw_21 dX3_count_103 ?_
    refine lv_aload_n hx hb dX3_count_106 rfl (lv_at hl 0 rfl) ?_
    refine tg_X3_6 S hI mw_25 dX3_count_107 ?_
    refine lv_iconst (v := 0) hx hb dX3_count_110 (by decide) ?_
    refine tk_bd hf (fun r5 hq hf => ?_)
    refine tk_vI S hI hl.1 (c_X0_inStatus l G st (0 : Int32) hq) (cwV 1 hts (tk_gV mw_163 mw_164 mw_165 mw_24 mw_166) rfl rfl rfl yd_X0_inStatus ⟨Nat.le_of_ble_eq_true rfl, Nat.le_of_ble_eq_true rfl⟩) 8 0 rfl rfl rfl rfl [.ref (tad G 3)] rfl (Nat.le_of_ble_eq_true rfl) dX3_count_111 (fun H locs hI => ?_)
    refine tk_bd hf (fun r6 hq hf => ?_)
    refine tk_vL S hI hl.1 (c_X1_tornBy l G st r5 hq) (cwV 1 hts (tk_gV mw_505 mw_506 mw_507 mw_20 mw_508) rfl rfl rfl yd_X1_tornBy ⟨Nat.le_of_ble_eq_true rfl, Nat.le_of_ble_eq_true rfl⟩) 3 1 rfl rfl rfl rfl [] rfl (Nat.le_of_ble_eq_true rfl) dX3_count_114 (fun H locs hI => ?_)
    refine lv_aload_n hx hb dX3_count_117 rfl (lv_at hl 0 rfl) ?_
    refine tg_X3_6 S hI mw_25 dX3_count_118 ?_
    refine tk_bd hf (fun r7 hq hf => ?_)
    refine tk_vL S hI hl.1 (c_X0_deletedTwice l G st  hq) (cwV 0 hts (tk_gV mw_510 mw_511 mw_512 mw_24 mw_513) rfl rfl rfl yd_X0_deletedTwice ⟨Nat.le_of_ble_eq_true rfl, Nat.le_of_ble_eq_true rfl⟩) 8 0 rfl rfl rfl rfl [.long r6] rfl (Nat.le_of_ble_eq_true rfl) dX3_count_121 (fun H locs hI => ?_)
    refine lv_lor hx hb dX3_count_124 ?_
    refine tk_bd hf (fun r8 hq hf => ?_)
    refine tk_sI S hI hl.1 (c_J13_bitCount_95d88 l G st (r6 ||| r7) hq) (va_cwS 1 hts (tk_gS mw_399 mw_400 mw_401 mw_402) rfl rfl rfl yd_J13_bitCount_95d88 ⟨Nat.le_of_ble_eq_true rfl, Nat.le_of_ble_eq_true rfl⟩) rfl [] rfl (Nat.le_of_ble_eq_true rfl) dX3_count_125 (fun H locs hI => ?_)
    exact tk_riR S hr hlk hI hf dX3_count_128
  refine tk_if hf (fun c1_7 hf => ?_) (fun c1_7 hf => ?_)
  · refine lv_tableIn (off := 128) (tgt := 129) hx hb dX3_count_1 (by rw [c1_7]; decide) (by rw [c1_7]; decide) (by rw [c1_7]; rfl) (by decide) ?_
    refine lv_aload_n hx hb dX3_count_129 rfl (lv_at hl 0 rfl) ?_
    refine tg_X3_11 S hI mw_33 dX3_count_130 ?_
    exact tk_riR S hr hlk hI hf dX3_count_133
  refine tk_if hf (fun c1_8 hf => ?_) (fun c1_8 hf => ?_)
  · refine lv_tableIn (off := 133) (tgt := 134) hx hb dX3_count_1 (by rw [c1_8]; decide) (by rw [c1_8]; decide) (by rw [c1_8]; rfl) (by decide) ?_
    refine lv_aload_n hx hb dX3_count_134 rfl (lv_at hl 0 rfl) ?_
    refine tg_X3_12 S hI mw_34 dX3_count_135 ?_
    exact tk_riR S hr hlk hI hf dX3_count_138
  refine lv_tableOut (tgt := 139) hx hb dX3_count_1 (by have := lv_neT c1_0 (a := 0) (by decide); have := lv_neT c1_1 (a := 1) (by decide); have := lv_neT c1_2 (a := 2) (by decide); have := lv_neT c1_3 (a := 3) (by decide); have := lv_neT c1_4 (a := 4) (by decide); have := lv_neT c1_5 (a := 5) (by decide); have := lv_neT c1_6 (a := 6) (by decide); have := lv_neT c1_7 (a := 7) (by decide); have := lv_neT c1_8 (a := 8) (by decide); omega) (by decide) ?_
  refine lv_sipush (v := -1002) hx hb dX3_count_139 (by decide) ?_
  exact tk_riR S hr hlk hI hf dX3_count_142
