/-! X4_ahead -/
abbrev rm_X4_ahead : Room := { frames := 1, cells := 0, slots := 0, locals := 22 }
def f_X4_ahead (x1 : Int32) (st : tST) : Option (Int32) := (if (tg_I st 121) ≤ x1 then some (tg_I st 112) else tal 64 (tg_A st 35) x1 (fun v1 => (f_X4_inLine v1 st).bind (fun r2 => some r2)))
theorem yd_X4_ahead : yX4_ahead.cls = RX4 ∧ yX4_ahead.cls ≠ "java/lang/invoke/MethodHandle" ∧ yX4_ahead.cls ≠ "java/lang/invoke/VarHandle" ∧ (parseMethodDescriptor yX4_ahead.desc).map (fun d => d.parameters.length) = some 1 := by decide +kernel
set_option maxHeartbeats 4000000 in
set_option maxRecDepth 100000 in
theorem c_X4_ahead (l : Launch) (G : tG) (st : tST) (x1 : Int32) {r : Int32} (hf : f_X4_ahead x1 st = some r) : tCI l G yX4_ahead cX4_ahead 2 (some .int) rm_X4_ahead [.ref (tad G 19), .int x1] st r st := by
  refine tk_entI (by decide +kernel) (Nat.le_of_ble_eq_true rfl) (fun p e s m below meth c ls S hr hlk hI hl => ?_)
  have hl : lv_has ls 2 [(0, .ref (tad G 19)), (1, .int x1)] := hl
  have S : CallFix p m c cX4_ahead 2 s [.ref (tad G 19), .int x1].toArray wsL_law RX4 := S
  have hx := S.1
  have hb := S.2.1
  have hown := S.2.2.2.1
  have hts := S.2.2.2.2
  unfold f_X4_ahead at hf
  refine lv_iload_n hx hb dX4_ahead_0 rfl (lv_at hl 1 rfl) ?_
  refine lv_aload_n hx hb dX4_ahead_1 rfl (lv_at hl 0 rfl) ?_
  refine tg_X4_21 S hI mw_213 dX4_ahead_2 ?_
  refine tk_icmp_ge (tgt := 21) hx hb hf dX4_ahead_5 (by decide) (fun hf => ?_) (fun hf => ?_)
  · refine lv_aload_n hx hb dX4_ahead_21 rfl (lv_at hl 0 rfl) ?_
    refine tg_X4_12 S hI mw_137 dX4_ahead_22 ?_
    exact tk_riR S hr hlk hI hf dX4_ahead_25
  · refine lv_aload_n hx hb dX4_ahead_8 rfl (lv_at hl 0 rfl) ?_
    refine lv_aload_n hx hb dX4_ahead_9 rfl (lv_at hl 0 rfl) ?_
    refine tg_X4_22 S hI mw_80 dX4_ahead_10 ?_
    refine lv_iload_n hx hb dX4_ahead_13 rfl (lv_at hl 1 rfl) ?_
    refine tk_iald S hI (k := 35) (n := 64) rfl hf dX4_ahead_14 (fun v1 hf => ?_)
    refine tk_bd hf (fun r2 hq hf => ?_)
    refine tk_vI S hI hl.1 (c_X4_inLine l G st v1 hq) (cwV 1 hts (tk_gV mw_244 mw_245 mw_246 mw_5 mw_247) rfl rfl rfl yd_X4_inLine ⟨Nat.le_of_ble_eq_true rfl, Nat.le_of_ble_eq_true rfl⟩) 19 4 rfl rfl rfl rfl [] rfl (Nat.le_of_ble_eq_true rfl) dX4_ahead_15 (fun H locs hI => ?_)
    refine lv_goto (tgt := 25) hx hb dX4_ahead_18 (by decide) ?_
    exact tk_riR S hr hlk hI hf dX4_ahead_25
/-! X4_layChange -/
abbrev rm_X4_layChange : Room := { frames := 0, cells := 0, slots := 0, locals := 0 }
def f_X4_layChange (x1 : Int32) (x2 : Int32) (st : tST) : Option (Int32 × tST) := tas 12 (tg_I st 107) (tp_A st 25 ((tg_I st 107)).toNatClampNeg x1) (fun s1 => tas 12 (tg_I s1 107) (tp_A s1 26 ((tg_I s1 107)).toNatClampNeg x2) (fun s2 => tas 12 (tg_I s2 107) (tp_A s2 27 ((tg_I s2 107)).toNatClampNeg (0 : Int32)) (fun s3 => tas 12 (tg_I s3 107) (tp_A s3 28 ((tg_I s3 107)).toNatClampNeg (vp_nar .boolean (0 : Int32))) (fun s4 => tlet (tp_I s4 107 ((tg_I s4 107) + (1 : Int32))) (fun s5 => some (((tg_I s5 107) - (1 : Int32)), s5))))))
theorem yd_X4_layChange : yX4_layChange.cls = RX4 ∧ yX4_layChange.cls ≠ "java/lang/invoke/MethodHandle" ∧ yX4_layChange.cls ≠ "java/lang/invoke/VarHandle" ∧ (parseMethodDescriptor yX4_layChange.desc).map (fun d => d.parameters.length) = some 2 := by decide +kernel
set_option maxHeartbeats 4000000 in
set_option maxRecDepth 100000 in
theorem c_X4_layChange (l : Launch) (G : tG) (st : tST) (x1 : Int32) (x2 : Int32) {r : Int32} {st' : tST} (hf : f_X4_layChange x1 x2 st = some (r, st')) : tCI l G yX4_layChange cX4_layChange 3 (some .int) rm_X4_layChange [.ref (tad G 19), .int x1, .int x2] st r st' := by
  refine tk_entI (by decide +kernel) (Nat.le_of_ble_eq_true rfl) (fun p e s m below meth c ls S hr hlk hI hl => ?_)
  have hl : lv_has ls 3 [(0, .ref (tad G 19)), (1, .int x1), (2, .int x2)] := hl
  have S : CallFix p m c cX4_layChange 3 s [.ref (tad G 19), .int x1, .int x2].toArray wsL_law RX4 := S
  have hx := S.1
  have hb := S.2.1
  have hown := S.2.2.2.1
  have hts := S.2.2.2.2
  unfold f_X4_layChange at hf
  refine lv_aload_n hx hb dX4_layChange_0 rfl (lv_at hl 0 rfl) ?_
  refine tg_X4_8 S hI mw_69 dX4_layChange_1 ?_
  refine lv_aload_n hx hb dX4_layChange_4 rfl (lv_at hl 0 rfl) ?_
  refine tg_X4_7 S hI mw_138 dX4_layChange_5 ?_
  refine lv_iload_n hx hb dX4_layChange_8 rfl (lv_at hl 1 rfl) ?_
  refine tk_iast S hI (k := 25) (n := 12) rfl (twa_25 G _) hf dX4_layChange_9 (fun s1 H locs hI hf => ?_)
  refine lv_aload_n hx hb dX4_layChange_10 rfl (lv_at hl 0 rfl) ?_
  refine tg_X4_9 S hI mw_70 dX4_layChange_11 ?_
  refine lv_aload_n hx hb dX4_layChange_14 rfl (lv_at hl 0 rfl) ?_
  refine tg_X4_7 S hI mw_138 dX4_layChange_15 ?_
  refine lv_iload_n hx hb dX4_layChange_18 rfl (lv_at hl 2 rfl) ?_
  refine tk_iast S hI (k := 26) (n := 12) rfl (twa_26 G _) hf dX4_layChange_19 (fun s2 H locs hI hf => ?_)
  refine lv_aload_n hx hb dX4_layChange_20 rfl (lv_at hl 0 rfl) ?_
  refine tg_X4_10 S hI mw_71 dX4_layChange_21 ?_
  refine lv_aload_n hx hb dX4_layChange_24 rfl (lv_at hl 0 rfl) ?_
  refine tg_X4_7 S hI mw_138 dX4_layChange_25 ?_
  refine lv_iconst (v := 0) hx hb dX4_layChange_28 (by decide) ?_
  refine tk_iast S hI (k := 27) (n := 12) rfl (twa_27 G _) hf dX4_layChange_29 (fun s3 H locs hI hf => ?_)
  refine lv_aload_n hx hb dX4_layChange_30 rfl (lv_at hl 0 rfl) ?_
  refine tg_X4_11 S hI mw_73 dX4_layChange_31 ?_
  refine lv_aload_n hx hb dX4_layChange_34 rfl (lv_at hl 0 rfl) ?_
  refine tg_X4_7 S hI mw_138 dX4_layChange_35 ?_
  refine lv_iconst (v := 0) hx hb dX4_layChange_38 (by decide) ?_
  refine tk_zast S hI (k := 28) (n := 12) rfl (twa_28 G _) hf dX4_layChange_39 (fun s4 H locs hI hf => ?_)
  refine lv_aload_n hx hb dX4_layChange_40 rfl (lv_at hl 0 rfl) ?_
  refine lv_dup hx hb dX4_layChange_41 rfl ?_
  refine tg_X4_7 S hI mw_138 dX4_layChange_42 ?_
  refine lv_iconst (v := 1) hx hb dX4_layChange_45 (by decide) ?_
  refine lv_iadd hx hb dX4_layChange_46 ?_
  refine tp_X4_7 S hI mw_138 hf dX4_layChange_47 (fun s5 H locs hI hf => ?_)
  refine lv_aload_n hx hb dX4_layChange_50 rfl (lv_at hl 0 rfl) ?_
  refine tg_X4_7 S hI mw_138 dX4_layChange_51 ?_
  refine lv_iconst (v := 1) hx hb dX4_layChange_54 (by decide) ?_
  refine lv_isub hx hb dX4_layChange_55 ?_
  exact tk_riW S hr hlk hI hf dX4_layChange_56
/-! X4_insert -/
abbrev rm_X4_insert : Room := { frames := 4, cells := 0, slots := 0, locals := 90 }
def f_X4_insert_107 : Nat → Int32 → Int32 → Int32 → tST → Option (Int32 × tST)
  | 0, _, _, _, _ => none
  | n + 1, x3, x4, x5, st => (if (tg_I st 100) ≤ x5 then tlet (tp_I st 100 (0 : Int32)) (fun s1 => some (x4, s1)) else tal 40 (tg_A st 20) x5 (fun v2 => (f_X4_comes v2 x4 (x3 + x5) st).bind (fun s3 => tlet (x5 + (1 : Int32)) (fun i4 => f_X4_insert_107 n x3 x4 i4 s3))))
def f_X4_insert (x1 : Int32) (x2 : Int32) (st : tST) : Option (Int32 × tST) := (f_X4_isAuthor x1).bind (fun r1 => (if r1 = 0 then some ((-1001 : Int32), st) else (f_X4_setOf (x1 + (2 : Int32)) st).bind (fun r2 => (f_X4_layRead r2 st).bind (fun s3 => (f_X4_within x2 (0 : Int32) (tg_I s3 121)).bind (fun r4 => (if r4 = 0 then some ((-1001 : Int32), s3) else (if (tg_I s3 100) = 0 then some ((-1003 : Int32), s3) else (if (64 : Int32) < ((tg_I s3 102) + (tg_I s3 100)) then some ((-1004 : Int32), s3) else (if (tg_I s3 107) = (12 : Int32) then some ((-1004 : Int32), s3) else (if ((tg_I s3 112) + (tg_I s3 100)) ≤ (90 : Int32) then (f_X4_ahead x2 s3).bind (fun r5 => tbd (f_X4_layChange (0 : Int32) x1 s3) (fun r6 s7 => f_X4_insert_107 tfu r5 r6 (0 : Int32) s7)) else some ((-1004 : Int32), s3)))))))))))
theorem yd_X4_insert : yX4_insert.cls = RX4 ∧ yX4_insert.cls ≠ "java/lang/invoke/MethodHandle" ∧ yX4_insert.cls ≠ "java/lang/invoke/VarHandle" ∧ (parseMethodDescriptor yX4_insert.desc).map (fun d => d.parameters.length) = some 2 := by decide +kernel
set_option maxHeartbeats 4000000 in
set_option maxRecDepth 100000 in
theorem k_X4_insert_107 {l : Launch} {G : tG} {p : Program} {e : Env} {s : State} {m : MethodId} {below : List Frame} {meth : Method} {c : Code} {args : Array Value} {r : Int32} {st' : tST} (S : CallFix p m c cX4_insert 6 s args wsL_law RX4) (hr : meth.sig.returnType = (some .int)) (hlk : meth.locks = false) : ∀ (n : Nat) (x3 : Int32) (x4 : Int32) (x5 : Int32) (st : tST) (H : Heap) (locs : List Loc) (ls : Array Slot), tIn G (tA G s.heap.size) s st H locs → lv_has ls 6 [(0, .ref (tad G 19)), (3, .int x3), (4, .int x4), (5, .int x5)] → f_X4_insert_107 n x3 x4 x5 st = some (r, st') → W p l e rm_X4_insert s m args below meth c H locs 0 0 (tZI G below args s r st') (F0 m 107 ls []) := by
  have hx := S.1
  have hb := S.2.1
  have hown := S.2.2.2.1
  have hts := S.2.2.2.2
  intro n
  induction n with
  | zero => intro x3 x4 x5 st H locs ls hI hl hf; exact nomatch (show (none : Option (Int32 × tST)) = some _ from hf)
  | succ n ih =>
    intro x3 x4 x5 st H locs ls hI hl hf
    rw [f_X4_insert_107] at hf
    refine lv_iload hx hb dX4_insert_107 (lv_at hl 3 rfl) ?_
    refine lv_aload_n hx hb dX4_insert_109 rfl (lv_at hl 0 rfl) ?_
    refine tg_X4_0 S hI mw_94 dX4_insert_110 ?_
    refine tk_icmp_ge (tgt := 139) hx hb hf dX4_insert_113 (by decide) (fun hf => ?_) (fun hf => ?_)
    · refine lv_aload_n hx hb dX4_insert_139 rfl (lv_at hl 0 rfl) ?_
      refine lv_iconst (v := 0) hx hb dX4_insert_140 (by decide) ?_
      refine tp_X4_0 S hI mw_94 hf dX4_insert_141 (fun s1 H locs hI hf => ?_)
      refine lv_iload hx hb dX4_insert_144 (lv_at hl 2 rfl) ?_
      exact tk_riW S hr hlk hI hf dX4_insert_146
    · refine lv_aload_n hx hb dX4_insert_116 rfl (lv_at hl 0 rfl) ?_
      refine lv_aload_n hx hb dX4_insert_117 rfl (lv_at hl 0 rfl) ?_
      refine tg_X4_1 S hI mw_64 dX4_insert_118 ?_
      refine lv_iload hx hb dX4_insert_121 (lv_at hl 3 rfl) ?_
      refine tk_iald S hI (k := 20) (n := 40) rfl hf dX4_insert_123 (fun v2 hf => ?_)
      refine lv_iload hx hb dX4_insert_124 (lv_at hl 2 rfl) ?_
      refine lv_iload_n hx hb dX4_insert_126 rfl (lv_at hl 1 rfl) ?_
      refine lv_iload hx hb dX4_insert_127 (lv_at hl 3 rfl) ?_
      refine lv_iadd hx hb dX4_insert_129 ?_
      refine tk_bd hf (fun s3 hq hf => ?_)
      refine tk_vV S hI hl.1 (c_X4_comes l G st v2 x4 (x3 + x5) hq) (cwV 3 hts (tk_gV mw_140 mw_141 mw_142 mw_5 mw_143) rfl rfl rfl yd_X4_comes ⟨Nat.le_of_ble_eq_true rfl, Nat.le_of_ble_eq_true rfl⟩) 19 4 rfl rfl rfl rfl [] rfl (Nat.le_of_ble_eq_true rfl) dX4_insert_130 (fun H locs hI => ?_)
      refine tk_let hf (fun i4 ei4 hf => ?_)
      refine lv_iinc (v := i4) (lv' := [(5, .int i4), (0, .ref (tad G 19)), (3, .int x3), (4, .int x4)]) hx hb dX4_insert_133 hl (k := 3) rfl (by rw [ei4]; rfl) (by decide) rfl (fun ls hl => ?_)
      refine lv_goto (tgt := 107) hx hb dX4_insert_136 (by decide) ?_
      exact ih x3 x4 i4 s3 _ _ _ hI (lv_sub hl [1, 2, 3, 0] rfl) hf
set_option maxHeartbeats 4000000 in
set_option maxRecDepth 100000 in
theorem c_X4_insert (l : Launch) (G : tG) (st : tST) (x1 : Int32) (x2 : Int32) {r : Int32} {st' : tST} (hf : f_X4_insert x1 x2 st = some (r, st')) : tCI l G yX4_insert cX4_insert 6 (some .int) rm_X4_insert [.ref (tad G 19), .int x1, .int x2] st r st' := by
  refine tk_entI (by decide +kernel) (Nat.le_of_ble_eq_true rfl) (fun p e s m below meth c ls S hr hlk hI hl => ?_)
  have hl : lv_has ls 6 [(0, .ref (tad G 19)), (1, .int x1), (2, .int x2)] := hl
  have S : CallFix p m c cX4_insert 6 s [.ref (tad G 19), .int x1, .int x2].toArray wsL_law RX4 := S
  have hx := S.1
  have hb := S.2.1
  have hown := S.2.2.2.1
  have hts := S.2.2.2.2
  unfold f_X4_insert at hf
  refine lv_iload_n hx hb dX4_insert_0 rfl (lv_at hl 1 rfl) ?_
  refine tk_bd hf (fun r1 hq hf => ?_)
  refine tk_sI S hI hl.1 (c_X4_isAuthor l G st x1 hq) (va_cwS 1 hts (tk_gS mw_214 mw_215 mw_5 mw_216) rfl rfl rfl yd_X4_isAuthor ⟨Nat.le_of_ble_eq_true rfl, Nat.le_of_ble_eq_true rfl⟩) rfl [] rfl (Nat.le_of_ble_eq_true rfl) dX4_insert_1 (fun H locs hI => ?_)
  refine tk_if_ne (tgt := 11) hx hb hf dX4_insert_4 (by decide) (fun hf => ?_) (fun hf => ?_)
  · refine lv_aload_n hx hb dX4_insert_11 rfl (lv_at hl 0 rfl) ?_
    refine lv_aload_n hx hb dX4_insert_12 rfl (lv_at hl 0 rfl) ?_
    refine lv_iload_n hx hb dX4_insert_13 rfl (lv_at hl 1 rfl) ?_
    refine lv_iconst (v := 2) hx hb dX4_insert_14 (by decide) ?_
    refine lv_iadd hx hb dX4_insert_15 ?_
    refine tk_bd hf (fun r2 hq hf => ?_)
    refine tk_vI S hI hl.1 (c_X4_setOf l G st (x1 + (2 : Int32)) hq) (cwV 1 hts (tk_gV mw_217 mw_218 mw_219 mw_5 mw_220) rfl rfl rfl yd_X4_setOf ⟨Nat.le_of_ble_eq_true rfl, Nat.le_of_ble_eq_true rfl⟩) 19 4 rfl rfl rfl rfl [.ref (tad G 19)] rfl (Nat.le_of_ble_eq_true rfl) dX4_insert_16 (fun H locs hI => ?_)
    refine tk_bd hf (fun s3 hq hf => ?_)
    refine tk_vV S hI hl.1 (c_X4_layRead l G st r2 hq) (cwV 1 hts (tk_gV mw_221 mw_222 mw_223 mw_5 mw_224) rfl rfl rfl yd_X4_layRead ⟨Nat.le_of_ble_eq_true rfl, Nat.le_of_ble_eq_true rfl⟩) 19 4 rfl rfl rfl rfl [] rfl (Nat.le_of_ble_eq_true rfl) dX4_insert_19 (fun H locs hI => ?_)
    refine lv_iload_n hx hb dX4_insert_22 rfl (lv_at hl 2 rfl) ?_
    refine lv_iconst (v := 0) hx hb dX4_insert_23 (by decide) ?_
    refine lv_aload_n hx hb dX4_insert_24 rfl (lv_at hl 0 rfl) ?_
    refine tg_X4_21 S hI mw_213 dX4_insert_25 ?_
    refine tk_bd hf (fun r4 hq hf => ?_)
    refine tk_sI S hI hl.1 (c_X4_within l G s3 x2 (0 : Int32) (tg_I s3 121) hq) (va_cwS 3 hts (tk_gS mw_95 mw_96 mw_5 mw_97) rfl rfl rfl yd_X4_within ⟨Nat.le_of_ble_eq_true rfl, Nat.le_of_ble_eq_true rfl⟩) rfl [] rfl (Nat.le_of_ble_eq_true rfl) dX4_insert_28 (fun H locs hI => ?_)
    refine tk_if_ne (tgt := 38) hx hb hf dX4_insert_31 (by decide) (fun hf => ?_) (fun hf => ?_)
    · refine lv_aload_n hx hb dX4_insert_38 rfl (lv_at hl 0 rfl) ?_
      refine tg_X4_0 S hI mw_94 dX4_insert_39 ?_
      refine tk_if_ne (tgt := 49) hx hb hf dX4_insert_42 (by decide) (fun hf => ?_) (fun hf => ?_)
      · refine lv_aload_n hx hb dX4_insert_49 rfl (lv_at hl 0 rfl) ?_
        refine tg_X4_2 S hI mw_136 dX4_insert_50 ?_
        refine lv_aload_n hx hb dX4_insert_53 rfl (lv_at hl 0 rfl) ?_
        refine tg_X4_0 S hI mw_94 dX4_insert_54 ?_
        refine lv_iadd hx hb dX4_insert_57 ?_
        refine lv_bipush (v := 64) hx hb dX4_insert_58 (by decide) ?_
        refine tk_icmp_gt (tgt := 86) hx hb hf dX4_insert_60 (by decide) (fun hf => ?_) (fun hf => ?_)
        · refine lv_sipush (v := -1004) hx hb dX4_insert_86 (by decide) ?_
          exact tk_riW S hr hlk hI hf dX4_insert_89
        · refine lv_aload_n hx hb dX4_insert_63 rfl (lv_at hl 0 rfl) ?_
          refine tg_X4_7 S hI mw_138 dX4_insert_64 ?_
          refine lv_bipush (v := 12) hx hb dX4_insert_67 (by decide) ?_
          refine tk_icmp_eq (tgt := 86) hx hb hf dX4_insert_69 (by decide) (fun hf => ?_) (fun hf => ?_)
          · refine lv_sipush (v := -1004) hx hb dX4_insert_86 (by decide) ?_
            exact tk_riW S hr hlk hI hf dX4_insert_89
          · refine lv_aload_n hx hb dX4_insert_72 rfl (lv_at hl 0 rfl) ?_
            refine tg_X4_12 S hI mw_137 dX4_insert_73 ?_
            refine lv_aload_n hx hb dX4_insert_76 rfl (lv_at hl 0 rfl) ?_
            refine tg_X4_0 S hI mw_94 dX4_insert_77 ?_
            refine lv_iadd hx hb dX4_insert_80 ?_
            refine lv_bipush (v := 90) hx hb dX4_insert_81 (by decide) ?_
            refine tk_icmp_le (tgt := 90) hx hb hf dX4_insert_83 (by decide) (fun hf => ?_) (fun hf => ?_)
            · refine lv_aload_n hx hb dX4_insert_90 rfl (lv_at hl 0 rfl) ?_
              refine lv_iload_n hx hb dX4_insert_91 rfl (lv_at hl 2 rfl) ?_
              refine tk_bd hf (fun r5 hq hf => ?_)
              refine tk_vI S hI hl.1 (c_X4_ahead l G s3 x2 hq) (cwV 1 hts (tk_gV mw_240 mw_241 mw_242 mw_5 mw_243) rfl rfl rfl yd_X4_ahead ⟨Nat.le_of_ble_eq_true rfl, Nat.le_of_ble_eq_true rfl⟩) 19 4 rfl rfl rfl rfl [] rfl (Nat.le_of_ble_eq_true rfl) dX4_insert_92 (fun H locs hI => ?_)
              refine lv_istore_n (lv' := [(3, .int r5), (0, .ref (tad G 19)), (1, .int x1), (2, .int x2)]) hx hb dX4_insert_95 rfl hl (by decide) rfl (fun ls hl => ?_)
              refine lv_aload_n hx hb dX4_insert_96 rfl (lv_at hl 1 rfl) ?_
              refine lv_iconst (v := 0) hx hb dX4_insert_97 (by decide) ?_
              refine lv_iload_n hx hb dX4_insert_98 rfl (lv_at hl 2 rfl) ?_
              refine tk_bd2 hf (fun r6 s7 hq hf => ?_)
              refine tk_vI S hI hl.1 (c_X4_layChange l G s3 (0 : Int32) x1 hq) (cwV 2 hts (tk_gV mw_248 mw_249 mw_250 mw_5 mw_251) rfl rfl rfl yd_X4_layChange ⟨Nat.le_of_ble_eq_true rfl, Nat.le_of_ble_eq_true rfl⟩) 19 4 rfl rfl rfl rfl [] rfl (Nat.le_of_ble_eq_true rfl) dX4_insert_99 (fun H locs hI => ?_)
              refine lv_istore (lv' := [(4, .int r6), (3, .int r5), (0, .ref (tad G 19)), (1, .int x1), (2, .int x2)]) hx hb dX4_insert_102 hl (by decide) rfl (fun ls hl => ?_)
              refine lv_iconst (v := 0) hx hb dX4_insert_104 (by decide) ?_
              refine lv_istore (lv' := [(5, .int (0 : Int32)), (4, .int r6), (3, .int r5), (0, .ref (tad G 19)), (1, .int x1), (2, .int x2)]) hx hb dX4_insert_105 hl (by decide) rfl (fun ls hl => ?_)
              exact k_X4_insert_107 S hr hlk tfu r5 r6 (0 : Int32) s7 _ _ _ hI (lv_sub hl [3, 2, 1, 0] rfl) hf
            · refine lv_sipush (v := -1004) hx hb dX4_insert_86 (by decide) ?_
              exact tk_riW S hr hlk hI hf dX4_insert_89
      · refine lv_sipush (v := -1003) hx hb dX4_insert_45 (by decide) ?_
        exact tk_riW S hr hlk hI hf dX4_insert_48
    · refine lv_sipush (v := -1001) hx hb dX4_insert_34 (by decide) ?_
      exact tk_riW S hr hlk hI hf dX4_insert_37
  · refine lv_sipush (v := -1001) hx hb dX4_insert_7 (by decide) ?_
    exact tk_riW S hr hlk hI hf dX4_insert_10
/-! X4_remove -/
abbrev rm_X4_remove : Room := { frames := 4, cells := 0, slots := 0, locals := 90 }
def f_X4_remove_82 : Nat → Int32 → Int32 → Int32 → Int32 → tST → Option (Int32 × tST)
  | 0, _, _, _, _, _ => none
  | n + 1, x2, x3, x4, x5, st => (if (x2 + x3) ≤ x5 then some (x4, st) else tal 64 (tg_A st 35) x5 (fun v1 => tal 90 (tg_A st 29) v1 (fun v2 => tal 64 (tg_A st 24) v2 (fun v3 => tas 64 v2 (tp_A st 24 (v2).toNatClampNeg (v3 ||| ((1 : Int32) <<< (x4 &&& (31 : Int32))))) (fun s4 => tlet (x5 + (1 : Int32)) (fun i5 => f_X4_remove_82 n x2 x3 x4 i5 s4))))))
def f_X4_remove (x1 : Int32) (x2 : Int32) (x3 : Int32) (st : tST) : Option (Int32 × tST) := (f_X4_isAuthor x1).bind (fun r1 => (if r1 = 0 then some ((-1001 : Int32), st) else (f_X4_setOf (x1 + (2 : Int32)) st).bind (fun r2 => (f_X4_layRead r2 st).bind (fun s3 => (f_X4_within x2 (0 : Int32) ((tg_I s3 121) - (1 : Int32))).bind (fun r4 => (if r4 = 0 then some ((-1001 : Int32), s3) else (f_X4_within x3 (1 : Int32) ((tg_I s3 121) - x2)).bind (fun r5 => (if r5 = 0 then some ((-1002 : Int32), s3) else (if (tg_I s3 107) = (12 : Int32) then some ((-1004 : Int32), s3) else tbd (f_X4_layChange (1 : Int32) x1 s3) (fun r6 s7 => f_X4_remove_82 tfu x2 x3 r6 x2 s7))))))))))
theorem yd_X4_remove : yX4_remove.cls = RX4 ∧ yX4_remove.cls ≠ "java/lang/invoke/MethodHandle" ∧ yX4_remove.cls ≠ "java/lang/invoke/VarHandle" ∧ (parseMethodDescriptor yX4_remove.desc).map (fun d => d.parameters.length) = some 3 := by decide +kernel
set_option maxHeartbeats 4000000 in
set_option maxRecDepth 100000 in
theorem k_X4_remove_82 {l : Launch} {G : tG} {p : Program} {e : Env} {s : State} {m : MethodId} {below : List Frame} {meth : Method} {c : Code} {args : Array Value} {r : Int32} {st' : tST} (S : CallFix p m c cX4_remove 6 s args wsL_law RX4) (hr : meth.sig.returnType = (some .int)) (hlk : meth.locks = false) : ∀ (n : Nat) (x2 : Int32) (x3 : Int32) (x4 : Int32) (x5 : Int32) (st : tST) (H : Heap) (locs : List Loc) (ls : Array Slot), tIn G (tA G s.heap.size) s st H locs → lv_has ls 6 [(0, .ref (tad G 19)), (2, .int x2), (3, .int x3), (4, .int x4), (5, .int x5)] → f_X4_remove_82 n x2 x3 x4 x5 st = some (r, st') → W p l e rm_X4_remove s m args below meth c H locs 0 0 (tZI G below args s r st') (F0 m 82 ls []) := by
  have hx := S.1
  have hb := S.2.1
  have hown := S.2.2.2.1
  have hts := S.2.2.2.2
  intro n
  induction n with
  | zero => intro x2 x3 x4 x5 st H locs ls hI hl hf; exact nomatch (show (none : Option (Int32 × tST)) = some _ from hf)
  | succ n ih =>
    intro x2 x3 x4 x5 st H locs ls hI hl hf
    rw [f_X4_remove_82] at hf
    refine lv_iload hx hb dX4_remove_82 (lv_at hl 4 rfl) ?_
    refine lv_iload_n hx hb dX4_remove_84 rfl (lv_at hl 1 rfl) ?_
    refine lv_iload_n hx hb dX4_remove_85 rfl (lv_at hl 2 rfl) ?_
    refine lv_iadd hx hb dX4_remove_86 ?_
    refine tk_icmp_ge (tgt := 120) hx hb hf dX4_remove_87 (by decide) (fun hf => ?_) (fun hf => ?_)
    · refine lv_iload hx hb dX4_remove_120 (lv_at hl 3 rfl) ?_
      exact tk_riW S hr hlk hI hf dX4_remove_122
    · refine lv_aload_n hx hb dX4_remove_90 rfl (lv_at hl 0 rfl) ?_
      refine tg_X4_6 S hI mw_68 dX4_remove_91 ?_
      refine lv_aload_n hx hb dX4_remove_94 rfl (lv_at hl 0 rfl) ?_
      refine tg_X4_13 S hI mw_74 dX4_remove_95 ?_
      refine lv_aload_n hx hb dX4_remove_98 rfl (lv_at hl 0 rfl) ?_
      refine tg_X4_22 S hI mw_80 dX4_remove_99 ?_
      refine lv_iload hx hb dX4_remove_102 (lv_at hl 4 rfl) ?_
      refine tk_iald S hI (k := 35) (n := 64) rfl hf dX4_remove_104 (fun v1 hf => ?_)
      refine tk_iald S hI (k := 29) (n := 90) rfl hf dX4_remove_105 (fun v2 hf => ?_)
      refine lv_dup2_11 hx hb dX4_remove_106 rfl rfl ?_
      refine tk_iald S hI (k := 24) (n := 64) rfl hf dX4_remove_107 (fun v3 hf => ?_)
      refine lv_iconst (v := 1) hx hb dX4_remove_108 (by decide) ?_
      refine lv_iload hx hb dX4_remove_109 (lv_at hl 3 rfl) ?_
      refine lv_ishl hx hb dX4_remove_111 ?_
      refine lv_ior hx hb dX4_remove_112 ?_
      refine tk_iast S hI (k := 24) (n := 64) rfl (twa_24 G _) hf dX4_remove_113 (fun s4 H locs hI hf => ?_)
      refine tk_let hf (fun i5 ei5 hf => ?_)
      refine lv_iinc (v := i5) (lv' := [(5, .int i5), (0, .ref (tad G 19)), (2, .int x2), (3, .int x3), (4, .int x4)]) hx hb dX4_remove_114 hl (k := 4) rfl (by rw [ei5]; rfl) (by decide) rfl (fun ls hl => ?_)
      refine lv_goto (tgt := 82) hx hb dX4_remove_117 (by decide) ?_
      exact ih x2 x3 x4 i5 s4 _ _ _ hI (lv_sub hl [1, 2, 3, 4, 0] rfl) hf
set_option maxHeartbeats 4000000 in
set_option maxRecDepth 100000 in
theorem c_X4_remove (l : Launch) (G : tG) (st : tST) (x1 : Int32) (x2 : Int32) (x3 : Int32) {r : Int32} {st' : tST} (hf : f_X4_remove x1 x2 x3 st = some (r, st')) : tCI l G yX4_remove cX4_remove 6 (some .int) rm_X4_remove [.ref (tad G 19), .int x1, .int x2, .int x3] st r st' := by
  refine tk_entI (by decide +kernel) (Nat.le_of_ble_eq_true rfl) (fun p e s m below meth c ls S hr hlk hI hl => ?_)
  have hl : lv_has ls 6 [(0, .ref (tad G 19)), (1, .int x1), (2, .int x2), (3, .int x3)] := hl
  have S : CallFix p m c cX4_remove 6 s [.ref (tad G 19), .int x1, .int x2, .int x3].toArray wsL_law RX4 := S
  have hx := S.1
  have hb := S.2.1
  have hown := S.2.2.2.1
  have hts := S.2.2.2.2
  unfold f_X4_remove at hf
  refine lv_iload_n hx hb dX4_remove_0 rfl (lv_at hl 1 rfl) ?_
  refine tk_bd hf (fun r1 hq hf => ?_)
  refine tk_sI S hI hl.1 (c_X4_isAuthor l G st x1 hq) (va_cwS 1 hts (tk_gS mw_214 mw_215 mw_5 mw_216) rfl rfl rfl yd_X4_isAuthor ⟨Nat.le_of_ble_eq_true rfl, Nat.le_of_ble_eq_true rfl⟩) rfl [] rfl (Nat.le_of_ble_eq_true rfl) dX4_remove_1 (fun H locs hI => ?_)
  refine tk_if_ne (tgt := 11) hx hb hf dX4_remove_4 (by decide) (fun hf => ?_) (fun hf => ?_)
  · refine lv_aload_n hx hb dX4_remove_11 rfl (lv_at hl 0 rfl) ?_
    refine lv_aload_n hx hb dX4_remove_12 rfl (lv_at hl 0 rfl) ?_
    refine lv_iload_n hx hb dX4_remove_13 rfl (lv_at hl 1 rfl) ?_
    refine lv_iconst (v := 2) hx hb dX4_remove_14 (by decide) ?_
    refine lv_iadd hx hb dX4_remove_15 ?_
    refine tk_bd hf (fun r2 hq hf => ?_)
    refine tk_vI S hI hl.1 (c_X4_setOf l G st (x1 + (2 : Int32)) hq) (cwV 1 hts (tk_gV mw_217 mw_218 mw_219 mw_5 mw_220) rfl rfl rfl yd_X4_setOf ⟨Nat.le_of_ble_eq_true rfl, Nat.le_of_ble_eq_true rfl⟩) 19 4 rfl rfl rfl rfl [.ref (tad G 19)] rfl (Nat.le_of_ble_eq_true rfl) dX4_remove_16 (fun H locs hI => ?_)
    refine tk_bd hf (fun s3 hq hf => ?_)
    refine tk_vV S hI hl.1 (c_X4_layRead l G st r2 hq) (cwV 1 hts (tk_gV mw_221 mw_222 mw_223 mw_5 mw_224) rfl rfl rfl yd_X4_layRead ⟨Nat.le_of_ble_eq_true rfl, Nat.le_of_ble_eq_true rfl⟩) 19 4 rfl rfl rfl rfl [] rfl (Nat.le_of_ble_eq_true rfl) dX4_remove_19 (fun H locs hI => ?_)
    refine lv_iload_n hx hb dX4_remove_22 rfl (lv_at hl 2 rfl) ?_
    refine lv_iconst (v := 0) hx hb dX4_remove_23 (by decide) ?_
    refine lv_aload_n hx hb dX4_remove_24 rfl (lv_at hl 0 rfl) ?_
    refine tg_X4_21 S hI mw_213 dX4_remove_25 ?_
    refine lv_iconst (v := 1) hx hb dX4_remove_28 (by decide) ?_
    refine lv_isub hx hb dX4_remove_29 ?_
    refine tk_bd hf (fun r4 hq hf => ?_)
    refine tk_sI S hI hl.1 (c_X4_within l G s3 x2 (0 : Int32) ((tg_I s3 121) - (1 : Int32)) hq) (va_cwS 3 hts (tk_gS mw_95 mw_96 mw_5 mw_97) rfl rfl rfl yd_X4_within ⟨Nat.le_of_ble_eq_true rfl, Nat.le_of_ble_eq_true rfl⟩) rfl [] rfl (Nat.le_of_ble_eq_true rfl) dX4_remove_30 (fun H locs hI => ?_)
    refine tk_if_ne (tgt := 40) hx hb hf dX4_remove_33 (by decide) (fun hf => ?_) (fun hf => ?_)
    · refine lv_iload_n hx hb dX4_remove_40 rfl (lv_at hl 3 rfl) ?_
      refine lv_iconst (v := 1) hx hb dX4_remove_41 (by decide) ?_
      refine lv_aload_n hx hb dX4_remove_42 rfl (lv_at hl 0 rfl) ?_
      refine tg_X4_21 S hI mw_213 dX4_remove_43 ?_
      refine lv_iload_n hx hb dX4_remove_46 rfl (lv_at hl 2 rfl) ?_
      refine lv_isub hx hb dX4_remove_47 ?_
      refine tk_bd hf (fun r5 hq hf => ?_)
      refine tk_sI S hI hl.1 (c_X4_within l G s3 x3 (1 : Int32) ((tg_I s3 121) - x2) hq) (va_cwS 3 hts (tk_gS mw_95 mw_96 mw_5 mw_97) rfl rfl rfl yd_X4_within ⟨Nat.le_of_ble_eq_true rfl, Nat.le_of_ble_eq_true rfl⟩) rfl [] rfl (Nat.le_of_ble_eq_true rfl) dX4_remove_48 (fun H locs hI => ?_)
      refine tk_if_ne (tgt := 58) hx hb hf dX4_remove_51 (by decide) (fun hf => ?_) (fun hf => ?_)
      · refine lv_aload_n hx hb dX4_remove_58 rfl (lv_at hl 0 rfl) ?_
        refine tg_X4_7 S hI mw_138 dX4_remove_59 ?_
        refine lv_bipush (v := 12) hx hb dX4_remove_62 (by decide) ?_
        refine tk_icmp_ne (tgt := 71) hx hb hf dX4_remove_64 (by decide) (fun hf => ?_) (fun hf => ?_)
        · refine lv_aload_n hx hb dX4_remove_71 rfl (lv_at hl 0 rfl) ?_
          refine lv_iconst (v := 1) hx hb dX4_remove_72 (by decide) ?_
          refine lv_iload_n hx hb dX4_remove_73 rfl (lv_at hl 1 rfl) ?_
          refine tk_bd2 hf (fun r6 s7 hq hf => ?_)
          refine tk_vI S hI hl.1 (c_X4_layChange l G s3 (1 : Int32) x1 hq) (cwV 2 hts (tk_gV mw_248 mw_249 mw_250 mw_5 mw_251) rfl rfl rfl yd_X4_layChange ⟨Nat.le_of_ble_eq_true rfl, Nat.le_of_ble_eq_true rfl⟩) 19 4 rfl rfl rfl rfl [] rfl (Nat.le_of_ble_eq_true rfl) dX4_remove_74 (fun H locs hI => ?_)
          refine lv_istore (lv' := [(4, .int r6), (0, .ref (tad G 19)), (1, .int x1), (2, .int x2), (3, .int x3)]) hx hb dX4_remove_77 hl (by decide) rfl (fun ls hl => ?_)
          refine lv_iload_n hx hb dX4_remove_79 rfl (lv_at hl 3 rfl) ?_
          refine lv_istore (lv' := [(5, .int x2), (4, .int r6), (0, .ref (tad G 19)), (1, .int x1), (2, .int x2), (3, .int x3)]) hx hb dX4_remove_80 hl (by decide) rfl (fun ls hl => ?_)
          exact k_X4_remove_82 S hr hlk tfu x2 x3 r6 x2 s7 _ _ _ hI (lv_sub hl [2, 4, 5, 1, 0] rfl) hf
        · refine lv_sipush (v := -1004) hx hb dX4_remove_67 (by decide) ?_
          exact tk_riW S hr hlk hI hf dX4_remove_70
      · refine lv_sipush (v := -1002) hx hb dX4_remove_54 (by decide) ?_
        exact tk_riW S hr hlk hI hf dX4_remove_57
    · refine lv_sipush (v := -1001) hx hb dX4_remove_36 (by decide) ?_
      exact tk_riW S hr hlk hI hf dX4_remove_39
  · refine lv_sipush (v := -1001) hx hb dX4_remove_7 (by decide) ?_
    exact tk_riW S hr hlk hI hf dX4_remove_10
/-! X4_move -/
abbrev rm_X4_move : Room := { frames := 4, cells := 0, slots := 0, locals := 90 }
def f_X4_move_136 : Nat → Int32 → Int32 → Int32 → Int32 → Int32 → tST → Option (Int32 × tST)
  | 0, _, _, _, _, _, _ => none
  | n + 1, x2, x3, x5, x6, x7, st => (if x3 ≤ x7 then some (x6, st) else tal 64 (tg_A st 35) (x2 + x7) (fun v1 => tal 90 (tg_A st 29) v1 (fun v2 => tal 64 (tg_A st 35) (x2 + x7) (fun v3 => (f_X4_layPlace v2 v3 x6 (x5 + x7) st).bind (fun s4 => tlet (x7 + (1 : Int32)) (fun i5 => f_X4_move_136 n x2 x3 x5 x6 i5 s4))))))
def f_X4_move (x1 : Int32) (x2 : Int32) (x3 : Int32) (x4 : Int32) (st : tST) : Option (Int32 × tST) := (f_X4_isAuthor x1).bind (fun r1 => (if r1 = 0 then some ((-1001 : Int32), st) else (f_X4_setOf (x1 + (2 : Int32)) st).bind (fun r2 => (f_X4_layRead r2 st).bind (fun s3 => (f_X4_within x2 (0 : Int32) ((tg_I s3 121) - (1 : Int32))).bind (fun r4 => (if r4 = 0 then some ((-1001 : Int32), s3) else (f_X4_within x3 (1 : Int32) ((tg_I s3 121) - x2)).bind (fun r5 => (if r5 = 0 then some ((-1002 : Int32), s3) else (f_X4_within x4 (0 : Int32) (tg_I s3 121)).bind (fun r6 => (if r6 = 0 then some ((-1001 : Int32), s3) else (if x4 ≤ x2 then (if (tg_I s3 107) = (12 : Int32) then some ((-1004 : Int32), s3) else (if ((tg_I s3 112) + x3) ≤ (90 : Int32) then (f_X4_ahead x4 s3).bind (fun r7 => tbd (f_X4_layChange (2 : Int32) x1 s3) (fun r8 s9 => f_X4_move_136 tfu x2 x3 r7 r8 (0 : Int32) s9)) else some ((-1004 : Int32), s3))) else (if (x2 + x3) ≤ x4 then (if (tg_I s3 107) = (12 : Int32) then some ((-1004 : Int32), s3) else (if ((tg_I s3 112) + x3) ≤ (90 : Int32) then (f_X4_ahead x4 s3).bind (fun r10 => tbd (f_X4_layChange (2 : Int32) x1 s3) (fun r11 s12 => f_X4_move_136 tfu x2 x3 r10 r11 (0 : Int32) s12)) else some ((-1004 : Int32), s3))) else some ((-1003 : Int32), s3)))))))))))))
theorem yd_X4_move : yX4_move.cls = RX4 ∧ yX4_move.cls ≠ "java/lang/invoke/MethodHandle" ∧ yX4_move.cls ≠ "java/lang/invoke/VarHandle" ∧ (parseMethodDescriptor yX4_move.desc).map (fun d => d.parameters.length) = some 4 := by decide +kernel
set_option maxHeartbeats 4000000 in
set_option maxRecDepth 100000 in
theorem k_X4_move_136 {l : Launch} {G : tG} {p : Program} {e : Env} {s : State} {m : MethodId} {below : List Frame} {meth : Method} {c : Code} {args : Array Value} {r : Int32} {st' : tST} (S : CallFix p m c cX4_move 8 s args wsL_law RX4) (hr : meth.sig.returnType = (some .int)) (hlk : meth.locks = false) : ∀ (n : Nat) (x2 : Int32) (x3 : Int32) (x5 : Int32) (x6 : Int32) (x7 : Int32) (st : tST) (H : Heap) (locs : List Loc) (ls : Array Slot), tIn G (tA G s.heap.size) s st H locs → lv_has ls 8 [(0, .ref (tad G 19)), (2, .int x2), (3, .int x3), (5, .int x5), (6, .int x6), (7, .int x7)] → f_X4_move_136 n x2 x3 x5 x6 x7 st = some (r, st') → W p l e rm_X4_move s m args below meth c H locs 0 0 (tZI G below args s r st') (F0 m 136 ls []) := by
  have hx := S.1
  have hb := S.2.1
  have hown := S.2.2.2.1
  have hts := S.2.2.2.2
  intro n
  induction n with
  | zero => intro x2 x3 x5 x6 x7 st H locs ls hI hl hf; exact nomatch (show (none : Option (Int32 × tST)) = some _ from hf)
  | succ n ih =>
    intro x2 x3 x5 x6 x7 st H locs ls hI hl hf
    rw [f_X4_move_136] at hf
    refine lv_iload hx hb dX4_move_136 (lv_at hl 5 rfl) ?_
    refine lv_iload_n hx hb dX4_move_138 rfl (lv_at hl 2 rfl) ?_
    refine tk_icmp_ge (tgt := 182) hx hb hf dX4_move_139 (by decide) (fun hf => ?_) (fun hf => ?_)
    · refine lv_iload hx hb dX4_move_182 (lv_at hl 4 rfl) ?_
      exact tk_riW S hr hlk hI hf dX4_move_184
    · refine lv_aload_n hx hb dX4_move_142 rfl (lv_at hl 0 rfl) ?_
      refine lv_aload_n hx hb dX4_move_143 rfl (lv_at hl 0 rfl) ?_
      refine tg_X4_13 S hI mw_74 dX4_move_144 ?_
      refine lv_aload_n hx hb dX4_move_147 rfl (lv_at hl 0 rfl) ?_
      refine tg_X4_22 S hI mw_80 dX4_move_148 ?_
      refine lv_iload_n hx hb dX4_move_151 rfl (lv_at hl 1 rfl) ?_
      refine lv_iload hx hb dX4_move_152 (lv_at hl 5 rfl) ?_
      refine lv_iadd hx hb dX4_move_154 ?_
      refine tk_iald S hI (k := 35) (n := 64) rfl hf dX4_move_155 (fun v1 hf => ?_)
      refine tk_iald S hI (k := 29) (n := 90) rfl hf dX4_move_156 (fun v2 hf => ?_)
      refine lv_aload_n hx hb dX4_move_157 rfl (lv_at hl 0 rfl) ?_
      refine tg_X4_22 S hI mw_80 dX4_move_158 ?_
      refine lv_iload_n hx hb dX4_move_161 rfl (lv_at hl 1 rfl) ?_
      refine lv_iload hx hb dX4_move_162 (lv_at hl 5 rfl) ?_
      refine lv_iadd hx hb dX4_move_164 ?_
      refine tk_iald S hI (k := 35) (n := 64) rfl hf dX4_move_165 (fun v3 hf => ?_)
      refine lv_iload hx hb dX4_move_166 (lv_at hl 4 rfl) ?_
      refine lv_iload hx hb dX4_move_168 (lv_at hl 3 rfl) ?_
      refine lv_iload hx hb dX4_move_170 (lv_at hl 5 rfl) ?_
      refine lv_iadd hx hb dX4_move_172 ?_
      refine tk_bd hf (fun s4 hq hf => ?_)
      refine tk_vV S hI hl.1 (c_X4_layPlace l G st v2 v3 x6 (x5 + x7) hq) (cwV 4 hts (tk_gV mw_144 mw_145 mw_146 mw_5 mw_147) rfl rfl rfl yd_X4_layPlace ⟨Nat.le_of_ble_eq_true rfl, Nat.le_of_ble_eq_true rfl⟩) 19 4 rfl rfl rfl rfl [] rfl (Nat.le_of_ble_eq_true rfl) dX4_move_173 (fun H locs hI => ?_)
      refine tk_let hf (fun i5 ei5 hf => ?_)
      refine lv_iinc (v := i5) (lv' := [(7, .int i5), (0, .ref (tad G 19)), (2, .int x2), (3, .int x3), (5, .int x5), (6, .int x6)]) hx hb dX4_move_176 hl (k := 5) rfl (by rw [ei5]; rfl) (by decide) rfl (fun ls hl => ?_)
      refine lv_goto (tgt := 136) hx hb dX4_move_179 (by decide) ?_
      exact ih x2 x3 x5 x6 i5 s4 _ _ _ hI (lv_sub hl [1, 2, 3, 4, 5, 0] rfl) hf
set_option maxHeartbeats 4000000 in
set_option maxRecDepth 100000 in
theorem c_X4_move (l : Launch) (G : tG) (st : tST) (x1 : Int32) (x2 : Int32) (x3 : Int32) (x4 : Int32) {r : Int32} {st' : tST} (hf : f_X4_move x1 x2 x3 x4 st = some (r, st')) : tCI l G yX4_move cX4_move 8 (some .int) rm_X4_move [.ref (tad G 19), .int x1, .int x2, .int x3, .int x4] st r st' := by
  refine tk_entI (by decide +kernel) (Nat.le_of_ble_eq_true rfl) (fun p e s m below meth c ls S hr hlk hI hl => ?_)
  have hl : lv_has ls 8 [(0, .ref (tad G 19)), (1, .int x1), (2, .int x2), (3, .int x3), (4, .int x4)] := hl
  have S : CallFix p m c cX4_move 8 s [.ref (tad G 19), .int x1, .int x2, .int x3, .int x4].toArray wsL_law RX4 := S
  have hx := S.1
  have hb := S.2.1
  have hown := S.2.2.2.1
  have hts := S.2.2.2.2
  unfold f_X4_move at hf
  refine lv_iload_n hx hb dX4_move_0 rfl (lv_at hl 1 rfl) ?_
  refine tk_bd hf (fun r1 hq hf => ?_)
  refine tk_sI S hI hl.1 (c_X4_isAuthor l G st x1 hq) (va_cwS 1 hts (tk_gS mw_214 mw_215 mw_5 mw_216) rfl rfl rfl yd_X4_isAuthor ⟨Nat.le_of_ble_eq_true rfl, Nat.le_of_ble_eq_true rfl⟩) rfl [] rfl (Nat.le_of_ble_eq_true rfl) dX4_move_1 (fun H locs hI => ?_)
  refine tk_if_ne (tgt := 11) hx hb hf dX4_move_4 (by decide) (fun hf => ?_) (fun hf => ?_)
  · refine lv_aload_n hx hb dX4_move_11 rfl (lv_at hl 0 rfl) ?_
    refine lv_aload_n hx hb dX4_move_12 rfl (lv_at hl 0 rfl) ?_
    refine lv_iload_n hx hb dX4_move_13 rfl (lv_at hl 1 rfl) ?_
    refine lv_iconst (v := 2) hx hb dX4_move_14 (by decide) ?_
    refine lv_iadd hx hb dX4_move_15 ?_
    refine tk_bd hf (fun r2 hq hf => ?_)
    refine tk_vI S hI hl.1 (c_X4_setOf l G st (x1 + (2 : Int32)) hq) (cwV 1 hts (tk_gV mw_217 mw_218 mw_219 mw_5 mw_220) rfl rfl rfl yd_X4_setOf ⟨Nat.le_of_ble_eq_true rfl, Nat.le_of_ble_eq_true rfl⟩) 19 4 rfl rfl rfl rfl [.ref (tad G 19)] rfl (Nat.le_of_ble_eq_true rfl) dX4_move_16 (fun H locs hI => ?_)
    refine tk_bd hf (fun s3 hq hf => ?_)
    refine tk_vV S hI hl.1 (c_X4_layRead l G st r2 hq) (cwV 1 hts (tk_gV mw_221 mw_222 mw_223 mw_5 mw_224) rfl rfl rfl yd_X4_layRead ⟨Nat.le_of_ble_eq_true rfl, Nat.le_of_ble_eq_true rfl⟩) 19 4 rfl rfl rfl rfl [] rfl (Nat.le_of_ble_eq_true rfl) dX4_move_19 (fun H locs hI => ?_)
    refine lv_iload_n hx hb dX4_move_22 rfl (lv_at hl 2 rfl) ?_
    refine lv_iconst (v := 0) hx hb dX4_move_23 (by decide) ?_
    refine lv_aload_n hx hb dX4_move_24 rfl (lv_at hl 0 rfl) ?_
    refine tg_X4_21 S hI mw_213 dX4_move_25 ?_
    refine lv_iconst (v := 1) hx hb dX4_move_28 (by decide) ?_
    refine lv_isub hx hb dX4_move_29 ?_
    refine tk_bd hf (fun r4 hq hf => ?_)
    refine tk_sI S hI hl.1 (c_X4_within l G s3 x2 (0 : Int32) ((tg_I s3 121) - (1 : Int32)) hq) (va_cwS 3 hts (tk_gS mw_95 mw_96 mw_5 mw_97) rfl rfl rfl yd_X4_within ⟨Nat.le_of_ble_eq_true rfl, Nat.le_of_ble_eq_true rfl⟩) rfl [] rfl (Nat.le_of_ble_eq_true rfl) dX4_move_30 (fun H locs hI => ?_)
    refine tk_if_ne (tgt := 40) hx hb hf dX4_move_33 (by decide) (fun hf => ?_) (fun hf => ?_)
    · refine lv_iload_n hx hb dX4_move_40 rfl (lv_at hl 3 rfl) ?_
      refine lv_iconst (v := 1) hx hb dX4_move_41 (by decide) ?_
      refine lv_aload_n hx hb dX4_move_42 rfl (lv_at hl 0 rfl) ?_
      refine tg_X4_21 S hI mw_213 dX4_move_43 ?_
      refine lv_iload_n hx hb dX4_move_46 rfl (lv_at hl 2 rfl) ?_
      refine lv_isub hx hb dX4_move_47 ?_
      refine tk_bd hf (fun r5 hq hf => ?_)
      refine tk_sI S hI hl.1 (c_X4_within l G s3 x3 (1 : Int32) ((tg_I s3 121) - x2) hq) (va_cwS 3 hts (tk_gS mw_95 mw_96 mw_5 mw_97) rfl rfl rfl yd_X4_within ⟨Nat.le_of_ble_eq_true rfl, Nat.le_of_ble_eq_true rfl⟩) rfl [] rfl (Nat.le_of_ble_eq_true rfl) dX4_move_48 (fun H locs hI => ?_)
      refine tk_if_ne (tgt := 58) hx hb hf dX4_move_51 (by decide) (fun hf => ?_) (fun hf => ?_)
      · refine lv_iload hx hb dX4_move_58 (lv_at hl 4 rfl) ?_
        refine lv_iconst (v := 0) hx hb dX4_move_60 (by decide) ?_
        refine lv_aload_n hx hb dX4_move_61 rfl (lv_at hl 0 rfl) ?_
        refine tg_X4_21 S hI mw_213 dX4_move_62 ?_
        refine tk_bd hf (fun r6 hq hf => ?_)
        refine tk_sI S hI hl.1 (c_X4_within l G s3 x4 (0 : Int32) (tg_I s3 121) hq) (va_cwS 3 hts (tk_gS mw_95 mw_96 mw_5 mw_97) rfl rfl rfl yd_X4_within ⟨Nat.le_of_ble_eq_true rfl, Nat.le_of_ble_eq_true rfl⟩) rfl [] rfl (Nat.le_of_ble_eq_true rfl) dX4_move_65 (fun H locs hI => ?_)
        refine tk_if_ne (tgt := 75) hx hb hf dX4_move_68 (by decide) (fun hf => ?_) (fun hf => ?_)
        · refine lv_iload hx hb dX4_move_75 (lv_at hl 4 rfl) ?_
          refine lv_iload_n hx hb dX4_move_77 rfl (lv_at hl 2 rfl) ?_
          refine tk_icmp_le (tgt := 93) hx hb hf dX4_move_78 (by decide) (fun hf => ?_) (fun hf => ?_)
          · refine lv_aload_n hx hb dX4_move_93 rfl (lv_at hl 0 rfl) ?_
            refine tg_X4_7 S hI mw_138 dX4_move_94 ?_
            refine lv_bipush (v := 12) hx hb dX4_move_97 (by decide) ?_
            refine tk_icmp_eq (tgt := 113) hx hb hf dX4_move_99 (by decide) (fun hf => ?_) (fun hf => ?_)
            · refine lv_sipush (v := -1004) hx hb dX4_move_113 (by decide) ?_
              exact tk_riW S hr hlk hI hf dX4_move_116
            · refine lv_aload_n hx hb dX4_move_102 rfl (lv_at hl 0 rfl) ?_
              refine tg_X4_12 S hI mw_137 dX4_move_103 ?_
              refine lv_iload_n hx hb dX4_move_106 rfl (lv_at hl 3 rfl) ?_
              refine lv_iadd hx hb dX4_move_107 ?_
              refine lv_bipush (v := 90) hx hb dX4_move_108 (by decide) ?_
              refine tk_icmp_le (tgt := 117) hx hb hf dX4_move_110 (by decide) (fun hf => ?_) (fun hf => ?_)
              · refine lv_aload_n hx hb dX4_move_117 rfl (lv_at hl 0 rfl) ?_
                refine lv_iload hx hb dX4_move_118 (lv_at hl 4 rfl) ?_
                refine tk_bd hf (fun r7 hq hf => ?_)
                refine tk_vI S hI hl.1 (c_X4_ahead l G s3 x4 hq) (cwV 1 hts (tk_gV mw_240 mw_241 mw_242 mw_5 mw_243) rfl rfl rfl yd_X4_ahead ⟨Nat.le_of_ble_eq_true rfl, Nat.le_of_ble_eq_true rfl⟩) 19 4 rfl rfl rfl rfl [] rfl (Nat.le_of_ble_eq_true rfl) dX4_move_120 (fun H locs hI => ?_)
                refine lv_istore (lv' := [(5, .int r7), (0, .ref (tad G 19)), (1, .int x1), (2, .int x2), (3, .int x3), (4, .int x4)]) hx hb dX4_move_123 hl (by decide) rfl (fun ls hl => ?_)
                refine lv_aload_n hx hb dX4_move_125 rfl (lv_at hl 1 rfl) ?_
                refine lv_iconst (v := 2) hx hb dX4_move_126 (by decide) ?_
                refine lv_iload_n hx hb dX4_move_127 rfl (lv_at hl 2 rfl) ?_
                refine tk_bd2 hf (fun r8 s9 hq hf => ?_)
                refine tk_vI S hI hl.1 (c_X4_layChange l G s3 (2 : Int32) x1 hq) (cwV 2 hts (tk_gV mw_248 mw_249 mw_250 mw_5 mw_251) rfl rfl rfl yd_X4_layChange ⟨Nat.le_of_ble_eq_true rfl, Nat.le_of_ble_eq_true rfl⟩) 19 4 rfl rfl rfl rfl [] rfl (Nat.le_of_ble_eq_true rfl) dX4_move_128 (fun H locs hI => ?_)
                refine lv_istore (lv' := [(6, .int r8), (5, .int r7), (0, .ref (tad G 19)), (1, .int x1), (2, .int x2), (3, .int x3), (4, .int x4)]) hx hb dX4_move_131 hl (by decide) rfl (fun ls hl => ?_)
                refine lv_iconst (v := 0) hx hb dX4_move_133 (by decide) ?_
                refine lv_istore (lv' := [(7, .int (0 : Int32)), (6, .int r8), (5, .int r7), (0, .ref (tad G 19)), (1, .int x1), (2, .int x2), (3, .int x3), (4, .int x4)]) hx hb dX4_move_134 hl (by decide) rfl (fun ls hl => ?_)
                exact k_X4_move_136 S hr hlk tfu x2 x3 r7 r8 (0 : Int32) s9 _ _ _ hI (lv_sub hl [3, 5, 6, 2, 1, 0] rfl) hf
              · refine lv_sipush (v := -1004) hx hb dX4_move_113 (by decide) ?_
                exact tk_riW S hr hlk hI hf dX4_move_116
          · refine lv_iload hx hb dX4_move_81 (lv_at hl 4 rfl) ?_
            refine lv_iload_n hx hb dX4_move_83 rfl (lv_at hl 2 rfl) ?_
            refine lv_iload_n hx hb dX4_move_84 rfl (lv_at hl 3 rfl) ?_
            refine lv_iadd hx hb dX4_move_85 ?_
            refine tk_icmp_ge (tgt := 93) hx hb hf dX4_move_86 (by decide) (fun hf => ?_) (fun hf => ?_)
            · refine lv_aload_n hx hb dX4_move_93 rfl (lv_at hl 0 rfl) ?_
              refine tg_X4_7 S hI mw_138 dX4_move_94 ?_
              refine lv_bipush (v := 12) hx hb dX4_move_97 (by decide) ?_
              refine tk_icmp_eq (tgt := 113) hx hb hf dX4_move_99 (by decide) (fun hf => ?_) (fun hf => ?_)
              · refine lv_sipush (v := -1004) hx hb dX4_move_113 (by decide) ?_
                exact tk_riW S hr hlk hI hf dX4_move_116
              · refine lv_aload_n hx hb dX4_move_102 rfl (lv_at hl 0 rfl) ?_
                refine tg_X4_12 S hI mw_137 dX4_move_103 ?_
                refine lv_iload_n hx hb dX4_move_106 rfl (lv_at hl 3 rfl) ?_
                refine lv_iadd hx hb dX4_move_107 ?_
                refine lv_bipush (v := 90) hx hb dX4_move_108 (by decide) ?_
                refine tk_icmp_le (tgt := 117) hx hb hf dX4_move_110 (by decide) (fun hf => ?_) (fun hf => ?_)
                · refine lv_aload_n hx hb dX4_move_117 rfl (lv_at hl 0 rfl) ?_
                  refine lv_iload hx hb dX4_move_118 (lv_at hl 4 rfl) ?_
                  refine tk_bd hf (fun r10 hq hf => ?_)
                  refine tk_vI S hI hl.1 (c_X4_ahead l G s3 x4 hq) (cwV 1 hts (tk_gV mw_240 mw_241 mw_242 mw_5 mw_243) rfl rfl rfl yd_X4_ahead ⟨Nat.le_of_ble_eq_true rfl, Nat.le_of_ble_eq_true rfl⟩) 19 4 rfl rfl rfl rfl [] rfl (Nat.le_of_ble_eq_true rfl) dX4_move_120 (fun H locs hI => ?_)
                  refine lv_istore (lv' := [(5, .int r10), (0, .ref (tad G 19)), (1, .int x1), (2, .int x2), (3, .int x3), (4, .int x4)]) hx hb dX4_move_123 hl (by decide) rfl (fun ls hl => ?_)
                  refine lv_aload_n hx hb dX4_move_125 rfl (lv_at hl 1 rfl) ?_
                  refine lv_iconst (v := 2) hx hb dX4_move_126 (by decide) ?_
                  refine lv_iload_n hx hb dX4_move_127 rfl (lv_at hl 2 rfl) ?_
                  refine tk_bd2 hf (fun r11 s12 hq hf => ?_)
                  refine tk_vI S hI hl.1 (c_X4_layChange l G s3 (2 : Int32) x1 hq) (cwV 2 hts (tk_gV mw_248 mw_249 mw_250 mw_5 mw_251) rfl rfl rfl yd_X4_layChange ⟨Nat.le_of_ble_eq_true rfl, Nat.le_of_ble_eq_true rfl⟩) 19 4 rfl rfl rfl rfl [] rfl (Nat.le_of_ble_eq_true rfl) dX4_move_128 (fun H locs hI => ?_)
                  refine lv_istore (lv' := [(6, .int r11), (5, .int r10), (0, .ref (tad G 19)), (1, .int x1), (2, .int x2), (3, .int x3), (4, .int x4)]) hx hb dX4_move_131 hl (by decide) rfl (fun ls hl => ?_)
                  refine lv_iconst (v := 0) hx hb dX4_move_133 (by decide) ?_
                  refine lv_istore (lv' := [(7, .int (0 : Int32)), (6, .int r11), (5, .int r10), (0, .ref (tad G 19)), (1, .int x1), (2, .int x2), (3, .int x3), (4, .int x4)]) hx hb dX4_move_134 hl (by decide) rfl (fun ls hl => ?_)
                  exact k_X4_move_136 S hr hlk tfu x2 x3 r10 r11 (0 : Int32) s12 _ _ _ hI (lv_sub hl [3, 5, 6, 2, 1, 0] rfl) hf
                · refine lv_sipush (v := -1004) hx hb dX4_move_113 (by decide) ?_
                  exact tk_riW S hr hlk hI hf dX4_move_116
            · refine lv_sipush (v := -1003) hx hb dX4_move_89 (by decide) ?_
              exact tk_riW S hr hlk hI hf dX4_move_92
        · refine lv_sipush (v := -1001) hx hb dX4_move_71 (by decide) ?_
          exact tk_riW S hr hlk hI hf dX4_move_74
      · refine lv_sipush (v := -1002) hx hb dX4_move_54 (by decide) ?_
        exact tk_riW S hr hlk hI hf dX4_move_57
    · refine lv_sipush (v := -1001) hx hb dX4_move_36 (by decide) ?_
      exact tk_riW S hr hlk hI hf dX4_move_39
  · refine lv_sipush (v := -1001) hx hb dX4_move_7 (by decide) ?_
    exact tk_riW S hr hlk hI hf dX4_move_10
/-! X4_isChange -/
abbrev rm_X4_isChange : Room := { frames := 1, cells := 0, slots := 0, locals := 22 }
def f_X4_isChange (x1 : Int32) (st : tST) : Option (Int32) := (f_X4_within x1 (0 : Int32) ((tg_I st 107) - (1 : Int32))).bind (fun r1 => tzr r1 (some r1))
theorem yd_X4_isChange : yX4_isChange.cls = RX4 ∧ yX4_isChange.cls ≠ "java/lang/invoke/MethodHandle" ∧ yX4_isChange.cls ≠ "java/lang/invoke/VarHandle" ∧ (parseMethodDescriptor yX4_isChange.desc).map (fun d => d.parameters.length) = some 1 := by decide +kernel
set_option maxHeartbeats 4000000 in
set_option maxRecDepth 100000 in
theorem c_X4_isChange (l : Launch) (G : tG) (st : tST) (x1 : Int32) {r : Int32} (hf : f_X4_isChange x1 st = some r) : tCI l G yX4_isChange cX4_isChange 2 (some .boolean) rm_X4_isChange [.ref (tad G 19), .int x1] st r st := by
  refine tk_entI (by decide +kernel) (Nat.le_of_ble_eq_true rfl) (fun p e s m below meth c ls S hr hlk hI hl => ?_)
  have hl : lv_has ls 2 [(0, .ref (tad G 19)), (1, .int x1)] := hl
  have S : CallFix p m c cX4_isChange 2 s [.ref (tad G 19), .int x1].toArray wsL_law RX4 := S
  have hx := S.1
  have hb := S.2.1
  have hown := S.2.2.2.1
  have hts := S.2.2.2.2
  unfold f_X4_isChange at hf
  refine lv_iload_n hx hb dX4_isChange_0 rfl (lv_at hl 1 rfl) ?_
  refine lv_iconst (v := 0) hx hb dX4_isChange_1 (by decide) ?_
  refine lv_aload_n hx hb dX4_isChange_2 rfl (lv_at hl 0 rfl) ?_
  refine tg_X4_7 S hI mw_138 dX4_isChange_3 ?_
  refine lv_iconst (v := 1) hx hb dX4_isChange_6 (by decide) ?_
  refine lv_isub hx hb dX4_isChange_7 ?_
  refine tk_bd hf (fun r1 hq hf => ?_)
  refine tk_sI S hI hl.1 (c_X4_within l G st x1 (0 : Int32) ((tg_I st 107) - (1 : Int32)) hq) (va_cwS 3 hts (tk_gS mw_95 mw_96 mw_5 mw_97) rfl rfl rfl yd_X4_within ⟨Nat.le_of_ble_eq_true rfl, Nat.le_of_ble_eq_true rfl⟩) rfl [] rfl (Nat.le_of_ble_eq_true rfl) dX4_isChange_8 (fun H locs hI => ?_)
  exact tk_rzR S hr hlk hI hf dX4_isChange_11
/-! X4_show -/
abbrev rm_X4_show : Room := { frames := 2, cells := 0, slots := 0, locals := 43 }
def f_X4_show (x1 : Int32) (x2 : Int32) (st : tST) : Option (Int32 × tST) := (f_X4_isChange x1 st).bind (fun r1 => (if r1 = 0 then some ((-1001 : Int32), st) else tal 12 (tg_A st 28) x1 (fun v2 => (if v2 = 0 then tas 12 x1 (tp_A st 28 (x1).toNatClampNeg (vp_nar .boolean x2)) (fun s3 => some ((0 : Int32), s3)) else tas 12 x1 (tp_A st 28 (x1).toNatClampNeg (vp_nar .boolean x2)) (fun s4 => some ((1 : Int32), s4))))))
theorem yd_X4_show : yX4_show.cls = RX4 ∧ yX4_show.cls ≠ "java/lang/invoke/MethodHandle" ∧ yX4_show.cls ≠ "java/lang/invoke/VarHandle" ∧ (parseMethodDescriptor yX4_show.desc).map (fun d => d.parameters.length) = some 2 := by decide +kernel
set_option maxHeartbeats 4000000 in
set_option maxRecDepth 100000 in
theorem c_X4_show (l : Launch) (G : tG) (st : tST) (x1 : Int32) (x2 : Int32) {r : Int32} {st' : tST} (hf : f_X4_show x1 x2 st = some (r, st')) : tCI l G yX4_show cX4_show 4 (some .int) rm_X4_show [.ref (tad G 19), .int x1, .int x2] st r st' := by
  refine tk_entI (by decide +kernel) (Nat.le_of_ble_eq_true rfl) (fun p e s m below meth c ls S hr hlk hI hl => ?_)
  have hl : lv_has ls 4 [(0, .ref (tad G 19)), (1, .int x1), (2, .int x2)] := hl
  have S : CallFix p m c cX4_show 4 s [.ref (tad G 19), .int x1, .int x2].toArray wsL_law RX4 := S
  have hx := S.1
  have hb := S.2.1
  have hown := S.2.2.2.1
  have hts := S.2.2.2.2
  unfold f_X4_show at hf
  refine lv_aload_n hx hb dX4_show_0 rfl (lv_at hl 0 rfl) ?_
  refine lv_iload_n hx hb dX4_show_1 rfl (lv_at hl 1 rfl) ?_
  refine tk_bd hf (fun r1 hq hf => ?_)
  refine tk_vI S hI hl.1 (c_X4_isChange l G st x1 hq) (cwV 1 hts (tk_gV mw_289 mw_290 mw_291 mw_5 mw_292) rfl rfl rfl yd_X4_isChange ⟨Nat.le_of_ble_eq_true rfl, Nat.le_of_ble_eq_true rfl⟩) 19 4 rfl rfl rfl rfl [] rfl (Nat.le_of_ble_eq_true rfl) dX4_show_2 (fun H locs hI => ?_)
  refine tk_if_ne (tgt := 12) hx hb hf dX4_show_5 (by decide) (fun hf => ?_) (fun hf => ?_)
  · refine lv_aload_n hx hb dX4_show_12 rfl (lv_at hl 0 rfl) ?_
    refine tg_X4_11 S hI mw_73 dX4_show_13 ?_
    refine lv_iload_n hx hb dX4_show_16 rfl (lv_at hl 1 rfl) ?_
    refine tk_zald S hI (k := 28) (n := 12) rfl hf dX4_show_17 (fun v2 hf => ?_)
    refine tk_if_eq (tgt := 25) hx hb hf dX4_show_18 (by decide) (fun hf => ?_) (fun hf => ?_)
    · refine lv_iconst (v := 0) hx hb dX4_show_25 (by decide) ?_
      refine lv_istore_n (lv' := [(3, .int (0 : Int32)), (0, .ref (tad G 19)), (1, .int x1), (2, .int x2)]) hx hb dX4_show_26 rfl hl (by decide) rfl (fun ls hl => ?_)
      refine lv_aload_n hx hb dX4_show_27 rfl (lv_at hl 1 rfl) ?_
      refine tg_X4_11 S hI mw_73 dX4_show_28 ?_
      refine lv_iload_n hx hb dX4_show_31 rfl (lv_at hl 2 rfl) ?_
      refine lv_iload_n hx hb dX4_show_32 rfl (lv_at hl 3 rfl) ?_
      refine tk_zast S hI (k := 28) (n := 12) rfl (twa_28 G _) hf dX4_show_33 (fun s3 H locs hI hf => ?_)
      refine lv_iload_n hx hb dX4_show_34 rfl (lv_at hl 0 rfl) ?_
      exact tk_riW S hr hlk hI hf dX4_show_35
    · refine lv_iconst (v := 1) hx hb dX4_show_21 (by decide) ?_
      refine lv_goto (tgt := 26) hx hb dX4_show_22 (by decide) ?_
      refine lv_istore_n (lv' := [(3, .int (1 : Int32)), (0, .ref (tad G 19)), (1, .int x1), (2, .int x2)]) hx hb dX4_show_26 rfl hl (by decide) rfl (fun ls hl => ?_)
      refine lv_aload_n hx hb dX4_show_27 rfl (lv_at hl 1 rfl) ?_
      refine tg_X4_11 S hI mw_73 dX4_show_28 ?_
      refine lv_iload_n hx hb dX4_show_31 rfl (lv_at hl 2 rfl) ?_
      refine lv_iload_n hx hb dX4_show_32 rfl (lv_at hl 3 rfl) ?_
      refine tk_zast S hI (k := 28) (n := 12) rfl (twa_28 G _) hf dX4_show_33 (fun s4 H locs hI hf => ?_)
      refine lv_iload_n hx hb dX4_show_34 rfl (lv_at hl 0 rfl) ?_
      exact tk_riW S hr hlk hI hf dX4_show_35
  · refine lv_sipush (v := -1001) hx hb dX4_show_8 (by decide) ?_
    exact tk_riW S hr hlk hI hf dX4_show_11
/-! X4_decide -/
abbrev rm_X4_decide : Room := { frames := 2, cells := 0, slots := 0, locals := 43 }
def f_X4_decide (x1 : Int32) (x2 : Int32) (st : tST) : Option (Int32 × tST) := (f_X4_isChange x1 st).bind (fun r1 => (if r1 = 0 then some ((-1001 : Int32), st) else (f_X4_within x2 (0 : Int32) (2 : Int32)).bind (fun r2 => (if r2 = 0 then some ((-1002 : Int32), st) else tal 12 (tg_A st 27) x1 (fun v3 => tas 12 x1 (tp_A st 27 (x1).toNatClampNeg x2) (fun s4 => some (v3, s4)))))))
theorem yd_X4_decide : yX4_decide.cls = RX4 ∧ yX4_decide.cls ≠ "java/lang/invoke/MethodHandle" ∧ yX4_decide.cls ≠ "java/lang/invoke/VarHandle" ∧ (parseMethodDescriptor yX4_decide.desc).map (fun d => d.parameters.length) = some 2 := by decide +kernel
set_option maxHeartbeats 4000000 in
set_option maxRecDepth 100000 in
theorem c_X4_decide (l : Launch) (G : tG) (st : tST) (x1 : Int32) (x2 : Int32) {r : Int32} {st' : tST} (hf : f_X4_decide x1 x2 st = some (r, st')) : tCI l G yX4_decide cX4_decide 4 (some .int) rm_X4_decide [.ref (tad G 19), .int x1, .int x2] st r st' := by
  refine tk_entI (by decide +kernel) (Nat.le_of_ble_eq_true rfl) (fun p e s m below meth c ls S hr hlk hI hl => ?_)
  have hl : lv_has ls 4 [(0, .ref (tad G 19)), (1, .int x1), (2, .int x2)] := hl
  have S : CallFix p m c cX4_decide 4 s [.ref (tad G 19), .int x1, .int x2].toArray wsL_law RX4 := S
  have hx := S.1
  have hb := S.2.1
  have hown := S.2.2.2.1
  have hts := S.2.2.2.2
  unfold f_X4_decide at hf
  refine lv_aload_n hx hb dX4_decide_0 rfl (lv_at hl 0 rfl) ?_
  refine lv_iload_n hx hb dX4_decide_1 rfl (lv_at hl 1 rfl) ?_
  refine tk_bd hf (fun r1 hq hf => ?_)
  refine tk_vI S hI hl.1 (c_X4_isChange l G st x1 hq) (cwV 1 hts (tk_gV mw_289 mw_290 mw_291 mw_5 mw_292) rfl rfl rfl yd_X4_isChange ⟨Nat.le_of_ble_eq_true rfl, Nat.le_of_ble_eq_true rfl⟩) 19 4 rfl rfl rfl rfl [] rfl (Nat.le_of_ble_eq_true rfl) dX4_decide_2 (fun H locs hI => ?_)
  refine tk_if_ne (tgt := 12) hx hb hf dX4_decide_5 (by decide) (fun hf => ?_) (fun hf => ?_)
  · refine lv_iload_n hx hb dX4_decide_12 rfl (lv_at hl 2 rfl) ?_
    refine lv_iconst (v := 0) hx hb dX4_decide_13 (by decide) ?_
    refine lv_iconst (v := 2) hx hb dX4_decide_14 (by decide) ?_
    refine tk_bd hf (fun r2 hq hf => ?_)
    refine tk_sI S hI hl.1 (c_X4_within l G st x2 (0 : Int32) (2 : Int32) hq) (va_cwS 3 hts (tk_gS mw_95 mw_96 mw_5 mw_97) rfl rfl rfl yd_X4_within ⟨Nat.le_of_ble_eq_true rfl, Nat.le_of_ble_eq_true rfl⟩) rfl [] rfl (Nat.le_of_ble_eq_true rfl) dX4_decide_15 (fun H locs hI => ?_)
    refine tk_if_ne (tgt := 25) hx hb hf dX4_decide_18 (by decide) (fun hf => ?_) (fun hf => ?_)
    · refine lv_aload_n hx hb dX4_decide_25 rfl (lv_at hl 0 rfl) ?_
      refine tg_X4_10 S hI mw_71 dX4_decide_26 ?_
      refine lv_iload_n hx hb dX4_decide_29 rfl (lv_at hl 1 rfl) ?_
      refine tk_iald S hI (k := 27) (n := 12) rfl hf dX4_decide_30 (fun v3 hf => ?_)
      refine lv_istore_n (lv' := [(3, .int v3), (0, .ref (tad G 19)), (1, .int x1), (2, .int x2)]) hx hb dX4_decide_31 rfl hl (by decide) rfl (fun ls hl => ?_)
      refine lv_aload_n hx hb dX4_decide_32 rfl (lv_at hl 1 rfl) ?_
      refine tg_X4_10 S hI mw_71 dX4_decide_33 ?_
      refine lv_iload_n hx hb dX4_decide_36 rfl (lv_at hl 2 rfl) ?_
      refine lv_iload_n hx hb dX4_decide_37 rfl (lv_at hl 3 rfl) ?_
      refine tk_iast S hI (k := 27) (n := 12) rfl (twa_27 G _) hf dX4_decide_38 (fun s4 H locs hI hf => ?_)
      refine lv_iload_n hx hb dX4_decide_39 rfl (lv_at hl 0 rfl) ?_
      exact tk_riW S hr hlk hI hf dX4_decide_40
    · refine lv_sipush (v := -1002) hx hb dX4_decide_21 (by decide) ?_
      exact tk_riW S hr hlk hI hf dX4_decide_24
  · refine lv_sipush (v := -1001) hx hb dX4_decide_8 (by decide) ?_
    exact tk_riW S hr hlk hI hf dX4_decide_11
/-! X4_inState -/
abbrev rm_X4_inState : Room := { frames := 0, cells := 0, slots := 0, locals := 0 }
def f_X4_inState_4 (st : tST)  : Nat → Int32 → Int32 → Int32 → Option (Int32)
  | 0, _, _, _ => none
  | n + 1, x1, x2, x3 => (if (tg_I st 107) ≤ x3 then some x2 else tal 12 (tg_A st 27) x3 (fun v1 => (if v1 = x1 then tlet (x2 ||| ((1 : Int32) <<< (x3 &&& (31 : Int32)))) (fun i4 => tlet (x3 + (1 : Int32)) (fun i5 => f_X4_inState_4 st n x1 i4 i5)) else tlet (x2 ||| (0 : Int32)) (fun i2 => tlet (x3 + (1 : Int32)) (fun i3 => f_X4_inState_4 st n x1 i2 i3)))))
def f_X4_inState (x1 : Int32) (st : tST) : Option (Int32) := f_X4_inState_4 st tfu x1 (0 : Int32) (0 : Int32)
theorem yd_X4_inState : yX4_inState.cls = RX4 ∧ yX4_inState.cls ≠ "java/lang/invoke/MethodHandle" ∧ yX4_inState.cls ≠ "java/lang/invoke/VarHandle" ∧ (parseMethodDescriptor yX4_inState.desc).map (fun d => d.parameters.length) = some 1 := by decide +kernel
set_option maxHeartbeats 4000000 in
set_option maxRecDepth 100000 in
theorem k_X4_inState_4 {l : Launch} {G : tG} {p : Program} {e : Env} {s : State} {m : MethodId} {below : List Frame} {meth : Method} {c : Code} {args : Array Value} {r : Int32} {st : tST} (S : CallFix p m c cX4_inState 4 s args wsL_law RX4) (hr : meth.sig.returnType = (some .int)) (hlk : meth.locks = false) : ∀ (n : Nat) (x1 : Int32) (x2 : Int32) (x3 : Int32) (H : Heap) (locs : List Loc) (ls : Array Slot), tIn G (tA G s.heap.size) s st H locs → lv_has ls 4 [(0, .ref (tad G 19)), (1, .int x1), (2, .int x2), (3, .int x3)] → f_X4_inState_4 st n x1 x2 x3 = some r → W p l e rm_X4_inState s m args below meth c H locs 0 0 (tZI G below args s r st) (F0 m 4 ls []) := by
  have hx := S.1
  have hb := S.2.1
  have hown := S.2.2.2.1
  have hts := S.2.2.2.2
  intro n
  induction n with
  | zero => intro x1 x2 x3 H locs ls hI hl hf; exact nomatch (show (none : Option (Int32)) = some _ from hf)
  | succ n ih =>
    intro x1 x2 x3 H locs ls hI hl hf
    rw [f_X4_inState_4] at hf
    refine lv_iload_n hx hb dX4_inState_4 rfl (lv_at hl 3 rfl) ?_
    refine lv_aload_n hx hb dX4_inState_5 rfl (lv_at hl 0 rfl) ?_
    refine tg_X4_7 S hI mw_138 dX4_inState_6 ?_
    refine tk_icmp_ge (tgt := 38) hx hb hf dX4_inState_9 (by decide) (fun hf => ?_) (fun hf => ?_)
    · refine lv_iload_n hx hb dX4_inState_38 rfl (lv_at hl 2 rfl) ?_
      exact tk_riR S hr hlk hI hf dX4_inState_39
    · refine lv_iload_n hx hb dX4_inState_12 rfl (lv_at hl 2 rfl) ?_
      refine lv_aload_n hx hb dX4_inState_13 rfl (lv_at hl 0 rfl) ?_
      refine tg_X4_10 S hI mw_71 dX4_inState_14 ?_
      refine lv_iload_n hx hb dX4_inState_17 rfl (lv_at hl 3 rfl) ?_
      refine tk_iald S hI (k := 27) (n := 12) rfl hf dX4_inState_18 (fun v1 hf => ?_)
      refine lv_iload_n hx hb dX4_inState_19 rfl (lv_at hl 1 rfl) ?_
      refine tk_icmp_ne (tgt := 29) hx hb hf dX4_inState_20 (by decide) (fun hf => ?_) (fun hf => ?_)
      · refine lv_iconst (v := 0) hx hb dX4_inState_29 (by decide) ?_
        refine lv_ior hx hb dX4_inState_30 ?_
        refine tk_topi hf (fun i2 hf => ?_)
        refine lv_istore_n (lv' := [(2, .int i2), (0, .ref (tad G 19)), (1, .int x1), (3, .int x3)]) hx hb dX4_inState_31 rfl hl (by decide) rfl (fun ls hl => ?_)
        refine tk_let hf (fun i3 ei3 hf => ?_)
        refine lv_iinc (v := i3) (lv' := [(3, .int i3), (2, .int i2), (0, .ref (tad G 19)), (1, .int x1)]) hx hb dX4_inState_32 hl (k := 3) rfl (by rw [ei3]; rfl) (by decide) rfl (fun ls hl => ?_)
        refine lv_goto (tgt := 4) hx hb dX4_inState_35 (by decide) ?_
        exact ih x1 i2 i3 _ _ _ hI (lv_sub hl [2, 3, 1, 0] rfl) hf
      · refine lv_iconst (v := 1) hx hb dX4_inState_23 (by decide) ?_
        refine lv_iload_n hx hb dX4_inState_24 rfl (lv_at hl 3 rfl) ?_
        refine lv_ishl hx hb dX4_inState_25 ?_
        refine lv_goto (tgt := 30) hx hb dX4_inState_26 (by decide) ?_
        refine lv_ior hx hb dX4_inState_30 ?_
        refine tk_topi hf (fun i4 hf => ?_)
        refine lv_istore_n (lv' := [(2, .int i4), (0, .ref (tad G 19)), (1, .int x1), (3, .int x3)]) hx hb dX4_inState_31 rfl hl (by decide) rfl (fun ls hl => ?_)
        refine tk_let hf (fun i5 ei5 hf => ?_)
        refine lv_iinc (v := i5) (lv' := [(3, .int i5), (2, .int i4), (0, .ref (tad G 19)), (1, .int x1)]) hx hb dX4_inState_32 hl (k := 3) rfl (by rw [ei5]; rfl) (by decide) rfl (fun ls hl => ?_)
        refine lv_goto (tgt := 4) hx hb dX4_inState_35 (by decide) ?_
        exact ih x1 i4 i5 _ _ _ hI (lv_sub hl [2, 3, 1, 0] rfl) hf
set_option maxHeartbeats 4000000 in
set_option maxRecDepth 100000 in
theorem c_X4_inState (l : Launch) (G : tG) (st : tST) (x1 : Int32) {r : Int32} (hf : f_X4_inState x1 st = some r) : tCI l G yX4_inState cX4_inState 4 (some .int) rm_X4_inState [.ref (tad G 19), .int x1] st r st := by
  refine tk_entI (by decide +kernel) (Nat.le_of_ble_eq_true rfl) (fun p e s m below meth c ls S hr hlk hI hl => ?_)
  have hl : lv_has ls 4 [(0, .ref (tad G 19)), (1, .int x1)] := hl
  have S : CallFix p m c cX4_inState 4 s [.ref (tad G 19), .int x1].toArray wsL_law RX4 := S
  have hx := S.1
  have hb := S.2.1
  have hown := S.2.2.2.1
  have hts := S.2.2.2.2
  unfold f_X4_inState at hf
  refine lv_iconst (v := 0) hx hb dX4_inState_0 (by decide) ?_
  refine lv_istore_n (lv' := [(2, .int (0 : Int32)), (0, .ref (tad G 19)), (1, .int x1)]) hx hb dX4_inState_1 rfl hl (by decide) rfl (fun ls hl => ?_)
  refine lv_iconst (v := 0) hx hb dX4_inState_2 (by decide) ?_
  refine lv_istore_n (lv' := [(3, .int (0 : Int32)), (2, .int (0 : Int32)), (0, .ref (tad G 19)), (1, .int x1)]) hx hb dX4_inState_3 rfl hl (by decide) rfl (fun ls hl => ?_)
  exact k_X4_inState_4 S hr hlk tfu x1 (0 : Int32) (0 : Int32) _ _ _ hI (lv_sub hl [2, 3, 1, 0] rfl) hf
/-! X4_settle -/
abbrev rm_X4_settle : Room := { frames := 4, cells := 0, slots := 0, locals := 90 }
def f_X4_settle_76 : Nat → Int32 → tST → Option (Int32 × tST)
  | 0, _, _ => none
  | n + 1, x1, st => (if (tg_I st 121) ≤ x1 then tlet (tp_I st 120 ((tg_I st 120) + (1 : Int32))) (fun s1 => some ((tg_I s1 102), s1)) else tal 64 (tg_A st 37) x1 (fun v2 => (f_X4_comes v2 (-1 : Int32) (tg_I st 112) st).bind (fun s3 => tlet (x1 + (1 : Int32)) (fun i4 => f_X4_settle_76 n i4 s3))))
def f_X4_settle_23 : Nat → Int32 → tST → Option (Int32 × tST)
  | 0, _, _ => none
  | n + 1, x1, st => (if (tg_I st 121) ≤ x1 then tlet (tp_I st 102 (0 : Int32)) (fun s1 => tlet (tp_I s1 112 (0 : Int32)) (fun s2 => tlet (tp_I s2 107 (0 : Int32)) (fun s3 => f_X4_settle_76 tfu (0 : Int32) s3))) else tal 64 (tg_A st 35) x1 (fun v4 => tal 90 (tg_A st 29) v4 (fun v5 => tal 64 (tg_A st 21) v5 (fun v6 => tas 64 x1 (tp_A st 37 (x1).toNatClampNeg v6) (fun s7 => tlet (x1 + (1 : Int32)) (fun i8 => f_X4_settle_23 n i8 s7))))))
def f_X4_settle (st : tST) : Option (Int32 × tST) := (f_X4_inState (0 : Int32) st).bind (fun r1 => (if r1 = 0 then (f_X4_setOf (0 : Int32) st).bind (fun r2 => (f_X4_layRead r2 st).bind (fun s3 => f_X4_settle_23 tfu (0 : Int32) s3)) else some ((-1003 : Int32), st)))
theorem yd_X4_settle : yX4_settle.cls = RX4 ∧ yX4_settle.cls ≠ "java/lang/invoke/MethodHandle" ∧ yX4_settle.cls ≠ "java/lang/invoke/VarHandle" ∧ (parseMethodDescriptor yX4_settle.desc).map (fun d => d.parameters.length) = some 0 := by decide +kernel
set_option maxHeartbeats 4000000 in
set_option maxRecDepth 100000 in
theorem k_X4_settle_76 {l : Launch} {G : tG} {p : Program} {e : Env} {s : State} {m : MethodId} {below : List Frame} {meth : Method} {c : Code} {args : Array Value} {r : Int32} {st' : tST} (S : CallFix p m c cX4_settle 2 s args wsL_law RX4) (hr : meth.sig.returnType = (some .int)) (hlk : meth.locks = false) : ∀ (n : Nat) (x1 : Int32) (st : tST) (H : Heap) (locs : List Loc) (ls : Array Slot), tIn G (tA G s.heap.size) s st H locs → lv_has ls 2 [(0, .ref (tad G 19)), (1, .int x1)] → f_X4_settle_76 n x1 st = some (r, st') → W p l e rm_X4_settle s m args below meth c H locs 0 0 (tZI G below args s r st') (F0 m 76 ls []) := by
  have hx := S.1
  have hb := S.2.1
  have hown := S.2.2.2.1
  have hts := S.2.2.2.2
  intro n
  induction n with
  | zero => intro x1 st H locs ls hI hl hf; exact nomatch (show (none : Option (Int32 × tST)) = some _ from hf)
  | succ n ih =>
    intro x1 st H locs ls hI hl hf
    rw [f_X4_settle_76] at hf
    refine lv_iload_n hx hb dX4_settle_76 rfl (lv_at hl 1 rfl) ?_
    refine lv_aload_n hx hb dX4_settle_77 rfl (lv_at hl 0 rfl) ?_
    refine tg_X4_21 S hI mw_213 dX4_settle_78 ?_
    refine tk_icmp_ge (tgt := 105) hx hb hf dX4_settle_81 (by decide) (fun hf => ?_) (fun hf => ?_)
    · refine lv_aload_n hx hb dX4_settle_105 rfl (lv_at hl 0 rfl) ?_
      refine lv_dup hx hb dX4_settle_106 rfl ?_
      refine tg_X4_20 S hI mw_310 dX4_settle_107 ?_
      refine lv_iconst (v := 1) hx hb dX4_settle_110 (by decide) ?_
      refine lv_iadd hx hb dX4_settle_111 ?_
      refine tp_X4_20 S hI mw_310 hf dX4_settle_112 (fun s1 H locs hI hf => ?_)
      refine lv_aload_n hx hb dX4_settle_115 rfl (lv_at hl 0 rfl) ?_
      refine tg_X4_2 S hI mw_136 dX4_settle_116 ?_
      exact tk_riW S hr hlk hI hf dX4_settle_119
    · refine lv_aload_n hx hb dX4_settle_84 rfl (lv_at hl 0 rfl) ?_
      refine lv_aload_n hx hb dX4_settle_85 rfl (lv_at hl 0 rfl) ?_
      refine tg_X4_24 S hI mw_82 dX4_settle_86 ?_
      refine lv_iload_n hx hb dX4_settle_89 rfl (lv_at hl 1 rfl) ?_
      refine tk_iald S hI (k := 37) (n := 64) rfl hf dX4_settle_90 (fun v2 hf => ?_)
      refine lv_iconst (v := -1) hx hb dX4_settle_91 (by decide) ?_
      refine lv_aload_n hx hb dX4_settle_92 rfl (lv_at hl 0 rfl) ?_
      refine tg_X4_12 S hI mw_137 dX4_settle_93 ?_
      refine tk_bd hf (fun s3 hq hf => ?_)
      refine tk_vV S hI hl.1 (c_X4_comes l G st v2 (-1 : Int32) (tg_I st 112) hq) (cwV 3 hts (tk_gV mw_140 mw_141 mw_142 mw_5 mw_143) rfl rfl rfl yd_X4_comes ⟨Nat.le_of_ble_eq_true rfl, Nat.le_of_ble_eq_true rfl⟩) 19 4 rfl rfl rfl rfl [] rfl (Nat.le_of_ble_eq_true rfl) dX4_settle_96 (fun H locs hI => ?_)
      refine tk_let hf (fun i4 ei4 hf => ?_)
      refine lv_iinc (v := i4) (lv' := [(1, .int i4), (0, .ref (tad G 19))]) hx hb dX4_settle_99 hl (k := 1) rfl (by rw [ei4]; rfl) (by decide) rfl (fun ls hl => ?_)
      refine lv_goto (tgt := 76) hx hb dX4_settle_102 (by decide) ?_
      exact ih i4 s3 _ _ _ hI (lv_sub hl [1, 0] rfl) hf
set_option maxHeartbeats 4000000 in
set_option maxRecDepth 100000 in
theorem k_X4_settle_23 {l : Launch} {G : tG} {p : Program} {e : Env} {s : State} {m : MethodId} {below : List Frame} {meth : Method} {c : Code} {args : Array Value} {r : Int32} {st' : tST} (S : CallFix p m c cX4_settle 2 s args wsL_law RX4) (hr : meth.sig.returnType = (some .int)) (hlk : meth.locks = false) : ∀ (n : Nat) (x1 : Int32) (st : tST) (H : Heap) (locs : List Loc) (ls : Array Slot), tIn G (tA G s.heap.size) s st H locs → lv_has ls 2 [(0, .ref (tad G 19)), (1, .int x1)] → f_X4_settle_23 n x1 st = some (r, st') → W p l e rm_X4_settle s m args below meth c H locs 0 0 (tZI G below args s r st') (F0 m 23 ls []) := by
  have hx := S.1
  have hb := S.2.1
  have hown := S.2.2.2.1
  have hts := S.2.2.2.2
  intro n
  induction n with
  | zero => intro x1 st H locs ls hI hl hf; exact nomatch (show (none : Option (Int32 × tST)) = some _ from hf)
  | succ n ih =>
    intro x1 st H locs ls hI hl hf
    rw [f_X4_settle_23] at hf
    refine lv_iload_n hx hb dX4_settle_23 rfl (lv_at hl 1 rfl) ?_
    refine lv_aload_n hx hb dX4_settle_24 rfl (lv_at hl 0 rfl) ?_
    refine tg_X4_21 S hI mw_213 dX4_settle_25 ?_
    refine tk_icmp_ge (tgt := 59) hx hb hf dX4_settle_28 (by decide) (fun hf => ?_) (fun hf => ?_)
    · refine lv_aload_n hx hb dX4_settle_59 rfl (lv_at hl 0 rfl) ?_
      refine lv_iconst (v := 0) hx hb dX4_settle_60 (by decide) ?_
      refine tp_X4_2 S hI mw_136 hf dX4_settle_61 (fun s1 H locs hI hf => ?_)
      refine lv_aload_n hx hb dX4_settle_64 rfl (lv_at hl 0 rfl) ?_
      refine lv_iconst (v := 0) hx hb dX4_settle_65 (by decide) ?_
      refine tp_X4_12 S hI mw_137 hf dX4_settle_66 (fun s2 H locs hI hf => ?_)
      refine lv_aload_n hx hb dX4_settle_69 rfl (lv_at hl 0 rfl) ?_
      refine lv_iconst (v := 0) hx hb dX4_settle_70 (by decide) ?_
      refine tp_X4_7 S hI mw_138 hf dX4_settle_71 (fun s3 H locs hI hf => ?_)
      refine lv_iconst (v := 0) hx hb dX4_settle_74 (by decide) ?_
      refine lv_istore_n (lv' := [(1, .int (0 : Int32)), (0, .ref (tad G 19))]) hx hb dX4_settle_75 rfl hl (by decide) rfl (fun ls hl => ?_)
      exact k_X4_settle_76 S hr hlk tfu (0 : Int32) s3 _ _ _ hI (lv_sub hl [1, 0] rfl) hf
    · refine lv_aload_n hx hb dX4_settle_31 rfl (lv_at hl 0 rfl) ?_
      refine tg_X4_24 S hI mw_82 dX4_settle_32 ?_
      refine lv_iload_n hx hb dX4_settle_35 rfl (lv_at hl 1 rfl) ?_
      refine lv_aload_n hx hb dX4_settle_36 rfl (lv_at hl 0 rfl) ?_
      refine tg_X4_3 S hI mw_65 dX4_settle_37 ?_
      refine lv_aload_n hx hb dX4_settle_40 rfl (lv_at hl 0 rfl) ?_
      refine tg_X4_13 S hI mw_74 dX4_settle_41 ?_
      refine lv_aload_n hx hb dX4_settle_44 rfl (lv_at hl 0 rfl) ?_
      refine tg_X4_22 S hI mw_80 dX4_settle_45 ?_
      refine lv_iload_n hx hb dX4_settle_48 rfl (lv_at hl 1 rfl) ?_
      refine tk_iald S hI (k := 35) (n := 64) rfl hf dX4_settle_49 (fun v4 hf => ?_)
      refine tk_iald S hI (k := 29) (n := 90) rfl hf dX4_settle_50 (fun v5 hf => ?_)
      refine tk_iald S hI (k := 21) (n := 64) rfl hf dX4_settle_51 (fun v6 hf => ?_)
      refine tk_iast S hI (k := 37) (n := 64) rfl (twa_37 G _) hf dX4_settle_52 (fun s7 H locs hI hf => ?_)
      refine tk_let hf (fun i8 ei8 hf => ?_)
      refine lv_iinc (v := i8) (lv' := [(1, .int i8), (0, .ref (tad G 19))]) hx hb dX4_settle_53 hl (k := 1) rfl (by rw [ei8]; rfl) (by decide) rfl (fun ls hl => ?_)
      refine lv_goto (tgt := 23) hx hb dX4_settle_56 (by decide) ?_
      exact ih i8 s7 _ _ _ hI (lv_sub hl [1, 0] rfl) hf
set_option maxHeartbeats 4000000 in
set_option maxRecDepth 100000 in
theorem c_X4_settle (l : Launch) (G : tG) (st : tST) {r : Int32} {st' : tST} (hf : f_X4_settle st = some (r, st')) : tCI l G yX4_settle cX4_settle 2 (some .int) rm_X4_settle [.ref (tad G 19)] st r st' := by
  refine tk_entI (by decide +kernel) (Nat.le_of_ble_eq_true rfl) (fun p e s m below meth c ls S hr hlk hI hl => ?_)
  have hl : lv_has ls 2 [(0, .ref (tad G 19))] := hl
  have S : CallFix p m c cX4_settle 2 s [.ref (tad G 19)].toArray wsL_law RX4 := S
  have hx := S.1
  have hb := S.2.1
  have hown := S.2.2.2.1
  have hts := S.2.2.2.2
  unfold f_X4_settle at hf
  refine lv_aload_n hx hb dX4_settle_0 rfl (lv_at hl 0 rfl) ?_
  refine lv_iconst (v := 0) hx hb dX4_settle_1 (by decide) ?_
  refine tk_bd hf (fun r1 hq hf => ?_)
  refine tk_vI S hI hl.1 (c_X4_inState l G st (0 : Int32) hq) (cwV 1 hts (tk_gV mw_311 mw_312 mw_313 mw_5 mw_314) rfl rfl rfl yd_X4_inState ⟨Nat.le_of_ble_eq_true rfl, Nat.le_of_ble_eq_true rfl⟩) 19 4 rfl rfl rfl rfl [] rfl (Nat.le_of_ble_eq_true rfl) dX4_settle_2 (fun H locs hI => ?_)
  refine tk_if_eq (tgt := 12) hx hb hf dX4_settle_5 (by decide) (fun hf => ?_) (fun hf => ?_)
  · refine lv_aload_n hx hb dX4_settle_12 rfl (lv_at hl 0 rfl) ?_
    refine lv_aload_n hx hb dX4_settle_13 rfl (lv_at hl 0 rfl) ?_
    refine lv_iconst (v := 0) hx hb dX4_settle_14 (by decide) ?_
    refine tk_bd hf (fun r2 hq hf => ?_)
    refine tk_vI S hI hl.1 (c_X4_setOf l G st (0 : Int32) hq) (cwV 1 hts (tk_gV mw_217 mw_218 mw_219 mw_5 mw_220) rfl rfl rfl yd_X4_setOf ⟨Nat.le_of_ble_eq_true rfl, Nat.le_of_ble_eq_true rfl⟩) 19 4 rfl rfl rfl rfl [.ref (tad G 19)] rfl (Nat.le_of_ble_eq_true rfl) dX4_settle_15 (fun H locs hI => ?_)
    refine tk_bd hf (fun s3 hq hf => ?_)
    refine tk_vV S hI hl.1 (c_X4_layRead l G st r2 hq) (cwV 1 hts (tk_gV mw_221 mw_222 mw_223 mw_5 mw_224) rfl rfl rfl yd_X4_layRead ⟨Nat.le_of_ble_eq_true rfl, Nat.le_of_ble_eq_true rfl⟩) 19 4 rfl rfl rfl rfl [] rfl (Nat.le_of_ble_eq_true rfl) dX4_settle_18 (fun H locs hI => ?_)
    refine lv_iconst (v := 0) hx hb dX4_settle_21 (by decide) ?_
    refine lv_istore_n (lv' := [(1, .int (0 : Int32)), (0, .ref (tad G 19))]) hx hb dX4_settle_22 rfl hl (by decide) rfl (fun ls hl => ?_)
    exact k_X4_settle_23 S hr hlk tfu (0 : Int32) s3 _ _ _ hI (lv_sub hl [1, 0] rfl) hf
  · refine lv_sipush (v := -1003) hx hb dX4_settle_8 (by decide) ?_
    exact tk_riW S hr hlk hI hf dX4_settle_11
/-! X4_isView -/
abbrev rm_X4_isView : Room := { frames := 1, cells := 0, slots := 0, locals := 22 }
def f_X4_isView (x0 : Int32) : Option (Int32) := (f_X4_within x0 (0 : Int32) (5 : Int32)).bind (fun r1 => tzr r1 (some r1))
theorem yd_X4_isView : yX4_isView.cls ≠ "java/lang/invoke/MethodHandle" ∧ yX4_isView.cls ≠ "java/lang/invoke/VarHandle" ∧ (parseMethodDescriptor yX4_isView.desc).map (fun d => d.parameters.length) = some 1 := by decide +kernel
set_option maxHeartbeats 4000000 in
set_option maxRecDepth 100000 in
theorem c_X4_isView (l : Launch) (G : tG) (st : tST) (x0 : Int32) {r : Int32} (hf : f_X4_isView x0 = some r) : tCI l G yX4_isView cX4_isView 1 (some .boolean) rm_X4_isView [.int x0] st r st := by
  refine tk_entI (by decide +kernel) (Nat.le_of_ble_eq_true rfl) (fun p e s m below meth c ls S hr hlk hI hl => ?_)
  have hl : lv_has ls 1 [(0, .int x0)] := hl
  have S : CallFix p m c cX4_isView 1 s [.int x0].toArray wsL_law RX4 := S
  have hx := S.1
  have hb := S.2.1
  have hown := S.2.2.2.1
  have hts := S.2.2.2.2
  unfold f_X4_isView at hf
  refine lv_iload_n hx hb dX4_isView_0 rfl (lv_at hl 0 rfl) ?_
  refine lv_iconst (v := 0) hx hb dX4_isView_1 (by decide) ?_
  refine lv_iconst (v := 5) hx hb dX4_isView_2 (by decide) ?_
  refine tk_bd hf (fun r1 hq hf => ?_)
  refine tk_sI S hI hl.1 (c_X4_within l G st x0 (0 : Int32) (5 : Int32) hq) (va_cwS 3 hts (tk_gS mw_95 mw_96 mw_5 mw_97) rfl rfl rfl yd_X4_within ⟨Nat.le_of_ble_eq_true rfl, Nat.le_of_ble_eq_true rfl⟩) rfl [] rfl (Nat.le_of_ble_eq_true rfl) dX4_isView_3 (fun H locs hI => ?_)
  exact tk_rzR S hr hlk hI hf dX4_isView_6
