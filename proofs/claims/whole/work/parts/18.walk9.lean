/-! X4_change -/
abbrev rm_X4_change : Room := { frames := 6, cells := 0, slots := 0, locals := 139 }
def f_X4_change (x1 : Int32) (x2 : Int32) (st : tST) : Option (Int32) := (f_X4_isChange x1 st).bind (fun r1 => (if r1 = 0 then some (-1001 : Int32) else (f_X4_within x2 (0 : Int32) (6 : Int32)).bind (fun r2 => (if r2 = 0 then some (-1002 : Int32) else (f_X4_changeNow x1 x2 st).bind (fun r3 => some r3)))))
theorem yd_X4_change : yX4_change.cls = RX4 ∧ yX4_change.cls ≠ "java/lang/invoke/MethodHandle" ∧ yX4_change.cls ≠ "java/lang/invoke/VarHandle" ∧ (parseMethodDescriptor yX4_change.desc).map (fun d => d.parameters.length) = some 2 := by decide +kernel
set_option maxHeartbeats 4000000 in
set_option maxRecDepth 100000 in
theorem c_X4_change (l : Launch) (G : tG) (st : tST) (x1 : Int32) (x2 : Int32) {r : Int32} (hf : f_X4_change x1 x2 st = some r) : tCI l G yX4_change cX4_change 3 (some .int) rm_X4_change [.ref (tad G 19), .int x1, .int x2] st r st := by
  refine tk_entI (by decide +kernel) (Nat.le_of_ble_eq_true rfl) (fun p e s m below meth c ls S hr hlk hI hl => ?_)
  have hl : lv_has ls 3 [(0, .ref (tad G 19)), (1, .int x1), (2, .int x2)] := hl
  have S : CallFix p m c cX4_change 3 s [.ref (tad G 19), .int x1, .int x2].toArray wsL_law RX4 := S
  have hx := S.1
  have hb := S.2.1
  have hown := S.2.2.2.1
  have hts := S.2.2.2.2
  unfold f_X4_change at hf
  refine lv_aload_n hx hb dX4_change_0 rfl (lv_at hl 0 rfl) ?_
  refine lv_iload_n hx hb dX4_change_1 rfl (lv_at hl 1 rfl) ?_
  refine tk_bd hf (fun r1 hq hf => ?_)
  refine tk_vI S hI hl.1 (c_X4_isChange l G st x1 hq) (cwV 1 hts (tk_gV mw_289 mw_290 mw_291 mw_5 mw_292) rfl rfl rfl yd_X4_isChange ⟨Nat.le_of_ble_eq_true rfl, Nat.le_of_ble_eq_true rfl⟩) 19 4 rfl rfl rfl rfl [] rfl (Nat.le_of_ble_eq_true rfl) dX4_change_2 (fun H locs hI => ?_)
  refine tk_if_ne (tgt := 12) hx hb hf dX4_change_5 (by decide) (fun hf => ?_) (fun hf => ?_)
  · refine lv_iload_n hx hb dX4_change_12 rfl (lv_at hl 2 rfl) ?_
    refine lv_iconst (v := 0) hx hb dX4_change_13 (by decide) ?_
    refine lv_bipush (v := 6) hx hb dX4_change_14 (by decide) ?_
    refine tk_bd hf (fun r2 hq hf => ?_)
    refine tk_sI S hI hl.1 (c_X4_within l G st x2 (0 : Int32) (6 : Int32) hq) (va_cwS 3 hts (tk_gS mw_95 mw_96 mw_5 mw_97) rfl rfl rfl yd_X4_within ⟨Nat.le_of_ble_eq_true rfl, Nat.le_of_ble_eq_true rfl⟩) rfl [] rfl (Nat.le_of_ble_eq_true rfl) dX4_change_16 (fun H locs hI => ?_)
    refine tk_if_eq (tgt := 31) hx hb hf dX4_change_19 (by decide) (fun hf => ?_) (fun hf => ?_)
    · refine lv_sipush (v := -1002) hx hb dX4_change_31 (by decide) ?_
      exact tk_riR S hr hlk hI hf dX4_change_34
    · refine lv_aload_n hx hb dX4_change_22 rfl (lv_at hl 0 rfl) ?_
      refine lv_iload_n hx hb dX4_change_23 rfl (lv_at hl 1 rfl) ?_
      refine lv_iload_n hx hb dX4_change_24 rfl (lv_at hl 2 rfl) ?_
      refine tk_bd hf (fun r3 hq hf => ?_)
      refine tk_vI S hI hl.1 (c_X4_changeNow l G st x1 x2 hq) (cwV 2 hts (tk_gV mw_422 mw_423 mw_424 mw_5 mw_425) rfl rfl rfl yd_X4_changeNow ⟨Nat.le_of_ble_eq_true rfl, Nat.le_of_ble_eq_true rfl⟩) 19 4 rfl rfl rfl rfl [] rfl (Nat.le_of_ble_eq_true rfl) dX4_change_25 (fun H locs hI => ?_)
      refine lv_goto (tgt := 34) hx hb dX4_change_28 (by decide) ?_
      exact tk_riR S hr hlk hI hf dX4_change_34
  · refine lv_sipush (v := -1001) hx hb dX4_change_8 (by decide) ?_
    exact tk_riR S hr hlk hI hf dX4_change_11
/-! X4_laySpans -/
abbrev rm_X4_laySpans : Room := { frames := 5, cells := 0, slots := 0, locals := 114 }
def f_X4_laySpans_7 : Nat → Int32 → tST → Option (tST)
  | 0, _, _ => none
  | n + 1, x1, st => (if (tg_I st 112) ≤ x1 then some st else tal 90 (tg_A st 32) x1 (fun v1 => (f_X4_markOf v1 st).bind (fun r2 => (if (3 : Int32) ≤ r2 then (if (3 : Int32) ≤ r2 then tlet (x1 + (1 : Int32)) (fun i3 => f_X4_laySpans_7 n i3 st) else tal 90 (tg_A st 39) ((tg_I st 125) - (1 : Int32)) (fun v4 => tas 90 ((tg_I st 125) - (1 : Int32)) (tp_A st 39 (((tg_I st 125) - (1 : Int32))).toNatClampNeg (v4 + (1 : Int32))) (fun s5 => tlet (x1 + (1 : Int32)) (fun i6 => f_X4_laySpans_7 n i6 s5)))) else (if (tg_I st 125) = 0 then tas 90 (tg_I st 125) (tp_A st 38 ((tg_I st 125)).toNatClampNeg r2) (fun s7 => tas 90 (tg_I s7 125) (tp_A s7 39 ((tg_I s7 125)).toNatClampNeg (0 : Int32)) (fun s8 => tas 90 (tg_I s8 125) (tp_A s8 40 ((tg_I s8 125)).toNatClampNeg x1) (fun s9 => tlet (tp_I s9 125 ((tg_I s9 125) + (1 : Int32))) (fun s10 => (if (3 : Int32) ≤ r2 then tlet (x1 + (1 : Int32)) (fun i11 => f_X4_laySpans_7 n i11 s10) else tal 90 (tg_A s10 39) ((tg_I s10 125) - (1 : Int32)) (fun v12 => tas 90 ((tg_I s10 125) - (1 : Int32)) (tp_A s10 39 (((tg_I s10 125) - (1 : Int32))).toNatClampNeg (v12 + (1 : Int32))) (fun s13 => tlet (x1 + (1 : Int32)) (fun i14 => f_X4_laySpans_7 n i14 s13)))))))) else tal 90 (tg_A st 38) ((tg_I st 125) - (1 : Int32)) (fun v15 => (if v15 = r2 then (if (3 : Int32) ≤ r2 then tlet (x1 + (1 : Int32)) (fun i16 => f_X4_laySpans_7 n i16 st) else tal 90 (tg_A st 39) ((tg_I st 125) - (1 : Int32)) (fun v17 => tas 90 ((tg_I st 125) - (1 : Int32)) (tp_A st 39 (((tg_I st 125) - (1 : Int32))).toNatClampNeg (v17 + (1 : Int32))) (fun s18 => tlet (x1 + (1 : Int32)) (fun i19 => f_X4_laySpans_7 n i19 s18)))) else tas 90 (tg_I st 125) (tp_A st 38 ((tg_I st 125)).toNatClampNeg r2) (fun s20 => tas 90 (tg_I s20 125) (tp_A s20 39 ((tg_I s20 125)).toNatClampNeg (0 : Int32)) (fun s21 => tas 90 (tg_I s21 125) (tp_A s21 40 ((tg_I s21 125)).toNatClampNeg x1) (fun s22 => tlet (tp_I s22 125 ((tg_I s22 125) + (1 : Int32))) (fun s23 => (if (3 : Int32) ≤ r2 then tlet (x1 + (1 : Int32)) (fun i24 => f_X4_laySpans_7 n i24 s23) else tal 90 (tg_A s23 39) ((tg_I s23 125) - (1 : Int32)) (fun v25 => tas 90 ((tg_I s23 125) - (1 : Int32)) (tp_A s23 39 (((tg_I s23 125) - (1 : Int32))).toNatClampNeg (v25 + (1 : Int32))) (fun s26 => tlet (x1 + (1 : Int32)) (fun i27 => f_X4_laySpans_7 n i27 s26)))))))))))))))
def f_X4_laySpans (st : tST) : Option (tST) := tlet (tp_I st 125 (0 : Int32)) (fun s1 => f_X4_laySpans_7 tfu (0 : Int32) s1)
theorem yd_X4_laySpans : yX4_laySpans.cls = RX4 ∧ yX4_laySpans.cls ≠ "java/lang/invoke/MethodHandle" ∧ yX4_laySpans.cls ≠ "java/lang/invoke/VarHandle" ∧ (parseMethodDescriptor yX4_laySpans.desc).map (fun d => d.parameters.length) = some 0 := by decide +kernel
set_option maxHeartbeats 4000000 in
set_option maxRecDepth 100000 in
theorem k_X4_laySpans_7 {l : Launch} {G : tG} {p : Program} {e : Env} {s : State} {m : MethodId} {below : List Frame} {meth : Method} {c : Code} {args : Array Value} {st' : tST} (S : CallFix p m c cX4_laySpans 4 s args wsL_law RX4) (hr : meth.sig.returnType = none) (hlk : meth.locks = false) : ∀ (n : Nat) (x1 : Int32) (st : tST) (H : Heap) (locs : List Loc) (ls : Array Slot), tIn G (tA G s.heap.size) s st H locs → lv_has ls 4 [(0, .ref (tad G 19)), (1, .int x1)] → f_X4_laySpans_7 n x1 st = some st' → W p l e rm_X4_laySpans s m args below meth c H locs 0 0 (tZV G below args s st') (F0 m 7 ls []) := by
  have hx := S.1
  have hb := S.2.1
  have hown := S.2.2.2.1
  have hts := S.2.2.2.2
  intro n
  induction n with
  | zero => intro x1 st H locs ls hI hl hf; exact nomatch (show (none : Option (tST)) = some _ from hf)
  | succ n ih =>
    intro x1 st H locs ls hI hl hf
    rw [f_X4_laySpans_7] at hf
    refine lv_iload_n hx hb dX4_laySpans_7 rfl (lv_at hl 1 rfl) ?_
    refine lv_aload_n hx hb dX4_laySpans_8 rfl (lv_at hl 0 rfl) ?_
    refine tg_X4_12 S hI mw_137 dX4_laySpans_9 ?_
    refine tk_icmp_ge (tgt := 129) hx hb hf dX4_laySpans_12 (by decide) (fun hf => ?_) (fun hf => ?_)
    · exact tk_rvW S hr hlk hI hf dX4_laySpans_129
    · refine lv_aload_n hx hb dX4_laySpans_15 rfl (lv_at hl 0 rfl) ?_
      refine lv_aload_n hx hb dX4_laySpans_16 rfl (lv_at hl 0 rfl) ?_
      refine tg_X4_16 S hI mw_77 dX4_laySpans_17 ?_
      refine lv_iload_n hx hb dX4_laySpans_20 rfl (lv_at hl 1 rfl) ?_
      refine tk_iald S hI (k := 32) (n := 90) rfl hf dX4_laySpans_21 (fun v1 hf => ?_)
      refine tk_bd hf (fun r2 hq hf => ?_)
      refine tk_vI S hI hl.1 (c_X4_markOf l G st v1 hq) (cwV 1 hts (tk_gV mw_382 mw_383 mw_384 mw_5 mw_385) rfl rfl rfl yd_X4_markOf ⟨Nat.le_of_ble_eq_true rfl, Nat.le_of_ble_eq_true rfl⟩) 19 4 rfl rfl rfl rfl [] rfl (Nat.le_of_ble_eq_true rfl) dX4_laySpans_22 (fun H locs hI => ?_)
      refine lv_istore_n (lv' := [(2, .int r2), (0, .ref (tad G 19)), (1, .int x1)]) hx hb dX4_laySpans_25 rfl hl (by decide) rfl (fun ls hl => ?_)
      refine lv_iload_n hx hb dX4_laySpans_26 rfl (lv_at hl 0 rfl) ?_
      refine lv_iconst (v := 3) hx hb dX4_laySpans_27 (by decide) ?_
      refine tk_icmp_ge (tgt := 57) hx hb hf dX4_laySpans_28 (by decide) (fun hf => ?_) (fun hf => ?_)
      · refine lv_iconst (v := 0) hx hb dX4_laySpans_57 (by decide) ?_
        refine lv_istore_n (lv' := [(3, .int (0 : Int32)), (2, .int r2), (0, .ref (tad G 19)), (1, .int x1)]) hx hb dX4_laySpans_58 rfl hl (by decide) rfl (fun ls hl => ?_)
        refine lv_iload_n hx hb dX4_laySpans_59 rfl (lv_at hl 0 rfl) ?_
        refine lv_if_eq (tgt := 103) hx hb dX4_laySpans_60 (by decide) (fun _ => ?_) (fun h => absurd h (by decide))
        refine lv_iload_n hx hb dX4_laySpans_103 rfl (lv_at hl 1 rfl) ?_
        refine lv_iconst (v := 3) hx hb dX4_laySpans_104 (by decide) ?_
        refine tk_icmp_ge (tgt := 123) hx hb hf dX4_laySpans_105 (by decide) (fun hf => ?_) (fun hf => ?_)
        · refine tk_let hf (fun i3 ei3 hf => ?_)
          refine lv_iinc (v := i3) (lv' := [(1, .int i3), (3, .int (0 : Int32)), (2, .int r2), (0, .ref (tad G 19))]) hx hb dX4_laySpans_123 hl (k := 3) rfl (by rw [ei3]; rfl) (by decide) rfl (fun ls hl => ?_)
          refine lv_goto (tgt := 7) hx hb dX4_laySpans_126 (by decide) ?_
          exact ih i3 st _ _ _ hI (lv_sub hl [3, 0] rfl) hf
        · refine lv_aload_n hx hb dX4_laySpans_108 rfl (lv_at hl 2 rfl) ?_
          refine tg_X4_27 S hI mw_84 dX4_laySpans_109 ?_
          refine lv_aload_n hx hb dX4_laySpans_112 rfl (lv_at hl 2 rfl) ?_
          refine tg_X4_25 S hI mw_463 dX4_laySpans_113 ?_
          refine lv_iconst (v := 1) hx hb dX4_laySpans_116 (by decide) ?_
          refine lv_isub hx hb dX4_laySpans_117 ?_
          refine lv_dup2_11 hx hb dX4_laySpans_118 rfl rfl ?_
          refine tk_iald S hI (k := 39) (n := 90) rfl hf dX4_laySpans_119 (fun v4 hf => ?_)
          refine lv_iconst (v := 1) hx hb dX4_laySpans_120 (by decide) ?_
          refine lv_iadd hx hb dX4_laySpans_121 ?_
          refine tk_iast S hI (k := 39) (n := 90) rfl (twa_39 G _) hf dX4_laySpans_122 (fun s5 H locs hI hf => ?_)
          refine tk_let hf (fun i6 ei6 hf => ?_)
          refine lv_iinc (v := i6) (lv' := [(1, .int i6), (3, .int (0 : Int32)), (2, .int r2), (0, .ref (tad G 19))]) hx hb dX4_laySpans_123 hl (k := 3) rfl (by rw [ei6]; rfl) (by decide) rfl (fun ls hl => ?_)
          refine lv_goto (tgt := 7) hx hb dX4_laySpans_126 (by decide) ?_
          exact ih i6 s5 _ _ _ hI (lv_sub hl [3, 0] rfl) hf
      · refine lv_aload_n hx hb dX4_laySpans_31 rfl (lv_at hl 1 rfl) ?_
        refine tg_X4_25 S hI mw_463 dX4_laySpans_32 ?_
        refine tk_if_eq (tgt := 53) hx hb hf dX4_laySpans_35 (by decide) (fun hf => ?_) (fun hf => ?_)
        · refine lv_iconst (v := 1) hx hb dX4_laySpans_53 (by decide) ?_
          refine lv_goto (tgt := 58) hx hb dX4_laySpans_54 (by decide) ?_
          refine lv_istore_n (lv' := [(3, .int (1 : Int32)), (2, .int r2), (0, .ref (tad G 19)), (1, .int x1)]) hx hb dX4_laySpans_58 rfl hl (by decide) rfl (fun ls hl => ?_)
          refine lv_iload_n hx hb dX4_laySpans_59 rfl (lv_at hl 0 rfl) ?_
          refine lv_if_eq (tgt := 103) hx hb dX4_laySpans_60 (by decide) (fun h => absurd h (by decide)) (fun _ => ?_)
          refine lv_aload_n hx hb dX4_laySpans_63 rfl (lv_at hl 2 rfl) ?_
          refine tg_X4_26 S hI mw_83 dX4_laySpans_64 ?_
          refine lv_aload_n hx hb dX4_laySpans_67 rfl (lv_at hl 2 rfl) ?_
          refine tg_X4_25 S hI mw_463 dX4_laySpans_68 ?_
          refine lv_iload_n hx hb dX4_laySpans_71 rfl (lv_at hl 1 rfl) ?_
          refine tk_iast S hI (k := 38) (n := 90) rfl (twa_38 G _) hf dX4_laySpans_72 (fun s7 H locs hI hf => ?_)
          refine lv_aload_n hx hb dX4_laySpans_73 rfl (lv_at hl 2 rfl) ?_
          refine tg_X4_27 S hI mw_84 dX4_laySpans_74 ?_
          refine lv_aload_n hx hb dX4_laySpans_77 rfl (lv_at hl 2 rfl) ?_
          refine tg_X4_25 S hI mw_463 dX4_laySpans_78 ?_
          refine lv_iconst (v := 0) hx hb dX4_laySpans_81 (by decide) ?_
          refine tk_iast S hI (k := 39) (n := 90) rfl (twa_39 G _) hf dX4_laySpans_82 (fun s8 H locs hI hf => ?_)
          refine lv_aload_n hx hb dX4_laySpans_83 rfl (lv_at hl 2 rfl) ?_
          refine tg_X4_28 S hI mw_85 dX4_laySpans_84 ?_
          refine lv_aload_n hx hb dX4_laySpans_87 rfl (lv_at hl 2 rfl) ?_
          refine tg_X4_25 S hI mw_463 dX4_laySpans_88 ?_
          refine lv_iload_n hx hb dX4_laySpans_91 rfl (lv_at hl 3 rfl) ?_
          refine tk_iast S hI (k := 40) (n := 90) rfl (twa_40 G _) hf dX4_laySpans_92 (fun s9 H locs hI hf => ?_)
          refine lv_aload_n hx hb dX4_laySpans_93 rfl (lv_at hl 2 rfl) ?_
          refine lv_dup hx hb dX4_laySpans_94 rfl ?_
          refine tg_X4_25 S hI mw_463 dX4_laySpans_95 ?_
          refine lv_iconst (v := 1) hx hb dX4_laySpans_98 (by decide) ?_
          refine lv_iadd hx hb dX4_laySpans_99 ?_
          refine tp_X4_25 S hI mw_463 hf dX4_laySpans_100 (fun s10 H locs hI hf => ?_)
          refine lv_iload_n hx hb dX4_laySpans_103 rfl (lv_at hl 1 rfl) ?_
          refine lv_iconst (v := 3) hx hb dX4_laySpans_104 (by decide) ?_
          refine tk_icmp_ge (tgt := 123) hx hb hf dX4_laySpans_105 (by decide) (fun hf => ?_) (fun hf => ?_)
          · refine tk_let hf (fun i11 ei11 hf => ?_)
            refine lv_iinc (v := i11) (lv' := [(1, .int i11), (3, .int (1 : Int32)), (2, .int r2), (0, .ref (tad G 19))]) hx hb dX4_laySpans_123 hl (k := 3) rfl (by rw [ei11]; rfl) (by decide) rfl (fun ls hl => ?_)
            refine lv_goto (tgt := 7) hx hb dX4_laySpans_126 (by decide) ?_
            exact ih i11 s10 _ _ _ hI (lv_sub hl [3, 0] rfl) hf
          · refine lv_aload_n hx hb dX4_laySpans_108 rfl (lv_at hl 2 rfl) ?_
            refine tg_X4_27 S hI mw_84 dX4_laySpans_109 ?_
            refine lv_aload_n hx hb dX4_laySpans_112 rfl (lv_at hl 2 rfl) ?_
            refine tg_X4_25 S hI mw_463 dX4_laySpans_113 ?_
            refine lv_iconst (v := 1) hx hb dX4_laySpans_116 (by decide) ?_
            refine lv_isub hx hb dX4_laySpans_117 ?_
            refine lv_dup2_11 hx hb dX4_laySpans_118 rfl rfl ?_
            refine tk_iald S hI (k := 39) (n := 90) rfl hf dX4_laySpans_119 (fun v12 hf => ?_)
            refine lv_iconst (v := 1) hx hb dX4_laySpans_120 (by decide) ?_
            refine lv_iadd hx hb dX4_laySpans_121 ?_
            refine tk_iast S hI (k := 39) (n := 90) rfl (twa_39 G _) hf dX4_laySpans_122 (fun s13 H locs hI hf => ?_)
            refine tk_let hf (fun i14 ei14 hf => ?_)
            refine lv_iinc (v := i14) (lv' := [(1, .int i14), (3, .int (1 : Int32)), (2, .int r2), (0, .ref (tad G 19))]) hx hb dX4_laySpans_123 hl (k := 3) rfl (by rw [ei14]; rfl) (by decide) rfl (fun ls hl => ?_)
            refine lv_goto (tgt := 7) hx hb dX4_laySpans_126 (by decide) ?_
            exact ih i14 s13 _ _ _ hI (lv_sub hl [3, 0] rfl) hf
        · refine lv_aload_n hx hb dX4_laySpans_38 rfl (lv_at hl 1 rfl) ?_
          refine tg_X4_26 S hI mw_83 dX4_laySpans_39 ?_
          refine lv_aload_n hx hb dX4_laySpans_42 rfl (lv_at hl 1 rfl) ?_
          refine tg_X4_25 S hI mw_463 dX4_laySpans_43 ?_
          refine lv_iconst (v := 1) hx hb dX4_laySpans_46 (by decide) ?_
          refine lv_isub hx hb dX4_laySpans_47 ?_
          refine tk_iald S hI (k := 38) (n := 90) rfl hf dX4_laySpans_48 (fun v15 hf => ?_)
          refine lv_iload_n hx hb dX4_laySpans_49 rfl (lv_at hl 0 rfl) ?_
          refine tk_icmp_eq (tgt := 57) hx hb hf dX4_laySpans_50 (by decide) (fun hf => ?_) (fun hf => ?_)
          · refine lv_iconst (v := 0) hx hb dX4_laySpans_57 (by decide) ?_
            refine lv_istore_n (lv' := [(3, .int (0 : Int32)), (2, .int r2), (0, .ref (tad G 19)), (1, .int x1)]) hx hb dX4_laySpans_58 rfl hl (by decide) rfl (fun ls hl => ?_)
            refine lv_iload_n hx hb dX4_laySpans_59 rfl (lv_at hl 0 rfl) ?_
            refine lv_if_eq (tgt := 103) hx hb dX4_laySpans_60 (by decide) (fun _ => ?_) (fun h => absurd h (by decide))
            refine lv_iload_n hx hb dX4_laySpans_103 rfl (lv_at hl 1 rfl) ?_
            refine lv_iconst (v := 3) hx hb dX4_laySpans_104 (by decide) ?_
            refine tk_icmp_ge (tgt := 123) hx hb hf dX4_laySpans_105 (by decide) (fun hf => ?_) (fun hf => ?_)
            · refine tk_let hf (fun i16 ei16 hf => ?_)
              refine lv_iinc (v := i16) (lv' := [(1, .int i16), (3, .int (0 : Int32)), (2, .int r2), (0, .ref (tad G 19))]) hx hb dX4_laySpans_123 hl (k := 3) rfl (by rw [ei16]; rfl) (by decide) rfl (fun ls hl => ?_)
              refine lv_goto (tgt := 7) hx hb dX4_laySpans_126 (by decide) ?_
              exact ih i16 st _ _ _ hI (lv_sub hl [3, 0] rfl) hf
            · refine lv_aload_n hx hb dX4_laySpans_108 rfl (lv_at hl 2 rfl) ?_
              refine tg_X4_27 S hI mw_84 dX4_laySpans_109 ?_
              refine lv_aload_n hx hb dX4_laySpans_112 rfl (lv_at hl 2 rfl) ?_
              refine tg_X4_25 S hI mw_463 dX4_laySpans_113 ?_
              refine lv_iconst (v := 1) hx hb dX4_laySpans_116 (by decide) ?_
              refine lv_isub hx hb dX4_laySpans_117 ?_
              refine lv_dup2_11 hx hb dX4_laySpans_118 rfl rfl ?_
              refine tk_iald S hI (k := 39) (n := 90) rfl hf dX4_laySpans_119 (fun v17 hf => ?_)
              refine lv_iconst (v := 1) hx hb dX4_laySpans_120 (by decide) ?_
              refine lv_iadd hx hb dX4_laySpans_121 ?_
              refine tk_iast S hI (k := 39) (n := 90) rfl (twa_39 G _) hf dX4_laySpans_122 (fun s18 H locs hI hf => ?_)
              refine tk_let hf (fun i19 ei19 hf => ?_)
              refine lv_iinc (v := i19) (lv' := [(1, .int i19), (3, .int (0 : Int32)), (2, .int r2), (0, .ref (tad G 19))]) hx hb dX4_laySpans_123 hl (k := 3) rfl (by rw [ei19]; rfl) (by decide) rfl (fun ls hl => ?_)
              refine lv_goto (tgt := 7) hx hb dX4_laySpans_126 (by decide) ?_
              exact ih i19 s18 _ _ _ hI (lv_sub hl [3, 0] rfl) hf
          · refine lv_iconst (v := 1) hx hb dX4_laySpans_53 (by decide) ?_
            refine lv_goto (tgt := 58) hx hb dX4_laySpans_54 (by decide) ?_
            refine lv_istore_n (lv' := [(3, .int (1 : Int32)), (2, .int r2), (0, .ref (tad G 19)), (1, .int x1)]) hx hb dX4_laySpans_58 rfl hl (by decide) rfl (fun ls hl => ?_)
            refine lv_iload_n hx hb dX4_laySpans_59 rfl (lv_at hl 0 rfl) ?_
            refine lv_if_eq (tgt := 103) hx hb dX4_laySpans_60 (by decide) (fun h => absurd h (by decide)) (fun _ => ?_)
            refine lv_aload_n hx hb dX4_laySpans_63 rfl (lv_at hl 2 rfl) ?_
            refine tg_X4_26 S hI mw_83 dX4_laySpans_64 ?_
            refine lv_aload_n hx hb dX4_laySpans_67 rfl (lv_at hl 2 rfl) ?_
            refine tg_X4_25 S hI mw_463 dX4_laySpans_68 ?_
            refine lv_iload_n hx hb dX4_laySpans_71 rfl (lv_at hl 1 rfl) ?_
            refine tk_iast S hI (k := 38) (n := 90) rfl (twa_38 G _) hf dX4_laySpans_72 (fun s20 H locs hI hf => ?_)
            refine lv_aload_n hx hb dX4_laySpans_73 rfl (lv_at hl 2 rfl) ?_
            refine tg_X4_27 S hI mw_84 dX4_laySpans_74 ?_
            refine lv_aload_n hx hb dX4_laySpans_77 rfl (lv_at hl 2 rfl) ?_
            refine tg_X4_25 S hI mw_463 dX4_laySpans_78 ?_
            refine lv_iconst (v := 0) hx hb dX4_laySpans_81 (by decide) ?_
            refine tk_iast S hI (k := 39) (n := 90) rfl (twa_39 G _) hf dX4_laySpans_82 (fun s21 H locs hI hf => ?_)
            refine lv_aload_n hx hb dX4_laySpans_83 rfl (lv_at hl 2 rfl) ?_
            refine tg_X4_28 S hI mw_85 dX4_laySpans_84 ?_
            refine lv_aload_n hx hb dX4_laySpans_87 rfl (lv_at hl 2 rfl) ?_
            refine tg_X4_25 S hI mw_463 dX4_laySpans_88 ?_
            refine lv_iload_n hx hb dX4_laySpans_91 rfl (lv_at hl 3 rfl) ?_
            refine tk_iast S hI (k := 40) (n := 90) rfl (twa_40 G _) hf dX4_laySpans_92 (fun s22 H locs hI hf => ?_)
            refine lv_aload_n hx hb dX4_laySpans_93 rfl (lv_at hl 2 rfl) ?_
            refine lv_dup hx hb dX4_laySpans_94 rfl ?_
            refine tg_X4_25 S hI mw_463 dX4_laySpans_95 ?_
            refine lv_iconst (v := 1) hx hb dX4_laySpans_98 (by decide) ?_
            refine lv_iadd hx hb dX4_laySpans_99 ?_
            refine tp_X4_25 S hI mw_463 hf dX4_laySpans_100 (fun s23 H locs hI hf => ?_)
            refine lv_iload_n hx hb dX4_laySpans_103 rfl (lv_at hl 1 rfl) ?_
            refine lv_iconst (v := 3) hx hb dX4_laySpans_104 (by decide) ?_
            refine tk_icmp_ge (tgt := 123) hx hb hf dX4_laySpans_105 (by decide) (fun hf => ?_) (fun hf => ?_)
            · refine tk_let hf (fun i24 ei24 hf => ?_)
              refine lv_iinc (v := i24) (lv' := [(1, .int i24), (3, .int (1 : Int32)), (2, .int r2), (0, .ref (tad G 19))]) hx hb dX4_laySpans_123 hl (k := 3) rfl (by rw [ei24]; rfl) (by decide) rfl (fun ls hl => ?_)
              refine lv_goto (tgt := 7) hx hb dX4_laySpans_126 (by decide) ?_
              exact ih i24 s23 _ _ _ hI (lv_sub hl [3, 0] rfl) hf
            · refine lv_aload_n hx hb dX4_laySpans_108 rfl (lv_at hl 2 rfl) ?_
              refine tg_X4_27 S hI mw_84 dX4_laySpans_109 ?_
              refine lv_aload_n hx hb dX4_laySpans_112 rfl (lv_at hl 2 rfl) ?_
              refine tg_X4_25 S hI mw_463 dX4_laySpans_113 ?_
              refine lv_iconst (v := 1) hx hb dX4_laySpans_116 (by decide) ?_
              refine lv_isub hx hb dX4_laySpans_117 ?_
              refine lv_dup2_11 hx hb dX4_laySpans_118 rfl rfl ?_
              refine tk_iald S hI (k := 39) (n := 90) rfl hf dX4_laySpans_119 (fun v25 hf => ?_)
              refine lv_iconst (v := 1) hx hb dX4_laySpans_120 (by decide) ?_
              refine lv_iadd hx hb dX4_laySpans_121 ?_
              refine tk_iast S hI (k := 39) (n := 90) rfl (twa_39 G _) hf dX4_laySpans_122 (fun s26 H locs hI hf => ?_)
              refine tk_let hf (fun i27 ei27 hf => ?_)
              refine lv_iinc (v := i27) (lv' := [(1, .int i27), (3, .int (1 : Int32)), (2, .int r2), (0, .ref (tad G 19))]) hx hb dX4_laySpans_123 hl (k := 3) rfl (by rw [ei27]; rfl) (by decide) rfl (fun ls hl => ?_)
              refine lv_goto (tgt := 7) hx hb dX4_laySpans_126 (by decide) ?_
              exact ih i27 s26 _ _ _ hI (lv_sub hl [3, 0] rfl) hf
set_option maxHeartbeats 4000000 in
set_option maxRecDepth 100000 in
theorem c_X4_laySpans (l : Launch) (G : tG) (st : tST) {st' : tST} (hf : f_X4_laySpans st = some st') : tCV l G yX4_laySpans cX4_laySpans 4 none rm_X4_laySpans [.ref (tad G 19)] st st' := by
  refine tk_entV (by decide +kernel) (Nat.le_of_ble_eq_true rfl) (fun p e s m below meth c ls S hr hlk hI hl => ?_)
  have hl : lv_has ls 4 [(0, .ref (tad G 19))] := hl
  have S : CallFix p m c cX4_laySpans 4 s [.ref (tad G 19)].toArray wsL_law RX4 := S
  have hx := S.1
  have hb := S.2.1
  have hown := S.2.2.2.1
  have hts := S.2.2.2.2
  unfold f_X4_laySpans at hf
  refine lv_aload_n hx hb dX4_laySpans_0 rfl (lv_at hl 0 rfl) ?_
  refine lv_iconst (v := 0) hx hb dX4_laySpans_1 (by decide) ?_
  refine tp_X4_25 S hI mw_463 hf dX4_laySpans_2 (fun s1 H locs hI hf => ?_)
  refine lv_iconst (v := 0) hx hb dX4_laySpans_5 (by decide) ?_
  refine lv_istore_n (lv' := [(1, .int (0 : Int32)), (0, .ref (tad G 19))]) hx hb dX4_laySpans_6 rfl hl (by decide) rfl (fun ls hl => ?_)
  exact k_X4_laySpans_7 S hr hlk tfu (0 : Int32) s1 _ _ _ hI (lv_sub hl [1, 0] rfl) hf
/-! X4_span -/
abbrev rm_X4_span : Room := { frames := 6, cells := 0, slots := 0, locals := 137 }
def f_X4_span (x1 : Int32) (x2 : Int32) (st : tST) : Option (Int32 × tST) := (f_X4_within x2 (0 : Int32) (3 : Int32)).bind (fun r1 => (if r1 = 0 then some ((-1002 : Int32), st) else (f_X4_laySpans st).bind (fun s2 => (if x2 = 0 then some ((tg_I s2 125), s2) else (f_X4_within x1 (0 : Int32) ((tg_I s2 125) - (1 : Int32))).bind (fun r3 => (if r3 = 0 then some ((-1001 : Int32), s2) else (if x2 = (1 : Int32) then tal 90 (tg_A s2 38) x1 (fun v6 => some (v6, s2)) else (if x2 = (2 : Int32) then tal 90 (tg_A s2 39) x1 (fun v5 => some (v5, s2)) else tal 90 (tg_A s2 40) x1 (fun v4 => some (v4, s2))))))))))
theorem yd_X4_span : yX4_span.cls = RX4 ∧ yX4_span.cls ≠ "java/lang/invoke/MethodHandle" ∧ yX4_span.cls ≠ "java/lang/invoke/VarHandle" ∧ (parseMethodDescriptor yX4_span.desc).map (fun d => d.parameters.length) = some 2 := by decide +kernel
set_option maxHeartbeats 4000000 in
set_option maxRecDepth 100000 in
theorem c_X4_span (l : Launch) (G : tG) (st : tST) (x1 : Int32) (x2 : Int32) {r : Int32} {st' : tST} (hf : f_X4_span x1 x2 st = some (r, st')) : tCI l G yX4_span cX4_span 3 (some .int) rm_X4_span [.ref (tad G 19), .int x1, .int x2] st r st' := by
  refine tk_entI (by decide +kernel) (Nat.le_of_ble_eq_true rfl) (fun p e s m below meth c ls S hr hlk hI hl => ?_)
  have hl : lv_has ls 3 [(0, .ref (tad G 19)), (1, .int x1), (2, .int x2)] := hl
  have S : CallFix p m c cX4_span 3 s [.ref (tad G 19), .int x1, .int x2].toArray wsL_law RX4 := S
  have hx := S.1
  have hb := S.2.1
  have hown := S.2.2.2.1
  have hts := S.2.2.2.2
  unfold f_X4_span at hf
  refine lv_iload_n hx hb dX4_span_0 rfl (lv_at hl 2 rfl) ?_
  refine lv_iconst (v := 0) hx hb dX4_span_1 (by decide) ?_
  refine lv_iconst (v := 3) hx hb dX4_span_2 (by decide) ?_
  refine tk_bd hf (fun r1 hq hf => ?_)
  refine tk_sI S hI hl.1 (c_X4_within l G st x2 (0 : Int32) (3 : Int32) hq) (va_cwS 3 hts (tk_gS mw_95 mw_96 mw_5 mw_97) rfl rfl rfl yd_X4_within ⟨Nat.le_of_ble_eq_true rfl, Nat.le_of_ble_eq_true rfl⟩) rfl [] rfl (Nat.le_of_ble_eq_true rfl) dX4_span_3 (fun H locs hI => ?_)
  refine tk_if_ne (tgt := 13) hx hb hf dX4_span_6 (by decide) (fun hf => ?_) (fun hf => ?_)
  · refine lv_aload_n hx hb dX4_span_13 rfl (lv_at hl 0 rfl) ?_
    refine tk_bd hf (fun s2 hq hf => ?_)
    refine tk_vV S hI hl.1 (c_X4_laySpans l G st  hq) (cwV 0 hts (tk_gV mw_464 mw_465 mw_466 mw_5 mw_467) rfl rfl rfl yd_X4_laySpans ⟨Nat.le_of_ble_eq_true rfl, Nat.le_of_ble_eq_true rfl⟩) 19 4 rfl rfl rfl rfl [] rfl (Nat.le_of_ble_eq_true rfl) dX4_span_14 (fun H locs hI => ?_)
    refine lv_iload_n hx hb dX4_span_17 rfl (lv_at hl 2 rfl) ?_
    refine tk_if_ne (tgt := 26) hx hb hf dX4_span_18 (by decide) (fun hf => ?_) (fun hf => ?_)
    · refine lv_iload_n hx hb dX4_span_26 rfl (lv_at hl 1 rfl) ?_
      refine lv_iconst (v := 0) hx hb dX4_span_27 (by decide) ?_
      refine lv_aload_n hx hb dX4_span_28 rfl (lv_at hl 0 rfl) ?_
      refine tg_X4_25 S hI mw_463 dX4_span_29 ?_
      refine lv_iconst (v := 1) hx hb dX4_span_32 (by decide) ?_
      refine lv_isub hx hb dX4_span_33 ?_
      refine tk_bd hf (fun r3 hq hf => ?_)
      refine tk_sI S hI hl.1 (c_X4_within l G s2 x1 (0 : Int32) ((tg_I s2 125) - (1 : Int32)) hq) (va_cwS 3 hts (tk_gS mw_95 mw_96 mw_5 mw_97) rfl rfl rfl yd_X4_within ⟨Nat.le_of_ble_eq_true rfl, Nat.le_of_ble_eq_true rfl⟩) rfl [] rfl (Nat.le_of_ble_eq_true rfl) dX4_span_34 (fun H locs hI => ?_)
      refine tk_if_ne (tgt := 44) hx hb hf dX4_span_37 (by decide) (fun hf => ?_) (fun hf => ?_)
      · refine lv_iload_n hx hb dX4_span_44 rfl (lv_at hl 2 rfl) ?_
        refine lv_iconst (v := 1) hx hb dX4_span_45 (by decide) ?_
        refine tk_icmp_ne (tgt := 58) hx hb hf dX4_span_46 (by decide) (fun hf => ?_) (fun hf => ?_)
        · refine lv_iload_n hx hb dX4_span_58 rfl (lv_at hl 2 rfl) ?_
          refine lv_iconst (v := 2) hx hb dX4_span_59 (by decide) ?_
          refine tk_icmp_ne (tgt := 72) hx hb hf dX4_span_60 (by decide) (fun hf => ?_) (fun hf => ?_)
          · refine lv_aload_n hx hb dX4_span_72 rfl (lv_at hl 0 rfl) ?_
            refine tg_X4_28 S hI mw_85 dX4_span_73 ?_
            refine lv_iload_n hx hb dX4_span_76 rfl (lv_at hl 1 rfl) ?_
            refine tk_iald S hI (k := 40) (n := 90) rfl hf dX4_span_77 (fun v4 hf => ?_)
            exact tk_riW S hr hlk hI hf dX4_span_78
          · refine lv_aload_n hx hb dX4_span_63 rfl (lv_at hl 0 rfl) ?_
            refine tg_X4_27 S hI mw_84 dX4_span_64 ?_
            refine lv_iload_n hx hb dX4_span_67 rfl (lv_at hl 1 rfl) ?_
            refine tk_iald S hI (k := 39) (n := 90) rfl hf dX4_span_68 (fun v5 hf => ?_)
            refine lv_goto (tgt := 78) hx hb dX4_span_69 (by decide) ?_
            exact tk_riW S hr hlk hI hf dX4_span_78
        · refine lv_aload_n hx hb dX4_span_49 rfl (lv_at hl 0 rfl) ?_
          refine tg_X4_26 S hI mw_83 dX4_span_50 ?_
          refine lv_iload_n hx hb dX4_span_53 rfl (lv_at hl 1 rfl) ?_
          refine tk_iald S hI (k := 38) (n := 90) rfl hf dX4_span_54 (fun v6 hf => ?_)
          refine lv_goto (tgt := 78) hx hb dX4_span_55 (by decide) ?_
          exact tk_riW S hr hlk hI hf dX4_span_78
      · refine lv_sipush (v := -1001) hx hb dX4_span_40 (by decide) ?_
        exact tk_riW S hr hlk hI hf dX4_span_43
    · refine lv_aload_n hx hb dX4_span_21 rfl (lv_at hl 0 rfl) ?_
      refine tg_X4_25 S hI mw_463 dX4_span_22 ?_
      exact tk_riW S hr hlk hI hf dX4_span_25
  · refine lv_sipush (v := -1002) hx hb dX4_span_9 (by decide) ?_
    exact tk_riW S hr hlk hI hf dX4_span_12
/-! X4_readsAsPage -/
abbrev rm_X4_readsAsPage : Room := { frames := 4, cells := 0, slots := 0, locals := 90 }
def f_X4_readsAsPage_24 : Nat → Int32 → Int32 → tST → Option (Int32 × tST)
  | 0, _, _, _ => none
  | n + 1, x2, x3, st => (if (tg_I st 121) ≤ x3 then tzr x2 (some (x2, st)) else (if x2 = 0 then tzr x2 (some (x2, st)) else tal 64 (tg_A st 35) x3 (fun v1 => tal 90 (tg_A st 29) v1 (fun v2 => tal 64 (tg_A st 21) v2 (fun v3 => tal 40 (tg_A st 20) x3 (fun v4 => (if v3 = v4 then tlet (x3 + (1 : Int32)) (fun i6 => f_X4_readsAsPage_24 n (1 : Int32) i6 st) else tlet (x3 + (1 : Int32)) (fun i5 => f_X4_readsAsPage_24 n (0 : Int32) i5 st))))))))
def f_X4_readsAsPage (x1 : Int32) (st : tST) : Option (Int32 × tST) := (f_X4_layRead x1 st).bind (fun s1 => (if (tg_I s1 121) = (tg_I s1 100) then f_X4_readsAsPage_24 tfu (1 : Int32) (0 : Int32) s1 else f_X4_readsAsPage_24 tfu (0 : Int32) (0 : Int32) s1))
theorem yd_X4_readsAsPage : yX4_readsAsPage.cls = RX4 ∧ yX4_readsAsPage.cls ≠ "java/lang/invoke/MethodHandle" ∧ yX4_readsAsPage.cls ≠ "java/lang/invoke/VarHandle" ∧ (parseMethodDescriptor yX4_readsAsPage.desc).map (fun d => d.parameters.length) = some 1 := by decide +kernel
set_option maxHeartbeats 4000000 in
set_option maxRecDepth 100000 in
theorem k_X4_readsAsPage_24 {l : Launch} {G : tG} {p : Program} {e : Env} {s : State} {m : MethodId} {below : List Frame} {meth : Method} {c : Code} {args : Array Value} {r : Int32} {st' : tST} (S : CallFix p m c cX4_readsAsPage 4 s args wsL_law RX4) (hr : meth.sig.returnType = (some .boolean)) (hlk : meth.locks = false) : ∀ (n : Nat) (x2 : Int32) (x3 : Int32) (st : tST) (H : Heap) (locs : List Loc) (ls : Array Slot), tIn G (tA G s.heap.size) s st H locs → lv_has ls 4 [(0, .ref (tad G 19)), (2, .int x2), (3, .int x3)] → f_X4_readsAsPage_24 n x2 x3 st = some (r, st') → W p l e rm_X4_readsAsPage s m args below meth c H locs 0 0 (tZI G below args s r st') (F0 m 24 ls []) := by
  have hx := S.1
  have hb := S.2.1
  have hown := S.2.2.2.1
  have hts := S.2.2.2.2
  intro n
  induction n with
  | zero => intro x2 x3 st H locs ls hI hl hf; exact nomatch (show (none : Option (Int32 × tST)) = some _ from hf)
  | succ n ih =>
    intro x2 x3 st H locs ls hI hl hf
    rw [f_X4_readsAsPage_24] at hf
    refine lv_iload_n hx hb dX4_readsAsPage_24 rfl (lv_at hl 2 rfl) ?_
    refine lv_aload_n hx hb dX4_readsAsPage_25 rfl (lv_at hl 0 rfl) ?_
    refine tg_X4_21 S hI mw_213 dX4_readsAsPage_26 ?_
    refine tk_icmp_ge (tgt := 73) hx hb hf dX4_readsAsPage_29 (by decide) (fun hf => ?_) (fun hf => ?_)
    · refine lv_iload_n hx hb dX4_readsAsPage_73 rfl (lv_at hl 1 rfl) ?_
      exact tk_rzW S hr hlk hI hf dX4_readsAsPage_74
    · refine lv_iload_n hx hb dX4_readsAsPage_32 rfl (lv_at hl 1 rfl) ?_
      refine tk_if_eq (tgt := 73) hx hb hf dX4_readsAsPage_33 (by decide) (fun hf => ?_) (fun hf => ?_)
      · refine lv_iload_n hx hb dX4_readsAsPage_73 rfl (lv_at hl 1 rfl) ?_
        exact tk_rzW S hr hlk hI hf dX4_readsAsPage_74
      · refine lv_aload_n hx hb dX4_readsAsPage_36 rfl (lv_at hl 0 rfl) ?_
        refine tg_X4_3 S hI mw_65 dX4_readsAsPage_37 ?_
        refine lv_aload_n hx hb dX4_readsAsPage_40 rfl (lv_at hl 0 rfl) ?_
        refine tg_X4_13 S hI mw_74 dX4_readsAsPage_41 ?_
        refine lv_aload_n hx hb dX4_readsAsPage_44 rfl (lv_at hl 0 rfl) ?_
        refine tg_X4_22 S hI mw_80 dX4_readsAsPage_45 ?_
        refine lv_iload_n hx hb dX4_readsAsPage_48 rfl (lv_at hl 2 rfl) ?_
        refine tk_iald S hI (k := 35) (n := 64) rfl hf dX4_readsAsPage_49 (fun v1 hf => ?_)
        refine tk_iald S hI (k := 29) (n := 90) rfl hf dX4_readsAsPage_50 (fun v2 hf => ?_)
        refine tk_iald S hI (k := 21) (n := 64) rfl hf dX4_readsAsPage_51 (fun v3 hf => ?_)
        refine lv_aload_n hx hb dX4_readsAsPage_52 rfl (lv_at hl 0 rfl) ?_
        refine tg_X4_1 S hI mw_64 dX4_readsAsPage_53 ?_
        refine lv_iload_n hx hb dX4_readsAsPage_56 rfl (lv_at hl 2 rfl) ?_
        refine tk_iald S hI (k := 20) (n := 40) rfl hf dX4_readsAsPage_57 (fun v4 hf => ?_)
        refine tk_icmp_ne (tgt := 65) hx hb hf dX4_readsAsPage_58 (by decide) (fun hf => ?_) (fun hf => ?_)
        · refine lv_iconst (v := 0) hx hb dX4_readsAsPage_65 (by decide) ?_
          refine lv_istore_n (lv' := [(2, .int (0 : Int32)), (0, .ref (tad G 19)), (3, .int x3)]) hx hb dX4_readsAsPage_66 rfl hl (by decide) rfl (fun ls hl => ?_)
          refine tk_let hf (fun i5 ei5 hf => ?_)
          refine lv_iinc (v := i5) (lv' := [(3, .int i5), (2, .int (0 : Int32)), (0, .ref (tad G 19))]) hx hb dX4_readsAsPage_67 hl (k := 2) rfl (by rw [ei5]; rfl) (by decide) rfl (fun ls hl => ?_)
          refine lv_goto (tgt := 24) hx hb dX4_readsAsPage_70 (by decide) ?_
          exact ih (0 : Int32) i5 st _ _ _ hI (lv_sub hl [2, 1, 0] rfl) hf
        · refine lv_iconst (v := 1) hx hb dX4_readsAsPage_61 (by decide) ?_
          refine lv_goto (tgt := 66) hx hb dX4_readsAsPage_62 (by decide) ?_
          refine lv_istore_n (lv' := [(2, .int (1 : Int32)), (0, .ref (tad G 19)), (3, .int x3)]) hx hb dX4_readsAsPage_66 rfl hl (by decide) rfl (fun ls hl => ?_)
          refine tk_let hf (fun i6 ei6 hf => ?_)
          refine lv_iinc (v := i6) (lv' := [(3, .int i6), (2, .int (1 : Int32)), (0, .ref (tad G 19))]) hx hb dX4_readsAsPage_67 hl (k := 2) rfl (by rw [ei6]; rfl) (by decide) rfl (fun ls hl => ?_)
          refine lv_goto (tgt := 24) hx hb dX4_readsAsPage_70 (by decide) ?_
          exact ih (1 : Int32) i6 st _ _ _ hI (lv_sub hl [2, 1, 0] rfl) hf
set_option maxHeartbeats 4000000 in
set_option maxRecDepth 100000 in
theorem c_X4_readsAsPage (l : Launch) (G : tG) (st : tST) (x1 : Int32) {r : Int32} {st' : tST} (hf : f_X4_readsAsPage x1 st = some (r, st')) : tCI l G yX4_readsAsPage cX4_readsAsPage 4 (some .boolean) rm_X4_readsAsPage [.ref (tad G 19), .int x1] st r st' := by
  refine tk_entI (by decide +kernel) (Nat.le_of_ble_eq_true rfl) (fun p e s m below meth c ls S hr hlk hI hl => ?_)
  have hl : lv_has ls 4 [(0, .ref (tad G 19)), (1, .int x1)] := hl
  have S : CallFix p m c cX4_readsAsPage 4 s [.ref (tad G 19), .int x1].toArray wsL_law RX4 := S
  have hx := S.1
  have hb := S.2.1
  have hown := S.2.2.2.1
  have hts := S.2.2.2.2
  unfold f_X4_readsAsPage at hf
  refine lv_aload_n hx hb dX4_readsAsPage_0 rfl (lv_at hl 0 rfl) ?_
  refine lv_iload_n hx hb dX4_readsAsPage_1 rfl (lv_at hl 1 rfl) ?_
  refine tk_bd hf (fun s1 hq hf => ?_)
  refine tk_vV S hI hl.1 (c_X4_layRead l G st x1 hq) (cwV 1 hts (tk_gV mw_221 mw_222 mw_223 mw_5 mw_224) rfl rfl rfl yd_X4_layRead ⟨Nat.le_of_ble_eq_true rfl, Nat.le_of_ble_eq_true rfl⟩) 19 4 rfl rfl rfl rfl [] rfl (Nat.le_of_ble_eq_true rfl) dX4_readsAsPage_2 (fun H locs hI => ?_)
  refine lv_aload_n hx hb dX4_readsAsPage_5 rfl (lv_at hl 0 rfl) ?_
  refine tg_X4_21 S hI mw_213 dX4_readsAsPage_6 ?_
  refine lv_aload_n hx hb dX4_readsAsPage_9 rfl (lv_at hl 0 rfl) ?_
  refine tg_X4_0 S hI mw_94 dX4_readsAsPage_10 ?_
  refine tk_icmp_ne (tgt := 20) hx hb hf dX4_readsAsPage_13 (by decide) (fun hf => ?_) (fun hf => ?_)
  · refine lv_iconst (v := 0) hx hb dX4_readsAsPage_20 (by decide) ?_
    refine lv_istore_n (lv' := [(2, .int (0 : Int32)), (0, .ref (tad G 19)), (1, .int x1)]) hx hb dX4_readsAsPage_21 rfl hl (by decide) rfl (fun ls hl => ?_)
    refine lv_iconst (v := 0) hx hb dX4_readsAsPage_22 (by decide) ?_
    refine lv_istore_n (lv' := [(3, .int (0 : Int32)), (2, .int (0 : Int32)), (0, .ref (tad G 19)), (1, .int x1)]) hx hb dX4_readsAsPage_23 rfl hl (by decide) rfl (fun ls hl => ?_)
    exact k_X4_readsAsPage_24 S hr hlk tfu (0 : Int32) (0 : Int32) s1 _ _ _ hI (lv_sub hl [2, 1, 0] rfl) hf
  · refine lv_iconst (v := 1) hx hb dX4_readsAsPage_16 (by decide) ?_
    refine lv_goto (tgt := 21) hx hb dX4_readsAsPage_17 (by decide) ?_
    refine lv_istore_n (lv' := [(2, .int (1 : Int32)), (0, .ref (tad G 19)), (1, .int x1)]) hx hb dX4_readsAsPage_21 rfl hl (by decide) rfl (fun ls hl => ?_)
    refine lv_iconst (v := 0) hx hb dX4_readsAsPage_22 (by decide) ?_
    refine lv_istore_n (lv' := [(3, .int (0 : Int32)), (2, .int (1 : Int32)), (0, .ref (tad G 19)), (1, .int x1)]) hx hb dX4_readsAsPage_23 rfl hl (by decide) rfl (fun ls hl => ?_)
    exact k_X4_readsAsPage_24 S hr hlk tfu (1 : Int32) (0 : Int32) s1 _ _ _ hI (lv_sub hl [2, 1, 0] rfl) hf
/-! X4_layFound -/
abbrev rm_X4_layFound : Room := { frames := 5, cells := 0, slots := 0, locals := 113 }
def f_X4_layFound_24 : Nat → Int32 → Int32 → Int32 → tST → Option (tST)
  | 0, _, _, _, _ => none
  | n + 1, x1, x2, x3, st => (if ((1 : Int32) <<< ((tg_I st 107) &&& (31 : Int32))) ≤ x3 then some st else (if (x3 &&& (x1 ^^^ (-1 : Int32))) = 0 then tbd (f_X4_readsAsPage (x3 ||| x2) st) (fun r2 s3 => (if r2 = 0 then tlet (x3 + (1 : Int32)) (fun i4 => f_X4_layFound_24 n x1 x2 i4 s3) else tlet (tp_I s3 129 ((tg_I s3 129) + (1 : Int32))) (fun s5 => (if (tg_I s5 130) = (-1 : Int32) then tlet (tp_I s5 130 x3) (fun s6 => tlet (x3 + (1 : Int32)) (fun i7 => f_X4_layFound_24 n x1 x2 i7 s6)) else (f_X4_ones x3).bind (fun r8 => (f_X4_ones (tg_I s5 130)).bind (fun r9 => (if r9 ≤ r8 then tlet (tp_I s5 130 (tg_I s5 130)) (fun s10 => tlet (x3 + (1 : Int32)) (fun i11 => f_X4_layFound_24 n x1 x2 i11 s10)) else tlet (tp_I s5 130 x3) (fun s12 => tlet (x3 + (1 : Int32)) (fun i13 => f_X4_layFound_24 n x1 x2 i13 s12))))))))) else tlet (x3 + (1 : Int32)) (fun i1 => f_X4_layFound_24 n x1 x2 i1 st)))
def f_X4_layFound (st : tST) : Option (tST) := (f_X4_inState (0 : Int32) st).bind (fun r1 => (f_X4_inState (1 : Int32) st).bind (fun r2 => tlet (tp_I st 129 (0 : Int32)) (fun s3 => tlet (tp_I s3 130 (-1 : Int32)) (fun s4 => f_X4_layFound_24 tfu r1 r2 (0 : Int32) s4))))
theorem yd_X4_layFound : yX4_layFound.cls = RX4 ∧ yX4_layFound.cls ≠ "java/lang/invoke/MethodHandle" ∧ yX4_layFound.cls ≠ "java/lang/invoke/VarHandle" ∧ (parseMethodDescriptor yX4_layFound.desc).map (fun d => d.parameters.length) = some 0 := by decide +kernel
set_option maxHeartbeats 4000000 in
set_option maxRecDepth 100000 in
theorem k_X4_layFound_24 {l : Launch} {G : tG} {p : Program} {e : Env} {s : State} {m : MethodId} {below : List Frame} {meth : Method} {c : Code} {args : Array Value} {st' : tST} (S : CallFix p m c cX4_layFound 4 s args wsL_law RX4) (hr : meth.sig.returnType = none) (hlk : meth.locks = false) : ∀ (n : Nat) (x1 : Int32) (x2 : Int32) (x3 : Int32) (st : tST) (H : Heap) (locs : List Loc) (ls : Array Slot), tIn G (tA G s.heap.size) s st H locs → lv_has ls 4 [(0, .ref (tad G 19)), (1, .int x1), (2, .int x2), (3, .int x3)] → f_X4_layFound_24 n x1 x2 x3 st = some st' → W p l e rm_X4_layFound s m args below meth c H locs 0 0 (tZV G below args s st') (F0 m 24 ls []) := by
  have hx := S.1
  have hb := S.2.1
  have hown := S.2.2.2.1
  have hts := S.2.2.2.2
  intro n
  induction n with
  | zero => intro x1 x2 x3 st H locs ls hI hl hf; exact nomatch (show (none : Option (tST)) = some _ from hf)
  | succ n ih =>
    intro x1 x2 x3 st H locs ls hI hl hf
    rw [f_X4_layFound_24] at hf
    refine lv_iload_n hx hb dX4_layFound_24 rfl (lv_at hl 3 rfl) ?_
    refine lv_iconst (v := 1) hx hb dX4_layFound_25 (by decide) ?_
    refine lv_aload_n hx hb dX4_layFound_26 rfl (lv_at hl 0 rfl) ?_
    refine tg_X4_7 S hI mw_138 dX4_layFound_27 ?_
    refine lv_ishl hx hb dX4_layFound_30 ?_
    refine tk_icmp_ge (tgt := 102) hx hb hf dX4_layFound_31 (by decide) (fun hf => ?_) (fun hf => ?_)
    · exact tk_rvW S hr hlk hI hf dX4_layFound_102
    · refine lv_iload_n hx hb dX4_layFound_34 rfl (lv_at hl 3 rfl) ?_
      refine lv_iload_n hx hb dX4_layFound_35 rfl (lv_at hl 1 rfl) ?_
      refine lv_iconst (v := -1) hx hb dX4_layFound_36 (by decide) ?_
      refine lv_ixor hx hb dX4_layFound_37 ?_
      refine lv_iand hx hb dX4_layFound_38 ?_
      refine tk_if_ne (tgt := 96) hx hb hf dX4_layFound_39 (by decide) (fun hf => ?_) (fun hf => ?_)
      · refine tk_let hf (fun i1 ei1 hf => ?_)
        refine lv_iinc (v := i1) (lv' := [(3, .int i1), (0, .ref (tad G 19)), (1, .int x1), (2, .int x2)]) hx hb dX4_layFound_96 hl (k := 3) rfl (by rw [ei1]; rfl) (by decide) rfl (fun ls hl => ?_)
        refine lv_goto (tgt := 24) hx hb dX4_layFound_99 (by decide) ?_
        exact ih x1 x2 i1 st _ _ _ hI (lv_sub hl [1, 2, 3, 0] rfl) hf
      · refine lv_aload_n hx hb dX4_layFound_42 rfl (lv_at hl 0 rfl) ?_
        refine lv_iload_n hx hb dX4_layFound_43 rfl (lv_at hl 3 rfl) ?_
        refine lv_iload_n hx hb dX4_layFound_44 rfl (lv_at hl 2 rfl) ?_
        refine lv_ior hx hb dX4_layFound_45 ?_
        refine tk_bd2 hf (fun r2 s3 hq hf => ?_)
        refine tk_vI S hI hl.1 (c_X4_readsAsPage l G st (x3 ||| x2) hq) (cwV 1 hts (tk_gV mw_497 mw_498 mw_499 mw_5 mw_500) rfl rfl rfl yd_X4_readsAsPage ⟨Nat.le_of_ble_eq_true rfl, Nat.le_of_ble_eq_true rfl⟩) 19 4 rfl rfl rfl rfl [] rfl (Nat.le_of_ble_eq_true rfl) dX4_layFound_46 (fun H locs hI => ?_)
        refine tk_if_eq (tgt := 96) hx hb hf dX4_layFound_49 (by decide) (fun hf => ?_) (fun hf => ?_)
        · refine tk_let hf (fun i4 ei4 hf => ?_)
          refine lv_iinc (v := i4) (lv' := [(3, .int i4), (0, .ref (tad G 19)), (1, .int x1), (2, .int x2)]) hx hb dX4_layFound_96 hl (k := 3) rfl (by rw [ei4]; rfl) (by decide) rfl (fun ls hl => ?_)
          refine lv_goto (tgt := 24) hx hb dX4_layFound_99 (by decide) ?_
          exact ih x1 x2 i4 s3 _ _ _ hI (lv_sub hl [1, 2, 3, 0] rfl) hf
        · refine lv_aload_n hx hb dX4_layFound_52 rfl (lv_at hl 0 rfl) ?_
          refine lv_dup hx hb dX4_layFound_53 rfl ?_
          refine tg_X4_29 S hI mw_491 dX4_layFound_54 ?_
          refine lv_iconst (v := 1) hx hb dX4_layFound_57 (by decide) ?_
          refine lv_iadd hx hb dX4_layFound_58 ?_
          refine tp_X4_29 S hI mw_491 hf dX4_layFound_59 (fun s5 H locs hI hf => ?_)
          refine lv_aload_n hx hb dX4_layFound_62 rfl (lv_at hl 0 rfl) ?_
          refine lv_aload_n hx hb dX4_layFound_63 rfl (lv_at hl 0 rfl) ?_
          refine tg_X4_30 S hI mw_492 dX4_layFound_64 ?_
          refine lv_iconst (v := -1) hx hb dX4_layFound_67 (by decide) ?_
          refine tk_icmp_eq (tgt := 85) hx hb hf dX4_layFound_68 (by decide) (fun hf => ?_) (fun hf => ?_)
          · refine lv_iload_n hx hb dX4_layFound_85 rfl (lv_at hl 3 rfl) ?_
            refine lv_goto (tgt := 93) hx hb dX4_layFound_86 (by decide) ?_
            refine tp_X4_30 S hI mw_492 hf dX4_layFound_93 (fun s6 H locs hI hf => ?_)
            refine tk_let hf (fun i7 ei7 hf => ?_)
            refine lv_iinc (v := i7) (lv' := [(3, .int i7), (0, .ref (tad G 19)), (1, .int x1), (2, .int x2)]) hx hb dX4_layFound_96 hl (k := 3) rfl (by rw [ei7]; rfl) (by decide) rfl (fun ls hl => ?_)
            refine lv_goto (tgt := 24) hx hb dX4_layFound_99 (by decide) ?_
            exact ih x1 x2 i7 s6 _ _ _ hI (lv_sub hl [1, 2, 3, 0] rfl) hf
          · refine lv_iload_n hx hb dX4_layFound_71 rfl (lv_at hl 3 rfl) ?_
            refine tk_bd hf (fun r8 hq hf => ?_)
            refine tk_sI S hI hl.1 (c_X4_ones l G s5 x3 hq) (va_cwS 1 hts (tk_gS mw_354 mw_355 mw_5 mw_356) rfl rfl rfl yd_X4_ones ⟨Nat.le_of_ble_eq_true rfl, Nat.le_of_ble_eq_true rfl⟩) rfl [.ref (tad G 19)] rfl (Nat.le_of_ble_eq_true rfl) dX4_layFound_72 (fun H locs hI => ?_)
            refine lv_aload_n hx hb dX4_layFound_75 rfl (lv_at hl 0 rfl) ?_
            refine tg_X4_30 S hI mw_492 dX4_layFound_76 ?_
            refine tk_bd hf (fun r9 hq hf => ?_)
            refine tk_sI S hI hl.1 (c_X4_ones l G s5 (tg_I s5 130) hq) (va_cwS 1 hts (tk_gS mw_354 mw_355 mw_5 mw_356) rfl rfl rfl yd_X4_ones ⟨Nat.le_of_ble_eq_true rfl, Nat.le_of_ble_eq_true rfl⟩) rfl [.int r8, .ref (tad G 19)] rfl (Nat.le_of_ble_eq_true rfl) dX4_layFound_79 (fun H locs hI => ?_)
            refine tk_icmp_ge (tgt := 89) hx hb hf dX4_layFound_82 (by decide) (fun hf => ?_) (fun hf => ?_)
            · refine lv_aload_n hx hb dX4_layFound_89 rfl (lv_at hl 0 rfl) ?_
              refine tg_X4_30 S hI mw_492 dX4_layFound_90 ?_
              refine tp_X4_30 S hI mw_492 hf dX4_layFound_93 (fun s10 H locs hI hf => ?_)
              refine tk_let hf (fun i11 ei11 hf => ?_)
              refine lv_iinc (v := i11) (lv' := [(3, .int i11), (0, .ref (tad G 19)), (1, .int x1), (2, .int x2)]) hx hb dX4_layFound_96 hl (k := 3) rfl (by rw [ei11]; rfl) (by decide) rfl (fun ls hl => ?_)
              refine lv_goto (tgt := 24) hx hb dX4_layFound_99 (by decide) ?_
              exact ih x1 x2 i11 s10 _ _ _ hI (lv_sub hl [1, 2, 3, 0] rfl) hf
            · refine lv_iload_n hx hb dX4_layFound_85 rfl (lv_at hl 3 rfl) ?_
              refine lv_goto (tgt := 93) hx hb dX4_layFound_86 (by decide) ?_
              refine tp_X4_30 S hI mw_492 hf dX4_layFound_93 (fun s12 H locs hI hf => ?_)
              refine tk_let hf (fun i13 ei13 hf => ?_)
              refine lv_iinc (v := i13) (lv' := [(3, .int i13), (0, .ref (tad G 19)), (1, .int x1), (2, .int x2)]) hx hb dX4_layFound_96 hl (k := 3) rfl (by rw [ei13]; rfl) (by decide) rfl (fun ls hl => ?_)
              refine lv_goto (tgt := 24) hx hb dX4_layFound_99 (by decide) ?_
              exact ih x1 x2 i13 s12 _ _ _ hI (lv_sub hl [1, 2, 3, 0] rfl) hf
set_option maxHeartbeats 4000000 in
set_option maxRecDepth 100000 in
theorem c_X4_layFound (l : Launch) (G : tG) (st : tST) {st' : tST} (hf : f_X4_layFound st = some st') : tCV l G yX4_layFound cX4_layFound 4 none rm_X4_layFound [.ref (tad G 19)] st st' := by
  refine tk_entV (by decide +kernel) (Nat.le_of_ble_eq_true rfl) (fun p e s m below meth c ls S hr hlk hI hl => ?_)
  have hl : lv_has ls 4 [(0, .ref (tad G 19))] := hl
  have S : CallFix p m c cX4_layFound 4 s [.ref (tad G 19)].toArray wsL_law RX4 := S
  have hx := S.1
  have hb := S.2.1
  have hown := S.2.2.2.1
  have hts := S.2.2.2.2
  unfold f_X4_layFound at hf
  refine lv_aload_n hx hb dX4_layFound_0 rfl (lv_at hl 0 rfl) ?_
  refine lv_iconst (v := 0) hx hb dX4_layFound_1 (by decide) ?_
  refine tk_bd hf (fun r1 hq hf => ?_)
  refine tk_vI S hI hl.1 (c_X4_inState l G st (0 : Int32) hq) (cwV 1 hts (tk_gV mw_311 mw_312 mw_313 mw_5 mw_314) rfl rfl rfl yd_X4_inState ⟨Nat.le_of_ble_eq_true rfl, Nat.le_of_ble_eq_true rfl⟩) 19 4 rfl rfl rfl rfl [] rfl (Nat.le_of_ble_eq_true rfl) dX4_layFound_2 (fun H locs hI => ?_)
  refine lv_istore_n (lv' := [(1, .int r1), (0, .ref (tad G 19))]) hx hb dX4_layFound_5 rfl hl (by decide) rfl (fun ls hl => ?_)
  refine lv_aload_n hx hb dX4_layFound_6 rfl (lv_at hl 1 rfl) ?_
  refine lv_iconst (v := 1) hx hb dX4_layFound_7 (by decide) ?_
  refine tk_bd hf (fun r2 hq hf => ?_)
  refine tk_vI S hI hl.1 (c_X4_inState l G st (1 : Int32) hq) (cwV 1 hts (tk_gV mw_311 mw_312 mw_313 mw_5 mw_314) rfl rfl rfl yd_X4_inState ⟨Nat.le_of_ble_eq_true rfl, Nat.le_of_ble_eq_true rfl⟩) 19 4 rfl rfl rfl rfl [] rfl (Nat.le_of_ble_eq_true rfl) dX4_layFound_8 (fun H locs hI => ?_)
  refine lv_istore_n (lv' := [(2, .int r2), (1, .int r1), (0, .ref (tad G 19))]) hx hb dX4_layFound_11 rfl hl (by decide) rfl (fun ls hl => ?_)
  refine lv_aload_n hx hb dX4_layFound_12 rfl (lv_at hl 2 rfl) ?_
  refine lv_iconst (v := 0) hx hb dX4_layFound_13 (by decide) ?_
  refine tp_X4_29 S hI mw_491 hf dX4_layFound_14 (fun s3 H locs hI hf => ?_)
  refine lv_aload_n hx hb dX4_layFound_17 rfl (lv_at hl 2 rfl) ?_
  refine lv_iconst (v := -1) hx hb dX4_layFound_18 (by decide) ?_
  refine tp_X4_30 S hI mw_492 hf dX4_layFound_19 (fun s4 H locs hI hf => ?_)
  refine lv_iconst (v := 0) hx hb dX4_layFound_22 (by decide) ?_
  refine lv_istore_n (lv' := [(3, .int (0 : Int32)), (2, .int r2), (1, .int r1), (0, .ref (tad G 19))]) hx hb dX4_layFound_23 rfl hl (by decide) rfl (fun ls hl => ?_)
  exact k_X4_layFound_24 S hr hlk tfu r1 r2 (0 : Int32) s4 _ _ _ hI (lv_sub hl [3, 2, 1, 0] rfl) hf
/-! X4_found -/
abbrev rm_X4_found : Room := { frames := 6, cells := 0, slots := 0, locals := 136 }
def f_X4_found (x1 : Int32) (st : tST) : Option (Int32 × tST) := (f_X4_within x1 (0 : Int32) (1 : Int32)).bind (fun r1 => (if r1 = 0 then some ((-1002 : Int32), st) else (f_X4_layFound st).bind (fun s2 => (if x1 = 0 then some ((tg_I s2 129), s2) else some ((tg_I s2 130), s2)))))
theorem yd_X4_found : yX4_found.cls = RX4 ∧ yX4_found.cls ≠ "java/lang/invoke/MethodHandle" ∧ yX4_found.cls ≠ "java/lang/invoke/VarHandle" ∧ (parseMethodDescriptor yX4_found.desc).map (fun d => d.parameters.length) = some 1 := by decide +kernel
set_option maxHeartbeats 4000000 in
set_option maxRecDepth 100000 in
theorem c_X4_found (l : Launch) (G : tG) (st : tST) (x1 : Int32) {r : Int32} {st' : tST} (hf : f_X4_found x1 st = some (r, st')) : tCI l G yX4_found cX4_found 2 (some .int) rm_X4_found [.ref (tad G 19), .int x1] st r st' := by
  refine tk_entI (by decide +kernel) (Nat.le_of_ble_eq_true rfl) (fun p e s m below meth c ls S hr hlk hI hl => ?_)
  have hl : lv_has ls 2 [(0, .ref (tad G 19)), (1, .int x1)] := hl
  have S : CallFix p m c cX4_found 2 s [.ref (tad G 19), .int x1].toArray wsL_law RX4 := S
  have hx := S.1
  have hb := S.2.1
  have hown := S.2.2.2.1
  have hts := S.2.2.2.2
  unfold f_X4_found at hf
  refine lv_iload_n hx hb dX4_found_0 rfl (lv_at hl 1 rfl) ?_
  refine lv_iconst (v := 0) hx hb dX4_found_1 (by decide) ?_
  refine lv_iconst (v := 1) hx hb dX4_found_2 (by decide) ?_
  refine tk_bd hf (fun r1 hq hf => ?_)
  refine tk_sI S hI hl.1 (c_X4_within l G st x1 (0 : Int32) (1 : Int32) hq) (va_cwS 3 hts (tk_gS mw_95 mw_96 mw_5 mw_97) rfl rfl rfl yd_X4_within ⟨Nat.le_of_ble_eq_true rfl, Nat.le_of_ble_eq_true rfl⟩) rfl [] rfl (Nat.le_of_ble_eq_true rfl) dX4_found_3 (fun H locs hI => ?_)
  refine tk_if_ne (tgt := 13) hx hb hf dX4_found_6 (by decide) (fun hf => ?_) (fun hf => ?_)
  · refine lv_aload_n hx hb dX4_found_13 rfl (lv_at hl 0 rfl) ?_
    refine tk_bd hf (fun s2 hq hf => ?_)
    refine tk_vV S hI hl.1 (c_X4_layFound l G st  hq) (cwV 0 hts (tk_gV mw_493 mw_494 mw_495 mw_5 mw_496) rfl rfl rfl yd_X4_layFound ⟨Nat.le_of_ble_eq_true rfl, Nat.le_of_ble_eq_true rfl⟩) 19 4 rfl rfl rfl rfl [] rfl (Nat.le_of_ble_eq_true rfl) dX4_found_14 (fun H locs hI => ?_)
    refine lv_iload_n hx hb dX4_found_17 rfl (lv_at hl 1 rfl) ?_
    refine tk_if_ne (tgt := 28) hx hb hf dX4_found_18 (by decide) (fun hf => ?_) (fun hf => ?_)
    · refine lv_aload_n hx hb dX4_found_28 rfl (lv_at hl 0 rfl) ?_
      refine tg_X4_30 S hI mw_492 dX4_found_29 ?_
      exact tk_riW S hr hlk hI hf dX4_found_32
    · refine lv_aload_n hx hb dX4_found_21 rfl (lv_at hl 0 rfl) ?_
      refine tg_X4_29 S hI mw_491 dX4_found_22 ?_
      refine lv_goto (tgt := 32) hx hb dX4_found_25 (by decide) ?_
      exact tk_riW S hr hlk hI hf dX4_found_32
  · refine lv_sipush (v := -1002) hx hb dX4_found_9 (by decide) ?_
    exact tk_riW S hr hlk hI hf dX4_found_12
/-! X4_openFrom -/
abbrev rm_X4_openFrom : Room := { frames := 1, cells := 0, slots := 0, locals := 21 }
def f_X4_openFrom_10 (st : tST)  : Nat → Int32 → Int32 → Int32 → Option (Int32)
  | 0, _, _, _ => none
  | n + 1, x2, x3, x4 => (if x4 = (-1 : Int32) then some x3 else tal 90 (tg_A st 31) x4 (fun v1 => (f_X4_has x2 v1).bind (fun r2 => (if r2 = 0 then tlet (x3 + (0 : Int32)) (fun i3 => tal 90 (tg_A st 34) x4 (fun v4 => f_X4_openFrom_10 st n x2 i3 v4)) else tlet (x3 + (1 : Int32)) (fun i5 => tal 90 (tg_A st 34) x4 (fun v6 => f_X4_openFrom_10 st n x2 i5 v6))))))
def f_X4_openFrom (x1 : Int32) (x2 : Int32) (st : tST) : Option (Int32) := tal 90 (tg_A st 33) x1 (fun v1 => f_X4_openFrom_10 st tfu x2 (0 : Int32) v1)
theorem yd_X4_openFrom : yX4_openFrom.cls = RX4 ∧ yX4_openFrom.cls ≠ "java/lang/invoke/MethodHandle" ∧ yX4_openFrom.cls ≠ "java/lang/invoke/VarHandle" ∧ (parseMethodDescriptor yX4_openFrom.desc).map (fun d => d.parameters.length) = some 2 := by decide +kernel
set_option maxHeartbeats 4000000 in
set_option maxRecDepth 100000 in
theorem k_X4_openFrom_10 {l : Launch} {G : tG} {p : Program} {e : Env} {s : State} {m : MethodId} {below : List Frame} {meth : Method} {c : Code} {args : Array Value} {r : Int32} {st : tST} (S : CallFix p m c cX4_openFrom 5 s args wsL_law RX4) (hr : meth.sig.returnType = (some .int)) (hlk : meth.locks = false) : ∀ (n : Nat) (x2 : Int32) (x3 : Int32) (x4 : Int32) (H : Heap) (locs : List Loc) (ls : Array Slot), tIn G (tA G s.heap.size) s st H locs → lv_has ls 5 [(0, .ref (tad G 19)), (2, .int x2), (3, .int x3), (4, .int x4)] → f_X4_openFrom_10 st n x2 x3 x4 = some r → W p l e rm_X4_openFrom s m args below meth c H locs 0 0 (tZI G below args s r st) (F0 m 10 ls []) := by
  have hx := S.1
  have hb := S.2.1
  have hown := S.2.2.2.1
  have hts := S.2.2.2.2
  intro n
  induction n with
  | zero => intro x2 x3 x4 H locs ls hI hl hf; exact nomatch (show (none : Option (Int32)) = some _ from hf)
  | succ n ih =>
    intro x2 x3 x4 H locs ls hI hl hf
    rw [f_X4_openFrom_10] at hf
    refine lv_iload hx hb dX4_openFrom_10 (lv_at hl 3 rfl) ?_
    refine lv_iconst (v := -1) hx hb dX4_openFrom_12 (by decide) ?_
    refine tk_icmp_eq (tgt := 50) hx hb hf dX4_openFrom_13 (by decide) (fun hf => ?_) (fun hf => ?_)
    · refine lv_iload_n hx hb dX4_openFrom_50 rfl (lv_at hl 2 rfl) ?_
      exact tk_riR S hr hlk hI hf dX4_openFrom_51
    · refine lv_iload_n hx hb dX4_openFrom_16 rfl (lv_at hl 2 rfl) ?_
      refine lv_iload_n hx hb dX4_openFrom_17 rfl (lv_at hl 1 rfl) ?_
      refine lv_aload_n hx hb dX4_openFrom_18 rfl (lv_at hl 0 rfl) ?_
      refine tg_X4_15 S hI mw_76 dX4_openFrom_19 ?_
      refine lv_iload hx hb dX4_openFrom_22 (lv_at hl 3 rfl) ?_
      refine tk_iald S hI (k := 31) (n := 90) rfl hf dX4_openFrom_24 (fun v1 hf => ?_)
      refine tk_bd hf (fun r2 hq hf => ?_)
      refine tk_sI S hI hl.1 (c_X4_has l G st x2 v1 hq) (va_cwS 2 hts (tk_gS mw_229 mw_230 mw_5 mw_231) rfl rfl rfl yd_X4_has ⟨Nat.le_of_ble_eq_true rfl, Nat.le_of_ble_eq_true rfl⟩) rfl [.int x3] rfl (Nat.le_of_ble_eq_true rfl) dX4_openFrom_25 (fun H locs hI => ?_)
      refine tk_if_eq (tgt := 35) hx hb hf dX4_openFrom_28 (by decide) (fun hf => ?_) (fun hf => ?_)
      · refine lv_iconst (v := 0) hx hb dX4_openFrom_35 (by decide) ?_
        refine lv_iadd hx hb dX4_openFrom_36 ?_
        refine tk_topi hf (fun i3 hf => ?_)
        refine lv_istore_n (lv' := [(3, .int i3), (0, .ref (tad G 19)), (2, .int x2), (4, .int x4)]) hx hb dX4_openFrom_37 rfl hl (by decide) rfl (fun ls hl => ?_)
        refine lv_aload_n hx hb dX4_openFrom_38 rfl (lv_at hl 1 rfl) ?_
        refine tg_X4_18 S hI mw_79 dX4_openFrom_39 ?_
        refine lv_iload hx hb dX4_openFrom_42 (lv_at hl 3 rfl) ?_
        refine tk_iald S hI (k := 34) (n := 90) rfl hf dX4_openFrom_44 (fun v4 hf => ?_)
        refine lv_istore (lv' := [(4, .int v4), (3, .int i3), (0, .ref (tad G 19)), (2, .int x2)]) hx hb dX4_openFrom_45 hl (by decide) rfl (fun ls hl => ?_)
        refine lv_goto (tgt := 10) hx hb dX4_openFrom_47 (by decide) ?_
        exact ih x2 i3 v4 _ _ _ hI (lv_sub hl [2, 3, 1, 0] rfl) hf
      · refine lv_iconst (v := 1) hx hb dX4_openFrom_31 (by decide) ?_
        refine lv_goto (tgt := 36) hx hb dX4_openFrom_32 (by decide) ?_
        refine lv_iadd hx hb dX4_openFrom_36 ?_
        refine tk_topi hf (fun i5 hf => ?_)
        refine lv_istore_n (lv' := [(3, .int i5), (0, .ref (tad G 19)), (2, .int x2), (4, .int x4)]) hx hb dX4_openFrom_37 rfl hl (by decide) rfl (fun ls hl => ?_)
        refine lv_aload_n hx hb dX4_openFrom_38 rfl (lv_at hl 1 rfl) ?_
        refine tg_X4_18 S hI mw_79 dX4_openFrom_39 ?_
        refine lv_iload hx hb dX4_openFrom_42 (lv_at hl 3 rfl) ?_
        refine tk_iald S hI (k := 34) (n := 90) rfl hf dX4_openFrom_44 (fun v6 hf => ?_)
        refine lv_istore (lv' := [(4, .int v6), (3, .int i5), (0, .ref (tad G 19)), (2, .int x2)]) hx hb dX4_openFrom_45 hl (by decide) rfl (fun ls hl => ?_)
        refine lv_goto (tgt := 10) hx hb dX4_openFrom_47 (by decide) ?_
        exact ih x2 i5 v6 _ _ _ hI (lv_sub hl [2, 3, 1, 0] rfl) hf
set_option maxHeartbeats 4000000 in
set_option maxRecDepth 100000 in
theorem c_X4_openFrom (l : Launch) (G : tG) (st : tST) (x1 : Int32) (x2 : Int32) {r : Int32} (hf : f_X4_openFrom x1 x2 st = some r) : tCI l G yX4_openFrom cX4_openFrom 5 (some .int) rm_X4_openFrom [.ref (tad G 19), .int x1, .int x2] st r st := by
  refine tk_entI (by decide +kernel) (Nat.le_of_ble_eq_true rfl) (fun p e s m below meth c ls S hr hlk hI hl => ?_)
  have hl : lv_has ls 5 [(0, .ref (tad G 19)), (1, .int x1), (2, .int x2)] := hl
  have S : CallFix p m c cX4_openFrom 5 s [.ref (tad G 19), .int x1, .int x2].toArray wsL_law RX4 := S
  have hx := S.1
  have hb := S.2.1
  have hown := S.2.2.2.1
  have hts := S.2.2.2.2
  unfold f_X4_openFrom at hf
  refine lv_iconst (v := 0) hx hb dX4_openFrom_0 (by decide) ?_
  refine lv_istore_n (lv' := [(3, .int (0 : Int32)), (0, .ref (tad G 19)), (1, .int x1), (2, .int x2)]) hx hb dX4_openFrom_1 rfl hl (by decide) rfl (fun ls hl => ?_)
  refine lv_aload_n hx hb dX4_openFrom_2 rfl (lv_at hl 1 rfl) ?_
  refine tg_X4_17 S hI mw_78 dX4_openFrom_3 ?_
  refine lv_iload_n hx hb dX4_openFrom_6 rfl (lv_at hl 2 rfl) ?_
  refine tk_iald S hI (k := 33) (n := 90) rfl hf dX4_openFrom_7 (fun v1 hf => ?_)
  refine lv_istore (lv' := [(4, .int v1), (3, .int (0 : Int32)), (0, .ref (tad G 19)), (1, .int x1), (2, .int x2)]) hx hb dX4_openFrom_8 hl (by decide) rfl (fun ls hl => ?_)
  exact k_X4_openFrom_10 S hr hlk tfu x2 (0 : Int32) v1 _ _ _ hI (lv_sub hl [2, 4, 1, 0] rfl) hf
/-! X4_isTorn -/
abbrev rm_X4_isTorn : Room := { frames := 2, cells := 0, slots := 0, locals := 45 }
def f_X4_isTorn_30 (st : tST)  : Nat → Int32 → Int32 → Int32 → Int32 → Option (Int32)
  | 0, _, _, _, _ => none
  | n + 1, x1, x2, x3, x4 => (if (tg_I st 112) ≤ x4 then tzr x3 (some x3) else (if x3 = 0 then tal 90 (tg_A st 29) x4 (fun v2 => (if v2 = x1 then (f_X4_openFrom x4 x2 st).bind (fun r4 => (if r4 ≤ (1 : Int32) then tlet (x4 + (1 : Int32)) (fun i5 => f_X4_isTorn_30 st n x1 x2 (0 : Int32) i5) else tlet (x4 + (1 : Int32)) (fun i6 => f_X4_isTorn_30 st n x1 x2 (1 : Int32) i6))) else tlet (x4 + (1 : Int32)) (fun i3 => f_X4_isTorn_30 st n x1 x2 (0 : Int32) i3))) else tlet (x4 + (1 : Int32)) (fun i1 => f_X4_isTorn_30 st n x1 x2 (1 : Int32) i1)))
def f_X4_isTorn (x1 : Int32) (st : tST) : Option (Int32) := (f_X4_inState (0 : Int32) st).bind (fun r1 => tal 64 (tg_A st 24) x1 (fun v2 => (f_X4_ones (v2 &&& r1)).bind (fun r3 => (if r3 ≤ (1 : Int32) then f_X4_isTorn_30 st tfu x1 r1 (0 : Int32) (0 : Int32) else f_X4_isTorn_30 st tfu x1 r1 (1 : Int32) (0 : Int32)))))
theorem yd_X4_isTorn : yX4_isTorn.cls = RX4 ∧ yX4_isTorn.cls ≠ "java/lang/invoke/MethodHandle" ∧ yX4_isTorn.cls ≠ "java/lang/invoke/VarHandle" ∧ (parseMethodDescriptor yX4_isTorn.desc).map (fun d => d.parameters.length) = some 1 := by decide +kernel
set_option maxHeartbeats 4000000 in
set_option maxRecDepth 100000 in
theorem k_X4_isTorn_30 {l : Launch} {G : tG} {p : Program} {e : Env} {s : State} {m : MethodId} {below : List Frame} {meth : Method} {c : Code} {args : Array Value} {r : Int32} {st : tST} (S : CallFix p m c cX4_isTorn 5 s args wsL_law RX4) (hr : meth.sig.returnType = (some .boolean)) (hlk : meth.locks = false) : ∀ (n : Nat) (x1 : Int32) (x2 : Int32) (x3 : Int32) (x4 : Int32) (H : Heap) (locs : List Loc) (ls : Array Slot), tIn G (tA G s.heap.size) s st H locs → lv_has ls 5 [(0, .ref (tad G 19)), (1, .int x1), (2, .int x2), (3, .int x3), (4, .int x4)] → f_X4_isTorn_30 st n x1 x2 x3 x4 = some r → W p l e rm_X4_isTorn s m args below meth c H locs 0 0 (tZI G below args s r st) (F0 m 30 ls []) := by
  have hx := S.1
  have hb := S.2.1
  have hown := S.2.2.2.1
  have hts := S.2.2.2.2
  intro n
  induction n with
  | zero => intro x1 x2 x3 x4 H locs ls hI hl hf; exact nomatch (show (none : Option (Int32)) = some _ from hf)
  | succ n ih =>
    intro x1 x2 x3 x4 H locs ls hI hl hf
    rw [f_X4_isTorn_30] at hf
    refine lv_iload hx hb dX4_isTorn_30 (lv_at hl 4 rfl) ?_
    refine lv_aload_n hx hb dX4_isTorn_32 rfl (lv_at hl 0 rfl) ?_
    refine tg_X4_12 S hI mw_137 dX4_isTorn_33 ?_
    refine tk_icmp_ge (tgt := 77) hx hb hf dX4_isTorn_36 (by decide) (fun hf => ?_) (fun hf => ?_)
    · refine lv_iload_n hx hb dX4_isTorn_77 rfl (lv_at hl 3 rfl) ?_
      exact tk_rzR S hr hlk hI hf dX4_isTorn_78
    · refine lv_iload_n hx hb dX4_isTorn_39 rfl (lv_at hl 3 rfl) ?_
      refine tk_if_ne (tgt := 65) hx hb hf dX4_isTorn_40 (by decide) (fun hf => ?_) (fun hf => ?_)
      · refine lv_iconst (v := 1) hx hb dX4_isTorn_65 (by decide) ?_
        refine lv_goto (tgt := 70) hx hb dX4_isTorn_66 (by decide) ?_
        refine lv_istore_n (lv' := [(3, .int (1 : Int32)), (0, .ref (tad G 19)), (1, .int x1), (2, .int x2), (4, .int x4)]) hx hb dX4_isTorn_70 rfl hl (by decide) rfl (fun ls hl => ?_)
        refine tk_let hf (fun i1 ei1 hf => ?_)
        refine lv_iinc (v := i1) (lv' := [(4, .int i1), (3, .int (1 : Int32)), (0, .ref (tad G 19)), (1, .int x1), (2, .int x2)]) hx hb dX4_isTorn_71 hl (k := 4) rfl (by rw [ei1]; rfl) (by decide) rfl (fun ls hl => ?_)
        refine lv_goto (tgt := 30) hx hb dX4_isTorn_74 (by decide) ?_
        exact ih x1 x2 (1 : Int32) i1 _ _ _ hI (lv_sub hl [2, 3, 4, 1, 0] rfl) hf
      · refine lv_aload_n hx hb dX4_isTorn_43 rfl (lv_at hl 0 rfl) ?_
        refine tg_X4_13 S hI mw_74 dX4_isTorn_44 ?_
        refine lv_iload hx hb dX4_isTorn_47 (lv_at hl 4 rfl) ?_
        refine tk_iald S hI (k := 29) (n := 90) rfl hf dX4_isTorn_49 (fun v2 hf => ?_)
        refine lv_iload_n hx hb dX4_isTorn_50 rfl (lv_at hl 1 rfl) ?_
        refine tk_icmp_ne (tgt := 69) hx hb hf dX4_isTorn_51 (by decide) (fun hf => ?_) (fun hf => ?_)
        · refine lv_iconst (v := 0) hx hb dX4_isTorn_69 (by decide) ?_
          refine lv_istore_n (lv' := [(3, .int (0 : Int32)), (0, .ref (tad G 19)), (1, .int x1), (2, .int x2), (4, .int x4)]) hx hb dX4_isTorn_70 rfl hl (by decide) rfl (fun ls hl => ?_)
          refine tk_let hf (fun i3 ei3 hf => ?_)
          refine lv_iinc (v := i3) (lv' := [(4, .int i3), (3, .int (0 : Int32)), (0, .ref (tad G 19)), (1, .int x1), (2, .int x2)]) hx hb dX4_isTorn_71 hl (k := 4) rfl (by rw [ei3]; rfl) (by decide) rfl (fun ls hl => ?_)
          refine lv_goto (tgt := 30) hx hb dX4_isTorn_74 (by decide) ?_
          exact ih x1 x2 (0 : Int32) i3 _ _ _ hI (lv_sub hl [2, 3, 4, 1, 0] rfl) hf
        · refine lv_aload_n hx hb dX4_isTorn_54 rfl (lv_at hl 0 rfl) ?_
          refine lv_iload hx hb dX4_isTorn_55 (lv_at hl 4 rfl) ?_
          refine lv_iload_n hx hb dX4_isTorn_57 rfl (lv_at hl 2 rfl) ?_
          refine tk_bd hf (fun r4 hq hf => ?_)
          refine tk_vI S hI hl.1 (c_X4_openFrom l G st x4 x2 hq) (cwV 2 hts (tk_gV mw_530 mw_531 mw_532 mw_5 mw_533) rfl rfl rfl yd_X4_openFrom ⟨Nat.le_of_ble_eq_true rfl, Nat.le_of_ble_eq_true rfl⟩) 19 4 rfl rfl rfl rfl [] rfl (Nat.le_of_ble_eq_true rfl) dX4_isTorn_58 (fun H locs hI => ?_)
          refine lv_iconst (v := 1) hx hb dX4_isTorn_61 (by decide) ?_
          refine tk_icmp_le (tgt := 69) hx hb hf dX4_isTorn_62 (by decide) (fun hf => ?_) (fun hf => ?_)
          · refine lv_iconst (v := 0) hx hb dX4_isTorn_69 (by decide) ?_
            refine lv_istore_n (lv' := [(3, .int (0 : Int32)), (0, .ref (tad G 19)), (1, .int x1), (2, .int x2), (4, .int x4)]) hx hb dX4_isTorn_70 rfl hl (by decide) rfl (fun ls hl => ?_)
            refine tk_let hf (fun i5 ei5 hf => ?_)
            refine lv_iinc (v := i5) (lv' := [(4, .int i5), (3, .int (0 : Int32)), (0, .ref (tad G 19)), (1, .int x1), (2, .int x2)]) hx hb dX4_isTorn_71 hl (k := 4) rfl (by rw [ei5]; rfl) (by decide) rfl (fun ls hl => ?_)
            refine lv_goto (tgt := 30) hx hb dX4_isTorn_74 (by decide) ?_
            exact ih x1 x2 (0 : Int32) i5 _ _ _ hI (lv_sub hl [2, 3, 4, 1, 0] rfl) hf
          · refine lv_iconst (v := 1) hx hb dX4_isTorn_65 (by decide) ?_
            refine lv_goto (tgt := 70) hx hb dX4_isTorn_66 (by decide) ?_
            refine lv_istore_n (lv' := [(3, .int (1 : Int32)), (0, .ref (tad G 19)), (1, .int x1), (2, .int x2), (4, .int x4)]) hx hb dX4_isTorn_70 rfl hl (by decide) rfl (fun ls hl => ?_)
            refine tk_let hf (fun i6 ei6 hf => ?_)
            refine lv_iinc (v := i6) (lv' := [(4, .int i6), (3, .int (1 : Int32)), (0, .ref (tad G 19)), (1, .int x1), (2, .int x2)]) hx hb dX4_isTorn_71 hl (k := 4) rfl (by rw [ei6]; rfl) (by decide) rfl (fun ls hl => ?_)
            refine lv_goto (tgt := 30) hx hb dX4_isTorn_74 (by decide) ?_
            exact ih x1 x2 (1 : Int32) i6 _ _ _ hI (lv_sub hl [2, 3, 4, 1, 0] rfl) hf
set_option maxHeartbeats 4000000 in
set_option maxRecDepth 100000 in
theorem c_X4_isTorn (l : Launch) (G : tG) (st : tST) (x1 : Int32) {r : Int32} (hf : f_X4_isTorn x1 st = some r) : tCI l G yX4_isTorn cX4_isTorn 5 (some .boolean) rm_X4_isTorn [.ref (tad G 19), .int x1] st r st := by
  refine tk_entI (by decide +kernel) (Nat.le_of_ble_eq_true rfl) (fun p e s m below meth c ls S hr hlk hI hl => ?_)
  have hl : lv_has ls 5 [(0, .ref (tad G 19)), (1, .int x1)] := hl
  have S : CallFix p m c cX4_isTorn 5 s [.ref (tad G 19), .int x1].toArray wsL_law RX4 := S
  have hx := S.1
  have hb := S.2.1
  have hown := S.2.2.2.1
  have hts := S.2.2.2.2
  unfold f_X4_isTorn at hf
  refine lv_aload_n hx hb dX4_isTorn_0 rfl (lv_at hl 0 rfl) ?_
  refine lv_iconst (v := 0) hx hb dX4_isTorn_1 (by decide) ?_
  refine tk_bd hf (fun r1 hq hf => ?_)
  refine tk_vI S hI hl.1 (c_X4_inState l G st (0 : Int32) hq) (cwV 1 hts (tk_gV mw_311 mw_312 mw_313 mw_5 mw_314) rfl rfl rfl yd_X4_inState ⟨Nat.le_of_ble_eq_true rfl, Nat.le_of_ble_eq_true rfl⟩) 19 4 rfl rfl rfl rfl [] rfl (Nat.le_of_ble_eq_true rfl) dX4_isTorn_2 (fun H locs hI => ?_)
  refine lv_istore_n (lv' := [(2, .int r1), (0, .ref (tad G 19)), (1, .int x1)]) hx hb dX4_isTorn_5 rfl hl (by decide) rfl (fun ls hl => ?_)
  refine lv_aload_n hx hb dX4_isTorn_6 rfl (lv_at hl 1 rfl) ?_
  refine tg_X4_6 S hI mw_68 dX4_isTorn_7 ?_
  refine lv_iload_n hx hb dX4_isTorn_10 rfl (lv_at hl 2 rfl) ?_
  refine tk_iald S hI (k := 24) (n := 64) rfl hf dX4_isTorn_11 (fun v2 hf => ?_)
  refine lv_iload_n hx hb dX4_isTorn_12 rfl (lv_at hl 0 rfl) ?_
  refine lv_iand hx hb dX4_isTorn_13 ?_
  refine tk_bd hf (fun r3 hq hf => ?_)
  refine tk_sI S hI hl.1 (c_X4_ones l G st (v2 &&& r1) hq) (va_cwS 1 hts (tk_gS mw_354 mw_355 mw_5 mw_356) rfl rfl rfl yd_X4_ones ⟨Nat.le_of_ble_eq_true rfl, Nat.le_of_ble_eq_true rfl⟩) rfl [] rfl (Nat.le_of_ble_eq_true rfl) dX4_isTorn_14 (fun H locs hI => ?_)
  refine lv_iconst (v := 1) hx hb dX4_isTorn_17 (by decide) ?_
  refine tk_icmp_le (tgt := 25) hx hb hf dX4_isTorn_18 (by decide) (fun hf => ?_) (fun hf => ?_)
  · refine lv_iconst (v := 0) hx hb dX4_isTorn_25 (by decide) ?_
    refine lv_istore_n (lv' := [(3, .int (0 : Int32)), (2, .int r1), (0, .ref (tad G 19)), (1, .int x1)]) hx hb dX4_isTorn_26 rfl hl (by decide) rfl (fun ls hl => ?_)
    refine lv_iconst (v := 0) hx hb dX4_isTorn_27 (by decide) ?_
    refine lv_istore (lv' := [(4, .int (0 : Int32)), (3, .int (0 : Int32)), (2, .int r1), (0, .ref (tad G 19)), (1, .int x1)]) hx hb dX4_isTorn_28 hl (by decide) rfl (fun ls hl => ?_)
    exact k_X4_isTorn_30 S hr hlk tfu x1 r1 (0 : Int32) (0 : Int32) _ _ _ hI (lv_sub hl [3, 4, 2, 1, 0] rfl) hf
  · refine lv_iconst (v := 1) hx hb dX4_isTorn_21 (by decide) ?_
    refine lv_goto (tgt := 26) hx hb dX4_isTorn_22 (by decide) ?_
    refine lv_istore_n (lv' := [(3, .int (1 : Int32)), (2, .int r1), (0, .ref (tad G 19)), (1, .int x1)]) hx hb dX4_isTorn_26 rfl hl (by decide) rfl (fun ls hl => ?_)
    refine lv_iconst (v := 0) hx hb dX4_isTorn_27 (by decide) ?_
    refine lv_istore (lv' := [(4, .int (0 : Int32)), (3, .int (1 : Int32)), (2, .int r1), (0, .ref (tad G 19)), (1, .int x1)]) hx hb dX4_isTorn_28 hl (by decide) rfl (fun ls hl => ?_)
    exact k_X4_isTorn_30 S hr hlk tfu x1 r1 (1 : Int32) (0 : Int32) _ _ _ hI (lv_sub hl [3, 4, 2, 1, 0] rfl) hf
/-! X4_tornMany -/
abbrev rm_X4_tornMany : Room := { frames := 3, cells := 0, slots := 0, locals := 69 }
def f_X4_tornMany_4 (st : tST)  : Nat → Int32 → Int32 → Option (Int32)
  | 0, _, _ => none
  | n + 1, x1, x2 => (if (tg_I st 102) ≤ x2 then some x1 else (f_X4_isTorn x2 st).bind (fun r1 => (if r1 = 0 then tlet (x1 + (0 : Int32)) (fun i2 => tlet (x2 + (1 : Int32)) (fun i3 => f_X4_tornMany_4 st n i2 i3)) else tlet (x1 + (1 : Int32)) (fun i4 => tlet (x2 + (1 : Int32)) (fun i5 => f_X4_tornMany_4 st n i4 i5)))))
def f_X4_tornMany (st : tST) : Option (Int32) := f_X4_tornMany_4 st tfu (0 : Int32) (0 : Int32)
theorem yd_X4_tornMany : yX4_tornMany.cls = RX4 ∧ yX4_tornMany.cls ≠ "java/lang/invoke/MethodHandle" ∧ yX4_tornMany.cls ≠ "java/lang/invoke/VarHandle" ∧ (parseMethodDescriptor yX4_tornMany.desc).map (fun d => d.parameters.length) = some 0 := by decide +kernel
set_option maxHeartbeats 4000000 in
set_option maxRecDepth 100000 in
theorem k_X4_tornMany_4 {l : Launch} {G : tG} {p : Program} {e : Env} {s : State} {m : MethodId} {below : List Frame} {meth : Method} {c : Code} {args : Array Value} {r : Int32} {st : tST} (S : CallFix p m c cX4_tornMany 3 s args wsL_law RX4) (hr : meth.sig.returnType = (some .int)) (hlk : meth.locks = false) : ∀ (n : Nat) (x1 : Int32) (x2 : Int32) (H : Heap) (locs : List Loc) (ls : Array Slot), tIn G (tA G s.heap.size) s st H locs → lv_has ls 3 [(0, .ref (tad G 19)), (1, .int x1), (2, .int x2)] → f_X4_tornMany_4 st n x1 x2 = some r → W p l e rm_X4_tornMany s m args below meth c H locs 0 0 (tZI G below args s r st) (F0 m 4 ls []) := by
  have hx := S.1
  have hb := S.2.1
  have hown := S.2.2.2.1
  have hts := S.2.2.2.2
  intro n
  induction n with
  | zero => intro x1 x2 H locs ls hI hl hf; exact nomatch (show (none : Option (Int32)) = some _ from hf)
  | succ n ih =>
    intro x1 x2 H locs ls hI hl hf
    rw [f_X4_tornMany_4] at hf
    refine lv_iload_n hx hb dX4_tornMany_4 rfl (lv_at hl 2 rfl) ?_
    refine lv_aload_n hx hb dX4_tornMany_5 rfl (lv_at hl 0 rfl) ?_
    refine tg_X4_2 S hI mw_136 dX4_tornMany_6 ?_
    refine tk_icmp_ge (tgt := 34) hx hb hf dX4_tornMany_9 (by decide) (fun hf => ?_) (fun hf => ?_)
    · refine lv_iload_n hx hb dX4_tornMany_34 rfl (lv_at hl 1 rfl) ?_
      exact tk_riR S hr hlk hI hf dX4_tornMany_35
    · refine lv_iload_n hx hb dX4_tornMany_12 rfl (lv_at hl 1 rfl) ?_
      refine lv_aload_n hx hb dX4_tornMany_13 rfl (lv_at hl 0 rfl) ?_
      refine lv_iload_n hx hb dX4_tornMany_14 rfl (lv_at hl 2 rfl) ?_
      refine tk_bd hf (fun r1 hq hf => ?_)
      refine tk_vI S hI hl.1 (c_X4_isTorn l G st x2 hq) (cwV 1 hts (tk_gV mw_526 mw_527 mw_528 mw_5 mw_529) rfl rfl rfl yd_X4_isTorn ⟨Nat.le_of_ble_eq_true rfl, Nat.le_of_ble_eq_true rfl⟩) 19 4 rfl rfl rfl rfl [.int x1] rfl (Nat.le_of_ble_eq_true rfl) dX4_tornMany_15 (fun H locs hI => ?_)
      refine tk_if_eq (tgt := 25) hx hb hf dX4_tornMany_18 (by decide) (fun hf => ?_) (fun hf => ?_)
      · refine lv_iconst (v := 0) hx hb dX4_tornMany_25 (by decide) ?_
        refine lv_iadd hx hb dX4_tornMany_26 ?_
        refine tk_topi hf (fun i2 hf => ?_)
        refine lv_istore_n (lv' := [(1, .int i2), (0, .ref (tad G 19)), (2, .int x2)]) hx hb dX4_tornMany_27 rfl hl (by decide) rfl (fun ls hl => ?_)
        refine tk_let hf (fun i3 ei3 hf => ?_)
        refine lv_iinc (v := i3) (lv' := [(2, .int i3), (1, .int i2), (0, .ref (tad G 19))]) hx hb dX4_tornMany_28 hl (k := 2) rfl (by rw [ei3]; rfl) (by decide) rfl (fun ls hl => ?_)
        refine lv_goto (tgt := 4) hx hb dX4_tornMany_31 (by decide) ?_
        exact ih i2 i3 _ _ _ hI (lv_sub hl [2, 1, 0] rfl) hf
      · refine lv_iconst (v := 1) hx hb dX4_tornMany_21 (by decide) ?_
        refine lv_goto (tgt := 26) hx hb dX4_tornMany_22 (by decide) ?_
        refine lv_iadd hx hb dX4_tornMany_26 ?_
        refine tk_topi hf (fun i4 hf => ?_)
        refine lv_istore_n (lv' := [(1, .int i4), (0, .ref (tad G 19)), (2, .int x2)]) hx hb dX4_tornMany_27 rfl hl (by decide) rfl (fun ls hl => ?_)
        refine tk_let hf (fun i5 ei5 hf => ?_)
        refine lv_iinc (v := i5) (lv' := [(2, .int i5), (1, .int i4), (0, .ref (tad G 19))]) hx hb dX4_tornMany_28 hl (k := 2) rfl (by rw [ei5]; rfl) (by decide) rfl (fun ls hl => ?_)
        refine lv_goto (tgt := 4) hx hb dX4_tornMany_31 (by decide) ?_
        exact ih i4 i5 _ _ _ hI (lv_sub hl [2, 1, 0] rfl) hf
set_option maxHeartbeats 4000000 in
set_option maxRecDepth 100000 in
theorem c_X4_tornMany (l : Launch) (G : tG) (st : tST) {r : Int32} (hf : f_X4_tornMany st = some r) : tCI l G yX4_tornMany cX4_tornMany 3 (some .int) rm_X4_tornMany [.ref (tad G 19)] st r st := by
  refine tk_entI (by decide +kernel) (Nat.le_of_ble_eq_true rfl) (fun p e s m below meth c ls S hr hlk hI hl => ?_)
  have hl : lv_has ls 3 [(0, .ref (tad G 19))] := hl
  have S : CallFix p m c cX4_tornMany 3 s [.ref (tad G 19)].toArray wsL_law RX4 := S
  have hx := S.1
  have hb := S.2.1
  have hown := S.2.2.2.1
  have hts := S.2.2.2.2
  unfold f_X4_tornMany at hf
  refine lv_iconst (v := 0) hx hb dX4_tornMany_0 (by decide) ?_
  refine lv_istore_n (lv' := [(1, .int (0 : Int32)), (0, .ref (tad G 19))]) hx hb dX4_tornMany_1 rfl hl (by decide) rfl (fun ls hl => ?_)
  refine lv_iconst (v := 0) hx hb dX4_tornMany_2 (by decide) ?_
  refine lv_istore_n (lv' := [(2, .int (0 : Int32)), (1, .int (0 : Int32)), (0, .ref (tad G 19))]) hx hb dX4_tornMany_3 rfl hl (by decide) rfl (fun ls hl => ?_)
  exact k_X4_tornMany_4 S hr hlk tfu (0 : Int32) (0 : Int32) _ _ _ hI (lv_sub hl [2, 1, 0] rfl) hf
/-! X4_howMany -/
abbrev rm_X4_howMany : Room := { frames := 4, cells := 0, slots := 0, locals := 91 }
def f_X4_howMany (x1 : Int32) (st : tST) : Option (Int32) := (if x1 = (0 : Int32) then some (tg_I st 100) else (if x1 = (1 : Int32) then some (tg_I st 102) else (if x1 = (2 : Int32) then some (tg_I st 112) else (if x1 = (3 : Int32) then some (tg_I st 107) else (if x1 = (4 : Int32) then (f_X4_inState (0 : Int32) st).bind (fun r1 => (f_X4_ones r1).bind (fun r2 => some r2)) else (if x1 = (5 : Int32) then (f_X4_inState (1 : Int32) st).bind (fun r3 => (f_X4_ones r3).bind (fun r4 => some r4)) else (if x1 = (6 : Int32) then (f_X4_tornMany st).bind (fun r5 => some r5) else (if x1 = (7 : Int32) then some (tg_I st 119) else (if x1 = (8 : Int32) then some (tg_I st 120) else some (-1002 : Int32))))))))))
theorem yd_X4_howMany : yX4_howMany.cls = RX4 ∧ yX4_howMany.cls ≠ "java/lang/invoke/MethodHandle" ∧ yX4_howMany.cls ≠ "java/lang/invoke/VarHandle" ∧ (parseMethodDescriptor yX4_howMany.desc).map (fun d => d.parameters.length) = some 1 := by decide +kernel
set_option maxHeartbeats 4000000 in
set_option maxRecDepth 100000 in
theorem c_X4_howMany (l : Launch) (G : tG) (st : tST) (x1 : Int32) {r : Int32} (hf : f_X4_howMany x1 st = some r) : tCI l G yX4_howMany cX4_howMany 2 (some .int) rm_X4_howMany [.ref (tad G 19), .int x1] st r st := by
  refine tk_entI (by decide +kernel) (Nat.le_of_ble_eq_true rfl) (fun p e s m below meth c ls S hr hlk hI hl => ?_)
  have hl : lv_has ls 2 [(0, .ref (tad G 19)), (1, .int x1)] := hl
  have S : CallFix p m c cX4_howMany 2 s [.ref (tad G 19), .int x1].toArray wsL_law RX4 := S
  have hx := S.1
  have hb := S.2.1
  have hown := S.2.2.2.1
  have hts := S.2.2.2.2
  unfold f_X4_howMany at hf
  refine lv_iload_n hx hb dX4_howMany_0 rfl (lv_at hl 1 rfl) ?_
  refine tk_if hf (fun c1_0 hf => ?_) (fun c1_0 hf => ?_)
  · refine lv_tableIn (off := 51) (tgt := 52) hx hb dX4_howMany_1 (by rw [c1_0]; decide) (by rw [c1_0]; decide) (by rw [c1_0]; rfl) (by decide) ?_
    refine lv_aload_n hx hb dX4_howMany_52 rfl (lv_at hl 0 rfl) ?_
    refine tg_X4_0 S hI mw_94 dX4_howMany_53 ?_
    exact tk_riR S hr hlk hI hf dX4_howMany_56
  refine tk_if hf (fun c1_1 hf => ?_) (fun c1_1 hf => ?_)
  · refine lv_tableIn (off := 56) (tgt := 57) hx hb dX4_howMany_1 (by rw [c1_1]; decide) (by rw [c1_1]; decide) (by rw [c1_1]; rfl) (by decide) ?_
    refine lv_aload_n hx hb dX4_howMany_57 rfl (lv_at hl 0 rfl) ?_
    refine tg_X4_2 S hI mw_136 dX4_howMany_58 ?_
    exact tk_riR S hr hlk hI hf dX4_howMany_61
  refine tk_if hf (fun c1_2 hf => ?_) (fun c1_2 hf => ?_)
  · refine lv_tableIn (off := 61) (tgt := 62) hx hb dX4_howMany_1 (by rw [c1_2]; decide) (by rw [c1_2]; decide) (by rw [c1_2]; rfl) (by decide) ?_
    refine lv_aload_n hx hb dX4_howMany_62 rfl (lv_at hl 0 rfl) ?_
    refine tg_X4_12 S hI mw_137 dX4_howMany_63 ?_
    exact tk_riR S hr hlk hI hf dX4_howMany_66
  refine tk_if hf (fun c1_3 hf => ?_) (fun c1_3 hf => ?_)
  · refine lv_tableIn (off := 66) (tgt := 67) hx hb dX4_howMany_1 (by rw [c1_3]; decide) (by rw [c1_3]; decide) (by rw [c1_3]; rfl) (by decide) ?_
    refine lv_aload_n hx hb dX4_howMany_67 rfl (lv_at hl 0 rfl) ?_
    refine tg_X4_7 S hI mw_138 dX4_howMany_68 ?_
    exact tk_riR S hr hlk hI hf dX4_howMany_71
  refine tk_if hf (fun c1_4 hf => ?_) (fun c1_4 hf => ?_)
  · refine lv_tableIn (off := 71) (tgt := 72) hx hb dX4_howMany_1 (by rw [c1_4]; decide) (by rw [c1_4]; decide) (by rw [c1_4]; rfl) (by decide) ?_
    refine lv_aload_n hx hb dX4_howMany_72 rfl (lv_at hl 0 rfl) ?_
    refine lv_iconst (v := 0) hx hb dX4_howMany_73 (by decide) ?_
    refine tk_bd hf (fun r1 hq hf => ?_)
    refine tk_vI S hI hl.1 (c_X4_inState l G st (0 : Int32) hq) (cwV 1 hts (tk_gV mw_311 mw_312 mw_313 mw_5 mw_314) rfl rfl rfl yd_X4_inState ⟨Nat.le_of_ble_eq_true rfl, Nat.le_of_ble_eq_true rfl⟩) 19 4 rfl rfl rfl rfl [] rfl (Nat.le_of_ble_eq_true rfl) dX4_howMany_74 (fun H locs hI => ?_)
    refine tk_bd hf (fun r2 hq hf => ?_)
    refine tk_sI S hI hl.1 (c_X4_ones l G st r1 hq) (va_cwS 1 hts (tk_gS mw_354 mw_355 mw_5 mw_356) rfl rfl rfl yd_X4_ones ⟨Nat.le_of_ble_eq_true rfl, Nat.le_of_ble_eq_true rfl⟩) rfl [] rfl (Nat.le_of_ble_eq_true rfl) dX4_howMany_77 (fun H locs hI => ?_)
    exact tk_riR S hr hlk hI hf dX4_howMany_80
  refine tk_if hf (fun c1_5 hf => ?_) (fun c1_5 hf => ?_)
  · refine lv_tableIn (off := 80) (tgt := 81) hx hb dX4_howMany_1 (by rw [c1_5]; decide) (by rw [c1_5]; decide) (by rw [c1_5]; rfl) (by decide) ?_
    refine lv_aload_n hx hb dX4_howMany_81 rfl (lv_at hl 0 rfl) ?_
    refine lv_iconst (v := 1) hx hb dX4_howMany_82 (by decide) ?_
    refine tk_bd hf (fun r3 hq hf => ?_)
    refine tk_vI S hI hl.1 (c_X4_inState l G st (1 : Int32) hq) (cwV 1 hts (tk_gV mw_311 mw_312 mw_313 mw_5 mw_314) rfl rfl rfl yd_X4_inState ⟨Nat.le_of_ble_eq_true rfl, Nat.le_of_ble_eq_true rfl⟩) 19 4 rfl rfl rfl rfl [] rfl (Nat.le_of_ble_eq_true rfl) dX4_howMany_83 (fun H locs hI => ?_)
    refine tk_bd hf (fun r4 hq hf => ?_)
    refine tk_sI S hI hl.1 (c_X4_ones l G st r3 hq) (va_cwS 1 hts (tk_gS mw_354 mw_355 mw_5 mw_356) rfl rfl rfl yd_X4_ones ⟨Nat.le_of_ble_eq_true rfl, Nat.le_of_ble_eq_true rfl⟩) rfl [] rfl (Nat.le_of_ble_eq_true rfl) dX4_howMany_86 (fun H locs hI => ?_)
    exact tk_riR S hr hlk hI hf dX4_howMany_89
  refine tk_if hf (fun c1_6 hf => ?_) (fun c1_6 hf => ?_)
  · refine lv_tableIn (off := 89) (tgt := 90) hx hb dX4_howMany_1 (by rw [c1_6]; decide) (by rw [c1_6]; decide) (by rw [c1_6]; rfl) (by decide) ?_
    refine lv_aload_n hx hb dX4_howMany_90 rfl (lv_at hl 0 rfl) ?_
    refine tk_bd hf (fun r5 hq hf => ?_)
    refine tk_vI S hI hl.1 (c_X4_tornMany l G st  hq) (cwV 0 hts (tk_gV mw_522 mw_523 mw_524 mw_5 mw_525) rfl rfl rfl yd_X4_tornMany ⟨Nat.le_of_ble_eq_true rfl, Nat.le_of_ble_eq_true rfl⟩) 19 4 rfl rfl rfl rfl [] rfl (Nat.le_of_ble_eq_true rfl) dX4_howMany_91 (fun H locs hI => ?_)
    exact tk_riR S hr hlk hI hf dX4_howMany_94
  refine tk_if hf (fun c1_7 hf => ?_) (fun c1_7 hf => ?_)
  · refine lv_tableIn (off := 94) (tgt := 95) hx hb dX4_howMany_1 (by rw [c1_7]; decide) (by rw [c1_7]; decide) (by rw [c1_7]; rfl) (by decide) ?_
    refine lv_aload_n hx hb dX4_howMany_95 rfl (lv_at hl 0 rfl) ?_
    refine tg_X4_19 S hI mw_139 dX4_howMany_96 ?_
    exact tk_riR S hr hlk hI hf dX4_howMany_99
  refine tk_if hf (fun c1_8 hf => ?_) (fun c1_8 hf => ?_)
  · refine lv_tableIn (off := 99) (tgt := 100) hx hb dX4_howMany_1 (by rw [c1_8]; decide) (by rw [c1_8]; decide) (by rw [c1_8]; rfl) (by decide) ?_
    refine lv_aload_n hx hb dX4_howMany_100 rfl (lv_at hl 0 rfl) ?_
    refine tg_X4_20 S hI mw_310 dX4_howMany_101 ?_
    exact tk_riR S hr hlk hI hf dX4_howMany_104
  refine lv_tableOut (tgt := 105) hx hb dX4_howMany_1 (by have := lv_neT c1_0 (a := 0) (by decide); have := lv_neT c1_1 (a := 1) (by decide); have := lv_neT c1_2 (a := 2) (by decide); have := lv_neT c1_3 (a := 3) (by decide); have := lv_neT c1_4 (a := 4) (by decide); have := lv_neT c1_5 (a := 5) (by decide); have := lv_neT c1_6 (a := 6) (by decide); have := lv_neT c1_7 (a := 7) (by decide); have := lv_neT c1_8 (a := 8) (by decide); omega) (by decide) ?_
  refine lv_sipush (v := -1002) hx hb dX4_howMany_105 (by decide) ?_
  exact tk_riR S hr hlk hI hf dX4_howMany_108
/-! X4_count -/
abbrev rm_X4_count : Room := { frames := 5, cells := 0, slots := 0, locals := 112 }
def f_X4_count (x1 : Int32) (st : tST) : Option (Int32) := (f_X4_howMany x1 st).bind (fun r1 => some r1)
theorem yd_X4_count : yX4_count.cls = RX4 ∧ yX4_count.cls ≠ "java/lang/invoke/MethodHandle" ∧ yX4_count.cls ≠ "java/lang/invoke/VarHandle" ∧ (parseMethodDescriptor yX4_count.desc).map (fun d => d.parameters.length) = some 1 := by decide +kernel
set_option maxHeartbeats 4000000 in
set_option maxRecDepth 100000 in
theorem c_X4_count (l : Launch) (G : tG) (st : tST) (x1 : Int32) {r : Int32} (hf : f_X4_count x1 st = some r) : tCI l G yX4_count cX4_count 2 (some .int) rm_X4_count [.ref (tad G 19), .int x1] st r st := by
  refine tk_entI (by decide +kernel) (Nat.le_of_ble_eq_true rfl) (fun p e s m below meth c ls S hr hlk hI hl => ?_)
  have hl : lv_has ls 2 [(0, .ref (tad G 19)), (1, .int x1)] := hl
  have S : CallFix p m c cX4_count 2 s [.ref (tad G 19), .int x1].toArray wsL_law RX4 := S
  have hx := S.1
  have hb := S.2.1
  have hown := S.2.2.2.1
  have hts := S.2.2.2.2
  unfold f_X4_count at hf
  refine lv_aload_n hx hb dX4_count_0 rfl (lv_at hl 0 rfl) ?_
  refine lv_iload_n hx hb dX4_count_1 rfl (lv_at hl 1 rfl) ?_
  refine tk_bd hf (fun r1 hq hf => ?_)
  refine tk_vI S hI hl.1 (c_X4_howMany l G st x1 hq) (cwV 1 hts (tk_gV mw_518 mw_519 mw_520 mw_5 mw_521) rfl rfl rfl yd_X4_howMany ⟨Nat.le_of_ble_eq_true rfl, Nat.le_of_ble_eq_true rfl⟩) 19 4 rfl rfl rfl rfl [] rfl (Nat.le_of_ble_eq_true rfl) dX4_count_2 (fun H locs hI => ?_)
  exact tk_riR S hr hlk hI hf dX4_count_5
/-! X4_mix -/
abbrev rm_X4_mix : Room := { frames := 0, cells := 0, slots := 0, locals := 0 }
def f_X4_mix (x1 : Int64) (st : tST) : Option (tST) := tlet (tp_L st 1 (((31 : Int64) * (tg_L st 1)) + x1)) (fun s1 => some s1)
theorem yd_X4_mix : yX4_mix.cls = RX4 ∧ yX4_mix.cls ≠ "java/lang/invoke/MethodHandle" ∧ yX4_mix.cls ≠ "java/lang/invoke/VarHandle" ∧ (parseMethodDescriptor yX4_mix.desc).map (fun d => d.parameters.length) = some 1 := by decide +kernel
set_option maxHeartbeats 4000000 in
set_option maxRecDepth 100000 in
theorem c_X4_mix (l : Launch) (G : tG) (st : tST) (x1 : Int64) {st' : tST} (hf : f_X4_mix x1 st = some st') : tCV l G yX4_mix cX4_mix 3 none rm_X4_mix [.ref (tad G 19), .long x1] st st' := by
  refine tk_entV (by decide +kernel) (Nat.le_of_ble_eq_true rfl) (fun p e s m below meth c ls S hr hlk hI hl => ?_)
  have hl : lv_has ls 3 [(0, .ref (tad G 19)), (1, .long x1)] := hl
  have S : CallFix p m c cX4_mix 3 s [.ref (tad G 19), .long x1].toArray wsL_law RX4 := S
  have hx := S.1
  have hb := S.2.1
  have hown := S.2.2.2.1
  have hts := S.2.2.2.2
  unfold f_X4_mix at hf
  refine lv_aload_n hx hb dX4_mix_0 rfl (lv_at hl 0 rfl) ?_
  refine lv_ldc2 (v := 31) hx hb hown (hts _ mw_574) dX4_mix_1 ?_
  refine lv_aload_n hx hb dX4_mix_4 rfl (lv_at hl 0 rfl) ?_
  refine tg_X4_31 S hI mw_565 dX4_mix_5 ?_
  refine lv_lmul hx hb dX4_mix_8 ?_
  refine lv_lload_n hx hb dX4_mix_9 rfl (lv_at hl 1 rfl) ?_
  refine lv_ladd hx hb dX4_mix_10 ?_
  refine tp_X4_31 S hI mw_565 hf dX4_mix_11 (fun s1 H locs hI hf => ?_)
  exact tk_rvW S hr hlk hI hf dX4_mix_14
/-! X4_mixView -/
abbrev rm_X4_mixView : Room := { frames := 5, cells := 0, slots := 0, locals := 111 }
def f_X4_mixView_22 (k_12 : Int32 → tST → Option (tST)) : Nat → Int32 → Int32 → tST → Option (tST)
  | 0, _, _, _ => none
  | n + 1, x2, x3, st => (if (6 : Int32) ≤ x3 then tlet (x2 + (1 : Int32)) (fun i1 => k_12 i1 st) else tal 64 (tg_A st 35) x2 (fun v2 => (f_X4_readNow v2 x3 st).bind (fun r3 => (f_X4_mix (r3.toInt64) st).bind (fun s4 => tlet (x3 + (1 : Int32)) (fun i5 => f_X4_mixView_22 k_12 n x2 i5 s4)))))
def f_X4_mixView_12 : Nat → Int32 → tST → Option (tST)
  | 0, _, _ => none
  | n + 1, x2, st => (if (tg_I st 121) ≤ x2 then some st else f_X4_mixView_22 (f_X4_mixView_12 n) tfu x2 (0 : Int32) st)
def f_X4_mixView (x1 : Int32) (st : tST) : Option (tST) := tbd (f_X4_lengthOf x1 st) (fun r1 s2 => (f_X4_mix (r1.toInt64) s2).bind (fun s3 => f_X4_mixView_12 tfu (0 : Int32) s3))
theorem yd_X4_mixView : yX4_mixView.cls = RX4 ∧ yX4_mixView.cls ≠ "java/lang/invoke/MethodHandle" ∧ yX4_mixView.cls ≠ "java/lang/invoke/VarHandle" ∧ (parseMethodDescriptor yX4_mixView.desc).map (fun d => d.parameters.length) = some 1 := by decide +kernel
set_option maxHeartbeats 4000000 in
set_option maxRecDepth 100000 in
theorem k_X4_mixView_22 {l : Launch} {G : tG} {p : Program} {e : Env} {s : State} {m : MethodId} {below : List Frame} {meth : Method} {c : Code} {args : Array Value} {st' : tST} (S : CallFix p m c cX4_mixView 4 s args wsL_law RX4) (hr : meth.sig.returnType = none) (hlk : meth.locks = false) (k_12 : Int32 → tST → Option (tST)) (hk_12 : ∀ (x2 : Int32) (st : tST) (H : Heap) (locs : List Loc) (ls : Array Slot), tIn G (tA G s.heap.size) s st H locs → lv_has ls 4 [(0, .ref (tad G 19)), (2, .int x2)] → k_12 x2 st = some st' → W p l e rm_X4_mixView s m args below meth c H locs 0 0 (tZV G below args s st') (F0 m 12 ls [])) : ∀ (n : Nat) (x2 : Int32) (x3 : Int32) (st : tST) (H : Heap) (locs : List Loc) (ls : Array Slot), tIn G (tA G s.heap.size) s st H locs → lv_has ls 4 [(0, .ref (tad G 19)), (2, .int x2), (3, .int x3)] → f_X4_mixView_22 k_12 n x2 x3 st = some st' → W p l e rm_X4_mixView s m args below meth c H locs 0 0 (tZV G below args s st') (F0 m 22 ls []) := by
  have hx := S.1
  have hb := S.2.1
  have hown := S.2.2.2.1
  have hts := S.2.2.2.2
  intro n
  induction n with
  | zero => intro x2 x3 st H locs ls hI hl hf; exact nomatch (show (none : Option (tST)) = some _ from hf)
  | succ n ih =>
    intro x2 x3 st H locs ls hI hl hf
    rw [f_X4_mixView_22] at hf
    refine lv_iload_n hx hb dX4_mixView_22 rfl (lv_at hl 2 rfl) ?_
    refine lv_bipush (v := 6) hx hb dX4_mixView_23 (by decide) ?_
    refine tk_icmp_ge (tgt := 50) hx hb hf dX4_mixView_25 (by decide) (fun hf => ?_) (fun hf => ?_)
    · refine tk_let hf (fun i1 ei1 hf => ?_)
      refine lv_iinc (v := i1) (lv' := [(2, .int i1), (0, .ref (tad G 19)), (3, .int x3)]) hx hb dX4_mixView_50 hl (k := 1) rfl (by rw [ei1]; rfl) (by decide) rfl (fun ls hl => ?_)
      refine lv_goto (tgt := 12) hx hb dX4_mixView_53 (by decide) ?_
      exact hk_12 i1 st _ _ _ hI (lv_sub hl [1, 0] rfl) hf
    · refine lv_aload_n hx hb dX4_mixView_28 rfl (lv_at hl 0 rfl) ?_
      refine lv_aload_n hx hb dX4_mixView_29 rfl (lv_at hl 0 rfl) ?_
      refine lv_aload_n hx hb dX4_mixView_30 rfl (lv_at hl 0 rfl) ?_
      refine tg_X4_22 S hI mw_80 dX4_mixView_31 ?_
      refine lv_iload_n hx hb dX4_mixView_34 rfl (lv_at hl 1 rfl) ?_
      refine tk_iald S hI (k := 35) (n := 64) rfl hf dX4_mixView_35 (fun v2 hf => ?_)
      refine lv_iload_n hx hb dX4_mixView_36 rfl (lv_at hl 2 rfl) ?_
      refine tk_bd hf (fun r3 hq hf => ?_)
      refine tk_vI S hI hl.1 (c_X4_readNow l G st v2 x3 hq) (cwV 2 hts (tk_gV mw_350 mw_351 mw_352 mw_5 mw_353) rfl rfl rfl yd_X4_readNow ⟨Nat.le_of_ble_eq_true rfl, Nat.le_of_ble_eq_true rfl⟩) 19 4 rfl rfl rfl rfl [.ref (tad G 19)] rfl (Nat.le_of_ble_eq_true rfl) dX4_mixView_37 (fun H locs hI => ?_)
      refine lv_i2l hx hb dX4_mixView_40 rfl ?_
      refine tk_bd hf (fun s4 hq hf => ?_)
      refine tk_vV S hI hl.1 (c_X4_mix l G st (r3.toInt64) hq) (cwV 1 hts (tk_gV mw_570 mw_571 mw_572 mw_5 mw_573) rfl rfl rfl yd_X4_mix ⟨Nat.le_of_ble_eq_true rfl, Nat.le_of_ble_eq_true rfl⟩) 19 4 rfl rfl rfl rfl [] rfl (Nat.le_of_ble_eq_true rfl) dX4_mixView_41 (fun H locs hI => ?_)
      refine tk_let hf (fun i5 ei5 hf => ?_)
      refine lv_iinc (v := i5) (lv' := [(3, .int i5), (0, .ref (tad G 19)), (2, .int x2)]) hx hb dX4_mixView_44 hl (k := 2) rfl (by rw [ei5]; rfl) (by decide) rfl (fun ls hl => ?_)
      refine lv_goto (tgt := 22) hx hb dX4_mixView_47 (by decide) ?_
      exact ih x2 i5 s4 _ _ _ hI (lv_sub hl [1, 2, 0] rfl) hf
set_option maxHeartbeats 4000000 in
set_option maxRecDepth 100000 in
theorem k_X4_mixView_12 {l : Launch} {G : tG} {p : Program} {e : Env} {s : State} {m : MethodId} {below : List Frame} {meth : Method} {c : Code} {args : Array Value} {st' : tST} (S : CallFix p m c cX4_mixView 4 s args wsL_law RX4) (hr : meth.sig.returnType = none) (hlk : meth.locks = false) : ∀ (n : Nat) (x2 : Int32) (st : tST) (H : Heap) (locs : List Loc) (ls : Array Slot), tIn G (tA G s.heap.size) s st H locs → lv_has ls 4 [(0, .ref (tad G 19)), (2, .int x2)] → f_X4_mixView_12 n x2 st = some st' → W p l e rm_X4_mixView s m args below meth c H locs 0 0 (tZV G below args s st') (F0 m 12 ls []) := by
  have hx := S.1
  have hb := S.2.1
  have hown := S.2.2.2.1
  have hts := S.2.2.2.2
  intro n
  induction n with
  | zero => intro x2 st H locs ls hI hl hf; exact nomatch (show (none : Option (tST)) = some _ from hf)
  | succ n ih =>
    intro x2 st H locs ls hI hl hf
    rw [f_X4_mixView_12] at hf
    refine lv_iload_n hx hb dX4_mixView_12 rfl (lv_at hl 1 rfl) ?_
    refine lv_aload_n hx hb dX4_mixView_13 rfl (lv_at hl 0 rfl) ?_
    refine tg_X4_21 S hI mw_213 dX4_mixView_14 ?_
    refine tk_icmp_ge (tgt := 56) hx hb hf dX4_mixView_17 (by decide) (fun hf => ?_) (fun hf => ?_)
    · exact tk_rvW S hr hlk hI hf dX4_mixView_56
    · refine lv_iconst (v := 0) hx hb dX4_mixView_20 (by decide) ?_
      refine lv_istore_n (lv' := [(3, .int (0 : Int32)), (0, .ref (tad G 19)), (2, .int x2)]) hx hb dX4_mixView_21 rfl hl (by decide) rfl (fun ls hl => ?_)
      exact k_X4_mixView_22 S hr hlk (f_X4_mixView_12 n) ih tfu x2 (0 : Int32) st _ _ _ hI (lv_sub hl [1, 2, 0] rfl) hf
set_option maxHeartbeats 4000000 in
set_option maxRecDepth 100000 in
theorem c_X4_mixView (l : Launch) (G : tG) (st : tST) (x1 : Int32) {st' : tST} (hf : f_X4_mixView x1 st = some st') : tCV l G yX4_mixView cX4_mixView 4 none rm_X4_mixView [.ref (tad G 19), .int x1] st st' := by
  refine tk_entV (by decide +kernel) (Nat.le_of_ble_eq_true rfl) (fun p e s m below meth c ls S hr hlk hI hl => ?_)
  have hl : lv_has ls 4 [(0, .ref (tad G 19)), (1, .int x1)] := hl
  have S : CallFix p m c cX4_mixView 4 s [.ref (tad G 19), .int x1].toArray wsL_law RX4 := S
  have hx := S.1
  have hb := S.2.1
  have hown := S.2.2.2.1
  have hts := S.2.2.2.2
  unfold f_X4_mixView at hf
  refine lv_aload_n hx hb dX4_mixView_0 rfl (lv_at hl 0 rfl) ?_
  refine lv_aload_n hx hb dX4_mixView_1 rfl (lv_at hl 0 rfl) ?_
  refine lv_iload_n hx hb dX4_mixView_2 rfl (lv_at hl 1 rfl) ?_
  refine tk_bd2 hf (fun r1 s2 hq hf => ?_)
  refine tk_vI S hI hl.1 (c_X4_lengthOf l G st x1 hq) (cwV 1 hts (tk_gV mw_329 mw_330 mw_331 mw_5 mw_332) rfl rfl rfl yd_X4_lengthOf ⟨Nat.le_of_ble_eq_true rfl, Nat.le_of_ble_eq_true rfl⟩) 19 4 rfl rfl rfl rfl [.ref (tad G 19)] rfl (Nat.le_of_ble_eq_true rfl) dX4_mixView_3 (fun H locs hI => ?_)
  refine lv_i2l hx hb dX4_mixView_6 rfl ?_
  refine tk_bd hf (fun s3 hq hf => ?_)
  refine tk_vV S hI hl.1 (c_X4_mix l G s2 (r1.toInt64) hq) (cwV 1 hts (tk_gV mw_570 mw_571 mw_572 mw_5 mw_573) rfl rfl rfl yd_X4_mix ⟨Nat.le_of_ble_eq_true rfl, Nat.le_of_ble_eq_true rfl⟩) 19 4 rfl rfl rfl rfl [] rfl (Nat.le_of_ble_eq_true rfl) dX4_mixView_7 (fun H locs hI => ?_)
  refine lv_iconst (v := 0) hx hb dX4_mixView_10 (by decide) ?_
  refine lv_istore_n (lv' := [(2, .int (0 : Int32)), (0, .ref (tad G 19)), (1, .int x1)]) hx hb dX4_mixView_11 rfl hl (by decide) rfl (fun ls hl => ?_)
  exact k_X4_mixView_12 S hr hlk tfu (0 : Int32) s3 _ _ _ hI (lv_sub hl [1, 0] rfl) hf
/-! X4_mixSpans -/
abbrev rm_X4_mixSpans : Room := { frames := 6, cells := 0, slots := 0, locals := 137 }
def f_X4_mixSpans_15 : Nat → Int32 → tST → Option (tST)
  | 0, _, _ => none
  | n + 1, x1, st => (if (tg_I st 125) ≤ x1 then some st else tal 90 (tg_A st 38) x1 (fun v1 => (f_X4_mix (v1.toInt64) st).bind (fun s2 => tal 90 (tg_A s2 39) x1 (fun v3 => (f_X4_mix (v3.toInt64) s2).bind (fun s4 => tal 90 (tg_A s4 40) x1 (fun v5 => (f_X4_mix (v5.toInt64) s4).bind (fun s6 => tlet (x1 + (1 : Int32)) (fun i7 => f_X4_mixSpans_15 n i7 s6))))))))
def f_X4_mixSpans (st : tST) : Option (tST) := (f_X4_laySpans st).bind (fun s1 => (f_X4_mix ((tg_I s1 125).toInt64) s1).bind (fun s2 => f_X4_mixSpans_15 tfu (0 : Int32) s2))
theorem yd_X4_mixSpans : yX4_mixSpans.cls = RX4 ∧ yX4_mixSpans.cls ≠ "java/lang/invoke/MethodHandle" ∧ yX4_mixSpans.cls ≠ "java/lang/invoke/VarHandle" ∧ (parseMethodDescriptor yX4_mixSpans.desc).map (fun d => d.parameters.length) = some 0 := by decide +kernel
set_option maxHeartbeats 4000000 in
set_option maxRecDepth 100000 in
theorem k_X4_mixSpans_15 {l : Launch} {G : tG} {p : Program} {e : Env} {s : State} {m : MethodId} {below : List Frame} {meth : Method} {c : Code} {args : Array Value} {st' : tST} (S : CallFix p m c cX4_mixSpans 2 s args wsL_law RX4) (hr : meth.sig.returnType = none) (hlk : meth.locks = false) : ∀ (n : Nat) (x1 : Int32) (st : tST) (H : Heap) (locs : List Loc) (ls : Array Slot), tIn G (tA G s.heap.size) s st H locs → lv_has ls 2 [(0, .ref (tad G 19)), (1, .int x1)] → f_X4_mixSpans_15 n x1 st = some st' → W p l e rm_X4_mixSpans s m args below meth c H locs 0 0 (tZV G below args s st') (F0 m 15 ls []) := by
  have hx := S.1
  have hb := S.2.1
  have hown := S.2.2.2.1
  have hts := S.2.2.2.2
  intro n
  induction n with
  | zero => intro x1 st H locs ls hI hl hf; exact nomatch (show (none : Option (tST)) = some _ from hf)
  | succ n ih =>
    intro x1 st H locs ls hI hl hf
    rw [f_X4_mixSpans_15] at hf
    refine lv_iload_n hx hb dX4_mixSpans_15 rfl (lv_at hl 1 rfl) ?_
    refine lv_aload_n hx hb dX4_mixSpans_16 rfl (lv_at hl 0 rfl) ?_
    refine tg_X4_25 S hI mw_463 dX4_mixSpans_17 ?_
    refine tk_icmp_ge (tgt := 62) hx hb hf dX4_mixSpans_20 (by decide) (fun hf => ?_) (fun hf => ?_)
    · exact tk_rvW S hr hlk hI hf dX4_mixSpans_62
    · refine lv_aload_n hx hb dX4_mixSpans_23 rfl (lv_at hl 0 rfl) ?_
      refine lv_aload_n hx hb dX4_mixSpans_24 rfl (lv_at hl 0 rfl) ?_
      refine tg_X4_26 S hI mw_83 dX4_mixSpans_25 ?_
      refine lv_iload_n hx hb dX4_mixSpans_28 rfl (lv_at hl 1 rfl) ?_
      refine tk_iald S hI (k := 38) (n := 90) rfl hf dX4_mixSpans_29 (fun v1 hf => ?_)
      refine lv_i2l hx hb dX4_mixSpans_30 rfl ?_
      refine tk_bd hf (fun s2 hq hf => ?_)
      refine tk_vV S hI hl.1 (c_X4_mix l G st (v1.toInt64) hq) (cwV 1 hts (tk_gV mw_570 mw_571 mw_572 mw_5 mw_573) rfl rfl rfl yd_X4_mix ⟨Nat.le_of_ble_eq_true rfl, Nat.le_of_ble_eq_true rfl⟩) 19 4 rfl rfl rfl rfl [] rfl (Nat.le_of_ble_eq_true rfl) dX4_mixSpans_31 (fun H locs hI => ?_)
      refine lv_aload_n hx hb dX4_mixSpans_34 rfl (lv_at hl 0 rfl) ?_
      refine lv_aload_n hx hb dX4_mixSpans_35 rfl (lv_at hl 0 rfl) ?_
      refine tg_X4_27 S hI mw_84 dX4_mixSpans_36 ?_
      refine lv_iload_n hx hb dX4_mixSpans_39 rfl (lv_at hl 1 rfl) ?_
      refine tk_iald S hI (k := 39) (n := 90) rfl hf dX4_mixSpans_40 (fun v3 hf => ?_)
      refine lv_i2l hx hb dX4_mixSpans_41 rfl ?_
      refine tk_bd hf (fun s4 hq hf => ?_)
      refine tk_vV S hI hl.1 (c_X4_mix l G s2 (v3.toInt64) hq) (cwV 1 hts (tk_gV mw_570 mw_571 mw_572 mw_5 mw_573) rfl rfl rfl yd_X4_mix ⟨Nat.le_of_ble_eq_true rfl, Nat.le_of_ble_eq_true rfl⟩) 19 4 rfl rfl rfl rfl [] rfl (Nat.le_of_ble_eq_true rfl) dX4_mixSpans_42 (fun H locs hI => ?_)
      refine lv_aload_n hx hb dX4_mixSpans_45 rfl (lv_at hl 0 rfl) ?_
      refine lv_aload_n hx hb dX4_mixSpans_46 rfl (lv_at hl 0 rfl) ?_
      refine tg_X4_28 S hI mw_85 dX4_mixSpans_47 ?_
      refine lv_iload_n hx hb dX4_mixSpans_50 rfl (lv_at hl 1 rfl) ?_
      refine tk_iald S hI (k := 40) (n := 90) rfl hf dX4_mixSpans_51 (fun v5 hf => ?_)
      refine lv_i2l hx hb dX4_mixSpans_52 rfl ?_
      refine tk_bd hf (fun s6 hq hf => ?_)
      refine tk_vV S hI hl.1 (c_X4_mix l G s4 (v5.toInt64) hq) (cwV 1 hts (tk_gV mw_570 mw_571 mw_572 mw_5 mw_573) rfl rfl rfl yd_X4_mix ⟨Nat.le_of_ble_eq_true rfl, Nat.le_of_ble_eq_true rfl⟩) 19 4 rfl rfl rfl rfl [] rfl (Nat.le_of_ble_eq_true rfl) dX4_mixSpans_53 (fun H locs hI => ?_)
      refine tk_let hf (fun i7 ei7 hf => ?_)
      refine lv_iinc (v := i7) (lv' := [(1, .int i7), (0, .ref (tad G 19))]) hx hb dX4_mixSpans_56 hl (k := 1) rfl (by rw [ei7]; rfl) (by decide) rfl (fun ls hl => ?_)
      refine lv_goto (tgt := 15) hx hb dX4_mixSpans_59 (by decide) ?_
      exact ih i7 s6 _ _ _ hI (lv_sub hl [1, 0] rfl) hf
set_option maxHeartbeats 4000000 in
set_option maxRecDepth 100000 in
theorem c_X4_mixSpans (l : Launch) (G : tG) (st : tST) {st' : tST} (hf : f_X4_mixSpans st = some st') : tCV l G yX4_mixSpans cX4_mixSpans 2 none rm_X4_mixSpans [.ref (tad G 19)] st st' := by
  refine tk_entV (by decide +kernel) (Nat.le_of_ble_eq_true rfl) (fun p e s m below meth c ls S hr hlk hI hl => ?_)
  have hl : lv_has ls 2 [(0, .ref (tad G 19))] := hl
  have S : CallFix p m c cX4_mixSpans 2 s [.ref (tad G 19)].toArray wsL_law RX4 := S
  have hx := S.1
  have hb := S.2.1
  have hown := S.2.2.2.1
  have hts := S.2.2.2.2
  unfold f_X4_mixSpans at hf
  refine lv_aload_n hx hb dX4_mixSpans_0 rfl (lv_at hl 0 rfl) ?_
  refine tk_bd hf (fun s1 hq hf => ?_)
  refine tk_vV S hI hl.1 (c_X4_laySpans l G st  hq) (cwV 0 hts (tk_gV mw_464 mw_465 mw_466 mw_5 mw_467) rfl rfl rfl yd_X4_laySpans ⟨Nat.le_of_ble_eq_true rfl, Nat.le_of_ble_eq_true rfl⟩) 19 4 rfl rfl rfl rfl [] rfl (Nat.le_of_ble_eq_true rfl) dX4_mixSpans_1 (fun H locs hI => ?_)
  refine lv_aload_n hx hb dX4_mixSpans_4 rfl (lv_at hl 0 rfl) ?_
  refine lv_aload_n hx hb dX4_mixSpans_5 rfl (lv_at hl 0 rfl) ?_
  refine tg_X4_25 S hI mw_463 dX4_mixSpans_6 ?_
  refine lv_i2l hx hb dX4_mixSpans_9 rfl ?_
  refine tk_bd hf (fun s2 hq hf => ?_)
  refine tk_vV S hI hl.1 (c_X4_mix l G s1 ((tg_I s1 125).toInt64) hq) (cwV 1 hts (tk_gV mw_570 mw_571 mw_572 mw_5 mw_573) rfl rfl rfl yd_X4_mix ⟨Nat.le_of_ble_eq_true rfl, Nat.le_of_ble_eq_true rfl⟩) 19 4 rfl rfl rfl rfl [] rfl (Nat.le_of_ble_eq_true rfl) dX4_mixSpans_10 (fun H locs hI => ?_)
  refine lv_iconst (v := 0) hx hb dX4_mixSpans_13 (by decide) ?_
  refine lv_istore_n (lv' := [(1, .int (0 : Int32)), (0, .ref (tad G 19))]) hx hb dX4_mixSpans_14 rfl hl (by decide) rfl (fun ls hl => ?_)
  exact k_X4_mixSpans_15 S hr hlk tfu (0 : Int32) s2 _ _ _ hI (lv_sub hl [1, 0] rfl) hf
