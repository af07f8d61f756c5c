/-! X4_digest -/
abbrev rm_X4_digest : Room := { frames := 7, cells := 0, slots := 0, locals := 158 }
def f_X4_digest_155 : Nat → Int32 → tST → Option (Int64 × tST)
  | 0, _, _ => none
  | n + 1, x1, st => (if (9 : Int32) ≤ x1 then some ((tg_L st 1), st) else (f_X4_howMany x1 st).bind (fun r1 => (f_X4_mix (r1.toInt64) st).bind (fun s2 => tlet (x1 + (1 : Int32)) (fun i3 => f_X4_digest_155 n i3 s2))))
def f_X4_digest_128 : Nat → Int32 → tST → Option (Int64 × tST)
  | 0, _, _ => none
  | n + 1, x1, st => (if (tg_I st 100) ≤ x1 then f_X4_digest_155 tfu (0 : Int32) st else tal 40 (tg_A st 20) x1 (fun v1 => (f_X4_mix (v1.toInt64) st).bind (fun s2 => tlet (x1 + (1 : Int32)) (fun i3 => f_X4_digest_128 n i3 s2))))
def f_X4_digest_66 : Nat → Int32 → tST → Option (Int64 × tST)
  | 0, _, _ => none
  | n + 1, x1, st => (if ((7 : Int32) * (tg_I st 107)) ≤ x1 then (f_X4_mixSpans st).bind (fun s1 => (f_X4_layFound s1).bind (fun s2 => (f_X4_mix ((tg_I s2 129).toInt64) s2).bind (fun s3 => (f_X4_mix ((tg_I s3 130).toInt64) s3).bind (fun s4 => f_X4_digest_128 tfu (0 : Int32) s4)))) else (f_X4_changeNow (x1 / (7 : Int32)) (x1 - x1 / (7 : Int32) * (7 : Int32)) st).bind (fun r5 => (f_X4_mix (r5.toInt64) st).bind (fun s6 => tlet (x1 + (1 : Int32)) (fun i7 => f_X4_digest_66 n i7 s6))))
def f_X4_digest_28 : Nat → Int32 → tST → Option (Int64 × tST)
  | 0, _, _ => none
  | n + 1, x1, st => (if ((4 : Int32) * (tg_I st 112)) ≤ x1 then f_X4_digest_66 tfu (0 : Int32) st else tal 90 (tg_A st 32) (x1 / (4 : Int32)) (fun v1 => (f_X4_placeNow v1 (x1 - x1 / (4 : Int32) * (4 : Int32)) st).bind (fun r2 => (f_X4_mix (r2.toInt64) st).bind (fun s3 => tlet (x1 + (1 : Int32)) (fun i4 => f_X4_digest_28 n i4 s3)))))
def f_X4_digest_9 : Nat → Int32 → tST → Option (Int64 × tST)
  | 0, _, _ => none
  | n + 1, x1, st => (if (6 : Int32) ≤ x1 then f_X4_digest_28 tfu (0 : Int32) st else (f_X4_mixView x1 st).bind (fun s1 => tlet (x1 + (1 : Int32)) (fun i2 => f_X4_digest_9 n i2 s1)))
def f_X4_digest (st : tST) : Option (Int64 × tST) := tlet (tp_L st 1 (1619 : Int64)) (fun s1 => f_X4_digest_9 tfu (0 : Int32) s1)
theorem yd_X4_digest : yX4_digest.cls = RX4 ∧ yX4_digest.cls ≠ "java/lang/invoke/MethodHandle" ∧ yX4_digest.cls ≠ "java/lang/invoke/VarHandle" ∧ (parseMethodDescriptor yX4_digest.desc).map (fun d => d.parameters.length) = some 0 := by decide +kernel
set_option maxHeartbeats 4000000 in
set_option maxRecDepth 100000 in
theorem k_X4_digest_155 {l : Launch} {G : tG} {p : Program} {e : Env} {s : State} {m : MethodId} {below : List Frame} {meth : Method} {c : Code} {args : Array Value} {r : Int64} {st' : tST} (S : CallFix p m c cX4_digest 2 s args wsL_law RX4) (hr : meth.sig.returnType = (some .long)) (hlk : meth.locks = false) : ∀ (n : Nat) (x1 : Int32) (st : tST) (H : Heap) (locs : List Loc) (ls : Array Slot), tIn G (tA G s.heap.size) s st H locs → lv_has ls 2 [(0, .ref (tad G 19)), (1, .int x1)] → f_X4_digest_155 n x1 st = some (r, st') → W p l e rm_X4_digest s m args below meth c H locs 0 0 (tZL G below args s r st') (F0 m 155 ls []) := by
  have hx := S.1
  have hb := S.2.1
  have hown := S.2.2.2.1
  have hts := S.2.2.2.2
  intro n
  induction n with
  | zero => intro x1 st H locs ls hI hl hf; exact nomatch (show (none : Option (Int64 × tST)) = some _ from hf)
  | succ n ih =>
    intro x1 st H locs ls hI hl hf
    rw [f_X4_digest_155] at hf
    refine lv_iload_n hx hb dX4_digest_155 rfl (lv_at hl 1 rfl) ?_
    refine lv_bipush (v := 9) hx hb dX4_digest_156 (by decide) ?_
    refine tk_icmp_ge (tgt := 177) hx hb hf dX4_digest_158 (by decide) (fun hf => ?_) (fun hf => ?_)
    · refine lv_aload_n hx hb dX4_digest_177 rfl (lv_at hl 0 rfl) ?_
      refine tg_X4_31 S hI mw_565 dX4_digest_178 ?_
      exact tk_rlW S hr hlk hI hf dX4_digest_181
    · refine lv_aload_n hx hb dX4_digest_161 rfl (lv_at hl 0 rfl) ?_
      refine lv_aload_n hx hb dX4_digest_162 rfl (lv_at hl 0 rfl) ?_
      refine lv_iload_n hx hb dX4_digest_163 rfl (lv_at hl 1 rfl) ?_
      refine tk_bd hf (fun r1 hq hf => ?_)
      refine tk_vI S hI hl.1 (c_X4_howMany l G st x1 hq) (cwV 1 hts (tk_gV mw_518 mw_519 mw_520 mw_5 mw_521) rfl rfl rfl yd_X4_howMany ⟨Nat.le_of_ble_eq_true rfl, Nat.le_of_ble_eq_true rfl⟩) 19 4 rfl rfl rfl rfl [.ref (tad G 19)] rfl (Nat.le_of_ble_eq_true rfl) dX4_digest_164 (fun H locs hI => ?_)
      refine lv_i2l hx hb dX4_digest_167 rfl ?_
      refine tk_bd hf (fun s2 hq hf => ?_)
      refine tk_vV S hI hl.1 (c_X4_mix l G st (r1.toInt64) hq) (cwV 1 hts (tk_gV mw_570 mw_571 mw_572 mw_5 mw_573) rfl rfl rfl yd_X4_mix ⟨Nat.le_of_ble_eq_true rfl, Nat.le_of_ble_eq_true rfl⟩) 19 4 rfl rfl rfl rfl [] rfl (Nat.le_of_ble_eq_true rfl) dX4_digest_168 (fun H locs hI => ?_)
      refine tk_let hf (fun i3 ei3 hf => ?_)
      refine lv_iinc (v := i3) (lv' := [(1, .int i3), (0, .ref (tad G 19))]) hx hb dX4_digest_171 hl (k := 1) rfl (by rw [ei3]; rfl) (by decide) rfl (fun ls hl => ?_)
      refine lv_goto (tgt := 155) hx hb dX4_digest_174 (by decide) ?_
      exact ih i3 s2 _ _ _ hI (lv_sub hl [1, 0] rfl) hf
set_option maxHeartbeats 4000000 in
set_option maxRecDepth 100000 in
theorem k_X4_digest_128 {l : Launch} {G : tG} {p : Program} {e : Env} {s : State} {m : MethodId} {below : List Frame} {meth : Method} {c : Code} {args : Array Value} {r : Int64} {st' : tST} (S : CallFix p m c cX4_digest 2 s args wsL_law RX4) (hr : meth.sig.returnType = (some .long)) (hlk : meth.locks = false) : ∀ (n : Nat) (x1 : Int32) (st : tST) (H : Heap) (locs : List Loc) (ls : Array Slot), tIn G (tA G s.heap.size) s st H locs → lv_has ls 2 [(0, .ref (tad G 19)), (1, .int x1)] → f_X4_digest_128 n x1 st = some (r, st') → W p l e rm_X4_digest s m args below meth c H locs 0 0 (tZL G below args s r st') (F0 m 128 ls []) := by
  have hx := S.1
  have hb := S.2.1
  have hown := S.2.2.2.1
  have hts := S.2.2.2.2
  intro n
  induction n with
  | zero => intro x1 st H locs ls hI hl hf; exact nomatch (show (none : Option (Int64 × tST)) = some _ from hf)
  | succ n ih =>
    intro x1 st H locs ls hI hl hf
    rw [f_X4_digest_128] at hf
    refine lv_iload_n hx hb dX4_digest_128 rfl (lv_at hl 1 rfl) ?_
    refine lv_aload_n hx hb dX4_digest_129 rfl (lv_at hl 0 rfl) ?_
    refine tg_X4_0 S hI mw_94 dX4_digest_130 ?_
    refine tk_icmp_ge (tgt := 153) hx hb hf dX4_digest_133 (by decide) (fun hf => ?_) (fun hf => ?_)
    · refine lv_iconst (v := 0) hx hb dX4_digest_153 (by decide) ?_
      refine lv_istore_n (lv' := [(1, .int (0 : Int32)), (0, .ref (tad G 19))]) hx hb dX4_digest_154 rfl hl (by decide) rfl (fun ls hl => ?_)
      exact k_X4_digest_155 S hr hlk tfu (0 : Int32) st _ _ _ hI (lv_sub hl [1, 0] rfl) hf
    · refine lv_aload_n hx hb dX4_digest_136 rfl (lv_at hl 0 rfl) ?_
      refine lv_aload_n hx hb dX4_digest_137 rfl (lv_at hl 0 rfl) ?_
      refine tg_X4_1 S hI mw_64 dX4_digest_138 ?_
      refine lv_iload_n hx hb dX4_digest_141 rfl (lv_at hl 1 rfl) ?_
      refine tk_iald S hI (k := 20) (n := 40) rfl hf dX4_digest_142 (fun v1 hf => ?_)
      refine lv_i2l hx hb dX4_digest_143 rfl ?_
      refine tk_bd hf (fun s2 hq hf => ?_)
      refine tk_vV S hI hl.1 (c_X4_mix l G st (v1.toInt64) hq) (cwV 1 hts (tk_gV mw_570 mw_571 mw_572 mw_5 mw_573) rfl rfl rfl yd_X4_mix ⟨Nat.le_of_ble_eq_true rfl, Nat.le_of_ble_eq_true rfl⟩) 19 4 rfl rfl rfl rfl [] rfl (Nat.le_of_ble_eq_true rfl) dX4_digest_144 (fun H locs hI => ?_)
      refine tk_let hf (fun i3 ei3 hf => ?_)
      refine lv_iinc (v := i3) (lv' := [(1, .int i3), (0, .ref (tad G 19))]) hx hb dX4_digest_147 hl (k := 1) rfl (by rw [ei3]; rfl) (by decide) rfl (fun ls hl => ?_)
      refine lv_goto (tgt := 128) hx hb dX4_digest_150 (by decide) ?_
      exact ih i3 s2 _ _ _ hI (lv_sub hl [1, 0] rfl) hf
set_option maxHeartbeats 4000000 in
set_option maxRecDepth 100000 in
theorem k_X4_digest_66 {l : Launch} {G : tG} {p : Program} {e : Env} {s : State} {m : MethodId} {below : List Frame} {meth : Method} {c : Code} {args : Array Value} {r : Int64} {st' : tST} (S : CallFix p m c cX4_digest 2 s args wsL_law RX4) (hr : meth.sig.returnType = (some .long)) (hlk : meth.locks = false) : ∀ (n : Nat) (x1 : Int32) (st : tST) (H : Heap) (locs : List Loc) (ls : Array Slot), tIn G (tA G s.heap.size) s st H locs → lv_has ls 2 [(0, .ref (tad G 19)), (1, .int x1)] → f_X4_digest_66 n x1 st = some (r, st') → W p l e rm_X4_digest s m args below meth c H locs 0 0 (tZL G below args s r st') (F0 m 66 ls []) := by
  have hx := S.1
  have hb := S.2.1
  have hown := S.2.2.2.1
  have hts := S.2.2.2.2
  intro n
  induction n with
  | zero => intro x1 st H locs ls hI hl hf; exact nomatch (show (none : Option (Int64 × tST)) = some _ from hf)
  | succ n ih =>
    intro x1 st H locs ls hI hl hf
    rw [f_X4_digest_66] at hf
    refine lv_iload_n hx hb dX4_digest_66 rfl (lv_at hl 1 rfl) ?_
    refine lv_bipush (v := 7) hx hb dX4_digest_67 (by decide) ?_
    refine lv_aload_n hx hb dX4_digest_69 rfl (lv_at hl 0 rfl) ?_
    refine tg_X4_7 S hI mw_138 dX4_digest_70 ?_
    refine lv_imul hx hb dX4_digest_73 ?_
    refine tk_icmp_ge (tgt := 100) hx hb hf dX4_digest_74 (by decide) (fun hf => ?_) (fun hf => ?_)
    · refine lv_aload_n hx hb dX4_digest_100 rfl (lv_at hl 0 rfl) ?_
      refine tk_bd hf (fun s1 hq hf => ?_)
      refine tk_vV S hI hl.1 (c_X4_mixSpans l G st  hq) (cwV 0 hts (tk_gV mw_575 mw_576 mw_577 mw_5 mw_578) rfl rfl rfl yd_X4_mixSpans ⟨Nat.le_of_ble_eq_true rfl, Nat.le_of_ble_eq_true rfl⟩) 19 4 rfl rfl rfl rfl [] rfl (Nat.le_of_ble_eq_true rfl) dX4_digest_101 (fun H locs hI => ?_)
      refine lv_aload_n hx hb dX4_digest_104 rfl (lv_at hl 0 rfl) ?_
      refine tk_bd hf (fun s2 hq hf => ?_)
      refine tk_vV S hI hl.1 (c_X4_layFound l G s1  hq) (cwV 0 hts (tk_gV mw_493 mw_494 mw_495 mw_5 mw_496) rfl rfl rfl yd_X4_layFound ⟨Nat.le_of_ble_eq_true rfl, Nat.le_of_ble_eq_true rfl⟩) 19 4 rfl rfl rfl rfl [] rfl (Nat.le_of_ble_eq_true rfl) dX4_digest_105 (fun H locs hI => ?_)
      refine lv_aload_n hx hb dX4_digest_108 rfl (lv_at hl 0 rfl) ?_
      refine lv_aload_n hx hb dX4_digest_109 rfl (lv_at hl 0 rfl) ?_
      refine tg_X4_29 S hI mw_491 dX4_digest_110 ?_
      refine lv_i2l hx hb dX4_digest_113 rfl ?_
      refine tk_bd hf (fun s3 hq hf => ?_)
      refine tk_vV S hI hl.1 (c_X4_mix l G s2 ((tg_I s2 129).toInt64) hq) (cwV 1 hts (tk_gV mw_570 mw_571 mw_572 mw_5 mw_573) rfl rfl rfl yd_X4_mix ⟨Nat.le_of_ble_eq_true rfl, Nat.le_of_ble_eq_true rfl⟩) 19 4 rfl rfl rfl rfl [] rfl (Nat.le_of_ble_eq_true rfl) dX4_digest_114 (fun H locs hI => ?_)
      refine lv_aload_n hx hb dX4_digest_117 rfl (lv_at hl 0 rfl) ?_
      refine lv_aload_n hx hb dX4_digest_118 rfl (lv_at hl 0 rfl) ?_
      refine tg_X4_30 S hI mw_492 dX4_digest_119 ?_
      refine lv_i2l hx hb dX4_digest_122 rfl ?_
      refine tk_bd hf (fun s4 hq hf => ?_)
      refine tk_vV S hI hl.1 (c_X4_mix l G s3 ((tg_I s3 130).toInt64) hq) (cwV 1 hts (tk_gV mw_570 mw_571 mw_572 mw_5 mw_573) rfl rfl rfl yd_X4_mix ⟨Nat.le_of_ble_eq_true rfl, Nat.le_of_ble_eq_true rfl⟩) 19 4 rfl rfl rfl rfl [] rfl (Nat.le_of_ble_eq_true rfl) dX4_digest_123 (fun H locs hI => ?_)
      refine lv_iconst (v := 0) hx hb dX4_digest_126 (by decide) ?_
      refine lv_istore_n (lv' := [(1, .int (0 : Int32)), (0, .ref (tad G 19))]) hx hb dX4_digest_127 rfl hl (by decide) rfl (fun ls hl => ?_)
      exact k_X4_digest_128 S hr hlk tfu (0 : Int32) s4 _ _ _ hI (lv_sub hl [1, 0] rfl) hf
    · refine lv_aload_n hx hb dX4_digest_77 rfl (lv_at hl 0 rfl) ?_
      refine lv_aload_n hx hb dX4_digest_78 rfl (lv_at hl 0 rfl) ?_
      refine lv_iload_n hx hb dX4_digest_79 rfl (lv_at hl 1 rfl) ?_
      refine lv_bipush (v := 7) hx hb dX4_digest_80 (by decide) ?_
      refine lv_idiv hx hb dX4_digest_82 (by decide) ?_
      refine lv_iload_n hx hb dX4_digest_83 rfl (lv_at hl 1 rfl) ?_
      refine lv_bipush (v := 7) hx hb dX4_digest_84 (by decide) ?_
      refine lv_irem hx hb dX4_digest_86 (by decide) ?_
      refine tk_bd hf (fun r5 hq hf => ?_)
      refine tk_vI S hI hl.1 (c_X4_changeNow l G st (x1 / (7 : Int32)) (x1 - x1 / (7 : Int32) * (7 : Int32)) hq) (cwV 2 hts (tk_gV mw_422 mw_423 mw_424 mw_5 mw_425) rfl rfl rfl yd_X4_changeNow ⟨Nat.le_of_ble_eq_true rfl, Nat.le_of_ble_eq_true rfl⟩) 19 4 rfl rfl rfl rfl [.ref (tad G 19)] rfl (Nat.le_of_ble_eq_true rfl) dX4_digest_87 (fun H locs hI => ?_)
      refine lv_i2l hx hb dX4_digest_90 rfl ?_
      refine tk_bd hf (fun s6 hq hf => ?_)
      refine tk_vV S hI hl.1 (c_X4_mix l G st (r5.toInt64) hq) (cwV 1 hts (tk_gV mw_570 mw_571 mw_572 mw_5 mw_573) rfl rfl rfl yd_X4_mix ⟨Nat.le_of_ble_eq_true rfl, Nat.le_of_ble_eq_true rfl⟩) 19 4 rfl rfl rfl rfl [] rfl (Nat.le_of_ble_eq_true rfl) dX4_digest_91 (fun H locs hI => ?_)
      refine tk_let hf (fun i7 ei7 hf => ?_)
      refine lv_iinc (v := i7) (lv' := [(1, .int i7), (0, .ref (tad G 19))]) hx hb dX4_digest_94 hl (k := 1) rfl (by rw [ei7]; rfl) (by decide) rfl (fun ls hl => ?_)
      refine lv_goto (tgt := 66) hx hb dX4_digest_97 (by decide) ?_
      exact ih i7 s6 _ _ _ hI (lv_sub hl [1, 0] rfl) hf
set_option maxHeartbeats 4000000 in
set_option maxRecDepth 100000 in
theorem k_X4_digest_28 {l : Launch} {G : tG} {p : Program} {e : Env} {s : State} {m : MethodId} {below : List Frame} {meth : Method} {c : Code} {args : Array Value} {r : Int64} {st' : tST} (S : CallFix p m c cX4_digest 2 s args wsL_law RX4) (hr : meth.sig.returnType = (some .long)) (hlk : meth.locks = false) : ∀ (n : Nat) (x1 : Int32) (st : tST) (H : Heap) (locs : List Loc) (ls : Array Slot), tIn G (tA G s.heap.size) s st H locs → lv_has ls 2 [(0, .ref (tad G 19)), (1, .int x1)] → f_X4_digest_28 n x1 st = some (r, st') → W p l e rm_X4_digest s m args below meth c H locs 0 0 (tZL G below args s r st') (F0 m 28 ls []) := by
  have hx := S.1
  have hb := S.2.1
  have hown := S.2.2.2.1
  have hts := S.2.2.2.2
  intro n
  induction n with
  | zero => intro x1 st H locs ls hI hl hf; exact nomatch (show (none : Option (Int64 × tST)) = some _ from hf)
  | succ n ih =>
    intro x1 st H locs ls hI hl hf
    rw [f_X4_digest_28] at hf
    refine lv_iload_n hx hb dX4_digest_28 rfl (lv_at hl 1 rfl) ?_
    refine lv_iconst (v := 4) hx hb dX4_digest_29 (by decide) ?_
    refine lv_aload_n hx hb dX4_digest_30 rfl (lv_at hl 0 rfl) ?_
    refine tg_X4_12 S hI mw_137 dX4_digest_31 ?_
    refine lv_imul hx hb dX4_digest_34 ?_
    refine tk_icmp_ge (tgt := 64) hx hb hf dX4_digest_35 (by decide) (fun hf => ?_) (fun hf => ?_)
    · refine lv_iconst (v := 0) hx hb dX4_digest_64 (by decide) ?_
      refine lv_istore_n (lv' := [(1, .int (0 : Int32)), (0, .ref (tad G 19))]) hx hb dX4_digest_65 rfl hl (by decide) rfl (fun ls hl => ?_)
      exact k_X4_digest_66 S hr hlk tfu (0 : Int32) st _ _ _ hI (lv_sub hl [1, 0] rfl) hf
    · refine lv_aload_n hx hb dX4_digest_38 rfl (lv_at hl 0 rfl) ?_
      refine lv_aload_n hx hb dX4_digest_39 rfl (lv_at hl 0 rfl) ?_
      refine lv_aload_n hx hb dX4_digest_40 rfl (lv_at hl 0 rfl) ?_
      refine tg_X4_16 S hI mw_77 dX4_digest_41 ?_
      refine lv_iload_n hx hb dX4_digest_44 rfl (lv_at hl 1 rfl) ?_
      refine lv_iconst (v := 4) hx hb dX4_digest_45 (by decide) ?_
      refine lv_idiv hx hb dX4_digest_46 (by decide) ?_
      refine tk_iald S hI (k := 32) (n := 90) rfl hf dX4_digest_47 (fun v1 hf => ?_)
      refine lv_iload_n hx hb dX4_digest_48 rfl (lv_at hl 1 rfl) ?_
      refine lv_iconst (v := 4) hx hb dX4_digest_49 (by decide) ?_
      refine lv_irem hx hb dX4_digest_50 (by decide) ?_
      refine tk_bd hf (fun r2 hq hf => ?_)
      refine tk_vI S hI hl.1 (c_X4_placeNow l G st v1 (x1 - x1 / (4 : Int32) * (4 : Int32)) hq) (cwV 2 hts (tk_gV mw_378 mw_379 mw_380 mw_5 mw_381) rfl rfl rfl yd_X4_placeNow ⟨Nat.le_of_ble_eq_true rfl, Nat.le_of_ble_eq_true rfl⟩) 19 4 rfl rfl rfl rfl [.ref (tad G 19)] rfl (Nat.le_of_ble_eq_true rfl) dX4_digest_51 (fun H locs hI => ?_)
      refine lv_i2l hx hb dX4_digest_54 rfl ?_
      refine tk_bd hf (fun s3 hq hf => ?_)
      refine tk_vV S hI hl.1 (c_X4_mix l G st (r2.toInt64) hq) (cwV 1 hts (tk_gV mw_570 mw_571 mw_572 mw_5 mw_573) rfl rfl rfl yd_X4_mix ⟨Nat.le_of_ble_eq_true rfl, Nat.le_of_ble_eq_true rfl⟩) 19 4 rfl rfl rfl rfl [] rfl (Nat.le_of_ble_eq_true rfl) dX4_digest_55 (fun H locs hI => ?_)
      refine tk_let hf (fun i4 ei4 hf => ?_)
      refine lv_iinc (v := i4) (lv' := [(1, .int i4), (0, .ref (tad G 19))]) hx hb dX4_digest_58 hl (k := 1) rfl (by rw [ei4]; rfl) (by decide) rfl (fun ls hl => ?_)
      refine lv_goto (tgt := 28) hx hb dX4_digest_61 (by decide) ?_
      exact ih i4 s3 _ _ _ hI (lv_sub hl [1, 0] rfl) hf
set_option maxHeartbeats 4000000 in
set_option maxRecDepth 100000 in
theorem k_X4_digest_9 {l : Launch} {G : tG} {p : Program} {e : Env} {s : State} {m : MethodId} {below : List Frame} {meth : Method} {c : Code} {args : Array Value} {r : Int64} {st' : tST} (S : CallFix p m c cX4_digest 2 s args wsL_law RX4) (hr : meth.sig.returnType = (some .long)) (hlk : meth.locks = false) : ∀ (n : Nat) (x1 : Int32) (st : tST) (H : Heap) (locs : List Loc) (ls : Array Slot), tIn G (tA G s.heap.size) s st H locs → lv_has ls 2 [(0, .ref (tad G 19)), (1, .int x1)] → f_X4_digest_9 n x1 st = some (r, st') → W p l e rm_X4_digest s m args below meth c H locs 0 0 (tZL G below args s r st') (F0 m 9 ls []) := by
  have hx := S.1
  have hb := S.2.1
  have hown := S.2.2.2.1
  have hts := S.2.2.2.2
  intro n
  induction n with
  | zero => intro x1 st H locs ls hI hl hf; exact nomatch (show (none : Option (Int64 × tST)) = some _ from hf)
  | succ n ih =>
    intro x1 st H locs ls hI hl hf
    rw [f_X4_digest_9] at hf
    refine lv_iload_n hx hb dX4_digest_9 rfl (lv_at hl 1 rfl) ?_
    refine lv_bipush (v := 6) hx hb dX4_digest_10 (by decide) ?_
    refine tk_icmp_ge (tgt := 26) hx hb hf dX4_digest_12 (by decide) (fun hf => ?_) (fun hf => ?_)
    · refine lv_iconst (v := 0) hx hb dX4_digest_26 (by decide) ?_
      refine lv_istore_n (lv' := [(1, .int (0 : Int32)), (0, .ref (tad G 19))]) hx hb dX4_digest_27 rfl hl (by decide) rfl (fun ls hl => ?_)
      exact k_X4_digest_28 S hr hlk tfu (0 : Int32) st _ _ _ hI (lv_sub hl [1, 0] rfl) hf
    · refine lv_aload_n hx hb dX4_digest_15 rfl (lv_at hl 0 rfl) ?_
      refine lv_iload_n hx hb dX4_digest_16 rfl (lv_at hl 1 rfl) ?_
      refine tk_bd hf (fun s1 hq hf => ?_)
      refine tk_vV S hI hl.1 (c_X4_mixView l G st x1 hq) (cwV 1 hts (tk_gV mw_566 mw_567 mw_568 mw_5 mw_569) rfl rfl rfl yd_X4_mixView ⟨Nat.le_of_ble_eq_true rfl, Nat.le_of_ble_eq_true rfl⟩) 19 4 rfl rfl rfl rfl [] rfl (Nat.le_of_ble_eq_true rfl) dX4_digest_17 (fun H locs hI => ?_)
      refine tk_let hf (fun i2 ei2 hf => ?_)
      refine lv_iinc (v := i2) (lv' := [(1, .int i2), (0, .ref (tad G 19))]) hx hb dX4_digest_20 hl (k := 1) rfl (by rw [ei2]; rfl) (by decide) rfl (fun ls hl => ?_)
      refine lv_goto (tgt := 9) hx hb dX4_digest_23 (by decide) ?_
      exact ih i2 s1 _ _ _ hI (lv_sub hl [1, 0] rfl) hf
set_option maxHeartbeats 4000000 in
set_option maxRecDepth 100000 in
theorem c_X4_digest (l : Launch) (G : tG) (st : tST) {r : Int64} {st' : tST} (hf : f_X4_digest st = some (r, st')) : tCL l G yX4_digest cX4_digest 2 (some .long) rm_X4_digest [.ref (tad G 19)] st r st' := by
  refine tk_entL (by decide +kernel) (Nat.le_of_ble_eq_true rfl) (fun p e s m below meth c ls S hr hlk hI hl => ?_)
  have hl : lv_has ls 2 [(0, .ref (tad G 19))] := hl
  have S : CallFix p m c cX4_digest 2 s [.ref (tad G 19)].toArray wsL_law RX4 := S
  have hx := S.1
  have hb := S.2.1
  have hown := S.2.2.2.1
  have hts := S.2.2.2.2
  unfold f_X4_digest at hf
  refine lv_aload_n hx hb dX4_digest_0 rfl (lv_at hl 0 rfl) ?_
  refine lv_ldc2 (v := 1619) hx hb hown (hts _ mw_564) dX4_digest_1 ?_
  refine tp_X4_31 S hI mw_565 hf dX4_digest_4 (fun s1 H locs hI hf => ?_)
  refine lv_iconst (v := 0) hx hb dX4_digest_7 (by decide) ?_
  refine lv_istore_n (lv' := [(1, .int (0 : Int32)), (0, .ref (tad G 19))]) hx hb dX4_digest_8 rfl hl (by decide) rfl (fun ls hl => ?_)
  exact k_X4_digest_9 S hr hlk tfu (0 : Int32) s1 _ _ _ hI (lv_sub hl [1, 0] rfl) hf
