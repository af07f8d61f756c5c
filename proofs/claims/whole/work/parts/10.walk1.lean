/-! X0_names -/
abbrev rm_X0_names : Room := { frames := 0, cells := 0, slots := 0, locals := 0 }
def f_X0_names (x1 : Int32) (st : tST) : Option (Int32) := (if x1 < 0 then tzr (0 : Int32) (some (0 : Int32)) else (if (tg_I st 7) ≤ x1 then tzr (0 : Int32) (some (0 : Int32)) else tzr (1 : Int32) (some (1 : Int32))))
theorem yd_X0_names : yX0_names.cls = RX0 ∧ yX0_names.cls ≠ "java/lang/invoke/MethodHandle" ∧ yX0_names.cls ≠ "java/lang/invoke/VarHandle" ∧ (parseMethodDescriptor yX0_names.desc).map (fun d => d.parameters.length) = some 1 := by decide +kernel
set_option maxHeartbeats 4000000 in
set_option maxRecDepth 100000 in
theorem c_X0_names (l : Launch) (G : tG) (st : tST) (x1 : Int32) {r : Int32} (hf : f_X0_names x1 st = some r) : tCI l G yX0_names cX0_names 2 (some .boolean) rm_X0_names [.ref (tad G 8), .int x1] st r st := by
  refine tk_entI (by decide +kernel) (Nat.le_of_ble_eq_true rfl) (fun p e s m below meth c ls S hr hlk hI hl => ?_)
  have hl : lv_has ls 2 [(0, .ref (tad G 8)), (1, .int x1)] := hl
  have S : CallFix p m c cX0_names 2 s [.ref (tad G 8), .int x1].toArray wsL_law RX0 := S
  have hx := S.1
  have hb := S.2.1
  have hown := S.2.2.2.1
  have hts := S.2.2.2.2
  unfold f_X0_names at hf
  refine lv_iload_n hx hb dX0_names_0 rfl (lv_at hl 1 rfl) ?_
  refine tk_if_lt (tgt := 16) hx hb hf dX0_names_1 (by decide) (fun hf => ?_) (fun hf => ?_)
  · refine lv_iconst (v := 0) hx hb dX0_names_16 (by decide) ?_
    exact tk_rzR S hr hlk hI hf dX0_names_17
  · refine lv_iload_n hx hb dX0_names_4 rfl (lv_at hl 1 rfl) ?_
    refine lv_aload_n hx hb dX0_names_5 rfl (lv_at hl 0 rfl) ?_
    refine tg_X0_5 S hI mw_52 dX0_names_6 ?_
    refine tk_icmp_ge (tgt := 16) hx hb hf dX0_names_9 (by decide) (fun hf => ?_) (fun hf => ?_)
    · refine lv_iconst (v := 0) hx hb dX0_names_16 (by decide) ?_
      exact tk_rzR S hr hlk hI hf dX0_names_17
    · refine lv_iconst (v := 1) hx hb dX0_names_12 (by decide) ?_
      refine lv_goto (tgt := 17) hx hb dX0_names_13 (by decide) ?_
      exact tk_rzR S hr hlk hI hf dX0_names_17
/-! X0_isFull -/
abbrev rm_X0_isFull : Room := { frames := 0, cells := 0, slots := 0, locals := 0 }
def f_X0_isFull (st : tST) : Option (Int32) := (if (tg_I st 7) < (12 : Int32) then tzr (0 : Int32) (some (0 : Int32)) else tzr (1 : Int32) (some (1 : Int32)))
theorem yd_X0_isFull : yX0_isFull.cls = RX0 ∧ yX0_isFull.cls ≠ "java/lang/invoke/MethodHandle" ∧ yX0_isFull.cls ≠ "java/lang/invoke/VarHandle" ∧ (parseMethodDescriptor yX0_isFull.desc).map (fun d => d.parameters.length) = some 0 := by decide +kernel
set_option maxHeartbeats 4000000 in
set_option maxRecDepth 100000 in
theorem c_X0_isFull (l : Launch) (G : tG) (st : tST) {r : Int32} (hf : f_X0_isFull st = some r) : tCI l G yX0_isFull cX0_isFull 1 (some .boolean) rm_X0_isFull [.ref (tad G 8)] st r st := by
  refine tk_entI (by decide +kernel) (Nat.le_of_ble_eq_true rfl) (fun p e s m below meth c ls S hr hlk hI hl => ?_)
  have hl : lv_has ls 1 [(0, .ref (tad G 8))] := hl
  have S : CallFix p m c cX0_isFull 1 s [.ref (tad G 8)].toArray wsL_law RX0 := S
  have hx := S.1
  have hb := S.2.1
  have hown := S.2.2.2.1
  have hts := S.2.2.2.2
  unfold f_X0_isFull at hf
  refine lv_aload_n hx hb dX0_isFull_0 rfl (lv_at hl 0 rfl) ?_
  refine tg_X0_5 S hI mw_52 dX0_isFull_1 ?_
  refine lv_bipush (v := 12) hx hb dX0_isFull_4 (by decide) ?_
  refine tk_icmp_lt (tgt := 13) hx hb hf dX0_isFull_6 (by decide) (fun hf => ?_) (fun hf => ?_)
  · refine lv_iconst (v := 0) hx hb dX0_isFull_13 (by decide) ?_
    exact tk_rzR S hr hlk hI hf dX0_isFull_14
  · refine lv_iconst (v := 1) hx hb dX0_isFull_9 (by decide) ?_
    refine lv_goto (tgt := 14) hx hb dX0_isFull_10 (by decide) ?_
    exact tk_rzR S hr hlk hI hf dX0_isFull_14
/-! X0_add -/
abbrev rm_X0_add : Room := { frames := 0, cells := 0, slots := 0, locals := 0 }
def f_X0_add (x1 : Int32) (x2 : Int32) (st : tST) : Option (Int32 × tST) := tlet (tg_I st 7) (fun i1 => tas 12 i1 (tp_A st 9 (i1).toNatClampNeg x1) (fun s2 => tas 12 i1 (tp_A s2 10 (i1).toNatClampNeg x2) (fun s3 => tas 12 i1 (tp_A s3 11 (i1).toNatClampNeg (0 : Int32)) (fun s4 => tas 12 i1 (tp_A s4 12 (i1).toNatClampNeg (0 : Int32)) (fun s5 => tas 12 i1 (tp_B s5 13 (i1).toNatClampNeg (0 : Int64)) (fun s6 => tlet (tp_I s6 7 ((tg_I s6 7) + (1 : Int32))) (fun s7 => some (i1, s7))))))))
theorem yd_X0_add : yX0_add.cls = RX0 ∧ yX0_add.cls ≠ "java/lang/invoke/MethodHandle" ∧ yX0_add.cls ≠ "java/lang/invoke/VarHandle" ∧ (parseMethodDescriptor yX0_add.desc).map (fun d => d.parameters.length) = some 2 := by decide +kernel
set_option maxHeartbeats 4000000 in
set_option maxRecDepth 100000 in
theorem c_X0_add (l : Launch) (G : tG) (st : tST) (x1 : Int32) (x2 : Int32) {r : Int32} {st' : tST} (hf : f_X0_add x1 x2 st = some (r, st')) : tCI l G yX0_add cX0_add 4 (some .int) rm_X0_add [.ref (tad G 8), .int x1, .int x2] st r st' := by
  refine tk_entI (by decide +kernel) (Nat.le_of_ble_eq_true rfl) (fun p e s m below meth c ls S hr hlk hI hl => ?_)
  have hl : lv_has ls 4 [(0, .ref (tad G 8)), (1, .int x1), (2, .int x2)] := hl
  have S : CallFix p m c cX0_add 4 s [.ref (tad G 8), .int x1, .int x2].toArray wsL_law RX0 := S
  have hx := S.1
  have hb := S.2.1
  have hown := S.2.2.2.1
  have hts := S.2.2.2.2
  unfold f_X0_add at hf
  refine lv_aload_n hx hb dX0_add_0 rfl (lv_at hl 0 rfl) ?_
  refine tg_X0_5 S hI mw_52 dX0_add_1 ?_
  refine tk_topi hf (fun i1 hf => ?_)
  refine lv_istore_n (lv' := [(3, .int i1), (0, .ref (tad G 8)), (1, .int x1), (2, .int x2)]) hx hb dX0_add_4 rfl hl (by decide) rfl (fun ls hl => ?_)
  refine lv_aload_n hx hb dX0_add_5 rfl (lv_at hl 1 rfl) ?_
  refine tg_X0_0 S hI mw_46 dX0_add_6 ?_
  refine lv_iload_n hx hb dX0_add_9 rfl (lv_at hl 0 rfl) ?_
  refine lv_iload_n hx hb dX0_add_10 rfl (lv_at hl 2 rfl) ?_
  refine tk_iast S hI (k := 9) (n := 12) rfl (twa_9 G _) hf dX0_add_11 (fun s2 H locs hI hf => ?_)
  refine lv_aload_n hx hb dX0_add_12 rfl (lv_at hl 1 rfl) ?_
  refine tg_X0_1 S hI mw_47 dX0_add_13 ?_
  refine lv_iload_n hx hb dX0_add_16 rfl (lv_at hl 0 rfl) ?_
  refine lv_iload_n hx hb dX0_add_17 rfl (lv_at hl 3 rfl) ?_
  refine tk_iast S hI (k := 10) (n := 12) rfl (twa_10 G _) hf dX0_add_18 (fun s3 H locs hI hf => ?_)
  refine lv_aload_n hx hb dX0_add_19 rfl (lv_at hl 1 rfl) ?_
  refine tg_X0_2 S hI mw_48 dX0_add_20 ?_
  refine lv_iload_n hx hb dX0_add_23 rfl (lv_at hl 0 rfl) ?_
  refine lv_iconst (v := 0) hx hb dX0_add_24 (by decide) ?_
  refine tk_iast S hI (k := 11) (n := 12) rfl (twa_11 G _) hf dX0_add_25 (fun s4 H locs hI hf => ?_)
  refine lv_aload_n hx hb dX0_add_26 rfl (lv_at hl 1 rfl) ?_
  refine tg_X0_3 S hI mw_49 dX0_add_27 ?_
  refine lv_iload_n hx hb dX0_add_30 rfl (lv_at hl 0 rfl) ?_
  refine lv_iconst (v := 0) hx hb dX0_add_31 (by decide) ?_
  refine tk_iast S hI (k := 12) (n := 12) rfl (twa_12 G _) hf dX0_add_32 (fun s5 H locs hI hf => ?_)
  refine lv_aload_n hx hb dX0_add_33 rfl (lv_at hl 1 rfl) ?_
  refine tg_X0_4 S hI mw_51 dX0_add_34 ?_
  refine lv_iload_n hx hb dX0_add_37 rfl (lv_at hl 0 rfl) ?_
  refine lv_lconst (v := 0) hx hb dX0_add_38 (by decide) ?_
  refine tk_last S hI (k := 13) (n := 12) rfl (twa_13 G _) hf dX0_add_39 (fun s6 H locs hI hf => ?_)
  refine lv_aload_n hx hb dX0_add_40 rfl (lv_at hl 1 rfl) ?_
  refine lv_dup hx hb dX0_add_41 rfl ?_
  refine tg_X0_5 S hI mw_52 dX0_add_42 ?_
  refine lv_iconst (v := 1) hx hb dX0_add_45 (by decide) ?_
  refine lv_iadd hx hb dX0_add_46 ?_
  refine tp_X0_5 S hI mw_52 hf dX0_add_47 (fun s7 H locs hI hf => ?_)
  refine lv_iload_n hx hb dX0_add_50 rfl (lv_at hl 0 rfl) ?_
  exact tk_riW S hr hlk hI hf dX0_add_51
/-! X0_touch -/
abbrev rm_X0_touch : Room := { frames := 0, cells := 0, slots := 0, locals := 0 }
def f_X0_touch (x1 : Int32) (x2 : Int32) (st : tST) : Option (tST) := tal 12 (tg_B st 13) x1 (fun u1 => tas 12 x1 (tp_B st 13 (x1).toNatClampNeg (u1 ||| ((1 : Int64) <<< (x2.toInt64 &&& (63 : Int64))))) (fun s2 => some s2))
theorem yd_X0_touch : yX0_touch.cls = RX0 ∧ yX0_touch.cls ≠ "java/lang/invoke/MethodHandle" ∧ yX0_touch.cls ≠ "java/lang/invoke/VarHandle" ∧ (parseMethodDescriptor yX0_touch.desc).map (fun d => d.parameters.length) = some 2 := by decide +kernel
set_option maxHeartbeats 4000000 in
set_option maxRecDepth 100000 in
theorem c_X0_touch (l : Launch) (G : tG) (st : tST) (x1 : Int32) (x2 : Int32) {st' : tST} (hf : f_X0_touch x1 x2 st = some st') : tCV l G yX0_touch cX0_touch 3 none rm_X0_touch [.ref (tad G 8), .int x1, .int x2] st st' := by
  refine tk_entV (by decide +kernel) (Nat.le_of_ble_eq_true rfl) (fun p e s m below meth c ls S hr hlk hI hl => ?_)
  have hl : lv_has ls 3 [(0, .ref (tad G 8)), (1, .int x1), (2, .int x2)] := hl
  have S : CallFix p m c cX0_touch 3 s [.ref (tad G 8), .int x1, .int x2].toArray wsL_law RX0 := S
  have hx := S.1
  have hb := S.2.1
  have hown := S.2.2.2.1
  have hts := S.2.2.2.2
  unfold f_X0_touch at hf
  refine lv_aload_n hx hb dX0_touch_0 rfl (lv_at hl 0 rfl) ?_
  refine tg_X0_4 S hI mw_51 dX0_touch_1 ?_
  refine lv_iload_n hx hb dX0_touch_4 rfl (lv_at hl 1 rfl) ?_
  refine lv_dup2_11 hx hb dX0_touch_5 rfl rfl ?_
  refine tk_lald S hI (k := 13) (n := 12) rfl hf dX0_touch_6 (fun u1 hf => ?_)
  refine lv_lconst (v := 1) hx hb dX0_touch_7 (by decide) ?_
  refine lv_iload_n hx hb dX0_touch_8 rfl (lv_at hl 2 rfl) ?_
  refine lv_lshl hx hb dX0_touch_9 rfl ?_
  refine lv_lor hx hb dX0_touch_10 ?_
  refine tk_last S hI (k := 13) (n := 12) rfl (twa_13 G _) hf dX0_touch_11 (fun s2 H locs hI hf => ?_)
  exact tk_rvW S hr hlk hI hf dX0_touch_12
/-! X0_inStatus -/
abbrev rm_X0_inStatus : Room := { frames := 0, cells := 0, slots := 0, locals := 0 }
def f_X0_inStatus_4 (st : tST)  : Nat → Int32 → Int32 → Int32 → Option (Int32)
  | 0, _, _, _ => none
  | n + 1, x1, x2, x3 => (if (tg_I st 7) ≤ x3 then some x2 else tal 12 (tg_A st 11) x3 (fun v1 => (if v1 = x1 then tlet (x2 ||| ((1 : Int32) <<< (x3 &&& (31 : Int32)))) (fun i3 => tlet (x3 + (1 : Int32)) (fun i4 => f_X0_inStatus_4 st n x1 i3 i4)) else tlet (x3 + (1 : Int32)) (fun i2 => f_X0_inStatus_4 st n x1 x2 i2))))
def f_X0_inStatus (x1 : Int32) (st : tST) : Option (Int32) := f_X0_inStatus_4 st tfu x1 (0 : Int32) (0 : Int32)
theorem yd_X0_inStatus : yX0_inStatus.cls = RX0 ∧ yX0_inStatus.cls ≠ "java/lang/invoke/MethodHandle" ∧ yX0_inStatus.cls ≠ "java/lang/invoke/VarHandle" ∧ (parseMethodDescriptor yX0_inStatus.desc).map (fun d => d.parameters.length) = some 1 := by decide +kernel
set_option maxHeartbeats 4000000 in
set_option maxRecDepth 100000 in
theorem k_X0_inStatus_4 {l : Launch} {G : tG} {p : Program} {e : Env} {s : State} {m : MethodId} {below : List Frame} {meth : Method} {c : Code} {args : Array Value} {r : Int32} {st : tST} (S : CallFix p m c cX0_inStatus 4 s args wsL_law RX0) (hr : meth.sig.returnType = (some .int)) (hlk : meth.locks = false) : ∀ (n : Nat) (x1 : Int32) (x2 : Int32) (x3 : Int32) (H : Heap) (locs : List Loc) (ls : Array Slot), tIn G (tA G s.heap.size) s st H locs → lv_has ls 4 [(0, .ref (tad G 8)), (1, .int x1), (2, .int x2), (3, .int x3)] → f_X0_inStatus_4 st n x1 x2 x3 = some r → W p l e rm_X0_inStatus s m args below meth c H locs 0 0 (tZI G below args s r st) (F0 m 4 ls []) := by
  have hx := S.1
  have hb := S.2.1
  have hown := S.2.2.2.1
  have hts := S.2.2.2.2
  intro n
  induction n with
  | zero => intro x1 x2 x3 H locs ls hI hl hf; exact nomatch (show (none : Option (Int32)) = some _ from hf)
  | succ n ih =>
    intro x1 x2 x3 H locs ls hI hl hf
    rw [f_X0_inStatus_4] at hf
    refine lv_iload_n hx hb dX0_inStatus_4 rfl (lv_at hl 3 rfl) ?_
    refine lv_aload_n hx hb dX0_inStatus_5 rfl (lv_at hl 0 rfl) ?_
    refine tg_X0_5 S hI mw_52 dX0_inStatus_6 ?_
    refine tk_icmp_ge (tgt := 34) hx hb hf dX0_inStatus_9 (by decide) (fun hf => ?_) (fun hf => ?_)
    · refine lv_iload_n hx hb dX0_inStatus_34 rfl (lv_at hl 2 rfl) ?_
      exact tk_riR S hr hlk hI hf dX0_inStatus_35
    · refine lv_aload_n hx hb dX0_inStatus_12 rfl (lv_at hl 0 rfl) ?_
      refine tg_X0_2 S hI mw_48 dX0_inStatus_13 ?_
      refine lv_iload_n hx hb dX0_inStatus_16 rfl (lv_at hl 3 rfl) ?_
      refine tk_iald S hI (k := 11) (n := 12) rfl hf dX0_inStatus_17 (fun v1 hf => ?_)
      refine lv_iload_n hx hb dX0_inStatus_18 rfl (lv_at hl 1 rfl) ?_
      refine tk_icmp_ne (tgt := 28) hx hb hf dX0_inStatus_19 (by decide) (fun hf => ?_) (fun hf => ?_)
      · refine tk_let hf (fun i2 ei2 hf => ?_)
        refine lv_iinc (v := i2) (lv' := [(3, .int i2), (0, .ref (tad G 8)), (1, .int x1), (2, .int x2)]) hx hb dX0_inStatus_28 hl (k := 3) rfl (by rw [ei2]; rfl) (by decide) rfl (fun ls hl => ?_)
        refine lv_goto (tgt := 4) hx hb dX0_inStatus_31 (by decide) ?_
        exact ih x1 x2 i2 _ _ _ hI (lv_sub hl [1, 2, 3, 0] rfl) hf
      · refine lv_iload_n hx hb dX0_inStatus_22 rfl (lv_at hl 2 rfl) ?_
        refine lv_iconst (v := 1) hx hb dX0_inStatus_23 (by decide) ?_
        refine lv_iload_n hx hb dX0_inStatus_24 rfl (lv_at hl 3 rfl) ?_
        refine lv_ishl hx hb dX0_inStatus_25 ?_
        refine lv_ior hx hb dX0_inStatus_26 ?_
        refine tk_topi hf (fun i3 hf => ?_)
        refine lv_istore_n (lv' := [(2, .int i3), (0, .ref (tad G 8)), (1, .int x1), (3, .int x3)]) hx hb dX0_inStatus_27 rfl hl (by decide) rfl (fun ls hl => ?_)
        refine tk_let hf (fun i4 ei4 hf => ?_)
        refine lv_iinc (v := i4) (lv' := [(3, .int i4), (2, .int i3), (0, .ref (tad G 8)), (1, .int x1)]) hx hb dX0_inStatus_28 hl (k := 3) rfl (by rw [ei4]; rfl) (by decide) rfl (fun ls hl => ?_)
        refine lv_goto (tgt := 4) hx hb dX0_inStatus_31 (by decide) ?_
        exact ih x1 i3 i4 _ _ _ hI (lv_sub hl [2, 3, 1, 0] rfl) hf
set_option maxHeartbeats 4000000 in
set_option maxRecDepth 100000 in
theorem c_X0_inStatus (l : Launch) (G : tG) (st : tST) (x1 : Int32) {r : Int32} (hf : f_X0_inStatus x1 st = some r) : tCI l G yX0_inStatus cX0_inStatus 4 (some .int) rm_X0_inStatus [.ref (tad G 8), .int x1] st r st := by
  refine tk_entI (by decide +kernel) (Nat.le_of_ble_eq_true rfl) (fun p e s m below meth c ls S hr hlk hI hl => ?_)
  have hl : lv_has ls 4 [(0, .ref (tad G 8)), (1, .int x1)] := hl
  have S : CallFix p m c cX0_inStatus 4 s [.ref (tad G 8), .int x1].toArray wsL_law RX0 := S
  have hx := S.1
  have hb := S.2.1
  have hown := S.2.2.2.1
  have hts := S.2.2.2.2
  unfold f_X0_inStatus at hf
  refine lv_iconst (v := 0) hx hb dX0_inStatus_0 (by decide) ?_
  refine lv_istore_n (lv' := [(2, .int (0 : Int32)), (0, .ref (tad G 8)), (1, .int x1)]) hx hb dX0_inStatus_1 rfl hl (by decide) rfl (fun ls hl => ?_)
  refine lv_iconst (v := 0) hx hb dX0_inStatus_2 (by decide) ?_
  refine lv_istore_n (lv' := [(3, .int (0 : Int32)), (2, .int (0 : Int32)), (0, .ref (tad G 8)), (1, .int x1)]) hx hb dX0_inStatus_3 rfl hl (by decide) rfl (fun ls hl => ?_)
  exact k_X0_inStatus_4 S hr hlk tfu x1 (0 : Int32) (0 : Int32) _ _ _ hI (lv_sub hl [2, 3, 1, 0] rfl) hf
/-! X1_leadsTo -/
abbrev rm_X1_leadsTo : Room := { frames := 0, cells := 0, slots := 0, locals := 0 }
def f_X1_leadsTo_5 (st : tST)  : Nat → Int32 → Int32 → Int32 → Option (Int32)
  | 0, _, _, _ => none
  | n + 1, x2, x3, x4 => (if (90 : Int32) ≤ x4 then tzr (1 : Int32) (some (1 : Int32)) else tal 90 (tg_A st 5) x3 (fun v1 => (if v1 = (-1 : Int32) then tzr (1 : Int32) (some (1 : Int32)) else tal 90 (tg_A st 5) x3 (fun v2 => tal 90 (tg_A st 7) v2 (fun v3 => tlet (v3 &&& x2) (fun i4 => tal 90 (tg_A st 6) x3 (fun v5 => (if (i4 &&& (-i4)) = ((1 : Int32) <<< (v5 &&& (31 : Int32))) then tal 90 (tg_A st 5) x3 (fun v6 => tlet (x4 + (1 : Int32)) (fun i7 => f_X1_leadsTo_5 st n x2 v6 i7)) else tzr (0 : Int32) (some (0 : Int32))))))))))
def f_X1_leadsTo (x1 : Int32) (x2 : Int32) (st : tST) : Option (Int32) := f_X1_leadsTo_5 st tfu x2 x1 (0 : Int32)
theorem yd_X1_leadsTo : yX1_leadsTo.cls = RX1 ∧ yX1_leadsTo.cls ≠ "java/lang/invoke/MethodHandle" ∧ yX1_leadsTo.cls ≠ "java/lang/invoke/VarHandle" ∧ (parseMethodDescriptor yX1_leadsTo.desc).map (fun d => d.parameters.length) = some 2 := by decide +kernel
set_option maxHeartbeats 4000000 in
set_option maxRecDepth 100000 in
theorem k_X1_leadsTo_5 {l : Launch} {G : tG} {p : Program} {e : Env} {s : State} {m : MethodId} {below : List Frame} {meth : Method} {c : Code} {args : Array Value} {r : Int32} {st : tST} (S : CallFix p m c cX1_leadsTo 6 s args wsL_law RX1) (hr : meth.sig.returnType = (some .boolean)) (hlk : meth.locks = false) : ∀ (n : Nat) (x2 : Int32) (x3 : Int32) (x4 : Int32) (H : Heap) (locs : List Loc) (ls : Array Slot), tIn G (tA G s.heap.size) s st H locs → lv_has ls 6 [(0, .ref (tad G 3)), (2, .int x2), (3, .int x3), (4, .int x4)] → f_X1_leadsTo_5 st n x2 x3 x4 = some r → W p l e rm_X1_leadsTo s m args below meth c H locs 0 0 (tZI G below args s r st) (F0 m 5 ls []) := by
  have hx := S.1
  have hb := S.2.1
  have hown := S.2.2.2.1
  have hts := S.2.2.2.2
  intro n
  induction n with
  | zero => intro x2 x3 x4 H locs ls hI hl hf; exact nomatch (show (none : Option (Int32)) = some _ from hf)
  | succ n ih =>
    intro x2 x3 x4 H locs ls hI hl hf
    rw [f_X1_leadsTo_5] at hf
    refine lv_iload hx hb dX1_leadsTo_5 (lv_at hl 3 rfl) ?_
    refine lv_bipush (v := 90) hx hb dX1_leadsTo_7 (by decide) ?_
    refine tk_icmp_ge (tgt := 69) hx hb hf dX1_leadsTo_9 (by decide) (fun hf => ?_) (fun hf => ?_)
    · refine lv_iconst (v := 1) hx hb dX1_leadsTo_69 (by decide) ?_
      exact tk_rzR S hr hlk hI hf dX1_leadsTo_70
    · refine lv_aload_n hx hb dX1_leadsTo_12 rfl (lv_at hl 0 rfl) ?_
      refine tg_X1_1 S hI mw_39 dX1_leadsTo_13 ?_
      refine lv_iload_n hx hb dX1_leadsTo_16 rfl (lv_at hl 2 rfl) ?_
      refine tk_iald S hI (k := 5) (n := 90) rfl hf dX1_leadsTo_17 (fun v1 hf => ?_)
      refine lv_iconst (v := -1) hx hb dX1_leadsTo_18 (by decide) ?_
      refine tk_icmp_eq (tgt := 69) hx hb hf dX1_leadsTo_19 (by decide) (fun hf => ?_) (fun hf => ?_)
      · refine lv_iconst (v := 1) hx hb dX1_leadsTo_69 (by decide) ?_
        exact tk_rzR S hr hlk hI hf dX1_leadsTo_70
      · refine lv_aload_n hx hb dX1_leadsTo_22 rfl (lv_at hl 0 rfl) ?_
        refine tg_X1_3 S hI mw_41 dX1_leadsTo_23 ?_
        refine lv_aload_n hx hb dX1_leadsTo_26 rfl (lv_at hl 0 rfl) ?_
        refine tg_X1_1 S hI mw_39 dX1_leadsTo_27 ?_
        refine lv_iload_n hx hb dX1_leadsTo_30 rfl (lv_at hl 2 rfl) ?_
        refine tk_iald S hI (k := 5) (n := 90) rfl hf dX1_leadsTo_31 (fun v2 hf => ?_)
        refine tk_iald S hI (k := 7) (n := 90) rfl hf dX1_leadsTo_32 (fun v3 hf => ?_)
        refine lv_iload_n hx hb dX1_leadsTo_33 rfl (lv_at hl 1 rfl) ?_
        refine lv_iand hx hb dX1_leadsTo_34 ?_
        refine tk_topi hf (fun i4 hf => ?_)
        refine lv_istore (lv' := [(5, .int i4), (0, .ref (tad G 3)), (2, .int x2), (3, .int x3), (4, .int x4)]) hx hb dX1_leadsTo_35 hl (by decide) rfl (fun ls hl => ?_)
        refine lv_iload hx hb dX1_leadsTo_37 (lv_at hl 0 rfl) ?_
        refine lv_iload hx hb dX1_leadsTo_39 (lv_at hl 0 rfl) ?_
        refine lv_ineg hx hb dX1_leadsTo_41 ?_
        refine lv_iand hx hb dX1_leadsTo_42 ?_
        refine lv_iconst (v := 1) hx hb dX1_leadsTo_43 (by decide) ?_
        refine lv_aload_n hx hb dX1_leadsTo_44 rfl (lv_at hl 1 rfl) ?_
        refine tg_X1_2 S hI mw_40 dX1_leadsTo_45 ?_
        refine lv_iload_n hx hb dX1_leadsTo_48 rfl (lv_at hl 3 rfl) ?_
        refine tk_iald S hI (k := 6) (n := 90) rfl hf dX1_leadsTo_49 (fun v5 hf => ?_)
        refine lv_ishl hx hb dX1_leadsTo_50 ?_
        refine tk_icmp_eq (tgt := 56) hx hb hf dX1_leadsTo_51 (by decide) (fun hf => ?_) (fun hf => ?_)
        · refine lv_aload_n hx hb dX1_leadsTo_56 rfl (lv_at hl 1 rfl) ?_
          refine tg_X1_1 S hI mw_39 dX1_leadsTo_57 ?_
          refine lv_iload_n hx hb dX1_leadsTo_60 rfl (lv_at hl 3 rfl) ?_
          refine tk_iald S hI (k := 5) (n := 90) rfl hf dX1_leadsTo_61 (fun v6 hf => ?_)
          refine lv_istore_n (lv' := [(3, .int v6), (5, .int i4), (0, .ref (tad G 3)), (2, .int x2), (4, .int x4)]) hx hb dX1_leadsTo_62 rfl hl (by decide) rfl (fun ls hl => ?_)
          refine tk_let hf (fun i7 ei7 hf => ?_)
          refine lv_iinc (v := i7) (lv' := [(4, .int i7), (3, .int v6), (5, .int i4), (0, .ref (tad G 3)), (2, .int x2)]) hx hb dX1_leadsTo_63 hl (k := 4) rfl (by rw [ei7]; rfl) (by decide) rfl (fun ls hl => ?_)
          refine lv_goto (tgt := 5) hx hb dX1_leadsTo_66 (by decide) ?_
          exact ih x2 v6 i7 _ _ _ hI (lv_sub hl [3, 4, 1, 0] rfl) hf
        · refine lv_iconst (v := 0) hx hb dX1_leadsTo_54 (by decide) ?_
          exact tk_rzR S hr hlk hI hf dX1_leadsTo_55
set_option maxHeartbeats 4000000 in
set_option maxRecDepth 100000 in
theorem c_X1_leadsTo (l : Launch) (G : tG) (st : tST) (x1 : Int32) (x2 : Int32) {r : Int32} (hf : f_X1_leadsTo x1 x2 st = some r) : tCI l G yX1_leadsTo cX1_leadsTo 6 (some .boolean) rm_X1_leadsTo [.ref (tad G 3), .int x1, .int x2] st r st := by
  refine tk_entI (by decide +kernel) (Nat.le_of_ble_eq_true rfl) (fun p e s m below meth c ls S hr hlk hI hl => ?_)
  have hl : lv_has ls 6 [(0, .ref (tad G 3)), (1, .int x1), (2, .int x2)] := hl
  have S : CallFix p m c cX1_leadsTo 6 s [.ref (tad G 3), .int x1, .int x2].toArray wsL_law RX1 := S
  have hx := S.1
  have hb := S.2.1
  have hown := S.2.2.2.1
  have hts := S.2.2.2.2
  unfold f_X1_leadsTo at hf
  refine lv_iload_n hx hb dX1_leadsTo_0 rfl (lv_at hl 1 rfl) ?_
  refine lv_istore_n (lv' := [(3, .int x1), (0, .ref (tad G 3)), (1, .int x1), (2, .int x2)]) hx hb dX1_leadsTo_1 rfl hl (by decide) rfl (fun ls hl => ?_)
  refine lv_iconst (v := 0) hx hb dX1_leadsTo_2 (by decide) ?_
  refine lv_istore (lv' := [(4, .int (0 : Int32)), (3, .int x1), (0, .ref (tad G 3)), (1, .int x1), (2, .int x2)]) hx hb dX1_leadsTo_3 hl (by decide) rfl (fun ls hl => ?_)
  exact k_X1_leadsTo_5 S hr hlk tfu x2 x1 (0 : Int32) _ _ _ hI (lv_sub hl [2, 4, 1, 0] rfl) hf
/-! X1_holds -/
abbrev rm_X1_holds : Room := { frames := 1, cells := 0, slots := 0, locals := 25 }
def f_X1_holds (x1 : Int32) (x2 : Int64) (x4 : Int32) (st : tST) : Option (Int32) := tal 90 (tg_A st 4) x1 (fun v1 => (if (lg_cmp (((x2.toUInt64 >>> (v1.toInt64.toUInt64 &&& Int64.toUInt64 63)).toInt64) &&& (1 : Int64)) (0 : Int64)) = 0 then tzr (0 : Int32) (some (0 : Int32)) else tal 90 (tg_A st 7) x1 (fun v2 => (if (v2 &&& x4) = 0 then (f_X1_leadsTo x1 x4 st).bind (fun r3 => (if r3 = 0 then tzr (0 : Int32) (some (0 : Int32)) else tzr (1 : Int32) (some (1 : Int32)))) else tzr (0 : Int32) (some (0 : Int32))))))
theorem yd_X1_holds : yX1_holds.cls = RX1 ∧ yX1_holds.cls ≠ "java/lang/invoke/MethodHandle" ∧ yX1_holds.cls ≠ "java/lang/invoke/VarHandle" ∧ (parseMethodDescriptor yX1_holds.desc).map (fun d => d.parameters.length) = some 3 := by decide +kernel
set_option maxHeartbeats 4000000 in
set_option maxRecDepth 100000 in
theorem c_X1_holds (l : Launch) (G : tG) (st : tST) (x1 : Int32) (x2 : Int64) (x4 : Int32) {r : Int32} (hf : f_X1_holds x1 x2 x4 st = some r) : tCI l G yX1_holds cX1_holds 5 (some .boolean) rm_X1_holds [.ref (tad G 3), .int x1, .long x2, .int x4] st r st := by
  refine tk_entI (by decide +kernel) (Nat.le_of_ble_eq_true rfl) (fun p e s m below meth c ls S hr hlk hI hl => ?_)
  have hl : lv_has ls 5 [(0, .ref (tad G 3)), (1, .int x1), (2, .long x2), (4, .int x4)] := hl
  have S : CallFix p m c cX1_holds 5 s [.ref (tad G 3), .int x1, .long x2, .int x4].toArray wsL_law RX1 := S
  have hx := S.1
  have hb := S.2.1
  have hown := S.2.2.2.1
  have hts := S.2.2.2.2
  unfold f_X1_holds at hf
  refine lv_lload_n hx hb dX1_holds_0 rfl (lv_at hl 2 rfl) ?_
  refine lv_aload_n hx hb dX1_holds_1 rfl (lv_at hl 0 rfl) ?_
  refine tg_X1_0 S hI mw_38 dX1_holds_2 ?_
  refine lv_iload_n hx hb dX1_holds_5 rfl (lv_at hl 1 rfl) ?_
  refine tk_iald S hI (k := 4) (n := 90) rfl hf dX1_holds_6 (fun v1 hf => ?_)
  refine lv_lushr hx hb dX1_holds_7 rfl ?_
  refine lv_lconst (v := 1) hx hb dX1_holds_8 (by decide) ?_
  refine lv_land hx hb dX1_holds_9 ?_
  refine lv_lconst (v := 0) hx hb dX1_holds_10 (by decide) ?_
  refine W.lcmp hx hb dX1_holds_11 ?_
  refine tk_if_eq (tgt := 41) hx hb hf dX1_holds_12 (by decide) (fun hf => ?_) (fun hf => ?_)
  · refine lv_iconst (v := 0) hx hb dX1_holds_41 (by decide) ?_
    exact tk_rzR S hr hlk hI hf dX1_holds_42
  · refine lv_aload_n hx hb dX1_holds_15 rfl (lv_at hl 0 rfl) ?_
    refine tg_X1_3 S hI mw_41 dX1_holds_16 ?_
    refine lv_iload_n hx hb dX1_holds_19 rfl (lv_at hl 1 rfl) ?_
    refine tk_iald S hI (k := 7) (n := 90) rfl hf dX1_holds_20 (fun v2 hf => ?_)
    refine lv_iload hx hb dX1_holds_21 (lv_at hl 3 rfl) ?_
    refine lv_iand hx hb dX1_holds_23 ?_
    refine tk_if_ne (tgt := 41) hx hb hf dX1_holds_24 (by decide) (fun hf => ?_) (fun hf => ?_)
    · refine lv_iconst (v := 0) hx hb dX1_holds_41 (by decide) ?_
      exact tk_rzR S hr hlk hI hf dX1_holds_42
    · refine lv_aload_n hx hb dX1_holds_27 rfl (lv_at hl 0 rfl) ?_
      refine lv_iload_n hx hb dX1_holds_28 rfl (lv_at hl 1 rfl) ?_
      refine lv_iload hx hb dX1_holds_29 (lv_at hl 3 rfl) ?_
      refine tk_bd hf (fun r3 hq hf => ?_)
      refine tk_vI S hI hl.1 (c_X1_leadsTo l G st x1 x4 hq) (cwV 2 hts (tk_gV mw_185 mw_186 mw_187 mw_20 mw_188) rfl rfl rfl yd_X1_leadsTo ⟨Nat.le_of_ble_eq_true rfl, Nat.le_of_ble_eq_true rfl⟩) 3 1 rfl rfl rfl rfl [] rfl (Nat.le_of_ble_eq_true rfl) dX1_holds_31 (fun H locs hI => ?_)
      refine tk_if_eq (tgt := 41) hx hb hf dX1_holds_34 (by decide) (fun hf => ?_) (fun hf => ?_)
      · refine lv_iconst (v := 0) hx hb dX1_holds_41 (by decide) ?_
        exact tk_rzR S hr hlk hI hf dX1_holds_42
      · refine lv_iconst (v := 1) hx hb dX1_holds_37 (by decide) ?_
        refine lv_goto (tgt := 42) hx hb dX1_holds_38 (by decide) ?_
        exact tk_rzR S hr hlk hI hf dX1_holds_42
/-! X3_letter -/
abbrev rm_X3_letter : Room := { frames := 0, cells := 0, slots := 0, locals := 0 }
def f_X3_letter (x1 : Int32) (st : tST) : Option (Int32 × tST) := (if x1 < (32 : Int32) then some ((-1002 : Int32), st) else (if x1 ≤ (126 : Int32) then (if (tg_I st 0) < (40 : Int32) then tas 40 (tg_I st 0) (tp_A st 1 ((tg_I st 0)).toNatClampNeg x1) (fun s1 => tlet (tp_I s1 0 ((tg_I s1 0) + (1 : Int32))) (fun s2 => some ((tg_I s2 0), s2))) else some ((-1004 : Int32), st)) else some ((-1002 : Int32), st)))
theorem yd_X3_letter : yX3_letter.cls = RX3 ∧ yX3_letter.cls ≠ "java/lang/invoke/MethodHandle" ∧ yX3_letter.cls ≠ "java/lang/invoke/VarHandle" ∧ (parseMethodDescriptor yX3_letter.desc).map (fun d => d.parameters.length) = some 1 := by decide +kernel
set_option maxHeartbeats 4000000 in
set_option maxRecDepth 100000 in
theorem c_X3_letter (l : Launch) (G : tG) (st : tST) (x1 : Int32) {r : Int32} {st' : tST} (hf : f_X3_letter x1 st = some (r, st')) : tCI l G yX3_letter cX3_letter 2 (some .int) rm_X3_letter [.ref (tad G 0), .int x1] st r st' := by
  refine tk_entI (by decide +kernel) (Nat.le_of_ble_eq_true rfl) (fun p e s m below meth c ls S hr hlk hI hl => ?_)
  have hl : lv_has ls 2 [(0, .ref (tad G 0)), (1, .int x1)] := hl
  have S : CallFix p m c cX3_letter 2 s [.ref (tad G 0), .int x1].toArray wsL_law RX3 := S
  have hx := S.1
  have hb := S.2.1
  have hown := S.2.2.2.1
  have hts := S.2.2.2.2
  unfold f_X3_letter at hf
  refine lv_iload_n hx hb dX3_letter_0 rfl (lv_at hl 1 rfl) ?_
  refine lv_bipush (v := 32) hx hb dX3_letter_1 (by decide) ?_
  refine tk_icmp_lt (tgt := 12) hx hb hf dX3_letter_3 (by decide) (fun hf => ?_) (fun hf => ?_)
  · refine lv_sipush (v := -1002) hx hb dX3_letter_12 (by decide) ?_
    exact tk_riW S hr hlk hI hf dX3_letter_15
  · refine lv_iload_n hx hb dX3_letter_6 rfl (lv_at hl 1 rfl) ?_
    refine lv_bipush (v := 126) hx hb dX3_letter_7 (by decide) ?_
    refine tk_icmp_le (tgt := 16) hx hb hf dX3_letter_9 (by decide) (fun hf => ?_) (fun hf => ?_)
    · refine lv_aload_n hx hb dX3_letter_16 rfl (lv_at hl 0 rfl) ?_
      refine tg_X3_1 S hI mw_14 dX3_letter_17 ?_
      refine lv_bipush (v := 40) hx hb dX3_letter_20 (by decide) ?_
      refine tk_icmp_lt (tgt := 29) hx hb hf dX3_letter_22 (by decide) (fun hf => ?_) (fun hf => ?_)
      · refine lv_aload_n hx hb dX3_letter_29 rfl (lv_at hl 0 rfl) ?_
        refine tg_X3_0 S hI mw_13 dX3_letter_30 ?_
        refine lv_aload_n hx hb dX3_letter_33 rfl (lv_at hl 0 rfl) ?_
        refine tg_X3_1 S hI mw_14 dX3_letter_34 ?_
        refine lv_iload_n hx hb dX3_letter_37 rfl (lv_at hl 1 rfl) ?_
        refine tk_iast S hI (k := 1) (n := 40) rfl (twa_1 G _) hf dX3_letter_38 (fun s1 H locs hI hf => ?_)
        refine lv_aload_n hx hb dX3_letter_39 rfl (lv_at hl 0 rfl) ?_
        refine lv_dup hx hb dX3_letter_40 rfl ?_
        refine tg_X3_1 S hI mw_14 dX3_letter_41 ?_
        refine lv_iconst (v := 1) hx hb dX3_letter_44 (by decide) ?_
        refine lv_iadd hx hb dX3_letter_45 ?_
        refine tp_X3_1 S hI mw_14 hf dX3_letter_46 (fun s2 H locs hI hf => ?_)
        refine lv_aload_n hx hb dX3_letter_49 rfl (lv_at hl 0 rfl) ?_
        refine tg_X3_1 S hI mw_14 dX3_letter_50 ?_
        exact tk_riW S hr hlk hI hf dX3_letter_53
      · refine lv_sipush (v := -1004) hx hb dX3_letter_25 (by decide) ?_
        exact tk_riW S hr hlk hI hf dX3_letter_28
    · refine lv_sipush (v := -1002) hx hb dX3_letter_12 (by decide) ?_
      exact tk_riW S hr hlk hI hf dX3_letter_15
/-! X4_within -/
abbrev rm_X4_within : Room := { frames := 0, cells := 0, slots := 0, locals := 0 }
def f_X4_within (x0 : Int32) (x1 : Int32) (x2 : Int32) : Option (Int32) := (if x0 < x1 then tzr (0 : Int32) (some (0 : Int32)) else (if x2 < x0 then tzr (0 : Int32) (some (0 : Int32)) else tzr (1 : Int32) (some (1 : Int32))))
theorem yd_X4_within : yX4_within.cls ≠ "java/lang/invoke/MethodHandle" ∧ yX4_within.cls ≠ "java/lang/invoke/VarHandle" ∧ (parseMethodDescriptor yX4_within.desc).map (fun d => d.parameters.length) = some 3 := by decide +kernel
set_option maxHeartbeats 4000000 in
set_option maxRecDepth 100000 in
theorem c_X4_within (l : Launch) (G : tG) (st : tST) (x0 : Int32) (x1 : Int32) (x2 : Int32) {r : Int32} (hf : f_X4_within x0 x1 x2 = some r) : tCI l G yX4_within cX4_within 3 (some .boolean) rm_X4_within [.int x0, .int x1, .int x2] st r st := by
  refine tk_entI (by decide +kernel) (Nat.le_of_ble_eq_true rfl) (fun p e s m below meth c ls S hr hlk hI hl => ?_)
  have hl : lv_has ls 3 [(0, .int x0), (1, .int x1), (2, .int x2)] := hl
  have S : CallFix p m c cX4_within 3 s [.int x0, .int x1, .int x2].toArray wsL_law RX4 := S
  have hx := S.1
  have hb := S.2.1
  have hown := S.2.2.2.1
  have hts := S.2.2.2.2
  unfold f_X4_within at hf
  refine lv_iload_n hx hb dX4_within_0 rfl (lv_at hl 0 rfl) ?_
  refine lv_iload_n hx hb dX4_within_1 rfl (lv_at hl 1 rfl) ?_
  refine tk_icmp_lt (tgt := 14) hx hb hf dX4_within_2 (by decide) (fun hf => ?_) (fun hf => ?_)
  · refine lv_iconst (v := 0) hx hb dX4_within_14 (by decide) ?_
    exact tk_rzR S hr hlk hI hf dX4_within_15
  · refine lv_iload_n hx hb dX4_within_5 rfl (lv_at hl 0 rfl) ?_
    refine lv_iload_n hx hb dX4_within_6 rfl (lv_at hl 2 rfl) ?_
    refine tk_icmp_gt (tgt := 14) hx hb hf dX4_within_7 (by decide) (fun hf => ?_) (fun hf => ?_)
    · refine lv_iconst (v := 0) hx hb dX4_within_14 (by decide) ?_
      exact tk_rzR S hr hlk hI hf dX4_within_15
    · refine lv_iconst (v := 1) hx hb dX4_within_10 (by decide) ?_
      refine lv_goto (tgt := 15) hx hb dX4_within_11 (by decide) ?_
      exact tk_rzR S hr hlk hI hf dX4_within_15
/-! X4_isAuthor -/
abbrev rm_X4_isAuthor : Room := { frames := 1, cells := 0, slots := 0, locals := 22 }
def f_X4_isAuthor (x0 : Int32) : Option (Int32) := (f_X4_within x0 (0 : Int32) (3 : Int32)).bind (fun r1 => tzr r1 (some r1))
theorem yd_X4_isAuthor : yX4_isAuthor.cls ≠ "java/lang/invoke/MethodHandle" ∧ yX4_isAuthor.cls ≠ "java/lang/invoke/VarHandle" ∧ (parseMethodDescriptor yX4_isAuthor.desc).map (fun d => d.parameters.length) = some 1 := by decide +kernel
set_option maxHeartbeats 4000000 in
set_option maxRecDepth 100000 in
theorem c_X4_isAuthor (l : Launch) (G : tG) (st : tST) (x0 : Int32) {r : Int32} (hf : f_X4_isAuthor x0 = some r) : tCI l G yX4_isAuthor cX4_isAuthor 1 (some .boolean) rm_X4_isAuthor [.int x0] st r st := by
  refine tk_entI (by decide +kernel) (Nat.le_of_ble_eq_true rfl) (fun p e s m below meth c ls S hr hlk hI hl => ?_)
  have hl : lv_has ls 1 [(0, .int x0)] := hl
  have S : CallFix p m c cX4_isAuthor 1 s [.int x0].toArray wsL_law RX4 := S
  have hx := S.1
  have hb := S.2.1
  have hown := S.2.2.2.1
  have hts := S.2.2.2.2
  unfold f_X4_isAuthor at hf
  refine lv_iload_n hx hb dX4_isAuthor_0 rfl (lv_at hl 0 rfl) ?_
  refine lv_iconst (v := 0) hx hb dX4_isAuthor_1 (by decide) ?_
  refine lv_iconst (v := 3) hx hb dX4_isAuthor_2 (by decide) ?_
  refine tk_bd hf (fun r1 hq hf => ?_)
  refine tk_sI S hI hl.1 (c_X4_within l G st x0 (0 : Int32) (3 : Int32) hq) (va_cwS 3 hts (tk_gS mw_95 mw_96 mw_5 mw_97) rfl rfl rfl yd_X4_within ⟨Nat.le_of_ble_eq_true rfl, Nat.le_of_ble_eq_true rfl⟩) rfl [] rfl (Nat.le_of_ble_eq_true rfl) dX4_isAuthor_3 (fun H locs hI => ?_)
  exact tk_rzR S hr hlk hI hf dX4_isAuthor_6
