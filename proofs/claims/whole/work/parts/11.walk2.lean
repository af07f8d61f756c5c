/-! X3_lineUp -/
abbrev rm_X3_lineUp : Room := { frames := 2, cells := 0, slots := 0, locals := 49 }
def f_X3_lineUp_12 : Nat → Int32 → Int64 → Int32 → Int32 → tST → Option (Int32 × tST)
  | 0, _, _, _, _, _ => none
  | n + 1, x1, x2, x4, x5, st => (if (tg_I st 6) ≤ x5 then some (x4, st) else (f_X1_holds x5 x2 x1 st).bind (fun r1 => (if r1 = 0 then tlet (x5 + (1 : Int32)) (fun i2 => f_X3_lineUp_12 n x1 x2 x4 i2 st) else tas 90 x4 (tp_A st 18 (x4).toNatClampNeg x5) (fun s3 => tlet (x4 + (1 : Int32)) (fun i4 => tlet (x5 + (1 : Int32)) (fun i5 => f_X3_lineUp_12 n x1 x2 i4 i5 s3))))))
def f_X3_lineUp (x1 : Int32) (st : tST) : Option (Int32 × tST) := (f_X3_thereBy x1 st).bind (fun r1 => f_X3_lineUp_12 tfu x1 r1 (0 : Int32) (0 : Int32) st)
theorem yd_X3_lineUp : yX3_lineUp.cls = RX3 ∧ yX3_lineUp.cls ≠ "java/lang/invoke/MethodHandle" ∧ yX3_lineUp.cls ≠ "java/lang/invoke/VarHandle" ∧ (parseMethodDescriptor yX3_lineUp.desc).map (fun d => d.parameters.length) = some 1 := by decide +kernel
set_option maxHeartbeats 4000000 in
set_option maxRecDepth 100000 in
theorem k_X3_lineUp_12 {l : Launch} {G : tG} {p : Program} {e : Env} {s : State} {m : MethodId} {below : List Frame} {meth : Method} {c : Code} {args : Array Value} {r : Int32} {st' : tST} (S : CallFix p m c cX3_lineUp 6 s args wsL_law RX3) (hr : meth.sig.returnType = (some .int)) (hlk : meth.locks = false) : ∀ (n : Nat) (x1 : Int32) (x2 : Int64) (x4 : Int32) (x5 : Int32) (st : tST) (H : Heap) (locs : List Loc) (ls : Array Slot), tIn G (tA G s.heap.size) s st H locs → lv_has ls 6 [(0, .ref (tad G 0)), (1, .int x1), (2, .long x2), (4, .int x4), (5, .int x5)] → f_X3_lineUp_12 n x1 x2 x4 x5 st = some (r, st') → W p l e rm_X3_lineUp s m args below meth c H locs 0 0 (tZI G below args s r st') (F0 m 12 ls []) := by
  have hx := S.1
  have hb := S.2.1
  have hown := S.2.2.2.1
  have hts := S.2.2.2.2
  intro n
  induction n with
  | zero => intro x1 x2 x4 x5 st H locs ls hI hl hf; exact nomatch (show (none : Option (Int32 × tST)) = some _ from hf)
  | succ n ih =>
    intro x1 x2 x4 x5 st H locs ls hI hl hf
    rw [f_X3_lineUp_12] at hf
    refine lv_iload hx hb dX3_lineUp_12 (lv_at hl 4 rfl) ?_
    refine lv_aload_n hx hb dX3_lineUp_14 rfl (lv_at hl 0 rfl) ?_
    refine tg_X3_5 S hI mw_21 dX3_lineUp_15 ?_
    refine tg_X1_4 S hI mw_114 dX3_lineUp_18 ?_
    refine tk_icmp_ge (tgt := 56) hx hb hf dX3_lineUp_21 (by decide) (fun hf => ?_) (fun hf => ?_)
    · refine lv_iload hx hb dX3_lineUp_56 (lv_at hl 3 rfl) ?_
      exact tk_riW S hr hlk hI hf dX3_lineUp_58
    · refine lv_aload_n hx hb dX3_lineUp_24 rfl (lv_at hl 0 rfl) ?_
      refine tg_X3_5 S hI mw_21 dX3_lineUp_25 ?_
      refine lv_iload hx hb dX3_lineUp_28 (lv_at hl 4 rfl) ?_
      refine lv_lload_n hx hb dX3_lineUp_30 rfl (lv_at hl 2 rfl) ?_
      refine lv_iload_n hx hb dX3_lineUp_31 rfl (lv_at hl 1 rfl) ?_
      refine tk_bd hf (fun r1 hq hf => ?_)
      refine tk_vI S hI hl.1 (c_X1_holds l G st x5 x2 x1 hq) (cwV 3 hts (tk_gV mw_181 mw_182 mw_183 mw_20 mw_184) rfl rfl rfl yd_X1_holds ⟨Nat.le_of_ble_eq_true rfl, Nat.le_of_ble_eq_true rfl⟩) 3 1 rfl rfl rfl rfl [] rfl (Nat.le_of_ble_eq_true rfl) dX3_lineUp_32 (fun H locs hI => ?_)
      refine tk_if_eq (tgt := 50) hx hb hf dX3_lineUp_35 (by decide) (fun hf => ?_) (fun hf => ?_)
      · refine tk_let hf (fun i2 ei2 hf => ?_)
        refine lv_iinc (v := i2) (lv' := [(5, .int i2), (0, .ref (tad G 0)), (1, .int x1), (2, .long x2), (4, .int x4)]) hx hb dX3_lineUp_50 hl (k := 4) rfl (by rw [ei2]; rfl) (by decide) rfl (fun ls hl => ?_)
        refine lv_goto (tgt := 12) hx hb dX3_lineUp_53 (by decide) ?_
        exact ih x1 x2 x4 i2 st _ _ _ hI (lv_sub hl [1, 2, 3, 4, 0] rfl) hf
      · refine lv_aload_n hx hb dX3_lineUp_38 rfl (lv_at hl 0 rfl) ?_
        refine tg_X3_8 S hI mw_30 dX3_lineUp_39 ?_
        refine lv_iload hx hb dX3_lineUp_42 (lv_at hl 3 rfl) ?_
        refine lv_iload hx hb dX3_lineUp_44 (lv_at hl 4 rfl) ?_
        refine tk_iast S hI (k := 18) (n := 90) rfl (twa_18 G _) hf dX3_lineUp_46 (fun s3 H locs hI hf => ?_)
        refine tk_let hf (fun i4 ei4 hf => ?_)
        refine lv_iinc (v := i4) (lv' := [(4, .int i4), (0, .ref (tad G 0)), (1, .int x1), (2, .long x2), (5, .int x5)]) hx hb dX3_lineUp_47 hl (k := 3) rfl (by rw [ei4]; rfl) (by decide) rfl (fun ls hl => ?_)
        refine tk_let hf (fun i5 ei5 hf => ?_)
        refine lv_iinc (v := i5) (lv' := [(5, .int i5), (4, .int i4), (0, .ref (tad G 0)), (1, .int x1), (2, .long x2)]) hx hb dX3_lineUp_50 hl (k := 4) rfl (by rw [ei5]; rfl) (by decide) rfl (fun ls hl => ?_)
        refine lv_goto (tgt := 12) hx hb dX3_lineUp_53 (by decide) ?_
        exact ih x1 x2 i4 i5 s3 _ _ _ hI (lv_sub hl [2, 3, 4, 1, 0] rfl) hf
set_option maxHeartbeats 4000000 in
set_option maxRecDepth 100000 in
theorem c_X3_lineUp (l : Launch) (G : tG) (st : tST) (x1 : Int32) {r : Int32} {st' : tST} (hf : f_X3_lineUp x1 st = some (r, st')) : tCI l G yX3_lineUp cX3_lineUp 6 (some .int) rm_X3_lineUp [.ref (tad G 0), .int x1] st r st' := by
  refine tk_entI (by decide +kernel) (Nat.le_of_ble_eq_true rfl) (fun p e s m below meth c ls S hr hlk hI hl => ?_)
  have hl : lv_has ls 6 [(0, .ref (tad G 0)), (1, .int x1)] := hl
  have S : CallFix p m c cX3_lineUp 6 s [.ref (tad G 0), .int x1].toArray wsL_law RX3 := S
  have hx := S.1
  have hb := S.2.1
  have hown := S.2.2.2.1
  have hts := S.2.2.2.2
  unfold f_X3_lineUp at hf
  refine lv_aload_n hx hb dX3_lineUp_0 rfl (lv_at hl 0 rfl) ?_
  refine lv_iload_n hx hb dX3_lineUp_1 rfl (lv_at hl 1 rfl) ?_
  refine tk_bd hf (fun r1 hq hf => ?_)
  refine tk_vL S hI hl.1 (c_X3_thereBy l G st x1 hq) (cwV 1 hts (tk_gV mw_175 mw_176 mw_177 mw_2 mw_178) rfl rfl rfl yd_X3_thereBy ⟨Nat.le_of_ble_eq_true rfl, Nat.le_of_ble_eq_true rfl⟩) 0 3 rfl rfl rfl rfl [] rfl (Nat.le_of_ble_eq_true rfl) dX3_lineUp_2 (fun H locs hI => ?_)
  refine lv_lstore_n (lv' := [(2, .long r1), (0, .ref (tad G 0)), (1, .int x1)]) hx hb dX3_lineUp_5 rfl hl (by decide) rfl (fun ls hl => ?_)
  refine lv_iconst (v := 0) hx hb dX3_lineUp_6 (by decide) ?_
  refine lv_istore (lv' := [(4, .int (0 : Int32)), (2, .long r1), (0, .ref (tad G 0)), (1, .int x1)]) hx hb dX3_lineUp_7 hl (by decide) rfl (fun ls hl => ?_)
  refine lv_iconst (v := 0) hx hb dX3_lineUp_9 (by decide) ?_
  refine lv_istore (lv' := [(5, .int (0 : Int32)), (4, .int (0 : Int32)), (2, .long r1), (0, .ref (tad G 0)), (1, .int x1)]) hx hb dX3_lineUp_10 hl (by decide) rfl (fun ls hl => ?_)
  exact k_X3_lineUp_12 S hr hlk tfu x1 r1 (0 : Int32) (0 : Int32) st _ _ _ hI (lv_sub hl [3, 4, 2, 1, 0] rfl) hf
/-! X0_isFull -/
abbrev rm_X0_isFull : Room := { frames := 0, cells := 0, slots := 0, locals := 0 }
def f_X0_isFull (st : tST) : Option (Int32) := (if (tg_I st 7) < (12 : Int32) then tzr (0 : Int32) (some (0 : Int32)) else tzr (1 : Int32) (some (1 : Int32)))
theorem yd_X0_isFull : yX0_isFull.cls = RX0 ∧ yX0_isFull.cls ≠ "java/lang/invoke/MethodHandle" ∧ yX0_isFull.cls ≠ "java/lang/invoke/VarHandle" ∧ (parseMethodDescriptor yX0_isFull.desc).map (fun d => d.parameters.length) = some 0 := by decide +kernel
set_option maxHeartbeats 4000000 in
set_option maxRecDepth 100000 in
theorem c_X0_isFull (l : Launch) (G : tG) (st : tST) {r : Int32} (hf : f_X0_isFull st = some r) : tCI l G yX0_isFull cX0_isFull 1 (some .boolean) rm_X0_isFull [.ref (tad G 8)] st r st := by
  refine tk_entI (by decide +kernel) (Nat.le_of_ble_eq_true rfl) (fun p e s m below meth c ls S hr hlk hI hl => ?_)
  have hl : lv_has ls 1 [(0, .ref (tad G 8))] := hl
  have S : CallFix p m c cX0_isFull 1 s [.ref (tad G 8)].toArray wsL_law RX0 := S
  have hx := S.1
  have hb := S.2.1
  have hown := S.2.2.2.1
  have hts := S.2.2.2.2
  unfold f_X0_isFull at hf
  refine lv_aload_n hx hb dX0_isFull_0 rfl (lv_at hl 0 rfl) ?_
  refine tg_X0_5 S hI mw_52 dX0_isFull_1 ?_
  refine lv_bipush (v := 12) hx hb dX0_isFull_4 (by decide) ?_
  refine tk_icmp_lt (tgt := 13) hx hb hf dX0_isFull_6 (by decide) (fun hf => ?_) (fun hf => ?_)
  · refine lv_iconst (v := 0) hx hb dX0_isFull_13 (by decide) ?_
    exact tk_rzR S hr hlk hI hf dX0_isFull_14
  · refine lv_iconst (v := 1) hx hb dX0_isFull_9 (by decide) ?_
    refine lv_goto (tgt := 14) hx hb dX0_isFull_10 (by decide) ?_
    exact tk_rzR S hr hlk hI hf dX0_isFull_14
/-! X3_placeAhead -/
abbrev rm_X3_placeAhead : Room := { frames := 0, cells := 0, slots := 0, locals := 0 }
def f_X3_placeAhead (x1 : Int32) (x2 : Int32) (st : tST) : Option (Int32) := (if x2 ≤ x1 then some (tg_I st 6) else tal 90 (tg_A st 18) x1 (fun v1 => some v1))
theorem yd_X3_placeAhead : yX3_placeAhead.cls = RX3 ∧ yX3_placeAhead.cls ≠ "java/lang/invoke/MethodHandle" ∧ yX3_placeAhead.cls ≠ "java/lang/invoke/VarHandle" ∧ (parseMethodDescriptor yX3_placeAhead.desc).map (fun d => d.parameters.length) = some 2 := by decide +kernel
set_option maxHeartbeats 4000000 in
set_option maxRecDepth 100000 in
theorem c_X3_placeAhead (l : Launch) (G : tG) (st : tST) (x1 : Int32) (x2 : Int32) {r : Int32} (hf : f_X3_placeAhead x1 x2 st = some r) : tCI l G yX3_placeAhead cX3_placeAhead 3 (some .int) rm_X3_placeAhead [.ref (tad G 0), .int x1, .int x2] st r st := by
  refine tk_entI (by decide +kernel) (Nat.le_of_ble_eq_true rfl) (fun p e s m below meth c ls S hr hlk hI hl => ?_)
  have hl : lv_has ls 3 [(0, .ref (tad G 0)), (1, .int x1), (2, .int x2)] := hl
  have S : CallFix p m c cX3_placeAhead 3 s [.ref (tad G 0), .int x1, .int x2].toArray wsL_law RX3 := S
  have hx := S.1
  have hb := S.2.1
  have hown := S.2.2.2.1
  have hts := S.2.2.2.2
  unfold f_X3_placeAhead at hf
  refine lv_iload_n hx hb dX3_placeAhead_0 rfl (lv_at hl 1 rfl) ?_
  refine lv_iload_n hx hb dX3_placeAhead_1 rfl (lv_at hl 2 rfl) ?_
  refine tk_icmp_ge (tgt := 14) hx hb hf dX3_placeAhead_2 (by decide) (fun hf => ?_) (fun hf => ?_)
  · refine lv_aload_n hx hb dX3_placeAhead_14 rfl (lv_at hl 0 rfl) ?_
    refine tg_X3_5 S hI mw_21 dX3_placeAhead_15 ?_
    refine tg_X1_4 S hI mw_114 dX3_placeAhead_18 ?_
    exact tk_riR S hr hlk hI hf dX3_placeAhead_21
  · refine lv_aload_n hx hb dX3_placeAhead_5 rfl (lv_at hl 0 rfl) ?_
    refine tg_X3_8 S hI mw_30 dX3_placeAhead_6 ?_
    refine lv_iload_n hx hb dX3_placeAhead_9 rfl (lv_at hl 1 rfl) ?_
    refine tk_iald S hI (k := 18) (n := 90) rfl hf dX3_placeAhead_10 (fun v1 hf => ?_)
    refine lv_goto (tgt := 21) hx hb dX3_placeAhead_11 (by decide) ?_
    exact tk_riR S hr hlk hI hf dX3_placeAhead_21
/-! X0_add -/
abbrev rm_X0_add : Room := { frames := 0, cells := 0, slots := 0, locals := 0 }
def f_X0_add (x1 : Int32) (x2 : Int32) (st : tST) : Option (Int32 × tST) := tlet (tg_I st 7) (fun i1 => tas 12 i1 (tp_A st 9 (i1).toNatClampNeg x1) (fun s2 => tas 12 i1 (tp_A s2 10 (i1).toNatClampNeg x2) (fun s3 => tas 12 i1 (tp_A s3 11 (i1).toNatClampNeg (0 : Int32)) (fun s4 => tas 12 i1 (tp_A s4 12 (i1).toNatClampNeg (0 : Int32)) (fun s5 => tas 12 i1 (tp_B s5 13 (i1).toNatClampNeg (0 : Int64)) (fun s6 => tlet (tp_I s6 7 ((tg_I s6 7) + (1 : Int32))) (fun s7 => some (i1, s7))))))))
theorem yd_X0_add : yX0_add.cls = RX0 ∧ yX0_add.cls ≠ "java/lang/invoke/MethodHandle" ∧ yX0_add.cls ≠ "java/lang/invoke/VarHandle" ∧ (parseMethodDescriptor yX0_add.desc).map (fun d => d.parameters.length) = some 2 := by decide +kernel
set_option maxHeartbeats 4000000 in
set_option maxRecDepth 100000 in
theorem c_X0_add (l : Launch) (G : tG) (st : tST) (x1 : Int32) (x2 : Int32) {r : Int32} {st' : tST} (hf : f_X0_add x1 x2 st = some (r, st')) : tCI l G yX0_add cX0_add 4 (some .int) rm_X0_add [.ref (tad G 8), .int x1, .int x2] st r st' := by
  refine tk_entI (by decide +kernel) (Nat.le_of_ble_eq_true rfl) (fun p e s m below meth c ls S hr hlk hI hl => ?_)
  have hl : lv_has ls 4 [(0, .ref (tad G 8)), (1, .int x1), (2, .int x2)] := hl
  have S : CallFix p m c cX0_add 4 s [.ref (tad G 8), .int x1, .int x2].toArray wsL_law RX0 := S
  have hx := S.1
  have hb := S.2.1
  have hown := S.2.2.2.1
  have hts := S.2.2.2.2
  unfold f_X0_add at hf
  refine lv_aload_n hx hb dX0_add_0 rfl (lv_at hl 0 rfl) ?_
  refine tg_X0_5 S hI mw_52 dX0_add_1 ?_
  refine tk_topi hf (fun i1 hf => ?_)
  refine lv_istore_n (lv' := [(3, .int i1), (0, .ref (tad G 8)), (1, .int x1), (2, .int x2)]) hx hb dX0_add_4 rfl hl (by decide) rfl (fun ls hl => ?_)
  refine lv_aload_n hx hb dX0_add_5 rfl (lv_at hl 1 rfl) ?_
  refine tg_X0_0 S hI mw_46 dX0_add_6 ?_
  refine lv_iload_n hx hb dX0_add_9 rfl (lv_at hl 0 rfl) ?_
  refine lv_iload_n hx hb dX0_add_10 rfl (lv_at hl 2 rfl) ?_
  refine tk_iast S hI (k := 9) (n := 12) rfl (twa_9 G _) hf dX0_add_11 (fun s2 H locs hI hf => ?_)
  refine lv_aload_n hx hb dX0_add_12 rfl (lv_at hl 1 rfl) ?_
  refine tg_X0_1 S hI mw_47 dX0_add_13 ?_
  refine lv_iload_n hx hb dX0_add_16 rfl (lv_at hl 0 rfl) ?_
  refine lv_iload_n hx hb dX0_add_17 rfl (lv_at hl 3 rfl) ?_
  refine tk_iast S hI (k := 10) (n := 12) rfl (twa_10 G _) hf dX0_add_18 (fun s3 H locs hI hf => ?_)
  refine lv_aload_n hx hb dX0_add_19 rfl (lv_at hl 1 rfl) ?_
  refine tg_X0_2 S hI mw_48 dX0_add_20 ?_
  refine lv_iload_n hx hb dX0_add_23 rfl (lv_at hl 0 rfl) ?_
  refine lv_iconst (v := 0) hx hb dX0_add_24 (by decide) ?_
  refine tk_iast S hI (k := 11) (n := 12) rfl (twa_11 G _) hf dX0_add_25 (fun s4 H locs hI hf => ?_)
  refine lv_aload_n hx hb dX0_add_26 rfl (lv_at hl 1 rfl) ?_
  refine tg_X0_3 S hI mw_49 dX0_add_27 ?_
  refine lv_iload_n hx hb dX0_add_30 rfl (lv_at hl 0 rfl) ?_
  refine lv_iconst (v := 0) hx hb dX0_add_31 (by decide) ?_
  refine tk_iast S hI (k := 12) (n := 12) rfl (twa_12 G _) hf dX0_add_32 (fun s5 H locs hI hf => ?_)
  refine lv_aload_n hx hb dX0_add_33 rfl (lv_at hl 1 rfl) ?_
  refine tg_X0_4 S hI mw_51 dX0_add_34 ?_
  refine lv_iload_n hx hb dX0_add_37 rfl (lv_at hl 0 rfl) ?_
  refine lv_lconst (v := 0) hx hb dX0_add_38 (by decide) ?_
  refine tk_last S hI (k := 13) (n := 12) rfl (twa_13 G _) hf dX0_add_39 (fun s6 H locs hI hf => ?_)
  refine lv_aload_n hx hb dX0_add_40 rfl (lv_at hl 1 rfl) ?_
  refine lv_dup hx hb dX0_add_41 rfl ?_
  refine tg_X0_5 S hI mw_52 dX0_add_42 ?_
  refine lv_iconst (v := 1) hx hb dX0_add_45 (by decide) ?_
  refine lv_iadd hx hb dX0_add_46 ?_
  refine tp_X0_5 S hI mw_52 hf dX0_add_47 (fun s7 H locs hI hf => ?_)
  refine lv_iload_n hx hb dX0_add_50 rfl (lv_at hl 0 rfl) ?_
  exact tk_riW S hr hlk hI hf dX0_add_51
/-! X0_touch -/
abbrev rm_X0_touch : Room := { frames := 0, cells := 0, slots := 0, locals := 0 }
def f_X0_touch (x1 : Int32) (x2 : Int32) (st : tST) : Option (tST) := tal 12 (tg_B st 13) x1 (fun u1 => tas 12 x1 (tp_B st 13 (x1).toNatClampNeg (u1 ||| ((1 : Int64) <<< (x2.toInt64 &&& (63 : Int64))))) (fun s2 => some s2))
theorem yd_X0_touch : yX0_touch.cls = RX0 ∧ yX0_touch.cls ≠ "java/lang/invoke/MethodHandle" ∧ yX0_touch.cls ≠ "java/lang/invoke/VarHandle" ∧ (parseMethodDescriptor yX0_touch.desc).map (fun d => d.parameters.length) = some 2 := by decide +kernel
set_option maxHeartbeats 4000000 in
set_option maxRecDepth 100000 in
theorem c_X0_touch (l : Launch) (G : tG) (st : tST) (x1 : Int32) (x2 : Int32) {st' : tST} (hf : f_X0_touch x1 x2 st = some st') : tCV l G yX0_touch cX0_touch 3 none rm_X0_touch [.ref (tad G 8), .int x1, .int x2] st st' := by
  refine tk_entV (by decide +kernel) (Nat.le_of_ble_eq_true rfl) (fun p e s m below meth c ls S hr hlk hI hl => ?_)
  have hl : lv_has ls 3 [(0, .ref (tad G 8)), (1, .int x1), (2, .int x2)] := hl
  have S : CallFix p m c cX0_touch 3 s [.ref (tad G 8), .int x1, .int x2].toArray wsL_law RX0 := S
  have hx := S.1
  have hb := S.2.1
  have hown := S.2.2.2.1
  have hts := S.2.2.2.2
  unfold f_X0_touch at hf
  refine lv_aload_n hx hb dX0_touch_0 rfl (lv_at hl 0 rfl) ?_
  refine tg_X0_4 S hI mw_51 dX0_touch_1 ?_
  refine lv_iload_n hx hb dX0_touch_4 rfl (lv_at hl 1 rfl) ?_
  refine lv_dup2_11 hx hb dX0_touch_5 rfl rfl ?_
  refine tk_lald S hI (k := 13) (n := 12) rfl hf dX0_touch_6 (fun u1 hf => ?_)
  refine lv_lconst (v := 1) hx hb dX0_touch_7 (by decide) ?_
  refine lv_iload_n hx hb dX0_touch_8 rfl (lv_at hl 2 rfl) ?_
  refine lv_lshl hx hb dX0_touch_9 rfl ?_
  refine lv_lor hx hb dX0_touch_10 ?_
  refine tk_last S hI (k := 13) (n := 12) rfl (twa_13 G _) hf dX0_touch_11 (fun s2 H locs hI hf => ?_)
  exact tk_rvW S hr hlk hI hf dX0_touch_12
/-! X3_insertPage -/
abbrev rm_X3_insertPage : Room := { frames := 2, cells := 0, slots := 0, locals := 47 }
def f_X3_insertPage_13 : Nat → Int32 → Int32 → Int32 → tST → Option (Int32 × tST)
  | 0, _, _, _, _ => none
  | n + 1, x2, x3, x4, st => (if (tg_I st 0) ≤ x4 then tlet (tp_I st 0 (0 : Int32)) (fun s1 => some (x3, s1)) else (f_X0_touch x3 (tg_I st 1) st).bind (fun s2 => tal 40 (tg_A s2 1) x4 (fun v3 => (f_X3_addLetter v3 (x2 + x4) x3 s2).bind (fun s4 => tlet (x4 + (1 : Int32)) (fun i5 => f_X3_insertPage_13 n x2 x3 i5 s4)))))
def f_X3_insertPage (x1 : Int32) (x2 : Int32) (st : tST) : Option (Int32 × tST) := tbd (f_X0_add (0 : Int32) x1 st) (fun r1 s2 => f_X3_insertPage_13 tfu x2 r1 (0 : Int32) s2)
theorem yd_X3_insertPage : yX3_insertPage.cls = RX3 ∧ yX3_insertPage.cls ≠ "java/lang/invoke/MethodHandle" ∧ yX3_insertPage.cls ≠ "java/lang/invoke/VarHandle" ∧ (parseMethodDescriptor yX3_insertPage.desc).map (fun d => d.parameters.length) = some 2 := by decide +kernel
set_option maxHeartbeats 4000000 in
set_option maxRecDepth 100000 in
theorem k_X3_insertPage_13 {l : Launch} {G : tG} {p : Program} {e : Env} {s : State} {m : MethodId} {below : List Frame} {meth : Method} {c : Code} {args : Array Value} {r : Int32} {st' : tST} (S : CallFix p m c cX3_insertPage 5 s args wsL_law RX3) (hr : meth.sig.returnType = (some .int)) (hlk : meth.locks = false) : ∀ (n : Nat) (x2 : Int32) (x3 : Int32) (x4 : Int32) (st : tST) (H : Heap) (locs : List Loc) (ls : Array Slot), tIn G (tA G s.heap.size) s st H locs → lv_has ls 5 [(0, .ref (tad G 0)), (2, .int x2), (3, .int x3), (4, .int x4)] → f_X3_insertPage_13 n x2 x3 x4 st = some (r, st') → W p l e rm_X3_insertPage s m args below meth c H locs 0 0 (tZI G below args s r st') (F0 m 13 ls []) := by
  have hx := S.1
  have hb := S.2.1
  have hown := S.2.2.2.1
  have hts := S.2.2.2.2
  intro n
  induction n with
  | zero => intro x2 x3 x4 st H locs ls hI hl hf; exact nomatch (show (none : Option (Int32 × tST)) = some _ from hf)
  | succ n ih =>
    intro x2 x3 x4 st H locs ls hI hl hf
    rw [f_X3_insertPage_13] at hf
    refine lv_iload hx hb dX3_insertPage_13 (lv_at hl 3 rfl) ?_
    refine lv_aload_n hx hb dX3_insertPage_15 rfl (lv_at hl 0 rfl) ?_
    refine tg_X3_1 S hI mw_14 dX3_insertPage_16 ?_
    refine tk_icmp_ge (tgt := 56) hx hb hf dX3_insertPage_19 (by decide) (fun hf => ?_) (fun hf => ?_)
    · refine lv_aload_n hx hb dX3_insertPage_56 rfl (lv_at hl 0 rfl) ?_
      refine lv_iconst (v := 0) hx hb dX3_insertPage_57 (by decide) ?_
      refine tp_X3_1 S hI mw_14 hf dX3_insertPage_58 (fun s1 H locs hI hf => ?_)
      refine lv_iload_n hx hb dX3_insertPage_61 rfl (lv_at hl 2 rfl) ?_
      exact tk_riW S hr hlk hI hf dX3_insertPage_62
    · refine lv_aload_n hx hb dX3_insertPage_22 rfl (lv_at hl 0 rfl) ?_
      refine tg_X3_6 S hI mw_25 dX3_insertPage_23 ?_
      refine lv_iload_n hx hb dX3_insertPage_26 rfl (lv_at hl 2 rfl) ?_
      refine lv_aload_n hx hb dX3_insertPage_27 rfl (lv_at hl 0 rfl) ?_
      refine tg_X3_3 S hI mw_16 dX3_insertPage_28 ?_
      refine tk_bd hf (fun s2 hq hf => ?_)
      refine tk_vV S hI hl.1 (c_X0_touch l G st x3 (tg_I st 1) hq) (cwV 2 hts (tk_gV mw_205 mw_206 mw_207 mw_24 mw_208) rfl rfl rfl yd_X0_touch ⟨Nat.le_of_ble_eq_true rfl, Nat.le_of_ble_eq_true rfl⟩) 8 0 rfl rfl rfl rfl [] rfl (Nat.le_of_ble_eq_true rfl) dX3_insertPage_31 (fun H locs hI => ?_)
      refine lv_aload_n hx hb dX3_insertPage_34 rfl (lv_at hl 0 rfl) ?_
      refine lv_aload_n hx hb dX3_insertPage_35 rfl (lv_at hl 0 rfl) ?_
      refine tg_X3_0 S hI mw_13 dX3_insertPage_36 ?_
      refine lv_iload hx hb dX3_insertPage_39 (lv_at hl 3 rfl) ?_
      refine tk_iald S hI (k := 1) (n := 40) rfl hf dX3_insertPage_41 (fun v3 hf => ?_)
      refine lv_iload_n hx hb dX3_insertPage_42 rfl (lv_at hl 1 rfl) ?_
      refine lv_iload hx hb dX3_insertPage_43 (lv_at hl 3 rfl) ?_
      refine lv_iadd hx hb dX3_insertPage_45 ?_
      refine lv_iload_n hx hb dX3_insertPage_46 rfl (lv_at hl 2 rfl) ?_
      refine tk_bd hf (fun s4 hq hf => ?_)
      refine tk_vV S hI hl.1 (c_X3_addLetter l G s2 v3 (x2 + x4) x3 hq) (cwV 3 hts (tk_gV mw_116 mw_117 mw_118 mw_2 mw_119) rfl rfl rfl yd_X3_addLetter ⟨Nat.le_of_ble_eq_true rfl, Nat.le_of_ble_eq_true rfl⟩) 0 3 rfl rfl rfl rfl [] rfl (Nat.le_of_ble_eq_true rfl) dX3_insertPage_47 (fun H locs hI => ?_)
      refine tk_let hf (fun i5 ei5 hf => ?_)
      refine lv_iinc (v := i5) (lv' := [(4, .int i5), (0, .ref (tad G 0)), (2, .int x2), (3, .int x3)]) hx hb dX3_insertPage_50 hl (k := 3) rfl (by rw [ei5]; rfl) (by decide) rfl (fun ls hl => ?_)
      refine lv_goto (tgt := 13) hx hb dX3_insertPage_53 (by decide) ?_
      exact ih x2 x3 i5 s4 _ _ _ hI (lv_sub hl [1, 2, 3, 0] rfl) hf
set_option maxHeartbeats 4000000 in
set_option maxRecDepth 100000 in
theorem c_X3_insertPage (l : Launch) (G : tG) (st : tST) (x1 : Int32) (x2 : Int32) {r : Int32} {st' : tST} (hf : f_X3_insertPage x1 x2 st = some (r, st')) : tCI l G yX3_insertPage cX3_insertPage 5 (some .int) rm_X3_insertPage [.ref (tad G 0), .int x1, .int x2] st r st' := by
  refine tk_entI (by decide +kernel) (Nat.le_of_ble_eq_true rfl) (fun p e s m below meth c ls S hr hlk hI hl => ?_)
  have hl : lv_has ls 5 [(0, .ref (tad G 0)), (1, .int x1), (2, .int x2)] := hl
  have S : CallFix p m c cX3_insertPage 5 s [.ref (tad G 0), .int x1, .int x2].toArray wsL_law RX3 := S
  have hx := S.1
  have hb := S.2.1
  have hown := S.2.2.2.1
  have hts := S.2.2.2.2
  unfold f_X3_insertPage at hf
  refine lv_aload_n hx hb dX3_insertPage_0 rfl (lv_at hl 0 rfl) ?_
  refine tg_X3_6 S hI mw_25 dX3_insertPage_1 ?_
  refine lv_iconst (v := 0) hx hb dX3_insertPage_4 (by decide) ?_
  refine lv_iload_n hx hb dX3_insertPage_5 rfl (lv_at hl 1 rfl) ?_
  refine tk_bd2 hf (fun r1 s2 hq hf => ?_)
  refine tk_vI S hI hl.1 (c_X0_add l G st (0 : Int32) x1 hq) (cwV 2 hts (tk_gV mw_201 mw_202 mw_203 mw_24 mw_204) rfl rfl rfl yd_X0_add ⟨Nat.le_of_ble_eq_true rfl, Nat.le_of_ble_eq_true rfl⟩) 8 0 rfl rfl rfl rfl [] rfl (Nat.le_of_ble_eq_true rfl) dX3_insertPage_6 (fun H locs hI => ?_)
  refine lv_istore_n (lv' := [(3, .int r1), (0, .ref (tad G 0)), (1, .int x1), (2, .int x2)]) hx hb dX3_insertPage_9 rfl hl (by decide) rfl (fun ls hl => ?_)
  refine lv_iconst (v := 0) hx hb dX3_insertPage_10 (by decide) ?_
  refine lv_istore (lv' := [(4, .int (0 : Int32)), (3, .int r1), (0, .ref (tad G 0)), (1, .int x1), (2, .int x2)]) hx hb dX3_insertPage_11 hl (by decide) rfl (fun ls hl => ?_)
  exact k_X3_insertPage_13 S hr hlk tfu x2 r1 (0 : Int32) s2 _ _ _ hI (lv_sub hl [2, 4, 1, 0] rfl) hf
/-! X3_insert -/
abbrev rm_X3_insert : Room := { frames := 3, cells := 0, slots := 0, locals := 74 }
def f_X3_insert (x1 : Int32) (x2 : Int32) (st : tST) : Option (Int32 × tST) := (f_X3_isAuthor x1).bind (fun r1 => (if r1 = 0 then some ((-1001 : Int32), st) else (f_X3_setOf ((2 : Int32) + x1) st).bind (fun r2 => tbd (f_X3_lineUp r2 st) (fun r3 s4 => (if x2 < 0 then some ((-1001 : Int32), s4) else (if x2 ≤ r3 then (if (tg_I s4 0) = 0 then some ((-1003 : Int32), s4) else (if (64 : Int32) < ((tg_I s4 1) + (tg_I s4 0)) then some ((-1004 : Int32), s4) else (f_X0_isFull s4).bind (fun r5 => (if r5 = 0 then (if ((tg_I s4 6) + (tg_I s4 0)) ≤ (90 : Int32) then (f_X3_placeAhead x2 r3 s4).bind (fun r6 => tbd (f_X3_insertPage x1 r6 s4) (fun r7 s8 => some (r7, s8))) else some ((-1004 : Int32), s4)) else some ((-1004 : Int32), s4))))) else some ((-1001 : Int32), s4)))))))
theorem yd_X3_insert : yX3_insert.cls = RX3 ∧ yX3_insert.cls ≠ "java/lang/invoke/MethodHandle" ∧ yX3_insert.cls ≠ "java/lang/invoke/VarHandle" ∧ (parseMethodDescriptor yX3_insert.desc).map (fun d => d.parameters.length) = some 2 := by decide +kernel
set_option maxHeartbeats 4000000 in
set_option maxRecDepth 100000 in
theorem c_X3_insert (l : Launch) (G : tG) (st : tST) (x1 : Int32) (x2 : Int32) {r : Int32} {st' : tST} (hf : f_X3_insert x1 x2 st = some (r, st')) : tCI l G yX3_insert cX3_insert 4 (some .int) rm_X3_insert [.ref (tad G 0), .int x1, .int x2] st r st' := by
  refine tk_entI (by decide +kernel) (Nat.le_of_ble_eq_true rfl) (fun p e s m below meth c ls S hr hlk hI hl => ?_)
  have hl : lv_has ls 4 [(0, .ref (tad G 0)), (1, .int x1), (2, .int x2)] := hl
  have S : CallFix p m c cX3_insert 4 s [.ref (tad G 0), .int x1, .int x2].toArray wsL_law RX3 := S
  have hx := S.1
  have hb := S.2.1
  have hown := S.2.2.2.1
  have hts := S.2.2.2.2
  unfold f_X3_insert at hf
  refine lv_iload_n hx hb dX3_insert_0 rfl (lv_at hl 1 rfl) ?_
  refine tk_bd hf (fun r1 hq hf => ?_)
  refine tk_sI S hI hl.1 (c_X3_isAuthor l G st x1 hq) (va_cwS 1 hts (tk_gS mw_156 mw_157 mw_2 mw_158) rfl rfl rfl yd_X3_isAuthor ⟨Nat.le_of_ble_eq_true rfl, Nat.le_of_ble_eq_true rfl⟩) rfl [] rfl (Nat.le_of_ble_eq_true rfl) dX3_insert_1 (fun H locs hI => ?_)
  refine tk_if_ne (tgt := 11) hx hb hf dX3_insert_4 (by decide) (fun hf => ?_) (fun hf => ?_)
  · refine lv_aload_n hx hb dX3_insert_11 rfl (lv_at hl 0 rfl) ?_
    refine lv_aload_n hx hb dX3_insert_12 rfl (lv_at hl 0 rfl) ?_
    refine lv_iconst (v := 2) hx hb dX3_insert_13 (by decide) ?_
    refine lv_iload_n hx hb dX3_insert_14 rfl (lv_at hl 1 rfl) ?_
    refine lv_iadd hx hb dX3_insert_15 ?_
    refine tk_bd hf (fun r2 hq hf => ?_)
    refine tk_vI S hI hl.1 (c_X3_setOf l G st ((2 : Int32) + x1) hq) (cwV 1 hts (tk_gV mw_159 mw_160 mw_161 mw_2 mw_162) rfl rfl rfl yd_X3_setOf ⟨Nat.le_of_ble_eq_true rfl, Nat.le_of_ble_eq_true rfl⟩) 0 3 rfl rfl rfl rfl [.ref (tad G 0)] rfl (Nat.le_of_ble_eq_true rfl) dX3_insert_16 (fun H locs hI => ?_)
    refine tk_bd2 hf (fun r3 s4 hq hf => ?_)
    refine tk_vI S hI hl.1 (c_X3_lineUp l G st r2 hq) (cwV 1 hts (tk_gV mw_171 mw_172 mw_173 mw_2 mw_174) rfl rfl rfl yd_X3_lineUp ⟨Nat.le_of_ble_eq_true rfl, Nat.le_of_ble_eq_true rfl⟩) 0 3 rfl rfl rfl rfl [] rfl (Nat.le_of_ble_eq_true rfl) dX3_insert_19 (fun H locs hI => ?_)
    refine lv_istore_n (lv' := [(3, .int r3), (0, .ref (tad G 0)), (1, .int x1), (2, .int x2)]) hx hb dX3_insert_22 rfl hl (by decide) rfl (fun ls hl => ?_)
    refine lv_iload_n hx hb dX3_insert_23 rfl (lv_at hl 3 rfl) ?_
    refine tk_if_lt (tgt := 32) hx hb hf dX3_insert_24 (by decide) (fun hf => ?_) (fun hf => ?_)
    · refine lv_sipush (v := -1001) hx hb dX3_insert_32 (by decide) ?_
      exact tk_riW S hr hlk hI hf dX3_insert_35
    · refine lv_iload_n hx hb dX3_insert_27 rfl (lv_at hl 3 rfl) ?_
      refine lv_iload_n hx hb dX3_insert_28 rfl (lv_at hl 0 rfl) ?_
      refine tk_icmp_le (tgt := 36) hx hb hf dX3_insert_29 (by decide) (fun hf => ?_) (fun hf => ?_)
      · refine lv_aload_n hx hb dX3_insert_36 rfl (lv_at hl 1 rfl) ?_
        refine tg_X3_1 S hI mw_14 dX3_insert_37 ?_
        refine tk_if_ne (tgt := 47) hx hb hf dX3_insert_40 (by decide) (fun hf => ?_) (fun hf => ?_)
        · refine lv_aload_n hx hb dX3_insert_47 rfl (lv_at hl 1 rfl) ?_
          refine tg_X3_3 S hI mw_16 dX3_insert_48 ?_
          refine lv_aload_n hx hb dX3_insert_51 rfl (lv_at hl 1 rfl) ?_
          refine tg_X3_1 S hI mw_14 dX3_insert_52 ?_
          refine lv_iadd hx hb dX3_insert_55 ?_
          refine lv_bipush (v := 64) hx hb dX3_insert_56 (by decide) ?_
          refine tk_icmp_gt (tgt := 88) hx hb hf dX3_insert_58 (by decide) (fun hf => ?_) (fun hf => ?_)
          · refine lv_sipush (v := -1004) hx hb dX3_insert_88 (by decide) ?_
            exact tk_riW S hr hlk hI hf dX3_insert_91
          · refine lv_aload_n hx hb dX3_insert_61 rfl (lv_at hl 1 rfl) ?_
            refine tg_X3_6 S hI mw_25 dX3_insert_62 ?_
            refine tk_bd hf (fun r5 hq hf => ?_)
            refine tk_vI S hI hl.1 (c_X0_isFull l G s4  hq) (cwV 0 hts (tk_gV mw_189 mw_190 mw_191 mw_24 mw_192) rfl rfl rfl yd_X0_isFull ⟨Nat.le_of_ble_eq_true rfl, Nat.le_of_ble_eq_true rfl⟩) 8 0 rfl rfl rfl rfl [] rfl (Nat.le_of_ble_eq_true rfl) dX3_insert_65 (fun H locs hI => ?_)
            refine tk_if_ne (tgt := 88) hx hb hf dX3_insert_68 (by decide) (fun hf => ?_) (fun hf => ?_)
            · refine lv_sipush (v := -1004) hx hb dX3_insert_88 (by decide) ?_
              exact tk_riW S hr hlk hI hf dX3_insert_91
            · refine lv_aload_n hx hb dX3_insert_71 rfl (lv_at hl 1 rfl) ?_
              refine tg_X3_5 S hI mw_21 dX3_insert_72 ?_
              refine tg_X1_4 S hI mw_114 dX3_insert_75 ?_
              refine lv_aload_n hx hb dX3_insert_78 rfl (lv_at hl 1 rfl) ?_
              refine tg_X3_1 S hI mw_14 dX3_insert_79 ?_
              refine lv_iadd hx hb dX3_insert_82 ?_
              refine lv_bipush (v := 90) hx hb dX3_insert_83 (by decide) ?_
              refine tk_icmp_le (tgt := 92) hx hb hf dX3_insert_85 (by decide) (fun hf => ?_) (fun hf => ?_)
              · refine lv_aload_n hx hb dX3_insert_92 rfl (lv_at hl 1 rfl) ?_
                refine lv_iload_n hx hb dX3_insert_93 rfl (lv_at hl 2 rfl) ?_
                refine lv_aload_n hx hb dX3_insert_94 rfl (lv_at hl 1 rfl) ?_
                refine lv_iload_n hx hb dX3_insert_95 rfl (lv_at hl 3 rfl) ?_
                refine lv_iload_n hx hb dX3_insert_96 rfl (lv_at hl 0 rfl) ?_
                refine tk_bd hf (fun r6 hq hf => ?_)
                refine tk_vI S hI hl.1 (c_X3_placeAhead l G s4 x2 r3 hq) (cwV 2 hts (tk_gV mw_193 mw_194 mw_195 mw_2 mw_196) rfl rfl rfl yd_X3_placeAhead ⟨Nat.le_of_ble_eq_true rfl, Nat.le_of_ble_eq_true rfl⟩) 0 3 rfl rfl rfl rfl [.int x1, .ref (tad G 0)] rfl (Nat.le_of_ble_eq_true rfl) dX3_insert_97 (fun H locs hI => ?_)
                refine tk_bd2 hf (fun r7 s8 hq hf => ?_)
                refine tk_vI S hI hl.1 (c_X3_insertPage l G s4 x1 r6 hq) (cwV 2 hts (tk_gV mw_197 mw_198 mw_199 mw_2 mw_200) rfl rfl rfl yd_X3_insertPage ⟨Nat.le_of_ble_eq_true rfl, Nat.le_of_ble_eq_true rfl⟩) 0 3 rfl rfl rfl rfl [] rfl (Nat.le_of_ble_eq_true rfl) dX3_insert_100 (fun H locs hI => ?_)
                exact tk_riW S hr hlk hI hf dX3_insert_103
              · refine lv_sipush (v := -1004) hx hb dX3_insert_88 (by decide) ?_
                exact tk_riW S hr hlk hI hf dX3_insert_91
        · refine lv_sipush (v := -1003) hx hb dX3_insert_43 (by decide) ?_
          exact tk_riW S hr hlk hI hf dX3_insert_46
      · refine lv_sipush (v := -1001) hx hb dX3_insert_32 (by decide) ?_
        exact tk_riW S hr hlk hI hf dX3_insert_35
  · refine lv_sipush (v := -1001) hx hb dX3_insert_7 (by decide) ?_
    exact tk_riW S hr hlk hI hf dX3_insert_10
/-! X3_refusalOfRange -/
abbrev rm_X3_refusalOfRange : Room := { frames := 0, cells := 0, slots := 0, locals := 0 }
def f_X3_refusalOfRange (x0 : Int32) (x1 : Int32) (x2 : Int32) : Option (Int32) := (if x0 < 0 then some (-1001 : Int32) else (if x0 < x2 then (if x1 < (1 : Int32) then some (-1002 : Int32) else (if x1 ≤ (x2 - x0) then some (0 : Int32) else some (-1002 : Int32))) else some (-1001 : Int32)))
theorem yd_X3_refusalOfRange : yX3_refusalOfRange.cls ≠ "java/lang/invoke/MethodHandle" ∧ yX3_refusalOfRange.cls ≠ "java/lang/invoke/VarHandle" ∧ (parseMethodDescriptor yX3_refusalOfRange.desc).map (fun d => d.parameters.length) = some 3 := by decide +kernel
set_option maxHeartbeats 4000000 in
set_option maxRecDepth 100000 in
theorem c_X3_refusalOfRange (l : Launch) (G : tG) (st : tST) (x0 : Int32) (x1 : Int32) (x2 : Int32) {r : Int32} (hf : f_X3_refusalOfRange x0 x1 x2 = some r) : tCI l G yX3_refusalOfRange cX3_refusalOfRange 3 (some .int) rm_X3_refusalOfRange [.int x0, .int x1, .int x2] st r st := by
  refine tk_entI (by decide +kernel) (Nat.le_of_ble_eq_true rfl) (fun p e s m below meth c ls S hr hlk hI hl => ?_)
  have hl : lv_has ls 3 [(0, .int x0), (1, .int x1), (2, .int x2)] := hl
  have S : CallFix p m c cX3_refusalOfRange 3 s [.int x0, .int x1, .int x2].toArray wsL_law RX3 := S
  have hx := S.1
  have hb := S.2.1
  have hown := S.2.2.2.1
  have hts := S.2.2.2.2
  unfold f_X3_refusalOfRange at hf
  refine lv_iload_n hx hb dX3_refusalOfRange_0 rfl (lv_at hl 0 rfl) ?_
  refine tk_if_lt (tgt := 9) hx hb hf dX3_refusalOfRange_1 (by decide) (fun hf => ?_) (fun hf => ?_)
  · refine lv_sipush (v := -1001) hx hb dX3_refusalOfRange_9 (by decide) ?_
    exact tk_riR S hr hlk hI hf dX3_refusalOfRange_12
  · refine lv_iload_n hx hb dX3_refusalOfRange_4 rfl (lv_at hl 0 rfl) ?_
    refine lv_iload_n hx hb dX3_refusalOfRange_5 rfl (lv_at hl 2 rfl) ?_
    refine tk_icmp_lt (tgt := 13) hx hb hf dX3_refusalOfRange_6 (by decide) (fun hf => ?_) (fun hf => ?_)
    · refine lv_iload_n hx hb dX3_refusalOfRange_13 rfl (lv_at hl 1 rfl) ?_
      refine lv_iconst (v := 1) hx hb dX3_refusalOfRange_14 (by decide) ?_
      refine tk_icmp_lt (tgt := 25) hx hb hf dX3_refusalOfRange_15 (by decide) (fun hf => ?_) (fun hf => ?_)
      · refine lv_sipush (v := -1002) hx hb dX3_refusalOfRange_25 (by decide) ?_
        exact tk_riR S hr hlk hI hf dX3_refusalOfRange_28
      · refine lv_iload_n hx hb dX3_refusalOfRange_18 rfl (lv_at hl 1 rfl) ?_
        refine lv_iload_n hx hb dX3_refusalOfRange_19 rfl (lv_at hl 2 rfl) ?_
        refine lv_iload_n hx hb dX3_refusalOfRange_20 rfl (lv_at hl 0 rfl) ?_
        refine lv_isub hx hb dX3_refusalOfRange_21 ?_
        refine tk_icmp_le (tgt := 29) hx hb hf dX3_refusalOfRange_22 (by decide) (fun hf => ?_) (fun hf => ?_)
        · refine lv_iconst (v := 0) hx hb dX3_refusalOfRange_29 (by decide) ?_
          exact tk_riR S hr hlk hI hf dX3_refusalOfRange_30
        · refine lv_sipush (v := -1002) hx hb dX3_refusalOfRange_25 (by decide) ?_
          exact tk_riR S hr hlk hI hf dX3_refusalOfRange_28
    · refine lv_sipush (v := -1001) hx hb dX3_refusalOfRange_9 (by decide) ?_
      exact tk_riR S hr hlk hI hf dX3_refusalOfRange_12
/-! X3_remove -/
abbrev rm_X3_remove : Room := { frames := 3, cells := 0, slots := 0, locals := 74 }
def f_X3_remove_69 : Nat → Int32 → Int32 → Int32 → Int32 → tST → Option (Int32 × tST)
  | 0, _, _, _, _, _ => none
  | n + 1, x2, x3, x6, x7, st => (if (x2 + x3) ≤ x7 then some (x6, st) else tal 90 (tg_A st 18) x7 (fun v1 => tal 90 (tg_A st 4) v1 (fun v2 => (f_X0_touch x6 v2 st).bind (fun s3 => tlet (x7 + (1 : Int32)) (fun i4 => f_X3_remove_69 n x2 x3 x6 i4 s3)))))
def f_X3_remove (x1 : Int32) (x2 : Int32) (x3 : Int32) (st : tST) : Option (Int32 × tST) := (f_X3_isAuthor x1).bind (fun r1 => (if r1 = 0 then some ((-1001 : Int32), st) else (f_X3_setOf ((2 : Int32) + x1) st).bind (fun r2 => tbd (f_X3_lineUp r2 st) (fun r3 s4 => (f_X3_refusalOfRange x2 x3 r3).bind (fun r5 => (if r5 = 0 then (f_X0_isFull s4).bind (fun r6 => (if r6 = 0 then tbd (f_X0_add (1 : Int32) x1 s4) (fun r7 s8 => f_X3_remove_69 tfu x2 x3 r7 x2 s8) else some ((-1004 : Int32), s4))) else some (r5, s4)))))))
theorem yd_X3_remove : yX3_remove.cls = RX3 ∧ yX3_remove.cls ≠ "java/lang/invoke/MethodHandle" ∧ yX3_remove.cls ≠ "java/lang/invoke/VarHandle" ∧ (parseMethodDescriptor yX3_remove.desc).map (fun d => d.parameters.length) = some 3 := by decide +kernel
set_option maxHeartbeats 4000000 in
set_option maxRecDepth 100000 in
theorem k_X3_remove_69 {l : Launch} {G : tG} {p : Program} {e : Env} {s : State} {m : MethodId} {below : List Frame} {meth : Method} {c : Code} {args : Array Value} {r : Int32} {st' : tST} (S : CallFix p m c cX3_remove 8 s args wsL_law RX3) (hr : meth.sig.returnType = (some .int)) (hlk : meth.locks = false) : ∀ (n : Nat) (x2 : Int32) (x3 : Int32) (x6 : Int32) (x7 : Int32) (st : tST) (H : Heap) (locs : List Loc) (ls : Array Slot), tIn G (tA G s.heap.size) s st H locs → lv_has ls 8 [(0, .ref (tad G 0)), (2, .int x2), (3, .int x3), (6, .int x6), (7, .int x7)] → f_X3_remove_69 n x2 x3 x6 x7 st = some (r, st') → W p l e rm_X3_remove s m args below meth c H locs 0 0 (tZI G below args s r st') (F0 m 69 ls []) := by
  have hx := S.1
  have hb := S.2.1
  have hown := S.2.2.2.1
  have hts := S.2.2.2.2
  intro n
  induction n with
  | zero => intro x2 x3 x6 x7 st H locs ls hI hl hf; exact nomatch (show (none : Option (Int32 × tST)) = some _ from hf)
  | succ n ih =>
    intro x2 x3 x6 x7 st H locs ls hI hl hf
    rw [f_X3_remove_69] at hf
    refine lv_iload hx hb dX3_remove_69 (lv_at hl 4 rfl) ?_
    refine lv_iload_n hx hb dX3_remove_71 rfl (lv_at hl 1 rfl) ?_
    refine lv_iload_n hx hb dX3_remove_72 rfl (lv_at hl 2 rfl) ?_
    refine lv_iadd hx hb dX3_remove_73 ?_
    refine tk_icmp_ge (tgt := 107) hx hb hf dX3_remove_74 (by decide) (fun hf => ?_) (fun hf => ?_)
    · refine lv_iload hx hb dX3_remove_107 (lv_at hl 3 rfl) ?_
      exact tk_riW S hr hlk hI hf dX3_remove_109
    · refine lv_aload_n hx hb dX3_remove_77 rfl (lv_at hl 0 rfl) ?_
      refine tg_X3_6 S hI mw_25 dX3_remove_78 ?_
      refine lv_iload hx hb dX3_remove_81 (lv_at hl 3 rfl) ?_
      refine lv_aload_n hx hb dX3_remove_83 rfl (lv_at hl 0 rfl) ?_
      refine tg_X3_5 S hI mw_21 dX3_remove_84 ?_
      refine tg_X1_0 S hI mw_256 dX3_remove_87 ?_
      refine lv_aload_n hx hb dX3_remove_90 rfl (lv_at hl 0 rfl) ?_
      refine tg_X3_8 S hI mw_30 dX3_remove_91 ?_
      refine lv_iload hx hb dX3_remove_94 (lv_at hl 4 rfl) ?_
      refine tk_iald S hI (k := 18) (n := 90) rfl hf dX3_remove_96 (fun v1 hf => ?_)
      refine tk_iald S hI (k := 4) (n := 90) rfl hf dX3_remove_97 (fun v2 hf => ?_)
      refine tk_bd hf (fun s3 hq hf => ?_)
      refine tk_vV S hI hl.1 (c_X0_touch l G st x6 v2 hq) (cwV 2 hts (tk_gV mw_205 mw_206 mw_207 mw_24 mw_208) rfl rfl rfl yd_X0_touch ⟨Nat.le_of_ble_eq_true rfl, Nat.le_of_ble_eq_true rfl⟩) 8 0 rfl rfl rfl rfl [] rfl (Nat.le_of_ble_eq_true rfl) dX3_remove_98 (fun H locs hI => ?_)
      refine tk_let hf (fun i4 ei4 hf => ?_)
      refine lv_iinc (v := i4) (lv' := [(7, .int i4), (0, .ref (tad G 0)), (2, .int x2), (3, .int x3), (6, .int x6)]) hx hb dX3_remove_101 hl (k := 4) rfl (by rw [ei4]; rfl) (by decide) rfl (fun ls hl => ?_)
      refine lv_goto (tgt := 69) hx hb dX3_remove_104 (by decide) ?_
      exact ih x2 x3 x6 i4 s3 _ _ _ hI (lv_sub hl [1, 2, 3, 4, 0] rfl) hf
set_option maxHeartbeats 4000000 in
set_option maxRecDepth 100000 in
theorem c_X3_remove (l : Launch) (G : tG) (st : tST) (x1 : Int32) (x2 : Int32) (x3 : Int32) {r : Int32} {st' : tST} (hf : f_X3_remove x1 x2 x3 st = some (r, st')) : tCI l G yX3_remove cX3_remove 8 (some .int) rm_X3_remove [.ref (tad G 0), .int x1, .int x2, .int x3] st r st' := by
  refine tk_entI (by decide +kernel) (Nat.le_of_ble_eq_true rfl) (fun p e s m below meth c ls S hr hlk hI hl => ?_)
  have hl : lv_has ls 8 [(0, .ref (tad G 0)), (1, .int x1), (2, .int x2), (3, .int x3)] := hl
  have S : CallFix p m c cX3_remove 8 s [.ref (tad G 0), .int x1, .int x2, .int x3].toArray wsL_law RX3 := S
  have hx := S.1
  have hb := S.2.1
  have hown := S.2.2.2.1
  have hts := S.2.2.2.2
  unfold f_X3_remove at hf
  refine lv_iload_n hx hb dX3_remove_0 rfl (lv_at hl 1 rfl) ?_
  refine tk_bd hf (fun r1 hq hf => ?_)
  refine tk_sI S hI hl.1 (c_X3_isAuthor l G st x1 hq) (va_cwS 1 hts (tk_gS mw_156 mw_157 mw_2 mw_158) rfl rfl rfl yd_X3_isAuthor ⟨Nat.le_of_ble_eq_true rfl, Nat.le_of_ble_eq_true rfl⟩) rfl [] rfl (Nat.le_of_ble_eq_true rfl) dX3_remove_1 (fun H locs hI => ?_)
  refine tk_if_ne (tgt := 11) hx hb hf dX3_remove_4 (by decide) (fun hf => ?_) (fun hf => ?_)
  · refine lv_aload_n hx hb dX3_remove_11 rfl (lv_at hl 0 rfl) ?_
    refine lv_aload_n hx hb dX3_remove_12 rfl (lv_at hl 0 rfl) ?_
    refine lv_iconst (v := 2) hx hb dX3_remove_13 (by decide) ?_
    refine lv_iload_n hx hb dX3_remove_14 rfl (lv_at hl 1 rfl) ?_
    refine lv_iadd hx hb dX3_remove_15 ?_
    refine tk_bd hf (fun r2 hq hf => ?_)
    refine tk_vI S hI hl.1 (c_X3_setOf l G st ((2 : Int32) + x1) hq) (cwV 1 hts (tk_gV mw_159 mw_160 mw_161 mw_2 mw_162) rfl rfl rfl yd_X3_setOf ⟨Nat.le_of_ble_eq_true rfl, Nat.le_of_ble_eq_true rfl⟩) 0 3 rfl rfl rfl rfl [.ref (tad G 0)] rfl (Nat.le_of_ble_eq_true rfl) dX3_remove_16 (fun H locs hI => ?_)
    refine tk_bd2 hf (fun r3 s4 hq hf => ?_)
    refine tk_vI S hI hl.1 (c_X3_lineUp l G st r2 hq) (cwV 1 hts (tk_gV mw_171 mw_172 mw_173 mw_2 mw_174) rfl rfl rfl yd_X3_lineUp ⟨Nat.le_of_ble_eq_true rfl, Nat.le_of_ble_eq_true rfl⟩) 0 3 rfl rfl rfl rfl [] rfl (Nat.le_of_ble_eq_true rfl) dX3_remove_19 (fun H locs hI => ?_)
    refine lv_istore (lv' := [(4, .int r3), (0, .ref (tad G 0)), (1, .int x1), (2, .int x2), (3, .int x3)]) hx hb dX3_remove_22 hl (by decide) rfl (fun ls hl => ?_)
    refine lv_iload_n hx hb dX3_remove_24 rfl (lv_at hl 3 rfl) ?_
    refine lv_iload_n hx hb dX3_remove_25 rfl (lv_at hl 4 rfl) ?_
    refine lv_iload hx hb dX3_remove_26 (lv_at hl 0 rfl) ?_
    refine tk_bd hf (fun r5 hq hf => ?_)
    refine tk_sI S hI hl.1 (c_X3_refusalOfRange l G s4 x2 x3 r3 hq) (va_cwS 3 hts (tk_gS mw_257 mw_258 mw_2 mw_259) rfl rfl rfl yd_X3_refusalOfRange ⟨Nat.le_of_ble_eq_true rfl, Nat.le_of_ble_eq_true rfl⟩) rfl [] rfl (Nat.le_of_ble_eq_true rfl) dX3_remove_28 (fun H locs hI => ?_)
    refine lv_istore (lv' := [(5, .int r5), (4, .int r3), (0, .ref (tad G 0)), (1, .int x1), (2, .int x2), (3, .int x3)]) hx hb dX3_remove_31 hl (by decide) rfl (fun ls hl => ?_)
    refine lv_iload hx hb dX3_remove_33 (lv_at hl 0 rfl) ?_
    refine tk_if_eq (tgt := 41) hx hb hf dX3_remove_35 (by decide) (fun hf => ?_) (fun hf => ?_)
    · refine lv_aload_n hx hb dX3_remove_41 rfl (lv_at hl 2 rfl) ?_
      refine tg_X3_6 S hI mw_25 dX3_remove_42 ?_
      refine tk_bd hf (fun r6 hq hf => ?_)
      refine tk_vI S hI hl.1 (c_X0_isFull l G s4  hq) (cwV 0 hts (tk_gV mw_189 mw_190 mw_191 mw_24 mw_192) rfl rfl rfl yd_X0_isFull ⟨Nat.le_of_ble_eq_true rfl, Nat.le_of_ble_eq_true rfl⟩) 8 0 rfl rfl rfl rfl [] rfl (Nat.le_of_ble_eq_true rfl) dX3_remove_45 (fun H locs hI => ?_)
      refine tk_if_eq (tgt := 55) hx hb hf dX3_remove_48 (by decide) (fun hf => ?_) (fun hf => ?_)
      · refine lv_aload_n hx hb dX3_remove_55 rfl (lv_at hl 2 rfl) ?_
        refine tg_X3_6 S hI mw_25 dX3_remove_56 ?_
        refine lv_iconst (v := 1) hx hb dX3_remove_59 (by decide) ?_
        refine lv_iload_n hx hb dX3_remove_60 rfl (lv_at hl 3 rfl) ?_
        refine tk_bd2 hf (fun r7 s8 hq hf => ?_)
        refine tk_vI S hI hl.1 (c_X0_add l G s4 (1 : Int32) x1 hq) (cwV 2 hts (tk_gV mw_201 mw_202 mw_203 mw_24 mw_204) rfl rfl rfl yd_X0_add ⟨Nat.le_of_ble_eq_true rfl, Nat.le_of_ble_eq_true rfl⟩) 8 0 rfl rfl rfl rfl [] rfl (Nat.le_of_ble_eq_true rfl) dX3_remove_61 (fun H locs hI => ?_)
        refine lv_istore (lv' := [(6, .int r7), (5, .int r5), (4, .int r3), (0, .ref (tad G 0)), (1, .int x1), (2, .int x2), (3, .int x3)]) hx hb dX3_remove_64 hl (by decide) rfl (fun ls hl => ?_)
        refine lv_iload_n hx hb dX3_remove_66 rfl (lv_at hl 5 rfl) ?_
        refine lv_istore (lv' := [(7, .int x2), (6, .int r7), (5, .int r5), (4, .int r3), (0, .ref (tad G 0)), (1, .int x1), (2, .int x2), (3, .int x3)]) hx hb dX3_remove_67 hl (by decide) rfl (fun ls hl => ?_)
        exact k_X3_remove_69 S hr hlk tfu x2 x3 r7 x2 s8 _ _ _ hI (lv_sub hl [4, 6, 7, 1, 0] rfl) hf
      · refine lv_sipush (v := -1004) hx hb dX3_remove_51 (by decide) ?_
        exact tk_riW S hr hlk hI hf dX3_remove_54
    · refine lv_iload hx hb dX3_remove_38 (lv_at hl 0 rfl) ?_
      exact tk_riW S hr hlk hI hf dX3_remove_40
  · refine lv_sipush (v := -1001) hx hb dX3_remove_7 (by decide) ?_
    exact tk_riW S hr hlk hI hf dX3_remove_10
/-! X3_moveLetters -/
abbrev rm_X3_moveLetters : Room := { frames := 1, cells := 0, slots := 0, locals := 24 }
def f_X3_moveLetters_24 : Nat → Int32 → Int32 → Int32 → Int32 → Int32 → tST → Option (Int32 × tST)
  | 0, _, _, _, _, _, _ => none
  | n + 1, x2, x3, x4, x5, x6, st => (if x3 ≤ x6 then some (x5, st) else tal 90 (tg_A st 18) (x2 + x6) (fun v1 => (if v1 < x4 then tal 90 (tg_A st 4) v1 (fun v2 => (f_X0_touch x5 v2 st).bind (fun s3 => tal 90 (tg_A s3 4) v1 (fun v4 => (f_X1_put (x4 + x6) v4 v1 x5 s3).bind (fun s5 => tlet (x6 + (1 : Int32)) (fun i6 => f_X3_moveLetters_24 n x2 x3 x4 x5 i6 s5))))) else tlet (v1 + x3) (fun i7 => tal 90 (tg_A st 4) i7 (fun v8 => (f_X0_touch x5 v8 st).bind (fun s9 => tal 90 (tg_A s9 4) i7 (fun v10 => (f_X1_put (x4 + x6) v10 i7 x5 s9).bind (fun s11 => tlet (x6 + (1 : Int32)) (fun i12 => f_X3_moveLetters_24 n x2 x3 x4 x5 i12 s11)))))))))
def f_X3_moveLetters (x1 : Int32) (x2 : Int32) (x3 : Int32) (x4 : Int32) (st : tST) : Option (Int32 × tST) := tbd (f_X0_add (2 : Int32) x1 st) (fun r1 s2 => (f_X1_openGap x4 x3 s2).bind (fun s3 => f_X3_moveLetters_24 tfu x2 x3 x4 r1 (0 : Int32) s3))
theorem yd_X3_moveLetters : yX3_moveLetters.cls = RX3 ∧ yX3_moveLetters.cls ≠ "java/lang/invoke/MethodHandle" ∧ yX3_moveLetters.cls ≠ "java/lang/invoke/VarHandle" ∧ (parseMethodDescriptor yX3_moveLetters.desc).map (fun d => d.parameters.length) = some 4 := by decide +kernel
set_option maxHeartbeats 4000000 in
set_option maxRecDepth 100000 in
theorem k_X3_moveLetters_24 {l : Launch} {G : tG} {p : Program} {e : Env} {s : State} {m : MethodId} {below : List Frame} {meth : Method} {c : Code} {args : Array Value} {r : Int32} {st' : tST} (S : CallFix p m c cX3_moveLetters 8 s args wsL_law RX3) (hr : meth.sig.returnType = (some .int)) (hlk : meth.locks = false) : ∀ (n : Nat) (x2 : Int32) (x3 : Int32) (x4 : Int32) (x5 : Int32) (x6 : Int32) (st : tST) (H : Heap) (locs : List Loc) (ls : Array Slot), tIn G (tA G s.heap.size) s st H locs → lv_has ls 8 [(0, .ref (tad G 0)), (2, .int x2), (3, .int x3), (4, .int x4), (5, .int x5), (6, .int x6)] → f_X3_moveLetters_24 n x2 x3 x4 x5 x6 st = some (r, st') → W p l e rm_X3_moveLetters s m args below meth c H locs 0 0 (tZI G below args s r st') (F0 m 24 ls []) := by
  have hx := S.1
  have hb := S.2.1
  have hown := S.2.2.2.1
  have hts := S.2.2.2.2
  intro n
  induction n with
  | zero => intro x2 x3 x4 x5 x6 st H locs ls hI hl hf; exact nomatch (show (none : Option (Int32 × tST)) = some _ from hf)
  | succ n ih =>
    intro x2 x3 x4 x5 x6 st H locs ls hI hl hf
    rw [f_X3_moveLetters_24] at hf
    refine lv_iload hx hb dX3_moveLetters_24 (lv_at hl 5 rfl) ?_
    refine lv_iload_n hx hb dX3_moveLetters_26 rfl (lv_at hl 2 rfl) ?_
    refine tk_icmp_ge (tgt := 105) hx hb hf dX3_moveLetters_27 (by decide) (fun hf => ?_) (fun hf => ?_)
    · refine lv_iload hx hb dX3_moveLetters_105 (lv_at hl 4 rfl) ?_
      exact tk_riW S hr hlk hI hf dX3_moveLetters_107
    · refine lv_aload_n hx hb dX3_moveLetters_30 rfl (lv_at hl 0 rfl) ?_
      refine tg_X3_8 S hI mw_30 dX3_moveLetters_31 ?_
      refine lv_iload_n hx hb dX3_moveLetters_34 rfl (lv_at hl 1 rfl) ?_
      refine lv_iload hx hb dX3_moveLetters_35 (lv_at hl 5 rfl) ?_
      refine lv_iadd hx hb dX3_moveLetters_37 ?_
      refine tk_iald S hI (k := 18) (n := 90) rfl hf dX3_moveLetters_38 (fun v1 hf => ?_)
      refine lv_istore (lv' := [(7, .int v1), (0, .ref (tad G 0)), (2, .int x2), (3, .int x3), (4, .int x4), (5, .int x5), (6, .int x6)]) hx hb dX3_moveLetters_39 hl (by decide) rfl (fun ls hl => ?_)
      refine lv_iload hx hb dX3_moveLetters_41 (lv_at hl 0 rfl) ?_
      refine lv_iload hx hb dX3_moveLetters_43 (lv_at hl 4 rfl) ?_
      refine tk_icmp_lt (tgt := 54) hx hb hf dX3_moveLetters_45 (by decide) (fun hf => ?_) (fun hf => ?_)
      · refine lv_aload_n hx hb dX3_moveLetters_54 rfl (lv_at hl 1 rfl) ?_
        refine tg_X3_6 S hI mw_25 dX3_moveLetters_55 ?_
        refine lv_iload hx hb dX3_moveLetters_58 (lv_at hl 5 rfl) ?_
        refine lv_aload_n hx hb dX3_moveLetters_60 rfl (lv_at hl 1 rfl) ?_
        refine tg_X3_5 S hI mw_21 dX3_moveLetters_61 ?_
        refine tg_X1_0 S hI mw_256 dX3_moveLetters_64 ?_
        refine lv_iload hx hb dX3_moveLetters_67 (lv_at hl 0 rfl) ?_
        refine tk_iald S hI (k := 4) (n := 90) rfl hf dX3_moveLetters_69 (fun v2 hf => ?_)
        refine tk_bd hf (fun s3 hq hf => ?_)
        refine tk_vV S hI hl.1 (c_X0_touch l G st x5 v2 hq) (cwV 2 hts (tk_gV mw_205 mw_206 mw_207 mw_24 mw_208) rfl rfl rfl yd_X0_touch ⟨Nat.le_of_ble_eq_true rfl, Nat.le_of_ble_eq_true rfl⟩) 8 0 rfl rfl rfl rfl [] rfl (Nat.le_of_ble_eq_true rfl) dX3_moveLetters_70 (fun H locs hI => ?_)
        refine lv_aload_n hx hb dX3_moveLetters_73 rfl (lv_at hl 1 rfl) ?_
        refine tg_X3_5 S hI mw_21 dX3_moveLetters_74 ?_
        refine lv_iload hx hb dX3_moveLetters_77 (lv_at hl 4 rfl) ?_
        refine lv_iload hx hb dX3_moveLetters_79 (lv_at hl 6 rfl) ?_
        refine lv_iadd hx hb dX3_moveLetters_81 ?_
        refine lv_aload_n hx hb dX3_moveLetters_82 rfl (lv_at hl 1 rfl) ?_
        refine tg_X3_5 S hI mw_21 dX3_moveLetters_83 ?_
        refine tg_X1_0 S hI mw_256 dX3_moveLetters_86 ?_
        refine lv_iload hx hb dX3_moveLetters_89 (lv_at hl 0 rfl) ?_
        refine tk_iald S hI (k := 4) (n := 90) rfl hf dX3_moveLetters_91 (fun v4 hf => ?_)
        refine lv_iload hx hb dX3_moveLetters_92 (lv_at hl 0 rfl) ?_
        refine lv_iload hx hb dX3_moveLetters_94 (lv_at hl 5 rfl) ?_
        refine tk_bd hf (fun s5 hq hf => ?_)
        refine tk_vV S hI hl.1 (c_X1_put l G s3 (x4 + x6) v4 v1 x5 hq) (cwV 4 hts (tk_gV mw_124 mw_125 mw_126 mw_20 mw_127) rfl rfl rfl yd_X1_put ⟨Nat.le_of_ble_eq_true rfl, Nat.le_of_ble_eq_true rfl⟩) 3 1 rfl rfl rfl rfl [] rfl (Nat.le_of_ble_eq_true rfl) dX3_moveLetters_96 (fun H locs hI => ?_)
        refine tk_let hf (fun i6 ei6 hf => ?_)
        refine lv_iinc (v := i6) (lv' := [(6, .int i6), (7, .int v1), (0, .ref (tad G 0)), (2, .int x2), (3, .int x3), (4, .int x4), (5, .int x5)]) hx hb dX3_moveLetters_99 hl (k := 6) rfl (by rw [ei6]; rfl) (by decide) rfl (fun ls hl => ?_)
        refine lv_goto (tgt := 24) hx hb dX3_moveLetters_102 (by decide) ?_
        exact ih x2 x3 x4 x5 i6 s5 _ _ _ hI (lv_sub hl [2, 3, 4, 5, 6, 0] rfl) hf
      · refine lv_iload hx hb dX3_moveLetters_48 (lv_at hl 0 rfl) ?_
        refine lv_iload_n hx hb dX3_moveLetters_50 rfl (lv_at hl 3 rfl) ?_
        refine lv_iadd hx hb dX3_moveLetters_51 ?_
        refine tk_topi hf (fun i7 hf => ?_)
        refine lv_istore (lv' := [(7, .int i7), (0, .ref (tad G 0)), (2, .int x2), (3, .int x3), (4, .int x4), (5, .int x5), (6, .int x6)]) hx hb dX3_moveLetters_52 hl (by decide) rfl (fun ls hl => ?_)
        refine lv_aload_n hx hb dX3_moveLetters_54 rfl (lv_at hl 1 rfl) ?_
        refine tg_X3_6 S hI mw_25 dX3_moveLetters_55 ?_
        refine lv_iload hx hb dX3_moveLetters_58 (lv_at hl 5 rfl) ?_
        refine lv_aload_n hx hb dX3_moveLetters_60 rfl (lv_at hl 1 rfl) ?_
        refine tg_X3_5 S hI mw_21 dX3_moveLetters_61 ?_
        refine tg_X1_0 S hI mw_256 dX3_moveLetters_64 ?_
        refine lv_iload hx hb dX3_moveLetters_67 (lv_at hl 0 rfl) ?_
        refine tk_iald S hI (k := 4) (n := 90) rfl hf dX3_moveLetters_69 (fun v8 hf => ?_)
        refine tk_bd hf (fun s9 hq hf => ?_)
        refine tk_vV S hI hl.1 (c_X0_touch l G st x5 v8 hq) (cwV 2 hts (tk_gV mw_205 mw_206 mw_207 mw_24 mw_208) rfl rfl rfl yd_X0_touch ⟨Nat.le_of_ble_eq_true rfl, Nat.le_of_ble_eq_true rfl⟩) 8 0 rfl rfl rfl rfl [] rfl (Nat.le_of_ble_eq_true rfl) dX3_moveLetters_70 (fun H locs hI => ?_)
        refine lv_aload_n hx hb dX3_moveLetters_73 rfl (lv_at hl 1 rfl) ?_
        refine tg_X3_5 S hI mw_21 dX3_moveLetters_74 ?_
        refine lv_iload hx hb dX3_moveLetters_77 (lv_at hl 4 rfl) ?_
        refine lv_iload hx hb dX3_moveLetters_79 (lv_at hl 6 rfl) ?_
        refine lv_iadd hx hb dX3_moveLetters_81 ?_
        refine lv_aload_n hx hb dX3_moveLetters_82 rfl (lv_at hl 1 rfl) ?_
        refine tg_X3_5 S hI mw_21 dX3_moveLetters_83 ?_
        refine tg_X1_0 S hI mw_256 dX3_moveLetters_86 ?_
        refine lv_iload hx hb dX3_moveLetters_89 (lv_at hl 0 rfl) ?_
        refine tk_iald S hI (k := 4) (n := 90) rfl hf dX3_moveLetters_91 (fun v10 hf => ?_)
        refine lv_iload hx hb dX3_moveLetters_92 (lv_at hl 0 rfl) ?_
        refine lv_iload hx hb dX3_moveLetters_94 (lv_at hl 5 rfl) ?_
        refine tk_bd hf (fun s11 hq hf => ?_)
        refine tk_vV S hI hl.1 (c_X1_put l G s9 (x4 + x6) v10 i7 x5 hq) (cwV 4 hts (tk_gV mw_124 mw_125 mw_126 mw_20 mw_127) rfl rfl rfl yd_X1_put ⟨Nat.le_of_ble_eq_true rfl, Nat.le_of_ble_eq_true rfl⟩) 3 1 rfl rfl rfl rfl [] rfl (Nat.le_of_ble_eq_true rfl) dX3_moveLetters_96 (fun H locs hI => ?_)
        refine tk_let hf (fun i12 ei12 hf => ?_)
        refine lv_iinc (v := i12) (lv' := [(6, .int i12), (7, .int i7), (0, .ref (tad G 0)), (2, .int x2), (3, .int x3), (4, .int x4), (5, .int x5)]) hx hb dX3_moveLetters_99 hl (k := 6) rfl (by rw [ei12]; rfl) (by decide) rfl (fun ls hl => ?_)
        refine lv_goto (tgt := 24) hx hb dX3_moveLetters_102 (by decide) ?_
        exact ih x2 x3 x4 x5 i12 s11 _ _ _ hI (lv_sub hl [2, 3, 4, 5, 6, 0] rfl) hf
set_option maxHeartbeats 4000000 in
set_option maxRecDepth 100000 in
theorem c_X3_moveLetters (l : Launch) (G : tG) (st : tST) (x1 : Int32) (x2 : Int32) (x3 : Int32) (x4 : Int32) {r : Int32} {st' : tST} (hf : f_X3_moveLetters x1 x2 x3 x4 st = some (r, st')) : tCI l G yX3_moveLetters cX3_moveLetters 8 (some .int) rm_X3_moveLetters [.ref (tad G 0), .int x1, .int x2, .int x3, .int x4] st r st' := by
  refine tk_entI (by decide +kernel) (Nat.le_of_ble_eq_true rfl) (fun p e s m below meth c ls S hr hlk hI hl => ?_)
  have hl : lv_has ls 8 [(0, .ref (tad G 0)), (1, .int x1), (2, .int x2), (3, .int x3), (4, .int x4)] := hl
  have S : CallFix p m c cX3_moveLetters 8 s [.ref (tad G 0), .int x1, .int x2, .int x3, .int x4].toArray wsL_law RX3 := S
  have hx := S.1
  have hb := S.2.1
  have hown := S.2.2.2.1
  have hts := S.2.2.2.2
  unfold f_X3_moveLetters at hf
  refine lv_aload_n hx hb dX3_moveLetters_0 rfl (lv_at hl 0 rfl) ?_
  refine tg_X3_6 S hI mw_25 dX3_moveLetters_1 ?_
  refine lv_iconst (v := 2) hx hb dX3_moveLetters_4 (by decide) ?_
  refine lv_iload_n hx hb dX3_moveLetters_5 rfl (lv_at hl 1 rfl) ?_
  refine tk_bd2 hf (fun r1 s2 hq hf => ?_)
  refine tk_vI S hI hl.1 (c_X0_add l G st (2 : Int32) x1 hq) (cwV 2 hts (tk_gV mw_201 mw_202 mw_203 mw_24 mw_204) rfl rfl rfl yd_X0_add ⟨Nat.le_of_ble_eq_true rfl, Nat.le_of_ble_eq_true rfl⟩) 8 0 rfl rfl rfl rfl [] rfl (Nat.le_of_ble_eq_true rfl) dX3_moveLetters_6 (fun H locs hI => ?_)
  refine lv_istore (lv' := [(5, .int r1), (0, .ref (tad G 0)), (1, .int x1), (2, .int x2), (3, .int x3), (4, .int x4)]) hx hb dX3_moveLetters_9 hl (by decide) rfl (fun ls hl => ?_)
  refine lv_aload_n hx hb dX3_moveLetters_11 rfl (lv_at hl 1 rfl) ?_
  refine tg_X3_5 S hI mw_21 dX3_moveLetters_12 ?_
  refine lv_iload hx hb dX3_moveLetters_15 (lv_at hl 5 rfl) ?_
  refine lv_iload_n hx hb dX3_moveLetters_17 rfl (lv_at hl 4 rfl) ?_
  refine tk_bd hf (fun s3 hq hf => ?_)
  refine tk_vV S hI hl.1 (c_X1_openGap l G s2 x4 x3 hq) (cwV 2 hts (tk_gV mw_120 mw_121 mw_122 mw_20 mw_123) rfl rfl rfl yd_X1_openGap ⟨Nat.le_of_ble_eq_true rfl, Nat.le_of_ble_eq_true rfl⟩) 3 1 rfl rfl rfl rfl [] rfl (Nat.le_of_ble_eq_true rfl) dX3_moveLetters_18 (fun H locs hI => ?_)
  refine lv_iconst (v := 0) hx hb dX3_moveLetters_21 (by decide) ?_
  refine lv_istore (lv' := [(6, .int (0 : Int32)), (5, .int r1), (0, .ref (tad G 0)), (1, .int x1), (2, .int x2), (3, .int x3), (4, .int x4)]) hx hb dX3_moveLetters_22 hl (by decide) rfl (fun ls hl => ?_)
  exact k_X3_moveLetters_24 S hr hlk tfu x2 x3 x4 r1 (0 : Int32) s3 _ _ _ hI (lv_sub hl [2, 4, 5, 6, 1, 0] rfl) hf
/-! X3_move -/
abbrev rm_X3_move : Room := { frames := 3, cells := 0, slots := 0, locals := 74 }
def f_X3_move (x1 : Int32) (x2 : Int32) (x3 : Int32) (x4 : Int32) (st : tST) : Option (Int32 × tST) := (f_X3_isAuthor x1).bind (fun r1 => (if r1 = 0 then some ((-1001 : Int32), st) else (f_X3_setOf ((2 : Int32) + x1) st).bind (fun r2 => tbd (f_X3_lineUp r2 st) (fun r3 s4 => (f_X3_refusalOfRange x2 x3 r3).bind (fun r5 => (if r5 = 0 then (if x4 < 0 then some ((-1001 : Int32), s4) else (if x4 ≤ r3 then (if x4 ≤ x2 then (f_X0_isFull s4).bind (fun r6 => (if r6 = 0 then (if ((tg_I s4 6) + x3) ≤ (90 : Int32) then (f_X3_placeAhead x4 r3 s4).bind (fun r7 => tbd (f_X3_moveLetters x1 x2 x3 r7 s4) (fun r8 s9 => some (r8, s9))) else some ((-1004 : Int32), s4)) else some ((-1004 : Int32), s4))) else (if (x2 + x3) ≤ x4 then (f_X0_isFull s4).bind (fun r10 => (if r10 = 0 then (if ((tg_I s4 6) + x3) ≤ (90 : Int32) then (f_X3_placeAhead x4 r3 s4).bind (fun r11 => tbd (f_X3_moveLetters x1 x2 x3 r11 s4) (fun r12 s13 => some (r12, s13))) else some ((-1004 : Int32), s4)) else some ((-1004 : Int32), s4))) else some ((-1003 : Int32), s4))) else some ((-1001 : Int32), s4))) else some (r5, s4)))))))
theorem yd_X3_move : yX3_move.cls = RX3 ∧ yX3_move.cls ≠ "java/lang/invoke/MethodHandle" ∧ yX3_move.cls ≠ "java/lang/invoke/VarHandle" ∧ (parseMethodDescriptor yX3_move.desc).map (fun d => d.parameters.length) = some 4 := by decide +kernel
set_option maxHeartbeats 4000000 in
set_option maxRecDepth 100000 in
theorem c_X3_move (l : Launch) (G : tG) (st : tST) (x1 : Int32) (x2 : Int32) (x3 : Int32) (x4 : Int32) {r : Int32} {st' : tST} (hf : f_X3_move x1 x2 x3 x4 st = some (r, st')) : tCI l G yX3_move cX3_move 7 (some .int) rm_X3_move [.ref (tad G 0), .int x1, .int x2, .int x3, .int x4] st r st' := by
  refine tk_entI (by decide +kernel) (Nat.le_of_ble_eq_true rfl) (fun p e s m below meth c ls S hr hlk hI hl => ?_)
  have hl : lv_has ls 7 [(0, .ref (tad G 0)), (1, .int x1), (2, .int x2), (3, .int x3), (4, .int x4)] := hl
  have S : CallFix p m c cX3_move 7 s [.ref (tad G 0), .int x1, .int x2, .int x3, .int x4].toArray wsL_law RX3 := S
  have hx := S.1
  have hb := S.2.1
  have hown := S.2.2.2.1
  have hts := S.2.2.2.2
  unfold f_X3_move at hf
  refine lv_iload_n hx hb dX3_move_0 rfl (lv_at hl 1 rfl) ?_
  refine tk_bd hf (fun r1 hq hf => ?_)
  refine tk_sI S hI hl.1 (c_X3_isAuthor l G st x1 hq) (va_cwS 1 hts (tk_gS mw_156 mw_157 mw_2 mw_158) rfl rfl rfl yd_X3_isAuthor ⟨Nat.le_of_ble_eq_true rfl, Nat.le_of_ble_eq_true rfl⟩) rfl [] rfl (Nat.le_of_ble_eq_true rfl) dX3_move_1 (fun H locs hI => ?_)
  refine tk_if_ne (tgt := 11) hx hb hf dX3_move_4 (by decide) (fun hf => ?_) (fun hf => ?_)
  · refine lv_aload_n hx hb dX3_move_11 rfl (lv_at hl 0 rfl) ?_
    refine lv_aload_n hx hb dX3_move_12 rfl (lv_at hl 0 rfl) ?_
    refine lv_iconst (v := 2) hx hb dX3_move_13 (by decide) ?_
    refine lv_iload_n hx hb dX3_move_14 rfl (lv_at hl 1 rfl) ?_
    refine lv_iadd hx hb dX3_move_15 ?_
    refine tk_bd hf (fun r2 hq hf => ?_)
    refine tk_vI S hI hl.1 (c_X3_setOf l G st ((2 : Int32) + x1) hq) (cwV 1 hts (tk_gV mw_159 mw_160 mw_161 mw_2 mw_162) rfl rfl rfl yd_X3_setOf ⟨Nat.le_of_ble_eq_true rfl, Nat.le_of_ble_eq_true rfl⟩) 0 3 rfl rfl rfl rfl [.ref (tad G 0)] rfl (Nat.le_of_ble_eq_true rfl) dX3_move_16 (fun H locs hI => ?_)
    refine tk_bd2 hf (fun r3 s4 hq hf => ?_)
    refine tk_vI S hI hl.1 (c_X3_lineUp l G st r2 hq) (cwV 1 hts (tk_gV mw_171 mw_172 mw_173 mw_2 mw_174) rfl rfl rfl yd_X3_lineUp ⟨Nat.le_of_ble_eq_true rfl, Nat.le_of_ble_eq_true rfl⟩) 0 3 rfl rfl rfl rfl [] rfl (Nat.le_of_ble_eq_true rfl) dX3_move_19 (fun H locs hI => ?_)
    refine lv_istore (lv' := [(5, .int r3), (0, .ref (tad G 0)), (1, .int x1), (2, .int x2), (3, .int x3), (4, .int x4)]) hx hb dX3_move_22 hl (by decide) rfl (fun ls hl => ?_)
    refine lv_iload_n hx hb dX3_move_24 rfl (lv_at hl 3 rfl) ?_
    refine lv_iload_n hx hb dX3_move_25 rfl (lv_at hl 4 rfl) ?_
    refine lv_iload hx hb dX3_move_26 (lv_at hl 0 rfl) ?_
    refine tk_bd hf (fun r5 hq hf => ?_)
    refine tk_sI S hI hl.1 (c_X3_refusalOfRange l G s4 x2 x3 r3 hq) (va_cwS 3 hts (tk_gS mw_257 mw_258 mw_2 mw_259) rfl rfl rfl yd_X3_refusalOfRange ⟨Nat.le_of_ble_eq_true rfl, Nat.le_of_ble_eq_true rfl⟩) rfl [] rfl (Nat.le_of_ble_eq_true rfl) dX3_move_28 (fun H locs hI => ?_)
    refine lv_istore (lv' := [(6, .int r5), (5, .int r3), (0, .ref (tad G 0)), (1, .int x1), (2, .int x2), (3, .int x3), (4, .int x4)]) hx hb dX3_move_31 hl (by decide) rfl (fun ls hl => ?_)
    refine lv_iload hx hb dX3_move_33 (lv_at hl 0 rfl) ?_
    refine tk_if_eq (tgt := 41) hx hb hf dX3_move_35 (by decide) (fun hf => ?_) (fun hf => ?_)
    · refine lv_iload hx hb dX3_move_41 (lv_at hl 6 rfl) ?_
      refine tk_if_lt (tgt := 53) hx hb hf dX3_move_43 (by decide) (fun hf => ?_) (fun hf => ?_)
      · refine lv_sipush (v := -1001) hx hb dX3_move_53 (by decide) ?_
        exact tk_riW S hr hlk hI hf dX3_move_56
      · refine lv_iload hx hb dX3_move_46 (lv_at hl 6 rfl) ?_
        refine lv_iload hx hb dX3_move_48 (lv_at hl 1 rfl) ?_
        refine tk_icmp_le (tgt := 57) hx hb hf dX3_move_50 (by decide) (fun hf => ?_) (fun hf => ?_)
        · refine lv_iload hx hb dX3_move_57 (lv_at hl 6 rfl) ?_
          refine lv_iload_n hx hb dX3_move_59 rfl (lv_at hl 4 rfl) ?_
          refine tk_icmp_le (tgt := 75) hx hb hf dX3_move_60 (by decide) (fun hf => ?_) (fun hf => ?_)
          · refine lv_aload_n hx hb dX3_move_75 rfl (lv_at hl 2 rfl) ?_
            refine tg_X3_6 S hI mw_25 dX3_move_76 ?_
            refine tk_bd hf (fun r6 hq hf => ?_)
            refine tk_vI S hI hl.1 (c_X0_isFull l G s4  hq) (cwV 0 hts (tk_gV mw_189 mw_190 mw_191 mw_24 mw_192) rfl rfl rfl yd_X0_isFull ⟨Nat.le_of_ble_eq_true rfl, Nat.le_of_ble_eq_true rfl⟩) 8 0 rfl rfl rfl rfl [] rfl (Nat.le_of_ble_eq_true rfl) dX3_move_79 (fun H locs hI => ?_)
            refine tk_if_ne (tgt := 99) hx hb hf dX3_move_82 (by decide) (fun hf => ?_) (fun hf => ?_)
            · refine lv_sipush (v := -1004) hx hb dX3_move_99 (by decide) ?_
              exact tk_riW S hr hlk hI hf dX3_move_102
            · refine lv_aload_n hx hb dX3_move_85 rfl (lv_at hl 2 rfl) ?_
              refine tg_X3_5 S hI mw_21 dX3_move_86 ?_
              refine tg_X1_4 S hI mw_114 dX3_move_89 ?_
              refine lv_iload_n hx hb dX3_move_92 rfl (lv_at hl 5 rfl) ?_
              refine lv_iadd hx hb dX3_move_93 ?_
              refine lv_bipush (v := 90) hx hb dX3_move_94 (by decide) ?_
              refine tk_icmp_le (tgt := 103) hx hb hf dX3_move_96 (by decide) (fun hf => ?_) (fun hf => ?_)
              · refine lv_aload_n hx hb dX3_move_103 rfl (lv_at hl 2 rfl) ?_
                refine lv_iload_n hx hb dX3_move_104 rfl (lv_at hl 3 rfl) ?_
                refine lv_iload_n hx hb dX3_move_105 rfl (lv_at hl 4 rfl) ?_
                refine lv_iload_n hx hb dX3_move_106 rfl (lv_at hl 5 rfl) ?_
                refine lv_aload_n hx hb dX3_move_107 rfl (lv_at hl 2 rfl) ?_
                refine lv_iload hx hb dX3_move_108 (lv_at hl 6 rfl) ?_
                refine lv_iload hx hb dX3_move_110 (lv_at hl 1 rfl) ?_
                refine tk_bd hf (fun r7 hq hf => ?_)
                refine tk_vI S hI hl.1 (c_X3_placeAhead l G s4 x4 r3 hq) (cwV 2 hts (tk_gV mw_193 mw_194 mw_195 mw_2 mw_196) rfl rfl rfl yd_X3_placeAhead ⟨Nat.le_of_ble_eq_true rfl, Nat.le_of_ble_eq_true rfl⟩) 0 3 rfl rfl rfl rfl [.int x3, .int x2, .int x1, .ref (tad G 0)] rfl (Nat.le_of_ble_eq_true rfl) dX3_move_112 (fun H locs hI => ?_)
                refine tk_bd2 hf (fun r8 s9 hq hf => ?_)
                refine tk_vI S hI hl.1 (c_X3_moveLetters l G s4 x1 x2 x3 r7 hq) (cwV 4 hts (tk_gV mw_268 mw_269 mw_270 mw_2 mw_271) rfl rfl rfl yd_X3_moveLetters ⟨Nat.le_of_ble_eq_true rfl, Nat.le_of_ble_eq_true rfl⟩) 0 3 rfl rfl rfl rfl [] rfl (Nat.le_of_ble_eq_true rfl) dX3_move_115 (fun H locs hI => ?_)
                exact tk_riW S hr hlk hI hf dX3_move_118
              · refine lv_sipush (v := -1004) hx hb dX3_move_99 (by decide) ?_
                exact tk_riW S hr hlk hI hf dX3_move_102
          · refine lv_iload hx hb dX3_move_63 (lv_at hl 6 rfl) ?_
            refine lv_iload_n hx hb dX3_move_65 rfl (lv_at hl 4 rfl) ?_
            refine lv_iload_n hx hb dX3_move_66 rfl (lv_at hl 5 rfl) ?_
            refine lv_iadd hx hb dX3_move_67 ?_
            refine tk_icmp_ge (tgt := 75) hx hb hf dX3_move_68 (by decide) (fun hf => ?_) (fun hf => ?_)
            · refine lv_aload_n hx hb dX3_move_75 rfl (lv_at hl 2 rfl) ?_
              refine tg_X3_6 S hI mw_25 dX3_move_76 ?_
              refine tk_bd hf (fun r10 hq hf => ?_)
              refine tk_vI S hI hl.1 (c_X0_isFull l G s4  hq) (cwV 0 hts (tk_gV mw_189 mw_190 mw_191 mw_24 mw_192) rfl rfl rfl yd_X0_isFull ⟨Nat.le_of_ble_eq_true rfl, Nat.le_of_ble_eq_true rfl⟩) 8 0 rfl rfl rfl rfl [] rfl (Nat.le_of_ble_eq_true rfl) dX3_move_79 (fun H locs hI => ?_)
              refine tk_if_ne (tgt := 99) hx hb hf dX3_move_82 (by decide) (fun hf => ?_) (fun hf => ?_)
              · refine lv_sipush (v := -1004) hx hb dX3_move_99 (by decide) ?_
                exact tk_riW S hr hlk hI hf dX3_move_102
              · refine lv_aload_n hx hb dX3_move_85 rfl (lv_at hl 2 rfl) ?_
                refine tg_X3_5 S hI mw_21 dX3_move_86 ?_
                refine tg_X1_4 S hI mw_114 dX3_move_89 ?_
                refine lv_iload_n hx hb dX3_move_92 rfl (lv_at hl 5 rfl) ?_
                refine lv_iadd hx hb dX3_move_93 ?_
                refine lv_bipush (v := 90) hx hb dX3_move_94 (by decide) ?_
                refine tk_icmp_le (tgt := 103) hx hb hf dX3_move_96 (by decide) (fun hf => ?_) (fun hf => ?_)
                · refine lv_aload_n hx hb dX3_move_103 rfl (lv_at hl 2 rfl) ?_
                  refine lv_iload_n hx hb dX3_move_104 rfl (lv_at hl 3 rfl) ?_
                  refine lv_iload_n hx hb dX3_move_105 rfl (lv_at hl 4 rfl) ?_
                  refine lv_iload_n hx hb dX3_move_106 rfl (lv_at hl 5 rfl) ?_
                  refine lv_aload_n hx hb dX3_move_107 rfl (lv_at hl 2 rfl) ?_
                  refine lv_iload hx hb dX3_move_108 (lv_at hl 6 rfl) ?_
                  refine lv_iload hx hb dX3_move_110 (lv_at hl 1 rfl) ?_
                  refine tk_bd hf (fun r11 hq hf => ?_)
                  refine tk_vI S hI hl.1 (c_X3_placeAhead l G s4 x4 r3 hq) (cwV 2 hts (tk_gV mw_193 mw_194 mw_195 mw_2 mw_196) rfl rfl rfl yd_X3_placeAhead ⟨Nat.le_of_ble_eq_true rfl, Nat.le_of_ble_eq_true rfl⟩) 0 3 rfl rfl rfl rfl [.int x3, .int x2, .int x1, .ref (tad G 0)] rfl (Nat.le_of_ble_eq_true rfl) dX3_move_112 (fun H locs hI => ?_)
                  refine tk_bd2 hf (fun r12 s13 hq hf => ?_)
                  refine tk_vI S hI hl.1 (c_X3_moveLetters l G s4 x1 x2 x3 r11 hq) (cwV 4 hts (tk_gV mw_268 mw_269 mw_270 mw_2 mw_271) rfl rfl rfl yd_X3_moveLetters ⟨Nat.le_of_ble_eq_true rfl, Nat.le_of_ble_eq_true rfl⟩) 0 3 rfl rfl rfl rfl [] rfl (Nat.le_of_ble_eq_true rfl) dX3_move_115 (fun H locs hI => ?_)
                  exact tk_riW S hr hlk hI hf dX3_move_118
                · refine lv_sipush (v := -1004) hx hb dX3_move_99 (by decide) ?_
                  exact tk_riW S hr hlk hI hf dX3_move_102
            · refine lv_sipush (v := -1003) hx hb dX3_move_71 (by decide) ?_
              exact tk_riW S hr hlk hI hf dX3_move_74
        · refine lv_sipush (v := -1001) hx hb dX3_move_53 (by decide) ?_
          exact tk_riW S hr hlk hI hf dX3_move_56
    · refine lv_iload hx hb dX3_move_38 (lv_at hl 0 rfl) ?_
      exact tk_riW S hr hlk hI hf dX3_move_40
  · refine lv_sipush (v := -1001) hx hb dX3_move_7 (by decide) ?_
    exact tk_riW S hr hlk hI hf dX3_move_10
/-! X0_names -/
abbrev rm_X0_names : Room := { frames := 0, cells := 0, slots := 0, locals := 0 }
def f_X0_names (x1 : Int32) (st : tST) : Option (Int32) := (if x1 < 0 then tzr (0 : Int32) (some (0 : Int32)) else (if (tg_I st 7) ≤ x1 then tzr (0 : Int32) (some (0 : Int32)) else tzr (1 : Int32) (some (1 : Int32))))
theorem yd_X0_names : yX0_names.cls = RX0 ∧ yX0_names.cls ≠ "java/lang/invoke/MethodHandle" ∧ yX0_names.cls ≠ "java/lang/invoke/VarHandle" ∧ (parseMethodDescriptor yX0_names.desc).map (fun d => d.parameters.length) = some 1 := by decide +kernel
set_option maxHeartbeats 4000000 in
set_option maxRecDepth 100000 in
theorem c_X0_names (l : Launch) (G : tG) (st : tST) (x1 : Int32) {r : Int32} (hf : f_X0_names x1 st = some r) : tCI l G yX0_names cX0_names 2 (some .boolean) rm_X0_names [.ref (tad G 8), .int x1] st r st := by
  refine tk_entI (by decide +kernel) (Nat.le_of_ble_eq_true rfl) (fun p e s m below meth c ls S hr hlk hI hl => ?_)
  have hl : lv_has ls 2 [(0, .ref (tad G 8)), (1, .int x1)] := hl
  have S : CallFix p m c cX0_names 2 s [.ref (tad G 8), .int x1].toArray wsL_law RX0 := S
  have hx := S.1
  have hb := S.2.1
  have hown := S.2.2.2.1
  have hts := S.2.2.2.2
  unfold f_X0_names at hf
  refine lv_iload_n hx hb dX0_names_0 rfl (lv_at hl 1 rfl) ?_
  refine tk_if_lt (tgt := 16) hx hb hf dX0_names_1 (by decide) (fun hf => ?_) (fun hf => ?_)
  · refine lv_iconst (v := 0) hx hb dX0_names_16 (by decide) ?_
    exact tk_rzR S hr hlk hI hf dX0_names_17
  · refine lv_iload_n hx hb dX0_names_4 rfl (lv_at hl 1 rfl) ?_
    refine lv_aload_n hx hb dX0_names_5 rfl (lv_at hl 0 rfl) ?_
    refine tg_X0_5 S hI mw_52 dX0_names_6 ?_
    refine tk_icmp_ge (tgt := 16) hx hb hf dX0_names_9 (by decide) (fun hf => ?_) (fun hf => ?_)
    · refine lv_iconst (v := 0) hx hb dX0_names_16 (by decide) ?_
      exact tk_rzR S hr hlk hI hf dX0_names_17
    · refine lv_iconst (v := 1) hx hb dX0_names_12 (by decide) ?_
      refine lv_goto (tgt := 17) hx hb dX0_names_13 (by decide) ?_
      exact tk_rzR S hr hlk hI hf dX0_names_17
/-! X3_show -/
abbrev rm_X3_show : Room := { frames := 1, cells := 0, slots := 0, locals := 21 }
def f_X3_show (x1 : Int32) (x2 : Int32) (st : tST) : Option (Int32 × tST) := (f_X0_names x1 st).bind (fun r1 => (if r1 = 0 then some ((-1001 : Int32), st) else tal 12 (tg_A st 12) x1 (fun v2 => (if x2 = 0 then tas 12 x1 (tp_A st 12 (x1).toNatClampNeg (0 : Int32)) (fun s3 => some (v2, s3)) else tas 12 x1 (tp_A st 12 (x1).toNatClampNeg (1 : Int32)) (fun s4 => some (v2, s4))))))
theorem yd_X3_show : yX3_show.cls = RX3 ∧ yX3_show.cls ≠ "java/lang/invoke/MethodHandle" ∧ yX3_show.cls ≠ "java/lang/invoke/VarHandle" ∧ (parseMethodDescriptor yX3_show.desc).map (fun d => d.parameters.length) = some 2 := by decide +kernel
set_option maxHeartbeats 4000000 in
set_option maxRecDepth 100000 in
theorem c_X3_show (l : Launch) (G : tG) (st : tST) (x1 : Int32) (x2 : Int32) {r : Int32} {st' : tST} (hf : f_X3_show x1 x2 st = some (r, st')) : tCI l G yX3_show cX3_show 4 (some .int) rm_X3_show [.ref (tad G 0), .int x1, .int x2] st r st' := by
  refine tk_entI (by decide +kernel) (Nat.le_of_ble_eq_true rfl) (fun p e s m below meth c ls S hr hlk hI hl => ?_)
  have hl : lv_has ls 4 [(0, .ref (tad G 0)), (1, .int x1), (2, .int x2)] := hl
  have S : CallFix p m c cX3_show 4 s [.ref (tad G 0), .int x1, .int x2].toArray wsL_law RX3 := S
  have hx := S.1
  have hb := S.2.1
  have hown := S.2.2.2.1
  have hts := S.2.2.2.2
  unfold f_X3_show at hf
  refine lv_aload_n hx hb dX3_show_0 rfl (lv_at hl 0 rfl) ?_
  refine tg_X3_6 S hI mw_25 dX3_show_1 ?_
  refine lv_iload_n hx hb dX3_show_4 rfl (lv_at hl 1 rfl) ?_
  refine tk_bd hf (fun r1 hq hf => ?_)
  refine tk_vI S hI hl.1 (c_X0_names l G st x1 hq) (cwV 1 hts (tk_gV mw_281 mw_282 mw_283 mw_24 mw_284) rfl rfl rfl yd_X0_names ⟨Nat.le_of_ble_eq_true rfl, Nat.le_of_ble_eq_true rfl⟩) 8 0 rfl rfl rfl rfl [] rfl (Nat.le_of_ble_eq_true rfl) dX3_show_5 (fun H locs hI => ?_)
  refine tk_if_ne (tgt := 15) hx hb hf dX3_show_8 (by decide) (fun hf => ?_) (fun hf => ?_)
  · refine lv_aload_n hx hb dX3_show_15 rfl (lv_at hl 0 rfl) ?_
    refine tg_X3_6 S hI mw_25 dX3_show_16 ?_
    refine tg_X0_3 S hI mw_280 dX3_show_19 ?_
    refine lv_iload_n hx hb dX3_show_22 rfl (lv_at hl 1 rfl) ?_
    refine tk_iald S hI (k := 12) (n := 12) rfl hf dX3_show_23 (fun v2 hf => ?_)
    refine lv_istore_n (lv' := [(3, .int v2), (0, .ref (tad G 0)), (1, .int x1), (2, .int x2)]) hx hb dX3_show_24 rfl hl (by decide) rfl (fun ls hl => ?_)
    refine lv_aload_n hx hb dX3_show_25 rfl (lv_at hl 1 rfl) ?_
    refine tg_X3_6 S hI mw_25 dX3_show_26 ?_
    refine tg_X0_3 S hI mw_280 dX3_show_29 ?_
    refine lv_iload_n hx hb dX3_show_32 rfl (lv_at hl 2 rfl) ?_
    refine lv_iload_n hx hb dX3_show_33 rfl (lv_at hl 3 rfl) ?_
    refine tk_if_eq (tgt := 41) hx hb hf dX3_show_34 (by decide) (fun hf => ?_) (fun hf => ?_)
    · refine lv_iconst (v := 0) hx hb dX3_show_41 (by decide) ?_
      refine tk_iast S hI (k := 12) (n := 12) rfl (twa_12 G _) hf dX3_show_42 (fun s3 H locs hI hf => ?_)
      refine lv_iload_n hx hb dX3_show_43 rfl (lv_at hl 0 rfl) ?_
      exact tk_riW S hr hlk hI hf dX3_show_44
    · refine lv_iconst (v := 1) hx hb dX3_show_37 (by decide) ?_
      refine lv_goto (tgt := 42) hx hb dX3_show_38 (by decide) ?_
      refine tk_iast S hI (k := 12) (n := 12) rfl (twa_12 G _) hf dX3_show_42 (fun s4 H locs hI hf => ?_)
      refine lv_iload_n hx hb dX3_show_43 rfl (lv_at hl 0 rfl) ?_
      exact tk_riW S hr hlk hI hf dX3_show_44
  · refine lv_sipush (v := -1001) hx hb dX3_show_11 (by decide) ?_
    exact tk_riW S hr hlk hI hf dX3_show_14
/-! X3_decide -/
abbrev rm_X3_decide : Room := { frames := 1, cells := 0, slots := 0, locals := 21 }
def f_X3_decide (x1 : Int32) (x2 : Int32) (st : tST) : Option (Int32 × tST) := (f_X0_names x1 st).bind (fun r1 => (if r1 = 0 then some ((-1001 : Int32), st) else (if x2 < 0 then some ((-1002 : Int32), st) else (if x2 ≤ (2 : Int32) then tal 12 (tg_A st 11) x1 (fun v2 => tas 12 x1 (tp_A st 11 (x1).toNatClampNeg x2) (fun s3 => some (v2, s3))) else some ((-1002 : Int32), st)))))
theorem yd_X3_decide : yX3_decide.cls = RX3 ∧ yX3_decide.cls ≠ "java/lang/invoke/MethodHandle" ∧ yX3_decide.cls ≠ "java/lang/invoke/VarHandle" ∧ (parseMethodDescriptor yX3_decide.desc).map (fun d => d.parameters.length) = some 2 := by decide +kernel
set_option maxHeartbeats 4000000 in
set_option maxRecDepth 100000 in
theorem c_X3_decide (l : Launch) (G : tG) (st : tST) (x1 : Int32) (x2 : Int32) {r : Int32} {st' : tST} (hf : f_X3_decide x1 x2 st = some (r, st')) : tCI l G yX3_decide cX3_decide 4 (some .int) rm_X3_decide [.ref (tad G 0), .int x1, .int x2] st r st' := by
  refine tk_entI (by decide +kernel) (Nat.le_of_ble_eq_true rfl) (fun p e s m below meth c ls S hr hlk hI hl => ?_)
  have hl : lv_has ls 4 [(0, .ref (tad G 0)), (1, .int x1), (2, .int x2)] := hl
  have S : CallFix p m c cX3_decide 4 s [.ref (tad G 0), .int x1, .int x2].toArray wsL_law RX3 := S
  have hx := S.1
  have hb := S.2.1
  have hown := S.2.2.2.1
  have hts := S.2.2.2.2
  unfold f_X3_decide at hf
  refine lv_aload_n hx hb dX3_decide_0 rfl (lv_at hl 0 rfl) ?_
  refine tg_X3_6 S hI mw_25 dX3_decide_1 ?_
  refine lv_iload_n hx hb dX3_decide_4 rfl (lv_at hl 1 rfl) ?_
  refine tk_bd hf (fun r1 hq hf => ?_)
  refine tk_vI S hI hl.1 (c_X0_names l G st x1 hq) (cwV 1 hts (tk_gV mw_281 mw_282 mw_283 mw_24 mw_284) rfl rfl rfl yd_X0_names ⟨Nat.le_of_ble_eq_true rfl, Nat.le_of_ble_eq_true rfl⟩) 8 0 rfl rfl rfl rfl [] rfl (Nat.le_of_ble_eq_true rfl) dX3_decide_5 (fun H locs hI => ?_)
  refine tk_if_ne (tgt := 15) hx hb hf dX3_decide_8 (by decide) (fun hf => ?_) (fun hf => ?_)
  · refine lv_iload_n hx hb dX3_decide_15 rfl (lv_at hl 2 rfl) ?_
    refine tk_if_lt (tgt := 24) hx hb hf dX3_decide_16 (by decide) (fun hf => ?_) (fun hf => ?_)
    · refine lv_sipush (v := -1002) hx hb dX3_decide_24 (by decide) ?_
      exact tk_riW S hr hlk hI hf dX3_decide_27
    · refine lv_iload_n hx hb dX3_decide_19 rfl (lv_at hl 2 rfl) ?_
      refine lv_iconst (v := 2) hx hb dX3_decide_20 (by decide) ?_
      refine tk_icmp_le (tgt := 28) hx hb hf dX3_decide_21 (by decide) (fun hf => ?_) (fun hf => ?_)
      · refine lv_aload_n hx hb dX3_decide_28 rfl (lv_at hl 0 rfl) ?_
        refine tg_X3_6 S hI mw_25 dX3_decide_29 ?_
        refine tg_X0_2 S hI mw_297 dX3_decide_32 ?_
        refine lv_iload_n hx hb dX3_decide_35 rfl (lv_at hl 1 rfl) ?_
        refine tk_iald S hI (k := 11) (n := 12) rfl hf dX3_decide_36 (fun v2 hf => ?_)
        refine lv_istore_n (lv' := [(3, .int v2), (0, .ref (tad G 0)), (1, .int x1), (2, .int x2)]) hx hb dX3_decide_37 rfl hl (by decide) rfl (fun ls hl => ?_)
        refine lv_aload_n hx hb dX3_decide_38 rfl (lv_at hl 1 rfl) ?_
        refine tg_X3_6 S hI mw_25 dX3_decide_39 ?_
        refine tg_X0_2 S hI mw_297 dX3_decide_42 ?_
        refine lv_iload_n hx hb dX3_decide_45 rfl (lv_at hl 2 rfl) ?_
        refine lv_iload_n hx hb dX3_decide_46 rfl (lv_at hl 3 rfl) ?_
        refine tk_iast S hI (k := 11) (n := 12) rfl (twa_11 G _) hf dX3_decide_47 (fun s3 H locs hI hf => ?_)
        refine lv_iload_n hx hb dX3_decide_48 rfl (lv_at hl 0 rfl) ?_
        exact tk_riW S hr hlk hI hf dX3_decide_49
      · refine lv_sipush (v := -1002) hx hb dX3_decide_24 (by decide) ?_
        exact tk_riW S hr hlk hI hf dX3_decide_27
  · refine lv_sipush (v := -1001) hx hb dX3_decide_11 (by decide) ?_
    exact tk_riW S hr hlk hI hf dX3_decide_14
/-! X3_startText@18 -/
abbrev rm_X3_startText_a18 : Room := { frames := 2, cells := 0, slots := 0, locals := 47 }
def f_X3_startText_a18_23 : Nat → Int32 → Int32 → tST → Option (tST)
  | 0, _, _, _ => none
  | n + 1, x2, x3, st => (if x2 ≤ x3 then (f_X3_firstLetters (tg_I st 1)).bind (fun r1 => tlet (tp_L st 0 r1) (fun s2 => some s2)) else (if (64 : Int32) ≤ x3 then (f_X3_firstLetters (tg_I st 1)).bind (fun r3 => tlet (tp_L st 0 r3) (fun s4 => some s4)) else tal 90 (tg_A st 18) x3 (fun v5 => (f_X3_addLetter v5 x3 (-1 : Int32) st).bind (fun s6 => tlet (x3 + (1 : Int32)) (fun i7 => f_X3_startText_a18_23 n x2 i7 s6)))))
def f_X3_startText_a18 (x2 : Int32) (st : tST) : Option (tST) := tlet (tp_I st 6 (0 : Int32)) (fun s1 => tlet (tp_I s1 7 (0 : Int32)) (fun s2 => tlet (tp_I s2 1 (0 : Int32)) (fun s3 => f_X3_startText_a18_23 tfu x2 (0 : Int32) s3)))
set_option maxHeartbeats 4000000 in
set_option maxRecDepth 100000 in
theorem k_X3_startText_a18_23 {l : Launch} {G : tG} {p : Program} {e : Env} {s : State} {m : MethodId} {below : List Frame} {meth : Method} {c : Code} {args : Array Value} {st' : tST} (S : CallFix p m c cX3_startText 4 s args wsL_law RX3) (hr : meth.sig.returnType = none) (hlk : meth.locks = false) : ∀ (n : Nat) (x2 : Int32) (x3 : Int32) (st : tST) (H : Heap) (locs : List Loc) (ls : Array Slot), tIn G (tA G s.heap.size) s st H locs → lv_has ls 4 [(0, .ref (tad G 0)), (1, .ref (tad G 18)), (2, .int x2), (3, .int x3)] → f_X3_startText_a18_23 n x2 x3 st = some st' → W p l e rm_X3_startText_a18 s m args below meth c H locs 0 0 (tZV G below args s st') (F0 m 23 ls []) := by
  have hx := S.1
  have hb := S.2.1
  have hown := S.2.2.2.1
  have hts := S.2.2.2.2
  intro n
  induction n with
  | zero => intro x2 x3 st H locs ls hI hl hf; exact nomatch (show (none : Option (tST)) = some _ from hf)
  | succ n ih =>
    intro x2 x3 st H locs ls hI hl hf
    rw [f_X3_startText_a18_23] at hf
    refine lv_iload_n hx hb dX3_startText_23 rfl (lv_at hl 3 rfl) ?_
    refine lv_iload_n hx hb dX3_startText_24 rfl (lv_at hl 2 rfl) ?_
    refine tk_icmp_ge (tgt := 49) hx hb hf dX3_startText_25 (by decide) (fun hf => ?_) (fun hf => ?_)
    · refine lv_aload_n hx hb dX3_startText_49 rfl (lv_at hl 0 rfl) ?_
      refine lv_aload_n hx hb dX3_startText_50 rfl (lv_at hl 0 rfl) ?_
      refine tg_X3_3 S hI mw_16 dX3_startText_51 ?_
      refine tk_bd hf (fun r1 hq hf => ?_)
      refine tk_sL S hI hl.1 (c_X3_firstLetters l G st (tg_I st 1) hq) (va_cwS 1 hts (tk_gS mw_128 mw_129 mw_2 mw_130) rfl rfl rfl yd_X3_firstLetters ⟨Nat.le_of_ble_eq_true rfl, Nat.le_of_ble_eq_true rfl⟩) rfl [.ref (tad G 0)] rfl (Nat.le_of_ble_eq_true rfl) dX3_startText_54 (fun H locs hI => ?_)
      refine tp_X3_4 S hI mw_17 hf dX3_startText_57 (fun s2 H locs hI hf => ?_)
      exact tk_rvW S hr hlk hI hf dX3_startText_60
    · refine lv_iload_n hx hb dX3_startText_28 rfl (lv_at hl 3 rfl) ?_
      refine lv_bipush (v := 64) hx hb dX3_startText_29 (by decide) ?_
      refine tk_icmp_ge (tgt := 49) hx hb hf dX3_startText_31 (by decide) (fun hf => ?_) (fun hf => ?_)
      · refine lv_aload_n hx hb dX3_startText_49 rfl (lv_at hl 0 rfl) ?_
        refine lv_aload_n hx hb dX3_startText_50 rfl (lv_at hl 0 rfl) ?_
        refine tg_X3_3 S hI mw_16 dX3_startText_51 ?_
        refine tk_bd hf (fun r3 hq hf => ?_)
        refine tk_sL S hI hl.1 (c_X3_firstLetters l G st (tg_I st 1) hq) (va_cwS 1 hts (tk_gS mw_128 mw_129 mw_2 mw_130) rfl rfl rfl yd_X3_firstLetters ⟨Nat.le_of_ble_eq_true rfl, Nat.le_of_ble_eq_true rfl⟩) rfl [.ref (tad G 0)] rfl (Nat.le_of_ble_eq_true rfl) dX3_startText_54 (fun H locs hI => ?_)
        refine tp_X3_4 S hI mw_17 hf dX3_startText_57 (fun s4 H locs hI hf => ?_)
        exact tk_rvW S hr hlk hI hf dX3_startText_60
      · refine lv_aload_n hx hb dX3_startText_34 rfl (lv_at hl 0 rfl) ?_
        refine lv_aload_n hx hb dX3_startText_35 rfl (lv_at hl 1 rfl) ?_
        refine lv_iload_n hx hb dX3_startText_36 rfl (lv_at hl 3 rfl) ?_
        refine tk_iald S hI (k := 18) (n := 90) rfl hf dX3_startText_37 (fun v5 hf => ?_)
        refine lv_iload_n hx hb dX3_startText_38 rfl (lv_at hl 3 rfl) ?_
        refine lv_iconst (v := -1) hx hb dX3_startText_39 (by decide) ?_
        refine tk_bd hf (fun s6 hq hf => ?_)
        refine tk_vV S hI hl.1 (c_X3_addLetter l G st v5 x3 (-1 : Int32) hq) (cwV 3 hts (tk_gV mw_116 mw_117 mw_118 mw_2 mw_119) rfl rfl rfl yd_X3_addLetter ⟨Nat.le_of_ble_eq_true rfl, Nat.le_of_ble_eq_true rfl⟩) 0 3 rfl rfl rfl rfl [] rfl (Nat.le_of_ble_eq_true rfl) dX3_startText_40 (fun H locs hI => ?_)
        refine tk_let hf (fun i7 ei7 hf => ?_)
        refine lv_iinc (v := i7) (lv' := [(3, .int i7), (0, .ref (tad G 0)), (1, .ref (tad G 18)), (2, .int x2)]) hx hb dX3_startText_43 hl (k := 3) rfl (by rw [ei7]; rfl) (by decide) rfl (fun ls hl => ?_)
        refine lv_goto (tgt := 23) hx hb dX3_startText_46 (by decide) ?_
        exact ih x2 i7 s6 _ _ _ hI (lv_sub hl [1, 2, 3, 0] rfl) hf
set_option maxHeartbeats 4000000 in
set_option maxRecDepth 100000 in
theorem c_X3_startText_a18 (l : Launch) (G : tG) (st : tST) (x2 : Int32) {st' : tST} (hf : f_X3_startText_a18 x2 st = some st') : tCV l G yX3_startText cX3_startText 4 none rm_X3_startText_a18 [.ref (tad G 0), .ref (tad G 18), .int x2] st st' := by
  refine tk_entV (by decide +kernel) (Nat.le_of_ble_eq_true rfl) (fun p e s m below meth c ls S hr hlk hI hl => ?_)
  have hl : lv_has ls 4 [(0, .ref (tad G 0)), (1, .ref (tad G 18)), (2, .int x2)] := hl
  have S : CallFix p m c cX3_startText 4 s [.ref (tad G 0), .ref (tad G 18), .int x2].toArray wsL_law RX3 := S
  have hx := S.1
  have hb := S.2.1
  have hown := S.2.2.2.1
  have hts := S.2.2.2.2
  unfold f_X3_startText_a18 at hf
  refine lv_aload_n hx hb dX3_startText_0 rfl (lv_at hl 0 rfl) ?_
  refine tg_X3_5 S hI mw_21 dX3_startText_1 ?_
  refine lv_iconst (v := 0) hx hb dX3_startText_4 (by decide) ?_
  refine tp_X1_4 S hI mw_114 hf dX3_startText_5 (fun s1 H locs hI hf => ?_)
  refine lv_aload_n hx hb dX3_startText_8 rfl (lv_at hl 0 rfl) ?_
  refine tg_X3_6 S hI mw_25 dX3_startText_9 ?_
  refine lv_iconst (v := 0) hx hb dX3_startText_12 (by decide) ?_
  refine tp_X0_5 S hI mw_115 hf dX3_startText_13 (fun s2 H locs hI hf => ?_)
  refine lv_aload_n hx hb dX3_startText_16 rfl (lv_at hl 0 rfl) ?_
  refine lv_iconst (v := 0) hx hb dX3_startText_17 (by decide) ?_
  refine tp_X3_3 S hI mw_16 hf dX3_startText_18 (fun s3 H locs hI hf => ?_)
  refine lv_iconst (v := 0) hx hb dX3_startText_21 (by decide) ?_
  refine lv_istore_n (lv' := [(3, .int (0 : Int32)), (0, .ref (tad G 0)), (1, .ref (tad G 18)), (2, .int x2)]) hx hb dX3_startText_22 rfl hl (by decide) rfl (fun ls hl => ?_)
  exact k_X3_startText_a18_23 S hr hlk tfu x2 (0 : Int32) s3 _ _ _ hI (lv_sub hl [1, 2, 3, 0] rfl) hf
