/-! X4_lengthOf -/
abbrev rm_X4_lengthOf : Room := { frames := 4, cells := 0, slots := 0, locals := 90 }
def f_X4_lengthOf (x1 : Int32) (st : tST) : Option (Int32 × tST) := (f_X4_setOf x1 st).bind (fun r1 => (f_X4_layRead r1 st).bind (fun s2 => some ((tg_I s2 121), s2)))
theorem yd_X4_lengthOf : yX4_lengthOf.cls = RX4 ∧ yX4_lengthOf.cls ≠ "java/lang/invoke/MethodHandle" ∧ yX4_lengthOf.cls ≠ "java/lang/invoke/VarHandle" ∧ (parseMethodDescriptor yX4_lengthOf.desc).map (fun d => d.parameters.length) = some 1 := by decide +kernel
set_option maxHeartbeats 4000000 in
set_option maxRecDepth 100000 in
theorem c_X4_lengthOf (l : Launch) (G : tG) (st : tST) (x1 : Int32) {r : Int32} {st' : tST} (hf : f_X4_lengthOf x1 st = some (r, st')) : tCI l G yX4_lengthOf cX4_lengthOf 2 (some .int) rm_X4_lengthOf [.ref (tad G 19), .int x1] st r st' := by
  refine tk_entI (by decide +kernel) (Nat.le_of_ble_eq_true rfl) (fun p e s m below meth c ls S hr hlk hI hl => ?_)
  have hl : lv_has ls 2 [(0, .ref (tad G 19)), (1, .int x1)] := hl
  have S : CallFix p m c cX4_lengthOf 2 s [.ref (tad G 19), .int x1].toArray wsL_law RX4 := S
  have hx := S.1
  have hb := S.2.1
  have hown := S.2.2.2.1
  have hts := S.2.2.2.2
  unfold f_X4_lengthOf at hf
  refine lv_aload_n hx hb dX4_lengthOf_0 rfl (lv_at hl 0 rfl) ?_
  refine lv_aload_n hx hb dX4_lengthOf_1 rfl (lv_at hl 0 rfl) ?_
  refine lv_iload_n hx hb dX4_lengthOf_2 rfl (lv_at hl 1 rfl) ?_
  refine tk_bd hf (fun r1 hq hf => ?_)
  refine tk_vI S hI hl.1 (c_X4_setOf l G st x1 hq) (cwV 1 hts (tk_gV mw_217 mw_218 mw_219 mw_5 mw_220) rfl rfl rfl yd_X4_setOf ⟨Nat.le_of_ble_eq_true rfl, Nat.le_of_ble_eq_true rfl⟩) 19 4 rfl rfl rfl rfl [.ref (tad G 19)] rfl (Nat.le_of_ble_eq_true rfl) dX4_lengthOf_3 (fun H locs hI => ?_)
  refine tk_bd hf (fun s2 hq hf => ?_)
  refine tk_vV S hI hl.1 (c_X4_layRead l G st r1 hq) (cwV 1 hts (tk_gV mw_221 mw_222 mw_223 mw_5 mw_224) rfl rfl rfl yd_X4_layRead ⟨Nat.le_of_ble_eq_true rfl, Nat.le_of_ble_eq_true rfl⟩) 19 4 rfl rfl rfl rfl [] rfl (Nat.le_of_ble_eq_true rfl) dX4_lengthOf_6 (fun H locs hI => ?_)
  refine lv_aload_n hx hb dX4_lengthOf_9 rfl (lv_at hl 0 rfl) ?_
  refine tg_X4_21 S hI mw_213 dX4_lengthOf_10 ?_
  exact tk_riW S hr hlk hI hf dX4_lengthOf_13
/-! X4_length -/
abbrev rm_X4_length : Room := { frames := 5, cells := 0, slots := 0, locals := 111 }
def f_X4_length (x1 : Int32) (st : tST) : Option (Int32 × tST) := (f_X4_isView x1).bind (fun r1 => (if r1 = 0 then some ((-1001 : Int32), st) else tbd (f_X4_lengthOf x1 st) (fun r2 s3 => some (r2, s3))))
theorem yd_X4_length : yX4_length.cls = RX4 ∧ yX4_length.cls ≠ "java/lang/invoke/MethodHandle" ∧ yX4_length.cls ≠ "java/lang/invoke/VarHandle" ∧ (parseMethodDescriptor yX4_length.desc).map (fun d => d.parameters.length) = some 1 := by decide +kernel
set_option maxHeartbeats 4000000 in
set_option maxRecDepth 100000 in
theorem c_X4_length (l : Launch) (G : tG) (st : tST) (x1 : Int32) {r : Int32} {st' : tST} (hf : f_X4_length x1 st = some (r, st')) : tCI l G yX4_length cX4_length 2 (some .int) rm_X4_length [.ref (tad G 19), .int x1] st r st' := by
  refine tk_entI (by decide +kernel) (Nat.le_of_ble_eq_true rfl) (fun p e s m below meth c ls S hr hlk hI hl => ?_)
  have hl : lv_has ls 2 [(0, .ref (tad G 19)), (1, .int x1)] := hl
  have S : CallFix p m c cX4_length 2 s [.ref (tad G 19), .int x1].toArray wsL_law RX4 := S
  have hx := S.1
  have hb := S.2.1
  have hown := S.2.2.2.1
  have hts := S.2.2.2.2
  unfold f_X4_length at hf
  refine lv_iload_n hx hb dX4_length_0 rfl (lv_at hl 1 rfl) ?_
  refine tk_bd hf (fun r1 hq hf => ?_)
  refine tk_sI S hI hl.1 (c_X4_isView l G st x1 hq) (va_cwS 1 hts (tk_gS mw_326 mw_327 mw_5 mw_328) rfl rfl rfl yd_X4_isView ⟨Nat.le_of_ble_eq_true rfl, Nat.le_of_ble_eq_true rfl⟩) rfl [] rfl (Nat.le_of_ble_eq_true rfl) dX4_length_1 (fun H locs hI => ?_)
  refine tk_if_eq (tgt := 15) hx hb hf dX4_length_4 (by decide) (fun hf => ?_) (fun hf => ?_)
  · refine lv_sipush (v := -1001) hx hb dX4_length_15 (by decide) ?_
    exact tk_riW S hr hlk hI hf dX4_length_18
  · refine lv_aload_n hx hb dX4_length_7 rfl (lv_at hl 0 rfl) ?_
    refine lv_iload_n hx hb dX4_length_8 rfl (lv_at hl 1 rfl) ?_
    refine tk_bd2 hf (fun r2 s3 hq hf => ?_)
    refine tk_vI S hI hl.1 (c_X4_lengthOf l G st x1 hq) (cwV 1 hts (tk_gV mw_329 mw_330 mw_331 mw_5 mw_332) rfl rfl rfl yd_X4_lengthOf ⟨Nat.le_of_ble_eq_true rfl, Nat.le_of_ble_eq_true rfl⟩) 19 4 rfl rfl rfl rfl [] rfl (Nat.le_of_ble_eq_true rfl) dX4_length_9 (fun H locs hI => ?_)
    refine lv_goto (tgt := 18) hx hb dX4_length_12 (by decide) ?_
    exact tk_riW S hr hlk hI hf dX4_length_18
/-! X4_ones -/
abbrev rm_X4_ones : Room := { frames := 0, cells := 0, slots := 0, locals := 0 }
def f_X4_ones_4 : Nat → Int32 → Int32 → Int32 → Option (Int32)
  | 0, _, _, _ => none
  | n + 1, x0, x1, x2 => (if (12 : Int32) ≤ x2 then some x1 else tlet (x1 + ((x0 >>> (x2 &&& (31 : Int32))) &&& (1 : Int32))) (fun i1 => tlet (x2 + (1 : Int32)) (fun i2 => f_X4_ones_4 n x0 i1 i2)))
def f_X4_ones (x0 : Int32) : Option (Int32) := f_X4_ones_4 tfu x0 (0 : Int32) (0 : Int32)
theorem yd_X4_ones : yX4_ones.cls ≠ "java/lang/invoke/MethodHandle" ∧ yX4_ones.cls ≠ "java/lang/invoke/VarHandle" ∧ (parseMethodDescriptor yX4_ones.desc).map (fun d => d.parameters.length) = some 1 := by decide +kernel
set_option maxHeartbeats 4000000 in
set_option maxRecDepth 100000 in
theorem k_X4_ones_4 {l : Launch} {G : tG} {p : Program} {e : Env} {s : State} {m : MethodId} {below : List Frame} {meth : Method} {c : Code} {args : Array Value} {r : Int32} {st : tST} (S : CallFix p m c cX4_ones 3 s args wsL_law RX4) (hr : meth.sig.returnType = (some .int)) (hlk : meth.locks = false) : ∀ (n : Nat) (x0 : Int32) (x1 : Int32) (x2 : Int32) (H : Heap) (locs : List Loc) (ls : Array Slot), tIn G (tA G s.heap.size) s st H locs → lv_has ls 3 [(0, .int x0), (1, .int x1), (2, .int x2)] → f_X4_ones_4 n x0 x1 x2 = some r → W p l e rm_X4_ones s m args below meth c H locs 0 0 (tZI G below args s r st) (F0 m 4 ls []) := by
  have hx := S.1
  have hb := S.2.1
  have hown := S.2.2.2.1
  have hts := S.2.2.2.2
  intro n
  induction n with
  | zero => intro x0 x1 x2 H locs ls hI hl hf; exact nomatch (show (none : Option (Int32)) = some _ from hf)
  | succ n ih =>
    intro x0 x1 x2 H locs ls hI hl hf
    rw [f_X4_ones_4] at hf
    refine lv_iload_n hx hb dX4_ones_4 rfl (lv_at hl 2 rfl) ?_
    refine lv_bipush (v := 12) hx hb dX4_ones_5 (by decide) ?_
    refine tk_icmp_ge (tgt := 24) hx hb hf dX4_ones_7 (by decide) (fun hf => ?_) (fun hf => ?_)
    · refine lv_iload_n hx hb dX4_ones_24 rfl (lv_at hl 1 rfl) ?_
      exact tk_riR S hr hlk hI hf dX4_ones_25
    · refine lv_iload_n hx hb dX4_ones_10 rfl (lv_at hl 1 rfl) ?_
      refine lv_iload_n hx hb dX4_ones_11 rfl (lv_at hl 0 rfl) ?_
      refine lv_iload_n hx hb dX4_ones_12 rfl (lv_at hl 2 rfl) ?_
      refine lv_ishr hx hb dX4_ones_13 ?_
      refine lv_iconst (v := 1) hx hb dX4_ones_14 (by decide) ?_
      refine lv_iand hx hb dX4_ones_15 ?_
      refine lv_iadd hx hb dX4_ones_16 ?_
      refine tk_topi hf (fun i1 hf => ?_)
      refine lv_istore_n (lv' := [(1, .int i1), (0, .int x0), (2, .int x2)]) hx hb dX4_ones_17 rfl hl (by decide) rfl (fun ls hl => ?_)
      refine tk_let hf (fun i2 ei2 hf => ?_)
      refine lv_iinc (v := i2) (lv' := [(2, .int i2), (1, .int i1), (0, .int x0)]) hx hb dX4_ones_18 hl (k := 2) rfl (by rw [ei2]; rfl) (by decide) rfl (fun ls hl => ?_)
      refine lv_goto (tgt := 4) hx hb dX4_ones_21 (by decide) ?_
      exact ih x0 i1 i2 _ _ _ hI (lv_sub hl [2, 1, 0] rfl) hf
set_option maxHeartbeats 4000000 in
set_option maxRecDepth 100000 in
theorem c_X4_ones (l : Launch) (G : tG) (st : tST) (x0 : Int32) {r : Int32} (hf : f_X4_ones x0 = some r) : tCI l G yX4_ones cX4_ones 3 (some .int) rm_X4_ones [.int x0] st r st := by
  refine tk_entI (by decide +kernel) (Nat.le_of_ble_eq_true rfl) (fun p e s m below meth c ls S hr hlk hI hl => ?_)
  have hl : lv_has ls 3 [(0, .int x0)] := hl
  have S : CallFix p m c cX4_ones 3 s [.int x0].toArray wsL_law RX4 := S
  have hx := S.1
  have hb := S.2.1
  have hown := S.2.2.2.1
  have hts := S.2.2.2.2
  unfold f_X4_ones at hf
  refine lv_iconst (v := 0) hx hb dX4_ones_0 (by decide) ?_
  refine lv_istore_n (lv' := [(1, .int (0 : Int32)), (0, .int x0)]) hx hb dX4_ones_1 rfl hl (by decide) rfl (fun ls hl => ?_)
  refine lv_iconst (v := 0) hx hb dX4_ones_2 (by decide) ?_
  refine lv_istore_n (lv' := [(2, .int (0 : Int32)), (1, .int (0 : Int32)), (0, .int x0)]) hx hb dX4_ones_3 rfl hl (by decide) rfl (fun ls hl => ?_)
  exact k_X4_ones_4 S hr hlk tfu x0 (0 : Int32) (0 : Int32) _ _ _ hI (lv_sub hl [2, 1, 0] rfl) hf
/-! X4_movedBy -/
abbrev rm_X4_movedBy : Room := { frames := 0, cells := 0, slots := 0, locals := 0 }
def f_X4_movedBy_4 (st : tST)  : Nat → Int32 → Int32 → Int32 → Option (Int32)
  | 0, _, _, _ => none
  | n + 1, x1, x2, x3 => (if (tg_I st 112) ≤ x3 then some x2 else tal 90 (tg_A st 29) x3 (fun v1 => (if v1 = x1 then tal 90 (tg_A st 30) x3 (fun v4 => (if v4 = (-1 : Int32) then tlet (x2 ||| (0 : Int32)) (fun i5 => tlet (x3 + (1 : Int32)) (fun i6 => f_X4_movedBy_4 st n x1 i5 i6)) else tal 90 (tg_A st 31) x3 (fun v7 => tlet (x2 ||| ((1 : Int32) <<< (v7 &&& (31 : Int32)))) (fun i8 => tlet (x3 + (1 : Int32)) (fun i9 => f_X4_movedBy_4 st n x1 i8 i9))))) else tlet (x2 ||| (0 : Int32)) (fun i2 => tlet (x3 + (1 : Int32)) (fun i3 => f_X4_movedBy_4 st n x1 i2 i3)))))
def f_X4_movedBy (x1 : Int32) (st : tST) : Option (Int32) := f_X4_movedBy_4 st tfu x1 (0 : Int32) (0 : Int32)
theorem yd_X4_movedBy : yX4_movedBy.cls = RX4 ∧ yX4_movedBy.cls ≠ "java/lang/invoke/MethodHandle" ∧ yX4_movedBy.cls ≠ "java/lang/invoke/VarHandle" ∧ (parseMethodDescriptor yX4_movedBy.desc).map (fun d => d.parameters.length) = some 1 := by decide +kernel
set_option maxHeartbeats 4000000 in
set_option maxRecDepth 100000 in
theorem k_X4_movedBy_4 {l : Launch} {G : tG} {p : Program} {e : Env} {s : State} {m : MethodId} {below : List Frame} {meth : Method} {c : Code} {args : Array Value} {r : Int32} {st : tST} (S : CallFix p m c cX4_movedBy 4 s args wsL_law RX4) (hr : meth.sig.returnType = (some .int)) (hlk : meth.locks = false) : ∀ (n : Nat) (x1 : Int32) (x2 : Int32) (x3 : Int32) (H : Heap) (locs : List Loc) (ls : Array Slot), tIn G (tA G s.heap.size) s st H locs → lv_has ls 4 [(0, .ref (tad G 19)), (1, .int x1), (2, .int x2), (3, .int x3)] → f_X4_movedBy_4 st n x1 x2 x3 = some r → W p l e rm_X4_movedBy s m args below meth c H locs 0 0 (tZI G below args s r st) (F0 m 4 ls []) := by
  have hx := S.1
  have hb := S.2.1
  have hown := S.2.2.2.1
  have hts := S.2.2.2.2
  intro n
  induction n with
  | zero => intro x1 x2 x3 H locs ls hI hl hf; exact nomatch (show (none : Option (Int32)) = some _ from hf)
  | succ n ih =>
    intro x1 x2 x3 H locs ls hI hl hf
    rw [f_X4_movedBy_4] at hf
    refine lv_iload_n hx hb dX4_movedBy_4 rfl (lv_at hl 3 rfl) ?_
    refine lv_aload_n hx hb dX4_movedBy_5 rfl (lv_at hl 0 rfl) ?_
    refine tg_X4_12 S hI mw_137 dX4_movedBy_6 ?_
    refine tk_icmp_ge (tgt := 53) hx hb hf dX4_movedBy_9 (by decide) (fun hf => ?_) (fun hf => ?_)
    · refine lv_iload_n hx hb dX4_movedBy_53 rfl (lv_at hl 2 rfl) ?_
      exact tk_riR S hr hlk hI hf dX4_movedBy_54
    · refine lv_iload_n hx hb dX4_movedBy_12 rfl (lv_at hl 2 rfl) ?_
      refine lv_aload_n hx hb dX4_movedBy_13 rfl (lv_at hl 0 rfl) ?_
      refine tg_X4_13 S hI mw_74 dX4_movedBy_14 ?_
      refine lv_iload_n hx hb dX4_movedBy_17 rfl (lv_at hl 3 rfl) ?_
      refine tk_iald S hI (k := 29) (n := 90) rfl hf dX4_movedBy_18 (fun v1 hf => ?_)
      refine lv_iload_n hx hb dX4_movedBy_19 rfl (lv_at hl 1 rfl) ?_
      refine tk_icmp_ne (tgt := 44) hx hb hf dX4_movedBy_20 (by decide) (fun hf => ?_) (fun hf => ?_)
      · refine lv_iconst (v := 0) hx hb dX4_movedBy_44 (by decide) ?_
        refine lv_ior hx hb dX4_movedBy_45 ?_
        refine tk_topi hf (fun i2 hf => ?_)
        refine lv_istore_n (lv' := [(2, .int i2), (0, .ref (tad G 19)), (1, .int x1), (3, .int x3)]) hx hb dX4_movedBy_46 rfl hl (by decide) rfl (fun ls hl => ?_)
        refine tk_let hf (fun i3 ei3 hf => ?_)
        refine lv_iinc (v := i3) (lv' := [(3, .int i3), (2, .int i2), (0, .ref (tad G 19)), (1, .int x1)]) hx hb dX4_movedBy_47 hl (k := 3) rfl (by rw [ei3]; rfl) (by decide) rfl (fun ls hl => ?_)
        refine lv_goto (tgt := 4) hx hb dX4_movedBy_50 (by decide) ?_
        exact ih x1 i2 i3 _ _ _ hI (lv_sub hl [2, 3, 1, 0] rfl) hf
      · refine lv_aload_n hx hb dX4_movedBy_23 rfl (lv_at hl 0 rfl) ?_
        refine tg_X4_14 S hI mw_75 dX4_movedBy_24 ?_
        refine lv_iload_n hx hb dX4_movedBy_27 rfl (lv_at hl 3 rfl) ?_
        refine tk_iald S hI (k := 30) (n := 90) rfl hf dX4_movedBy_28 (fun v4 hf => ?_)
        refine lv_iconst (v := -1) hx hb dX4_movedBy_29 (by decide) ?_
        refine tk_icmp_eq (tgt := 44) hx hb hf dX4_movedBy_30 (by decide) (fun hf => ?_) (fun hf => ?_)
        · refine lv_iconst (v := 0) hx hb dX4_movedBy_44 (by decide) ?_
          refine lv_ior hx hb dX4_movedBy_45 ?_
          refine tk_topi hf (fun i5 hf => ?_)
          refine lv_istore_n (lv' := [(2, .int i5), (0, .ref (tad G 19)), (1, .int x1), (3, .int x3)]) hx hb dX4_movedBy_46 rfl hl (by decide) rfl (fun ls hl => ?_)
          refine tk_let hf (fun i6 ei6 hf => ?_)
          refine lv_iinc (v := i6) (lv' := [(3, .int i6), (2, .int i5), (0, .ref (tad G 19)), (1, .int x1)]) hx hb dX4_movedBy_47 hl (k := 3) rfl (by rw [ei6]; rfl) (by decide) rfl (fun ls hl => ?_)
          refine lv_goto (tgt := 4) hx hb dX4_movedBy_50 (by decide) ?_
          exact ih x1 i5 i6 _ _ _ hI (lv_sub hl [2, 3, 1, 0] rfl) hf
        · refine lv_iconst (v := 1) hx hb dX4_movedBy_33 (by decide) ?_
          refine lv_aload_n hx hb dX4_movedBy_34 rfl (lv_at hl 0 rfl) ?_
          refine tg_X4_15 S hI mw_76 dX4_movedBy_35 ?_
          refine lv_iload_n hx hb dX4_movedBy_38 rfl (lv_at hl 3 rfl) ?_
          refine tk_iald S hI (k := 31) (n := 90) rfl hf dX4_movedBy_39 (fun v7 hf => ?_)
          refine lv_ishl hx hb dX4_movedBy_40 ?_
          refine lv_goto (tgt := 45) hx hb dX4_movedBy_41 (by decide) ?_
          refine lv_ior hx hb dX4_movedBy_45 ?_
          refine tk_topi hf (fun i8 hf => ?_)
          refine lv_istore_n (lv' := [(2, .int i8), (0, .ref (tad G 19)), (1, .int x1), (3, .int x3)]) hx hb dX4_movedBy_46 rfl hl (by decide) rfl (fun ls hl => ?_)
          refine tk_let hf (fun i9 ei9 hf => ?_)
          refine lv_iinc (v := i9) (lv' := [(3, .int i9), (2, .int i8), (0, .ref (tad G 19)), (1, .int x1)]) hx hb dX4_movedBy_47 hl (k := 3) rfl (by rw [ei9]; rfl) (by decide) rfl (fun ls hl => ?_)
          refine lv_goto (tgt := 4) hx hb dX4_movedBy_50 (by decide) ?_
          exact ih x1 i8 i9 _ _ _ hI (lv_sub hl [2, 3, 1, 0] rfl) hf
set_option maxHeartbeats 4000000 in
set_option maxRecDepth 100000 in
theorem c_X4_movedBy (l : Launch) (G : tG) (st : tST) (x1 : Int32) {r : Int32} (hf : f_X4_movedBy x1 st = some r) : tCI l G yX4_movedBy cX4_movedBy 4 (some .int) rm_X4_movedBy [.ref (tad G 19), .int x1] st r st := by
  refine tk_entI (by decide +kernel) (Nat.le_of_ble_eq_true rfl) (fun p e s m below meth c ls S hr hlk hI hl => ?_)
  have hl : lv_has ls 4 [(0, .ref (tad G 19)), (1, .int x1)] := hl
  have S : CallFix p m c cX4_movedBy 4 s [.ref (tad G 19), .int x1].toArray wsL_law RX4 := S
  have hx := S.1
  have hb := S.2.1
  have hown := S.2.2.2.1
  have hts := S.2.2.2.2
  unfold f_X4_movedBy at hf
  refine lv_iconst (v := 0) hx hb dX4_movedBy_0 (by decide) ?_
  refine lv_istore_n (lv' := [(2, .int (0 : Int32)), (0, .ref (tad G 19)), (1, .int x1)]) hx hb dX4_movedBy_1 rfl hl (by decide) rfl (fun ls hl => ?_)
  refine lv_iconst (v := 0) hx hb dX4_movedBy_2 (by decide) ?_
  refine lv_istore_n (lv' := [(3, .int (0 : Int32)), (2, .int (0 : Int32)), (0, .ref (tad G 19)), (1, .int x1)]) hx hb dX4_movedBy_3 rfl hl (by decide) rfl (fun ls hl => ?_)
  exact k_X4_movedBy_4 S hr hlk tfu x1 (0 : Int32) (0 : Int32) _ _ _ hI (lv_sub hl [2, 3, 1, 0] rfl) hf
/-! X4_readNow -/
abbrev rm_X4_readNow : Room := { frames := 1, cells := 0, slots := 0, locals := 23 }
def f_X4_readNow (x1 : Int32) (x2 : Int32) (st : tST) : Option (Int32) := tal 90 (tg_A st 29) x1 (fun v1 => (if x2 = (0 : Int32) then tal 64 (tg_A st 21) v1 (fun v2 => some v2) else (if x2 = (1 : Int32) then some v1 else (if x2 = (2 : Int32) then (f_X4_inLine x1 st).bind (fun r3 => some r3) else (if x2 = (3 : Int32) then tal 90 (tg_A st 31) x1 (fun v4 => some v4) else (if x2 = (4 : Int32) then tal 64 (tg_A st 24) v1 (fun v5 => (f_X4_inState (0 : Int32) st).bind (fun r6 => (f_X4_ones (v5 &&& r6)).bind (fun r7 => some r7))) else (f_X4_movedBy v1 st).bind (fun r8 => (f_X4_inState (0 : Int32) st).bind (fun r9 => (f_X4_ones (r8 &&& r9)).bind (fun r10 => some r10)))))))))
theorem yd_X4_readNow : yX4_readNow.cls = RX4 ∧ yX4_readNow.cls ≠ "java/lang/invoke/MethodHandle" ∧ yX4_readNow.cls ≠ "java/lang/invoke/VarHandle" ∧ (parseMethodDescriptor yX4_readNow.desc).map (fun d => d.parameters.length) = some 2 := by decide +kernel
set_option maxHeartbeats 4000000 in
set_option maxRecDepth 100000 in
theorem c_X4_readNow (l : Launch) (G : tG) (st : tST) (x1 : Int32) (x2 : Int32) {r : Int32} (hf : f_X4_readNow x1 x2 st = some r) : tCI l G yX4_readNow cX4_readNow 4 (some .int) rm_X4_readNow [.ref (tad G 19), .int x1, .int x2] st r st := by
  refine tk_entI (by decide +kernel) (Nat.le_of_ble_eq_true rfl) (fun p e s m below meth c ls S hr hlk hI hl => ?_)
  have hl : lv_has ls 4 [(0, .ref (tad G 19)), (1, .int x1), (2, .int x2)] := hl
  have S : CallFix p m c cX4_readNow 4 s [.ref (tad G 19), .int x1, .int x2].toArray wsL_law RX4 := S
  have hx := S.1
  have hb := S.2.1
  have hown := S.2.2.2.1
  have hts := S.2.2.2.2
  unfold f_X4_readNow at hf
  refine lv_aload_n hx hb dX4_readNow_0 rfl (lv_at hl 0 rfl) ?_
  refine tg_X4_13 S hI mw_74 dX4_readNow_1 ?_
  refine lv_iload_n hx hb dX4_readNow_4 rfl (lv_at hl 1 rfl) ?_
  refine tk_iald S hI (k := 29) (n := 90) rfl hf dX4_readNow_5 (fun v1 hf => ?_)
  refine lv_istore_n (lv' := [(3, .int v1), (0, .ref (tad G 19)), (1, .int x1), (2, .int x2)]) hx hb dX4_readNow_6 rfl hl (by decide) rfl (fun ls hl => ?_)
  refine lv_iload_n hx hb dX4_readNow_7 rfl (lv_at hl 3 rfl) ?_
  refine tk_if hf (fun c1_0 hf => ?_) (fun c1_0 hf => ?_)
  · refine lv_tableIn (off := 36) (tgt := 44) hx hb dX4_readNow_8 (by rw [c1_0]; decide) (by rw [c1_0]; decide) (by rw [c1_0]; rfl) (by decide) ?_
    refine lv_aload_n hx hb dX4_readNow_44 rfl (lv_at hl 1 rfl) ?_
    refine tg_X4_3 S hI mw_65 dX4_readNow_45 ?_
    refine lv_iload_n hx hb dX4_readNow_48 rfl (lv_at hl 0 rfl) ?_
    refine tk_iald S hI (k := 21) (n := 64) rfl hf dX4_readNow_49 (fun v2 hf => ?_)
    exact tk_riR S hr hlk hI hf dX4_readNow_50
  refine tk_if hf (fun c1_1 hf => ?_) (fun c1_1 hf => ?_)
  · refine lv_tableIn (off := 43) (tgt := 51) hx hb dX4_readNow_8 (by rw [c1_1]; decide) (by rw [c1_1]; decide) (by rw [c1_1]; rfl) (by decide) ?_
    refine lv_iload_n hx hb dX4_readNow_51 rfl (lv_at hl 0 rfl) ?_
    exact tk_riR S hr hlk hI hf dX4_readNow_52
  refine tk_if hf (fun c1_2 hf => ?_) (fun c1_2 hf => ?_)
  · refine lv_tableIn (off := 45) (tgt := 53) hx hb dX4_readNow_8 (by rw [c1_2]; decide) (by rw [c1_2]; decide) (by rw [c1_2]; rfl) (by decide) ?_
    refine lv_aload_n hx hb dX4_readNow_53 rfl (lv_at hl 1 rfl) ?_
    refine lv_iload_n hx hb dX4_readNow_54 rfl (lv_at hl 2 rfl) ?_
    refine tk_bd hf (fun r3 hq hf => ?_)
    refine tk_vI S hI hl.1 (c_X4_inLine l G st x1 hq) (cwV 1 hts (tk_gV mw_244 mw_245 mw_246 mw_5 mw_247) rfl rfl rfl yd_X4_inLine ⟨Nat.le_of_ble_eq_true rfl, Nat.le_of_ble_eq_true rfl⟩) 19 4 rfl rfl rfl rfl [] rfl (Nat.le_of_ble_eq_true rfl) dX4_readNow_55 (fun H locs hI => ?_)
    exact tk_riR S hr hlk hI hf dX4_readNow_58
  refine tk_if hf (fun c1_3 hf => ?_) (fun c1_3 hf => ?_)
  · refine lv_tableIn (off := 51) (tgt := 59) hx hb dX4_readNow_8 (by rw [c1_3]; decide) (by rw [c1_3]; decide) (by rw [c1_3]; rfl) (by decide) ?_
    refine lv_aload_n hx hb dX4_readNow_59 rfl (lv_at hl 1 rfl) ?_
    refine tg_X4_15 S hI mw_76 dX4_readNow_60 ?_
    refine lv_iload_n hx hb dX4_readNow_63 rfl (lv_at hl 2 rfl) ?_
    refine tk_iald S hI (k := 31) (n := 90) rfl hf dX4_readNow_64 (fun v4 hf => ?_)
    exact tk_riR S hr hlk hI hf dX4_readNow_65
  refine tk_if hf (fun c1_4 hf => ?_) (fun c1_4 hf => ?_)
  · refine lv_tableIn (off := 58) (tgt := 66) hx hb dX4_readNow_8 (by rw [c1_4]; decide) (by rw [c1_4]; decide) (by rw [c1_4]; rfl) (by decide) ?_
    refine lv_aload_n hx hb dX4_readNow_66 rfl (lv_at hl 1 rfl) ?_
    refine tg_X4_6 S hI mw_68 dX4_readNow_67 ?_
    refine lv_iload_n hx hb dX4_readNow_70 rfl (lv_at hl 0 rfl) ?_
    refine tk_iald S hI (k := 24) (n := 64) rfl hf dX4_readNow_71 (fun v5 hf => ?_)
    refine lv_aload_n hx hb dX4_readNow_72 rfl (lv_at hl 1 rfl) ?_
    refine lv_iconst (v := 0) hx hb dX4_readNow_73 (by decide) ?_
    refine tk_bd hf (fun r6 hq hf => ?_)
    refine tk_vI S hI hl.1 (c_X4_inState l G st (0 : Int32) hq) (cwV 1 hts (tk_gV mw_311 mw_312 mw_313 mw_5 mw_314) rfl rfl rfl yd_X4_inState ⟨Nat.le_of_ble_eq_true rfl, Nat.le_of_ble_eq_true rfl⟩) 19 4 rfl rfl rfl rfl [.int v5] rfl (Nat.le_of_ble_eq_true rfl) dX4_readNow_74 (fun H locs hI => ?_)
    refine lv_iand hx hb dX4_readNow_77 ?_
    refine tk_bd hf (fun r7 hq hf => ?_)
    refine tk_sI S hI hl.1 (c_X4_ones l G st (v5 &&& r6) hq) (va_cwS 1 hts (tk_gS mw_354 mw_355 mw_5 mw_356) rfl rfl rfl yd_X4_ones ⟨Nat.le_of_ble_eq_true rfl, Nat.le_of_ble_eq_true rfl⟩) rfl [] rfl (Nat.le_of_ble_eq_true rfl) dX4_readNow_78 (fun H locs hI => ?_)
    exact tk_riR S hr hlk hI hf dX4_readNow_81
  refine lv_tableOut (tgt := 82) hx hb dX4_readNow_8 (by have := lv_neT c1_0 (a := 0) (by decide); have := lv_neT c1_1 (a := 1) (by decide); have := lv_neT c1_2 (a := 2) (by decide); have := lv_neT c1_3 (a := 3) (by decide); have := lv_neT c1_4 (a := 4) (by decide); omega) (by decide) ?_
  refine lv_aload_n hx hb dX4_readNow_82 rfl (lv_at hl 1 rfl) ?_
  refine lv_iload_n hx hb dX4_readNow_83 rfl (lv_at hl 0 rfl) ?_
  refine tk_bd hf (fun r8 hq hf => ?_)
  refine tk_vI S hI hl.1 (c_X4_movedBy l G st v1 hq) (cwV 1 hts (tk_gV mw_357 mw_358 mw_359 mw_5 mw_360) rfl rfl rfl yd_X4_movedBy ⟨Nat.le_of_ble_eq_true rfl, Nat.le_of_ble_eq_true rfl⟩) 19 4 rfl rfl rfl rfl [] rfl (Nat.le_of_ble_eq_true rfl) dX4_readNow_84 (fun H locs hI => ?_)
  refine lv_aload_n hx hb dX4_readNow_87 rfl (lv_at hl 1 rfl) ?_
  refine lv_iconst (v := 0) hx hb dX4_readNow_88 (by decide) ?_
  refine tk_bd hf (fun r9 hq hf => ?_)
  refine tk_vI S hI hl.1 (c_X4_inState l G st (0 : Int32) hq) (cwV 1 hts (tk_gV mw_311 mw_312 mw_313 mw_5 mw_314) rfl rfl rfl yd_X4_inState ⟨Nat.le_of_ble_eq_true rfl, Nat.le_of_ble_eq_true rfl⟩) 19 4 rfl rfl rfl rfl [.int r8] rfl (Nat.le_of_ble_eq_true rfl) dX4_readNow_89 (fun H locs hI => ?_)
  refine lv_iand hx hb dX4_readNow_92 ?_
  refine tk_bd hf (fun r10 hq hf => ?_)
  refine tk_sI S hI hl.1 (c_X4_ones l G st (r8 &&& r9) hq) (va_cwS 1 hts (tk_gS mw_354 mw_355 mw_5 mw_356) rfl rfl rfl yd_X4_ones ⟨Nat.le_of_ble_eq_true rfl, Nat.le_of_ble_eq_true rfl⟩) rfl [] rfl (Nat.le_of_ble_eq_true rfl) dX4_readNow_93 (fun H locs hI => ?_)
  exact tk_riR S hr hlk hI hf dX4_readNow_96
/-! X4_read -/
abbrev rm_X4_read : Room := { frames := 5, cells := 0, slots := 0, locals := 111 }
def f_X4_read (x1 : Int32) (x2 : Int32) (x3 : Int32) (st : tST) : Option (Int32 × tST) := (f_X4_isView x1).bind (fun r1 => (if r1 = 0 then some ((-1001 : Int32), st) else tbd (f_X4_lengthOf x1 st) (fun r2 s3 => (f_X4_within x2 (0 : Int32) (r2 - (1 : Int32))).bind (fun r4 => (if r4 = 0 then some ((-1001 : Int32), s3) else (f_X4_within x3 (0 : Int32) (5 : Int32)).bind (fun r5 => (if r5 = 0 then some ((-1002 : Int32), s3) else tal 64 (tg_A s3 35) x2 (fun v6 => (f_X4_readNow v6 x3 s3).bind (fun r7 => some (r7, s3))))))))))
theorem yd_X4_read : yX4_read.cls = RX4 ∧ yX4_read.cls ≠ "java/lang/invoke/MethodHandle" ∧ yX4_read.cls ≠ "java/lang/invoke/VarHandle" ∧ (parseMethodDescriptor yX4_read.desc).map (fun d => d.parameters.length) = some 3 := by decide +kernel
set_option maxHeartbeats 4000000 in
set_option maxRecDepth 100000 in
theorem c_X4_read (l : Launch) (G : tG) (st : tST) (x1 : Int32) (x2 : Int32) (x3 : Int32) {r : Int32} {st' : tST} (hf : f_X4_read x1 x2 x3 st = some (r, st')) : tCI l G yX4_read cX4_read 4 (some .int) rm_X4_read [.ref (tad G 19), .int x1, .int x2, .int x3] st r st' := by
  refine tk_entI (by decide +kernel) (Nat.le_of_ble_eq_true rfl) (fun p e s m below meth c ls S hr hlk hI hl => ?_)
  have hl : lv_has ls 4 [(0, .ref (tad G 19)), (1, .int x1), (2, .int x2), (3, .int x3)] := hl
  have S : CallFix p m c cX4_read 4 s [.ref (tad G 19), .int x1, .int x2, .int x3].toArray wsL_law RX4 := S
  have hx := S.1
  have hb := S.2.1
  have hown := S.2.2.2.1
  have hts := S.2.2.2.2
  unfold f_X4_read at hf
  refine lv_iload_n hx hb dX4_read_0 rfl (lv_at hl 1 rfl) ?_
  refine tk_bd hf (fun r1 hq hf => ?_)
  refine tk_sI S hI hl.1 (c_X4_isView l G st x1 hq) (va_cwS 1 hts (tk_gS mw_326 mw_327 mw_5 mw_328) rfl rfl rfl yd_X4_isView ⟨Nat.le_of_ble_eq_true rfl, Nat.le_of_ble_eq_true rfl⟩) rfl [] rfl (Nat.le_of_ble_eq_true rfl) dX4_read_1 (fun H locs hI => ?_)
  refine tk_if_eq (tgt := 22) hx hb hf dX4_read_4 (by decide) (fun hf => ?_) (fun hf => ?_)
  · refine lv_sipush (v := -1001) hx hb dX4_read_22 (by decide) ?_
    exact tk_riW S hr hlk hI hf dX4_read_25
  · refine lv_iload_n hx hb dX4_read_7 rfl (lv_at hl 2 rfl) ?_
    refine lv_iconst (v := 0) hx hb dX4_read_8 (by decide) ?_
    refine lv_aload_n hx hb dX4_read_9 rfl (lv_at hl 0 rfl) ?_
    refine lv_iload_n hx hb dX4_read_10 rfl (lv_at hl 1 rfl) ?_
    refine tk_bd2 hf (fun r2 s3 hq hf => ?_)
    refine tk_vI S hI hl.1 (c_X4_lengthOf l G st x1 hq) (cwV 1 hts (tk_gV mw_329 mw_330 mw_331 mw_5 mw_332) rfl rfl rfl yd_X4_lengthOf ⟨Nat.le_of_ble_eq_true rfl, Nat.le_of_ble_eq_true rfl⟩) 19 4 rfl rfl rfl rfl [.int (0 : Int32), .int x2] rfl (Nat.le_of_ble_eq_true rfl) dX4_read_11 (fun H locs hI => ?_)
    refine lv_iconst (v := 1) hx hb dX4_read_14 (by decide) ?_
    refine lv_isub hx hb dX4_read_15 ?_
    refine tk_bd hf (fun r4 hq hf => ?_)
    refine tk_sI S hI hl.1 (c_X4_within l G s3 x2 (0 : Int32) (r2 - (1 : Int32)) hq) (va_cwS 3 hts (tk_gS mw_95 mw_96 mw_5 mw_97) rfl rfl rfl yd_X4_within ⟨Nat.le_of_ble_eq_true rfl, Nat.le_of_ble_eq_true rfl⟩) rfl [] rfl (Nat.le_of_ble_eq_true rfl) dX4_read_16 (fun H locs hI => ?_)
    refine tk_if_ne (tgt := 26) hx hb hf dX4_read_19 (by decide) (fun hf => ?_) (fun hf => ?_)
    · refine lv_iload_n hx hb dX4_read_26 rfl (lv_at hl 3 rfl) ?_
      refine lv_iconst (v := 0) hx hb dX4_read_27 (by decide) ?_
      refine lv_iconst (v := 5) hx hb dX4_read_28 (by decide) ?_
      refine tk_bd hf (fun r5 hq hf => ?_)
      refine tk_sI S hI hl.1 (c_X4_within l G s3 x3 (0 : Int32) (5 : Int32) hq) (va_cwS 3 hts (tk_gS mw_95 mw_96 mw_5 mw_97) rfl rfl rfl yd_X4_within ⟨Nat.le_of_ble_eq_true rfl, Nat.le_of_ble_eq_true rfl⟩) rfl [] rfl (Nat.le_of_ble_eq_true rfl) dX4_read_29 (fun H locs hI => ?_)
      refine tk_if_eq (tgt := 49) hx hb hf dX4_read_32 (by decide) (fun hf => ?_) (fun hf => ?_)
      · refine lv_sipush (v := -1002) hx hb dX4_read_49 (by decide) ?_
        exact tk_riW S hr hlk hI hf dX4_read_52
      · refine lv_aload_n hx hb dX4_read_35 rfl (lv_at hl 0 rfl) ?_
        refine lv_aload_n hx hb dX4_read_36 rfl (lv_at hl 0 rfl) ?_
        refine tg_X4_22 S hI mw_80 dX4_read_37 ?_
        refine lv_iload_n hx hb dX4_read_40 rfl (lv_at hl 2 rfl) ?_
        refine tk_iald S hI (k := 35) (n := 64) rfl hf dX4_read_41 (fun v6 hf => ?_)
        refine lv_iload_n hx hb dX4_read_42 rfl (lv_at hl 3 rfl) ?_
        refine tk_bd hf (fun r7 hq hf => ?_)
        refine tk_vI S hI hl.1 (c_X4_readNow l G s3 v6 x3 hq) (cwV 2 hts (tk_gV mw_350 mw_351 mw_352 mw_5 mw_353) rfl rfl rfl yd_X4_readNow ⟨Nat.le_of_ble_eq_true rfl, Nat.le_of_ble_eq_true rfl⟩) 19 4 rfl rfl rfl rfl [] rfl (Nat.le_of_ble_eq_true rfl) dX4_read_43 (fun H locs hI => ?_)
        refine lv_goto (tgt := 52) hx hb dX4_read_46 (by decide) ?_
        exact tk_riW S hr hlk hI hf dX4_read_52
    · refine lv_sipush (v := -1001) hx hb dX4_read_22 (by decide) ?_
      exact tk_riW S hr hlk hI hf dX4_read_25
/-! X4_isAt -/
abbrev rm_X4_isAt : Room := { frames := 3, cells := 0, slots := 0, locals := 68 }
def f_X4_isAt (x1 : Int32) (x2 : Int32) (st : tST) : Option (Int32) := tal 90 (tg_A st 29) x1 (fun v1 => (f_X4_isThere v1 x2 st).bind (fun r2 => (if r2 = 0 then tzr (0 : Int32) (some (0 : Int32)) else (f_X4_standsAt v1 x2 st).bind (fun r3 => (if r3 = x1 then tzr (1 : Int32) (some (1 : Int32)) else tzr (0 : Int32) (some (0 : Int32)))))))
theorem yd_X4_isAt : yX4_isAt.cls = RX4 ∧ yX4_isAt.cls ≠ "java/lang/invoke/MethodHandle" ∧ yX4_isAt.cls ≠ "java/lang/invoke/VarHandle" ∧ (parseMethodDescriptor yX4_isAt.desc).map (fun d => d.parameters.length) = some 2 := by decide +kernel
set_option maxHeartbeats 4000000 in
set_option maxRecDepth 100000 in
theorem c_X4_isAt (l : Launch) (G : tG) (st : tST) (x1 : Int32) (x2 : Int32) {r : Int32} (hf : f_X4_isAt x1 x2 st = some r) : tCI l G yX4_isAt cX4_isAt 4 (some .boolean) rm_X4_isAt [.ref (tad G 19), .int x1, .int x2] st r st := by
  refine tk_entI (by decide +kernel) (Nat.le_of_ble_eq_true rfl) (fun p e s m below meth c ls S hr hlk hI hl => ?_)
  have hl : lv_has ls 4 [(0, .ref (tad G 19)), (1, .int x1), (2, .int x2)] := hl
  have S : CallFix p m c cX4_isAt 4 s [.ref (tad G 19), .int x1, .int x2].toArray wsL_law RX4 := S
  have hx := S.1
  have hb := S.2.1
  have hown := S.2.2.2.1
  have hts := S.2.2.2.2
  unfold f_X4_isAt at hf
  refine lv_aload_n hx hb dX4_isAt_0 rfl (lv_at hl 0 rfl) ?_
  refine tg_X4_13 S hI mw_74 dX4_isAt_1 ?_
  refine lv_iload_n hx hb dX4_isAt_4 rfl (lv_at hl 1 rfl) ?_
  refine tk_iald S hI (k := 29) (n := 90) rfl hf dX4_isAt_5 (fun v1 hf => ?_)
  refine lv_istore_n (lv' := [(3, .int v1), (0, .ref (tad G 19)), (1, .int x1), (2, .int x2)]) hx hb dX4_isAt_6 rfl hl (by decide) rfl (fun ls hl => ?_)
  refine lv_aload_n hx hb dX4_isAt_7 rfl (lv_at hl 1 rfl) ?_
  refine lv_iload_n hx hb dX4_isAt_8 rfl (lv_at hl 0 rfl) ?_
  refine lv_iload_n hx hb dX4_isAt_9 rfl (lv_at hl 3 rfl) ?_
  refine tk_bd hf (fun r2 hq hf => ?_)
  refine tk_vI S hI hl.1 (c_X4_isThere l G st v1 x2 hq) (cwV 2 hts (tk_gV mw_225 mw_226 mw_227 mw_5 mw_228) rfl rfl rfl yd_X4_isThere ⟨Nat.le_of_ble_eq_true rfl, Nat.le_of_ble_eq_true rfl⟩) 19 4 rfl rfl rfl rfl [] rfl (Nat.le_of_ble_eq_true rfl) dX4_isAt_10 (fun H locs hI => ?_)
  refine tk_if_eq (tgt := 30) hx hb hf dX4_isAt_13 (by decide) (fun hf => ?_) (fun hf => ?_)
  · refine lv_iconst (v := 0) hx hb dX4_isAt_30 (by decide) ?_
    exact tk_rzR S hr hlk hI hf dX4_isAt_31
  · refine lv_aload_n hx hb dX4_isAt_16 rfl (lv_at hl 1 rfl) ?_
    refine lv_iload_n hx hb dX4_isAt_17 rfl (lv_at hl 0 rfl) ?_
    refine lv_iload_n hx hb dX4_isAt_18 rfl (lv_at hl 3 rfl) ?_
    refine tk_bd hf (fun r3 hq hf => ?_)
    refine tk_vI S hI hl.1 (c_X4_standsAt l G st v1 x2 hq) (cwV 2 hts (tk_gV mw_232 mw_233 mw_234 mw_5 mw_235) rfl rfl rfl yd_X4_standsAt ⟨Nat.le_of_ble_eq_true rfl, Nat.le_of_ble_eq_true rfl⟩) 19 4 rfl rfl rfl rfl [] rfl (Nat.le_of_ble_eq_true rfl) dX4_isAt_19 (fun H locs hI => ?_)
    refine lv_iload_n hx hb dX4_isAt_22 rfl (lv_at hl 2 rfl) ?_
    refine tk_icmp_ne (tgt := 30) hx hb hf dX4_isAt_23 (by decide) (fun hf => ?_) (fun hf => ?_)
    · refine lv_iconst (v := 0) hx hb dX4_isAt_30 (by decide) ?_
      exact tk_rzR S hr hlk hI hf dX4_isAt_31
    · refine lv_iconst (v := 1) hx hb dX4_isAt_26 (by decide) ?_
      refine lv_goto (tgt := 31) hx hb dX4_isAt_27 (by decide) ?_
      exact tk_rzR S hr hlk hI hf dX4_isAt_31
/-! X4_markOf -/
abbrev rm_X4_markOf : Room := { frames := 4, cells := 0, slots := 0, locals := 91 }
def f_X4_markOf (x1 : Int32) (st : tST) : Option (Int32) := (f_X4_setOf (0 : Int32) st).bind (fun r1 => (f_X4_isAt x1 r1 st).bind (fun r2 => (f_X4_setOf (1 : Int32) st).bind (fun r3 => (f_X4_isAt x1 r3 st).bind (fun r4 => (if r2 = 0 then (if r4 = 0 then (if r2 = 0 then some (3 : Int32) else some (2 : Int32)) else some (1 : Int32)) else (if r4 = 0 then (if r4 = 0 then (if r2 = 0 then some (3 : Int32) else some (2 : Int32)) else some (1 : Int32)) else some (0 : Int32)))))))
theorem yd_X4_markOf : yX4_markOf.cls = RX4 ∧ yX4_markOf.cls ≠ "java/lang/invoke/MethodHandle" ∧ yX4_markOf.cls ≠ "java/lang/invoke/VarHandle" ∧ (parseMethodDescriptor yX4_markOf.desc).map (fun d => d.parameters.length) = some 1 := by decide +kernel
set_option maxHeartbeats 4000000 in
set_option maxRecDepth 100000 in
theorem c_X4_markOf (l : Launch) (G : tG) (st : tST) (x1 : Int32) {r : Int32} (hf : f_X4_markOf x1 st = some r) : tCI l G yX4_markOf cX4_markOf 4 (some .int) rm_X4_markOf [.ref (tad G 19), .int x1] st r st := by
  refine tk_entI (by decide +kernel) (Nat.le_of_ble_eq_true rfl) (fun p e s m below meth c ls S hr hlk hI hl => ?_)
  have hl : lv_has ls 4 [(0, .ref (tad G 19)), (1, .int x1)] := hl
  have S : CallFix p m c cX4_markOf 4 s [.ref (tad G 19), .int x1].toArray wsL_law RX4 := S
  have hx := S.1
  have hb := S.2.1
  have hown := S.2.2.2.1
  have hts := S.2.2.2.2
  unfold f_X4_markOf at hf
  refine lv_aload_n hx hb dX4_markOf_0 rfl (lv_at hl 0 rfl) ?_
  refine lv_iload_n hx hb dX4_markOf_1 rfl (lv_at hl 1 rfl) ?_
  refine lv_aload_n hx hb dX4_markOf_2 rfl (lv_at hl 0 rfl) ?_
  refine lv_iconst (v := 0) hx hb dX4_markOf_3 (by decide) ?_
  refine tk_bd hf (fun r1 hq hf => ?_)
  refine tk_vI S hI hl.1 (c_X4_setOf l G st (0 : Int32) hq) (cwV 1 hts (tk_gV mw_217 mw_218 mw_219 mw_5 mw_220) rfl rfl rfl yd_X4_setOf ⟨Nat.le_of_ble_eq_true rfl, Nat.le_of_ble_eq_true rfl⟩) 19 4 rfl rfl rfl rfl [.int x1, .ref (tad G 19)] rfl (Nat.le_of_ble_eq_true rfl) dX4_markOf_4 (fun H locs hI => ?_)
  refine tk_bd hf (fun r2 hq hf => ?_)
  refine tk_vI S hI hl.1 (c_X4_isAt l G st x1 r1 hq) (cwV 2 hts (tk_gV mw_386 mw_387 mw_388 mw_5 mw_389) rfl rfl rfl yd_X4_isAt ⟨Nat.le_of_ble_eq_true rfl, Nat.le_of_ble_eq_true rfl⟩) 19 4 rfl rfl rfl rfl [] rfl (Nat.le_of_ble_eq_true rfl) dX4_markOf_7 (fun H locs hI => ?_)
  refine lv_istore_n (lv' := [(2, .int r2), (0, .ref (tad G 19)), (1, .int x1)]) hx hb dX4_markOf_10 rfl hl (by decide) rfl (fun ls hl => ?_)
  refine lv_aload_n hx hb dX4_markOf_11 rfl (lv_at hl 1 rfl) ?_
  refine lv_iload_n hx hb dX4_markOf_12 rfl (lv_at hl 2 rfl) ?_
  refine lv_aload_n hx hb dX4_markOf_13 rfl (lv_at hl 1 rfl) ?_
  refine lv_iconst (v := 1) hx hb dX4_markOf_14 (by decide) ?_
  refine tk_bd hf (fun r3 hq hf => ?_)
  refine tk_vI S hI hl.1 (c_X4_setOf l G st (1 : Int32) hq) (cwV 1 hts (tk_gV mw_217 mw_218 mw_219 mw_5 mw_220) rfl rfl rfl yd_X4_setOf ⟨Nat.le_of_ble_eq_true rfl, Nat.le_of_ble_eq_true rfl⟩) 19 4 rfl rfl rfl rfl [.int x1, .ref (tad G 19)] rfl (Nat.le_of_ble_eq_true rfl) dX4_markOf_15 (fun H locs hI => ?_)
  refine tk_bd hf (fun r4 hq hf => ?_)
  refine tk_vI S hI hl.1 (c_X4_isAt l G st x1 r3 hq) (cwV 2 hts (tk_gV mw_386 mw_387 mw_388 mw_5 mw_389) rfl rfl rfl yd_X4_isAt ⟨Nat.le_of_ble_eq_true rfl, Nat.le_of_ble_eq_true rfl⟩) 19 4 rfl rfl rfl rfl [] rfl (Nat.le_of_ble_eq_true rfl) dX4_markOf_18 (fun H locs hI => ?_)
  refine lv_istore_n (lv' := [(3, .int r4), (2, .int r2), (0, .ref (tad G 19)), (1, .int x1)]) hx hb dX4_markOf_21 rfl hl (by decide) rfl (fun ls hl => ?_)
  refine lv_iload_n hx hb dX4_markOf_22 rfl (lv_at hl 1 rfl) ?_
  refine tk_if_eq (tgt := 34) hx hb hf dX4_markOf_23 (by decide) (fun hf => ?_) (fun hf => ?_)
  · refine lv_iload_n hx hb dX4_markOf_34 rfl (lv_at hl 0 rfl) ?_
    refine tk_if_eq (tgt := 42) hx hb hf dX4_markOf_35 (by decide) (fun hf => ?_) (fun hf => ?_)
    · refine lv_iload_n hx hb dX4_markOf_42 rfl (lv_at hl 1 rfl) ?_
      refine tk_if_eq (tgt := 50) hx hb hf dX4_markOf_43 (by decide) (fun hf => ?_) (fun hf => ?_)
      · refine lv_iconst (v := 3) hx hb dX4_markOf_50 (by decide) ?_
        exact tk_riR S hr hlk hI hf dX4_markOf_51
      · refine lv_iconst (v := 2) hx hb dX4_markOf_46 (by decide) ?_
        refine lv_goto (tgt := 51) hx hb dX4_markOf_47 (by decide) ?_
        exact tk_riR S hr hlk hI hf dX4_markOf_51
    · refine lv_iconst (v := 1) hx hb dX4_markOf_38 (by decide) ?_
      refine lv_goto (tgt := 51) hx hb dX4_markOf_39 (by decide) ?_
      exact tk_riR S hr hlk hI hf dX4_markOf_51
  · refine lv_iload_n hx hb dX4_markOf_26 rfl (lv_at hl 0 rfl) ?_
    refine tk_if_eq (tgt := 34) hx hb hf dX4_markOf_27 (by decide) (fun hf => ?_) (fun hf => ?_)
    · refine lv_iload_n hx hb dX4_markOf_34 rfl (lv_at hl 0 rfl) ?_
      refine tk_if_eq (tgt := 42) hx hb hf dX4_markOf_35 (by decide) (fun hf => ?_) (fun hf => ?_)
      · refine lv_iload_n hx hb dX4_markOf_42 rfl (lv_at hl 1 rfl) ?_
        refine tk_if_eq (tgt := 50) hx hb hf dX4_markOf_43 (by decide) (fun hf => ?_) (fun hf => ?_)
        · refine lv_iconst (v := 3) hx hb dX4_markOf_50 (by decide) ?_
          exact tk_riR S hr hlk hI hf dX4_markOf_51
        · refine lv_iconst (v := 2) hx hb dX4_markOf_46 (by decide) ?_
          refine lv_goto (tgt := 51) hx hb dX4_markOf_47 (by decide) ?_
          exact tk_riR S hr hlk hI hf dX4_markOf_51
      · refine lv_iconst (v := 1) hx hb dX4_markOf_38 (by decide) ?_
        refine lv_goto (tgt := 51) hx hb dX4_markOf_39 (by decide) ?_
        exact tk_riR S hr hlk hI hf dX4_markOf_51
    · refine lv_iconst (v := 0) hx hb dX4_markOf_30 (by decide) ?_
      refine lv_goto (tgt := 51) hx hb dX4_markOf_31 (by decide) ?_
      exact tk_riR S hr hlk hI hf dX4_markOf_51
/-! X4_placeNow -/
abbrev rm_X4_placeNow : Room := { frames := 5, cells := 0, slots := 0, locals := 114 }
def f_X4_placeNow (x1 : Int32) (x2 : Int32) (st : tST) : Option (Int32) := (if x2 = (0 : Int32) then tal 90 (tg_A st 29) x1 (fun v1 => some v1) else (if x2 = (1 : Int32) then tal 90 (tg_A st 30) x1 (fun v2 => (if v2 = (-1 : Int32) then some (-1 : Int32) else tal 90 (tg_A st 30) x1 (fun v3 => (f_X4_inLine v3 st).bind (fun r4 => some r4)))) else (if x2 = (2 : Int32) then tal 90 (tg_A st 31) x1 (fun v5 => some v5) else (f_X4_markOf x1 st).bind (fun r6 => some r6))))
theorem yd_X4_placeNow : yX4_placeNow.cls = RX4 ∧ yX4_placeNow.cls ≠ "java/lang/invoke/MethodHandle" ∧ yX4_placeNow.cls ≠ "java/lang/invoke/VarHandle" ∧ (parseMethodDescriptor yX4_placeNow.desc).map (fun d => d.parameters.length) = some 2 := by decide +kernel
set_option maxHeartbeats 4000000 in
set_option maxRecDepth 100000 in
theorem c_X4_placeNow (l : Launch) (G : tG) (st : tST) (x1 : Int32) (x2 : Int32) {r : Int32} (hf : f_X4_placeNow x1 x2 st = some r) : tCI l G yX4_placeNow cX4_placeNow 3 (some .int) rm_X4_placeNow [.ref (tad G 19), .int x1, .int x2] st r st := by
  refine tk_entI (by decide +kernel) (Nat.le_of_ble_eq_true rfl) (fun p e s m below meth c ls S hr hlk hI hl => ?_)
  have hl : lv_has ls 3 [(0, .ref (tad G 19)), (1, .int x1), (2, .int x2)] := hl
  have S : CallFix p m c cX4_placeNow 3 s [.ref (tad G 19), .int x1, .int x2].toArray wsL_law RX4 := S
  have hx := S.1
  have hb := S.2.1
  have hown := S.2.2.2.1
  have hts := S.2.2.2.2
  unfold f_X4_placeNow at hf
  refine lv_iload_n hx hb dX4_placeNow_0 rfl (lv_at hl 2 rfl) ?_
  refine tk_if hf (fun c1_0 hf => ?_) (fun c1_0 hf => ?_)
  · refine lv_tableIn (off := 27) (tgt := 28) hx hb dX4_placeNow_1 (by rw [c1_0]; decide) (by rw [c1_0]; decide) (by rw [c1_0]; rfl) (by decide) ?_
    refine lv_aload_n hx hb dX4_placeNow_28 rfl (lv_at hl 0 rfl) ?_
    refine tg_X4_13 S hI mw_74 dX4_placeNow_29 ?_
    refine lv_iload_n hx hb dX4_placeNow_32 rfl (lv_at hl 1 rfl) ?_
    refine tk_iald S hI (k := 29) (n := 90) rfl hf dX4_placeNow_33 (fun v1 hf => ?_)
    exact tk_riR S hr hlk hI hf dX4_placeNow_34
  refine tk_if hf (fun c1_1 hf => ?_) (fun c1_1 hf => ?_)
  · refine lv_tableIn (off := 34) (tgt := 35) hx hb dX4_placeNow_1 (by rw [c1_1]; decide) (by rw [c1_1]; decide) (by rw [c1_1]; rfl) (by decide) ?_
    refine lv_aload_n hx hb dX4_placeNow_35 rfl (lv_at hl 0 rfl) ?_
    refine tg_X4_14 S hI mw_75 dX4_placeNow_36 ?_
    refine lv_iload_n hx hb dX4_placeNow_39 rfl (lv_at hl 1 rfl) ?_
    refine tk_iald S hI (k := 30) (n := 90) rfl hf dX4_placeNow_40 (fun v2 hf => ?_)
    refine lv_iconst (v := -1) hx hb dX4_placeNow_41 (by decide) ?_
    refine tk_icmp_ne (tgt := 49) hx hb hf dX4_placeNow_42 (by decide) (fun hf => ?_) (fun hf => ?_)
    · refine lv_aload_n hx hb dX4_placeNow_49 rfl (lv_at hl 0 rfl) ?_
      refine lv_aload_n hx hb dX4_placeNow_50 rfl (lv_at hl 0 rfl) ?_
      refine tg_X4_14 S hI mw_75 dX4_placeNow_51 ?_
      refine lv_iload_n hx hb dX4_placeNow_54 rfl (lv_at hl 1 rfl) ?_
      refine tk_iald S hI (k := 30) (n := 90) rfl hf dX4_placeNow_55 (fun v3 hf => ?_)
      refine tk_bd hf (fun r4 hq hf => ?_)
      refine tk_vI S hI hl.1 (c_X4_inLine l G st v3 hq) (cwV 1 hts (tk_gV mw_244 mw_245 mw_246 mw_5 mw_247) rfl rfl rfl yd_X4_inLine ⟨Nat.le_of_ble_eq_true rfl, Nat.le_of_ble_eq_true rfl⟩) 19 4 rfl rfl rfl rfl [] rfl (Nat.le_of_ble_eq_true rfl) dX4_placeNow_56 (fun H locs hI => ?_)
      exact tk_riR S hr hlk hI hf dX4_placeNow_59
    · refine lv_iconst (v := -1) hx hb dX4_placeNow_45 (by decide) ?_
      refine lv_goto (tgt := 59) hx hb dX4_placeNow_46 (by decide) ?_
      exact tk_riR S hr hlk hI hf dX4_placeNow_59
  refine tk_if hf (fun c1_2 hf => ?_) (fun c1_2 hf => ?_)
  · refine lv_tableIn (off := 59) (tgt := 60) hx hb dX4_placeNow_1 (by rw [c1_2]; decide) (by rw [c1_2]; decide) (by rw [c1_2]; rfl) (by decide) ?_
    refine lv_aload_n hx hb dX4_placeNow_60 rfl (lv_at hl 0 rfl) ?_
    refine tg_X4_15 S hI mw_76 dX4_placeNow_61 ?_
    refine lv_iload_n hx hb dX4_placeNow_64 rfl (lv_at hl 1 rfl) ?_
    refine tk_iald S hI (k := 31) (n := 90) rfl hf dX4_placeNow_65 (fun v5 hf => ?_)
    exact tk_riR S hr hlk hI hf dX4_placeNow_66
  refine lv_tableOut (tgt := 67) hx hb dX4_placeNow_1 (by have := lv_neT c1_0 (a := 0) (by decide); have := lv_neT c1_1 (a := 1) (by decide); have := lv_neT c1_2 (a := 2) (by decide); omega) (by decide) ?_
  refine lv_aload_n hx hb dX4_placeNow_67 rfl (lv_at hl 0 rfl) ?_
  refine lv_iload_n hx hb dX4_placeNow_68 rfl (lv_at hl 1 rfl) ?_
  refine tk_bd hf (fun r6 hq hf => ?_)
  refine tk_vI S hI hl.1 (c_X4_markOf l G st x1 hq) (cwV 1 hts (tk_gV mw_382 mw_383 mw_384 mw_5 mw_385) rfl rfl rfl yd_X4_markOf ⟨Nat.le_of_ble_eq_true rfl, Nat.le_of_ble_eq_true rfl⟩) 19 4 rfl rfl rfl rfl [] rfl (Nat.le_of_ble_eq_true rfl) dX4_placeNow_69 (fun H locs hI => ?_)
  exact tk_riR S hr hlk hI hf dX4_placeNow_72
/-! X4_place -/
abbrev rm_X4_place : Room := { frames := 6, cells := 0, slots := 0, locals := 136 }
def f_X4_place (x1 : Int32) (x2 : Int32) (st : tST) : Option (Int32) := (f_X4_within x1 (0 : Int32) ((tg_I st 112) - (1 : Int32))).bind (fun r1 => (if r1 = 0 then some (-1001 : Int32) else (f_X4_within x2 (0 : Int32) (3 : Int32)).bind (fun r2 => (if r2 = 0 then some (-1002 : Int32) else tal 90 (tg_A st 32) x1 (fun v3 => (f_X4_placeNow v3 x2 st).bind (fun r4 => some r4))))))
theorem yd_X4_place : yX4_place.cls = RX4 ∧ yX4_place.cls ≠ "java/lang/invoke/MethodHandle" ∧ yX4_place.cls ≠ "java/lang/invoke/VarHandle" ∧ (parseMethodDescriptor yX4_place.desc).map (fun d => d.parameters.length) = some 2 := by decide +kernel
set_option maxHeartbeats 4000000 in
set_option maxRecDepth 100000 in
theorem c_X4_place (l : Launch) (G : tG) (st : tST) (x1 : Int32) (x2 : Int32) {r : Int32} (hf : f_X4_place x1 x2 st = some r) : tCI l G yX4_place cX4_place 3 (some .int) rm_X4_place [.ref (tad G 19), .int x1, .int x2] st r st := by
  refine tk_entI (by decide +kernel) (Nat.le_of_ble_eq_true rfl) (fun p e s m below meth c ls S hr hlk hI hl => ?_)
  have hl : lv_has ls 3 [(0, .ref (tad G 19)), (1, .int x1), (2, .int x2)] := hl
  have S : CallFix p m c cX4_place 3 s [.ref (tad G 19), .int x1, .int x2].toArray wsL_law RX4 := S
  have hx := S.1
  have hb := S.2.1
  have hown := S.2.2.2.1
  have hts := S.2.2.2.2
  unfold f_X4_place at hf
  refine lv_iload_n hx hb dX4_place_0 rfl (lv_at hl 1 rfl) ?_
  refine lv_iconst (v := 0) hx hb dX4_place_1 (by decide) ?_
  refine lv_aload_n hx hb dX4_place_2 rfl (lv_at hl 0 rfl) ?_
  refine tg_X4_12 S hI mw_137 dX4_place_3 ?_
  refine lv_iconst (v := 1) hx hb dX4_place_6 (by decide) ?_
  refine lv_isub hx hb dX4_place_7 ?_
  refine tk_bd hf (fun r1 hq hf => ?_)
  refine tk_sI S hI hl.1 (c_X4_within l G st x1 (0 : Int32) ((tg_I st 112) - (1 : Int32)) hq) (va_cwS 3 hts (tk_gS mw_95 mw_96 mw_5 mw_97) rfl rfl rfl yd_X4_within ⟨Nat.le_of_ble_eq_true rfl, Nat.le_of_ble_eq_true rfl⟩) rfl [] rfl (Nat.le_of_ble_eq_true rfl) dX4_place_8 (fun H locs hI => ?_)
  refine tk_if_ne (tgt := 18) hx hb hf dX4_place_11 (by decide) (fun hf => ?_) (fun hf => ?_)
  · refine lv_iload_n hx hb dX4_place_18 rfl (lv_at hl 2 rfl) ?_
    refine lv_iconst (v := 0) hx hb dX4_place_19 (by decide) ?_
    refine lv_iconst (v := 3) hx hb dX4_place_20 (by decide) ?_
    refine tk_bd hf (fun r2 hq hf => ?_)
    refine tk_sI S hI hl.1 (c_X4_within l G st x2 (0 : Int32) (3 : Int32) hq) (va_cwS 3 hts (tk_gS mw_95 mw_96 mw_5 mw_97) rfl rfl rfl yd_X4_within ⟨Nat.le_of_ble_eq_true rfl, Nat.le_of_ble_eq_true rfl⟩) rfl [] rfl (Nat.le_of_ble_eq_true rfl) dX4_place_21 (fun H locs hI => ?_)
    refine tk_if_eq (tgt := 41) hx hb hf dX4_place_24 (by decide) (fun hf => ?_) (fun hf => ?_)
    · refine lv_sipush (v := -1002) hx hb dX4_place_41 (by decide) ?_
      exact tk_riR S hr hlk hI hf dX4_place_44
    · refine lv_aload_n hx hb dX4_place_27 rfl (lv_at hl 0 rfl) ?_
      refine lv_aload_n hx hb dX4_place_28 rfl (lv_at hl 0 rfl) ?_
      refine tg_X4_16 S hI mw_77 dX4_place_29 ?_
      refine lv_iload_n hx hb dX4_place_32 rfl (lv_at hl 1 rfl) ?_
      refine tk_iald S hI (k := 32) (n := 90) rfl hf dX4_place_33 (fun v3 hf => ?_)
      refine lv_iload_n hx hb dX4_place_34 rfl (lv_at hl 2 rfl) ?_
      refine tk_bd hf (fun r4 hq hf => ?_)
      refine tk_vI S hI hl.1 (c_X4_placeNow l G st v3 x2 hq) (cwV 2 hts (tk_gV mw_378 mw_379 mw_380 mw_5 mw_381) rfl rfl rfl yd_X4_placeNow ⟨Nat.le_of_ble_eq_true rfl, Nat.le_of_ble_eq_true rfl⟩) 19 4 rfl rfl rfl rfl [] rfl (Nat.le_of_ble_eq_true rfl) dX4_place_35 (fun H locs hI => ?_)
      refine lv_goto (tgt := 44) hx hb dX4_place_38 (by decide) ?_
      exact tk_riR S hr hlk hI hf dX4_place_44
  · refine lv_sipush (v := -1001) hx hb dX4_place_14 (by decide) ?_
    exact tk_riR S hr hlk hI hf dX4_place_17
/-! X4_isTouched -/
abbrev rm_X4_isTouched : Room := { frames := 1, cells := 0, slots := 0, locals := 23 }
def f_X4_isTouched (x1 : Int32) (x2 : Int32) (st : tST) : Option (Int32) := tal 64 (tg_A st 22) x1 (fun v1 => (if v1 = x2 then tzr (1 : Int32) (some (1 : Int32)) else tal 64 (tg_A st 24) x1 (fun v2 => (f_X4_has v2 x2).bind (fun r3 => (if r3 = 0 then (f_X4_movedBy x1 st).bind (fun r4 => (f_X4_has r4 x2).bind (fun r5 => (if r5 = 0 then tzr (0 : Int32) (some (0 : Int32)) else tzr (1 : Int32) (some (1 : Int32))))) else tzr (1 : Int32) (some (1 : Int32)))))))
theorem yd_X4_isTouched : yX4_isTouched.cls = RX4 ∧ yX4_isTouched.cls ≠ "java/lang/invoke/MethodHandle" ∧ yX4_isTouched.cls ≠ "java/lang/invoke/VarHandle" ∧ (parseMethodDescriptor yX4_isTouched.desc).map (fun d => d.parameters.length) = some 2 := by decide +kernel
set_option maxHeartbeats 4000000 in
set_option maxRecDepth 100000 in
theorem c_X4_isTouched (l : Launch) (G : tG) (st : tST) (x1 : Int32) (x2 : Int32) {r : Int32} (hf : f_X4_isTouched x1 x2 st = some r) : tCI l G yX4_isTouched cX4_isTouched 3 (some .boolean) rm_X4_isTouched [.ref (tad G 19), .int x1, .int x2] st r st := by
  refine tk_entI (by decide +kernel) (Nat.le_of_ble_eq_true rfl) (fun p e s m below meth c ls S hr hlk hI hl => ?_)
  have hl : lv_has ls 3 [(0, .ref (tad G 19)), (1, .int x1), (2, .int x2)] := hl
  have S : CallFix p m c cX4_isTouched 3 s [.ref (tad G 19), .int x1, .int x2].toArray wsL_law RX4 := S
  have hx := S.1
  have hb := S.2.1
  have hown := S.2.2.2.1
  have hts := S.2.2.2.2
  unfold f_X4_isTouched at hf
  refine lv_aload_n hx hb dX4_isTouched_0 rfl (lv_at hl 0 rfl) ?_
  refine tg_X4_4 S hI mw_66 dX4_isTouched_1 ?_
  refine lv_iload_n hx hb dX4_isTouched_4 rfl (lv_at hl 1 rfl) ?_
  refine tk_iald S hI (k := 22) (n := 64) rfl hf dX4_isTouched_5 (fun v1 hf => ?_)
  refine lv_iload_n hx hb dX4_isTouched_6 rfl (lv_at hl 2 rfl) ?_
  refine tk_icmp_eq (tgt := 35) hx hb hf dX4_isTouched_7 (by decide) (fun hf => ?_) (fun hf => ?_)
  · refine lv_iconst (v := 1) hx hb dX4_isTouched_35 (by decide) ?_
    refine lv_goto (tgt := 40) hx hb dX4_isTouched_36 (by decide) ?_
    exact tk_rzR S hr hlk hI hf dX4_isTouched_40
  · refine lv_aload_n hx hb dX4_isTouched_10 rfl (lv_at hl 0 rfl) ?_
    refine tg_X4_6 S hI mw_68 dX4_isTouched_11 ?_
    refine lv_iload_n hx hb dX4_isTouched_14 rfl (lv_at hl 1 rfl) ?_
    refine tk_iald S hI (k := 24) (n := 64) rfl hf dX4_isTouched_15 (fun v2 hf => ?_)
    refine lv_iload_n hx hb dX4_isTouched_16 rfl (lv_at hl 2 rfl) ?_
    refine tk_bd hf (fun r3 hq hf => ?_)
    refine tk_sI S hI hl.1 (c_X4_has l G st v2 x2 hq) (va_cwS 2 hts (tk_gS mw_229 mw_230 mw_5 mw_231) rfl rfl rfl yd_X4_has ⟨Nat.le_of_ble_eq_true rfl, Nat.le_of_ble_eq_true rfl⟩) rfl [] rfl (Nat.le_of_ble_eq_true rfl) dX4_isTouched_17 (fun H locs hI => ?_)
    refine tk_if_ne (tgt := 35) hx hb hf dX4_isTouched_20 (by decide) (fun hf => ?_) (fun hf => ?_)
    · refine lv_iconst (v := 1) hx hb dX4_isTouched_35 (by decide) ?_
      refine lv_goto (tgt := 40) hx hb dX4_isTouched_36 (by decide) ?_
      exact tk_rzR S hr hlk hI hf dX4_isTouched_40
    · refine lv_aload_n hx hb dX4_isTouched_23 rfl (lv_at hl 0 rfl) ?_
      refine lv_iload_n hx hb dX4_isTouched_24 rfl (lv_at hl 1 rfl) ?_
      refine tk_bd hf (fun r4 hq hf => ?_)
      refine tk_vI S hI hl.1 (c_X4_movedBy l G st x1 hq) (cwV 1 hts (tk_gV mw_357 mw_358 mw_359 mw_5 mw_360) rfl rfl rfl yd_X4_movedBy ⟨Nat.le_of_ble_eq_true rfl, Nat.le_of_ble_eq_true rfl⟩) 19 4 rfl rfl rfl rfl [] rfl (Nat.le_of_ble_eq_true rfl) dX4_isTouched_25 (fun H locs hI => ?_)
      refine lv_iload_n hx hb dX4_isTouched_28 rfl (lv_at hl 2 rfl) ?_
      refine tk_bd hf (fun r5 hq hf => ?_)
      refine tk_sI S hI hl.1 (c_X4_has l G st r4 x2 hq) (va_cwS 2 hts (tk_gS mw_229 mw_230 mw_5 mw_231) rfl rfl rfl yd_X4_has ⟨Nat.le_of_ble_eq_true rfl, Nat.le_of_ble_eq_true rfl⟩) rfl [] rfl (Nat.le_of_ble_eq_true rfl) dX4_isTouched_29 (fun H locs hI => ?_)
      refine tk_if_eq (tgt := 39) hx hb hf dX4_isTouched_32 (by decide) (fun hf => ?_) (fun hf => ?_)
      · refine lv_iconst (v := 0) hx hb dX4_isTouched_39 (by decide) ?_
        exact tk_rzR S hr hlk hI hf dX4_isTouched_40
      · refine lv_iconst (v := 1) hx hb dX4_isTouched_35 (by decide) ?_
        refine lv_goto (tgt := 40) hx hb dX4_isTouched_36 (by decide) ?_
        exact tk_rzR S hr hlk hI hf dX4_isTouched_40
/-! X4_isIdle -/
abbrev rm_X4_isIdle : Room := { frames := 3, cells := 0, slots := 0, locals := 68 }
def f_X4_isIdle (x1 : Int32) (x2 : Int32) (st : tST) : Option (Int32) := (f_X4_setOf (1 : Int32) st).bind (fun r1 => tlet (r1 &&& (((1 : Int32) <<< (x2 &&& (31 : Int32))) ^^^ (-1 : Int32))) (fun i2 => tlet (i2 ||| ((1 : Int32) <<< (x2 &&& (31 : Int32)))) (fun i3 => (f_X4_isThere x1 i3 st).bind (fun r4 => (f_X4_isThere x1 i2 st).bind (fun r5 => (if r4 = r5 then (if r4 = 0 then tzr (1 : Int32) (some (1 : Int32)) else (f_X4_standsAt x1 i3 st).bind (fun r6 => (f_X4_standsAt x1 i2 st).bind (fun r7 => (if r6 = r7 then tzr (1 : Int32) (some (1 : Int32)) else tzr (0 : Int32) (some (0 : Int32)))))) else tzr (0 : Int32) (some (0 : Int32))))))))
theorem yd_X4_isIdle : yX4_isIdle.cls = RX4 ∧ yX4_isIdle.cls ≠ "java/lang/invoke/MethodHandle" ∧ yX4_isIdle.cls ≠ "java/lang/invoke/VarHandle" ∧ (parseMethodDescriptor yX4_isIdle.desc).map (fun d => d.parameters.length) = some 2 := by decide +kernel
set_option maxHeartbeats 4000000 in
set_option maxRecDepth 100000 in
theorem c_X4_isIdle (l : Launch) (G : tG) (st : tST) (x1 : Int32) (x2 : Int32) {r : Int32} (hf : f_X4_isIdle x1 x2 st = some r) : tCI l G yX4_isIdle cX4_isIdle 6 (some .boolean) rm_X4_isIdle [.ref (tad G 19), .int x1, .int x2] st r st := by
  refine tk_entI (by decide +kernel) (Nat.le_of_ble_eq_true rfl) (fun p e s m below meth c ls S hr hlk hI hl => ?_)
  have hl : lv_has ls 6 [(0, .ref (tad G 19)), (1, .int x1), (2, .int x2)] := hl
  have S : CallFix p m c cX4_isIdle 6 s [.ref (tad G 19), .int x1, .int x2].toArray wsL_law RX4 := S
  have hx := S.1
  have hb := S.2.1
  have hown := S.2.2.2.1
  have hts := S.2.2.2.2
  unfold f_X4_isIdle at hf
  refine lv_aload_n hx hb dX4_isIdle_0 rfl (lv_at hl 0 rfl) ?_
  refine lv_iconst (v := 1) hx hb dX4_isIdle_1 (by decide) ?_
  refine tk_bd hf (fun r1 hq hf => ?_)
  refine tk_vI S hI hl.1 (c_X4_setOf l G st (1 : Int32) hq) (cwV 1 hts (tk_gV mw_217 mw_218 mw_219 mw_5 mw_220) rfl rfl rfl yd_X4_setOf ⟨Nat.le_of_ble_eq_true rfl, Nat.le_of_ble_eq_true rfl⟩) 19 4 rfl rfl rfl rfl [] rfl (Nat.le_of_ble_eq_true rfl) dX4_isIdle_2 (fun H locs hI => ?_)
  refine lv_iconst (v := 1) hx hb dX4_isIdle_5 (by decide) ?_
  refine lv_iload_n hx hb dX4_isIdle_6 rfl (lv_at hl 2 rfl) ?_
  refine lv_ishl hx hb dX4_isIdle_7 ?_
  refine lv_iconst (v := -1) hx hb dX4_isIdle_8 (by decide) ?_
  refine lv_ixor hx hb dX4_isIdle_9 ?_
  refine lv_iand hx hb dX4_isIdle_10 ?_
  refine tk_topi hf (fun i2 hf => ?_)
  refine lv_istore_n (lv' := [(3, .int i2), (0, .ref (tad G 19)), (1, .int x1), (2, .int x2)]) hx hb dX4_isIdle_11 rfl hl (by decide) rfl (fun ls hl => ?_)
  refine lv_iload_n hx hb dX4_isIdle_12 rfl (lv_at hl 0 rfl) ?_
  refine lv_iconst (v := 1) hx hb dX4_isIdle_13 (by decide) ?_
  refine lv_iload_n hx hb dX4_isIdle_14 rfl (lv_at hl 3 rfl) ?_
  refine lv_ishl hx hb dX4_isIdle_15 ?_
  refine lv_ior hx hb dX4_isIdle_16 ?_
  refine tk_topi hf (fun i3 hf => ?_)
  refine lv_istore (lv' := [(4, .int i3), (3, .int i2), (0, .ref (tad G 19)), (1, .int x1), (2, .int x2)]) hx hb dX4_isIdle_17 hl (by decide) rfl (fun ls hl => ?_)
  refine lv_aload_n hx hb dX4_isIdle_19 rfl (lv_at hl 2 rfl) ?_
  refine lv_iload_n hx hb dX4_isIdle_20 rfl (lv_at hl 3 rfl) ?_
  refine lv_iload hx hb dX4_isIdle_21 (lv_at hl 0 rfl) ?_
  refine tk_bd hf (fun r4 hq hf => ?_)
  refine tk_vI S hI hl.1 (c_X4_isThere l G st x1 i3 hq) (cwV 2 hts (tk_gV mw_225 mw_226 mw_227 mw_5 mw_228) rfl rfl rfl yd_X4_isThere ⟨Nat.le_of_ble_eq_true rfl, Nat.le_of_ble_eq_true rfl⟩) 19 4 rfl rfl rfl rfl [] rfl (Nat.le_of_ble_eq_true rfl) dX4_isIdle_23 (fun H locs hI => ?_)
  refine lv_istore (lv' := [(5, .int r4), (4, .int i3), (3, .int i2), (0, .ref (tad G 19)), (1, .int x1), (2, .int x2)]) hx hb dX4_isIdle_26 hl (by decide) rfl (fun ls hl => ?_)
  refine lv_iload hx hb dX4_isIdle_28 (lv_at hl 0 rfl) ?_
  refine lv_aload_n hx hb dX4_isIdle_30 rfl (lv_at hl 3 rfl) ?_
  refine lv_iload_n hx hb dX4_isIdle_31 rfl (lv_at hl 4 rfl) ?_
  refine lv_iload_n hx hb dX4_isIdle_32 rfl (lv_at hl 2 rfl) ?_
  refine tk_bd hf (fun r5 hq hf => ?_)
  refine tk_vI S hI hl.1 (c_X4_isThere l G st x1 i2 hq) (cwV 2 hts (tk_gV mw_225 mw_226 mw_227 mw_5 mw_228) rfl rfl rfl yd_X4_isThere ⟨Nat.le_of_ble_eq_true rfl, Nat.le_of_ble_eq_true rfl⟩) 19 4 rfl rfl rfl rfl [.int r4] rfl (Nat.le_of_ble_eq_true rfl) dX4_isIdle_33 (fun H locs hI => ?_)
  refine tk_icmp_ne (tgt := 64) hx hb hf dX4_isIdle_36 (by decide) (fun hf => ?_) (fun hf => ?_)
  · refine lv_iconst (v := 0) hx hb dX4_isIdle_64 (by decide) ?_
    exact tk_rzR S hr hlk hI hf dX4_isIdle_65
  · refine lv_iload hx hb dX4_isIdle_39 (lv_at hl 0 rfl) ?_
    refine tk_if_eq (tgt := 60) hx hb hf dX4_isIdle_41 (by decide) (fun hf => ?_) (fun hf => ?_)
    · refine lv_iconst (v := 1) hx hb dX4_isIdle_60 (by decide) ?_
      refine lv_goto (tgt := 65) hx hb dX4_isIdle_61 (by decide) ?_
      exact tk_rzR S hr hlk hI hf dX4_isIdle_65
    · refine lv_aload_n hx hb dX4_isIdle_44 rfl (lv_at hl 3 rfl) ?_
      refine lv_iload_n hx hb dX4_isIdle_45 rfl (lv_at hl 4 rfl) ?_
      refine lv_iload hx hb dX4_isIdle_46 (lv_at hl 1 rfl) ?_
      refine tk_bd hf (fun r6 hq hf => ?_)
      refine tk_vI S hI hl.1 (c_X4_standsAt l G st x1 i3 hq) (cwV 2 hts (tk_gV mw_232 mw_233 mw_234 mw_5 mw_235) rfl rfl rfl yd_X4_standsAt ⟨Nat.le_of_ble_eq_true rfl, Nat.le_of_ble_eq_true rfl⟩) 19 4 rfl rfl rfl rfl [] rfl (Nat.le_of_ble_eq_true rfl) dX4_isIdle_48 (fun H locs hI => ?_)
      refine lv_aload_n hx hb dX4_isIdle_51 rfl (lv_at hl 3 rfl) ?_
      refine lv_iload_n hx hb dX4_isIdle_52 rfl (lv_at hl 4 rfl) ?_
      refine lv_iload_n hx hb dX4_isIdle_53 rfl (lv_at hl 2 rfl) ?_
      refine tk_bd hf (fun r7 hq hf => ?_)
      refine tk_vI S hI hl.1 (c_X4_standsAt l G st x1 i2 hq) (cwV 2 hts (tk_gV mw_232 mw_233 mw_234 mw_5 mw_235) rfl rfl rfl yd_X4_standsAt ⟨Nat.le_of_ble_eq_true rfl, Nat.le_of_ble_eq_true rfl⟩) 19 4 rfl rfl rfl rfl [.int r6] rfl (Nat.le_of_ble_eq_true rfl) dX4_isIdle_54 (fun H locs hI => ?_)
      refine tk_icmp_ne (tgt := 64) hx hb hf dX4_isIdle_57 (by decide) (fun hf => ?_) (fun hf => ?_)
      · refine lv_iconst (v := 0) hx hb dX4_isIdle_64 (by decide) ?_
        exact tk_rzR S hr hlk hI hf dX4_isIdle_65
      · refine lv_iconst (v := 1) hx hb dX4_isIdle_60 (by decide) ?_
        refine lv_goto (tgt := 65) hx hb dX4_isIdle_61 (by decide) ?_
        exact tk_rzR S hr hlk hI hf dX4_isIdle_65
/-! X4_touchedBy -/
abbrev rm_X4_touchedBy : Room := { frames := 4, cells := 0, slots := 0, locals := 93 }
def f_X4_touchedBy_5 (st : tST)  : Nat → Int32 → Int32 → Int32 → Int32 → Option (Int32)
  | 0, _, _, _, _ => none
  | n + 1, x1, x2, x3, x4 => (if (tg_I st 102) ≤ x4 then some x3 else (f_X4_isTouched x4 x1 st).bind (fun r1 => (if r1 = 0 then tlet (x3 + (0 : Int32)) (fun i2 => tlet (x4 + (1 : Int32)) (fun i3 => f_X4_touchedBy_5 st n x1 x2 i2 i3)) else (if x2 = 0 then tlet (x3 + (1 : Int32)) (fun i4 => tlet (x4 + (1 : Int32)) (fun i5 => f_X4_touchedBy_5 st n x1 x2 i4 i5)) else (f_X4_isIdle x4 x1 st).bind (fun r6 => (if r6 = 0 then tlet (x3 + (0 : Int32)) (fun i7 => tlet (x4 + (1 : Int32)) (fun i8 => f_X4_touchedBy_5 st n x1 x2 i7 i8)) else tlet (x3 + (1 : Int32)) (fun i9 => tlet (x4 + (1 : Int32)) (fun i10 => f_X4_touchedBy_5 st n x1 x2 i9 i10))))))))
def f_X4_touchedBy (x1 : Int32) (x2 : Int32) (st : tST) : Option (Int32) := f_X4_touchedBy_5 st tfu x1 x2 (0 : Int32) (0 : Int32)
theorem yd_X4_touchedBy : yX4_touchedBy.cls = RX4 ∧ yX4_touchedBy.cls ≠ "java/lang/invoke/MethodHandle" ∧ yX4_touchedBy.cls ≠ "java/lang/invoke/VarHandle" ∧ (parseMethodDescriptor yX4_touchedBy.desc).map (fun d => d.parameters.length) = some 2 := by decide +kernel
set_option maxHeartbeats 4000000 in
set_option maxRecDepth 100000 in
theorem k_X4_touchedBy_5 {l : Launch} {G : tG} {p : Program} {e : Env} {s : State} {m : MethodId} {below : List Frame} {meth : Method} {c : Code} {args : Array Value} {r : Int32} {st : tST} (S : CallFix p m c cX4_touchedBy 5 s args wsL_law RX4) (hr : meth.sig.returnType = (some .int)) (hlk : meth.locks = false) : ∀ (n : Nat) (x1 : Int32) (x2 : Int32) (x3 : Int32) (x4 : Int32) (H : Heap) (locs : List Loc) (ls : Array Slot), tIn G (tA G s.heap.size) s st H locs → lv_has ls 5 [(0, .ref (tad G 19)), (1, .int x1), (2, .int x2), (3, .int x3), (4, .int x4)] → f_X4_touchedBy_5 st n x1 x2 x3 x4 = some r → W p l e rm_X4_touchedBy s m args below meth c H locs 0 0 (tZI G below args s r st) (F0 m 5 ls []) := by
  have hx := S.1
  have hb := S.2.1
  have hown := S.2.2.2.1
  have hts := S.2.2.2.2
  intro n
  induction n with
  | zero => intro x1 x2 x3 x4 H locs ls hI hl hf; exact nomatch (show (none : Option (Int32)) = some _ from hf)
  | succ n ih =>
    intro x1 x2 x3 x4 H locs ls hI hl hf
    rw [f_X4_touchedBy_5] at hf
    refine lv_iload hx hb dX4_touchedBy_5 (lv_at hl 4 rfl) ?_
    refine lv_aload_n hx hb dX4_touchedBy_7 rfl (lv_at hl 0 rfl) ?_
    refine tg_X4_2 S hI mw_136 dX4_touchedBy_8 ?_
    refine tk_icmp_ge (tgt := 52) hx hb hf dX4_touchedBy_11 (by decide) (fun hf => ?_) (fun hf => ?_)
    · refine lv_iload_n hx hb dX4_touchedBy_52 rfl (lv_at hl 3 rfl) ?_
      exact tk_riR S hr hlk hI hf dX4_touchedBy_53
    · refine lv_iload_n hx hb dX4_touchedBy_14 rfl (lv_at hl 3 rfl) ?_
      refine lv_aload_n hx hb dX4_touchedBy_15 rfl (lv_at hl 0 rfl) ?_
      refine lv_iload hx hb dX4_touchedBy_16 (lv_at hl 4 rfl) ?_
      refine lv_iload_n hx hb dX4_touchedBy_18 rfl (lv_at hl 1 rfl) ?_
      refine tk_bd hf (fun r1 hq hf => ?_)
      refine tk_vI S hI hl.1 (c_X4_isTouched l G st x4 x1 hq) (cwV 2 hts (tk_gV mw_430 mw_431 mw_432 mw_5 mw_433) rfl rfl rfl yd_X4_isTouched ⟨Nat.le_of_ble_eq_true rfl, Nat.le_of_ble_eq_true rfl⟩) 19 4 rfl rfl rfl rfl [.int x3] rfl (Nat.le_of_ble_eq_true rfl) dX4_touchedBy_19 (fun H locs hI => ?_)
      refine tk_if_eq (tgt := 43) hx hb hf dX4_touchedBy_22 (by decide) (fun hf => ?_) (fun hf => ?_)
      · refine lv_iconst (v := 0) hx hb dX4_touchedBy_43 (by decide) ?_
        refine lv_iadd hx hb dX4_touchedBy_44 ?_
        refine tk_topi hf (fun i2 hf => ?_)
        refine lv_istore_n (lv' := [(3, .int i2), (0, .ref (tad G 19)), (1, .int x1), (2, .int x2), (4, .int x4)]) hx hb dX4_touchedBy_45 rfl hl (by decide) rfl (fun ls hl => ?_)
        refine tk_let hf (fun i3 ei3 hf => ?_)
        refine lv_iinc (v := i3) (lv' := [(4, .int i3), (3, .int i2), (0, .ref (tad G 19)), (1, .int x1), (2, .int x2)]) hx hb dX4_touchedBy_46 hl (k := 4) rfl (by rw [ei3]; rfl) (by decide) rfl (fun ls hl => ?_)
        refine lv_goto (tgt := 5) hx hb dX4_touchedBy_49 (by decide) ?_
        exact ih x1 x2 i2 i3 _ _ _ hI (lv_sub hl [2, 3, 4, 1, 0] rfl) hf
      · refine lv_iload_n hx hb dX4_touchedBy_25 rfl (lv_at hl 2 rfl) ?_
        refine tk_if_eq (tgt := 39) hx hb hf dX4_touchedBy_26 (by decide) (fun hf => ?_) (fun hf => ?_)
        · refine lv_iconst (v := 1) hx hb dX4_touchedBy_39 (by decide) ?_
          refine lv_goto (tgt := 44) hx hb dX4_touchedBy_40 (by decide) ?_
          refine lv_iadd hx hb dX4_touchedBy_44 ?_
          refine tk_topi hf (fun i4 hf => ?_)
          refine lv_istore_n (lv' := [(3, .int i4), (0, .ref (tad G 19)), (1, .int x1), (2, .int x2), (4, .int x4)]) hx hb dX4_touchedBy_45 rfl hl (by decide) rfl (fun ls hl => ?_)
          refine tk_let hf (fun i5 ei5 hf => ?_)
          refine lv_iinc (v := i5) (lv' := [(4, .int i5), (3, .int i4), (0, .ref (tad G 19)), (1, .int x1), (2, .int x2)]) hx hb dX4_touchedBy_46 hl (k := 4) rfl (by rw [ei5]; rfl) (by decide) rfl (fun ls hl => ?_)
          refine lv_goto (tgt := 5) hx hb dX4_touchedBy_49 (by decide) ?_
          exact ih x1 x2 i4 i5 _ _ _ hI (lv_sub hl [2, 3, 4, 1, 0] rfl) hf
        · refine lv_aload_n hx hb dX4_touchedBy_29 rfl (lv_at hl 0 rfl) ?_
          refine lv_iload hx hb dX4_touchedBy_30 (lv_at hl 4 rfl) ?_
          refine lv_iload_n hx hb dX4_touchedBy_32 rfl (lv_at hl 1 rfl) ?_
          refine tk_bd hf (fun r6 hq hf => ?_)
          refine tk_vI S hI hl.1 (c_X4_isIdle l G st x4 x1 hq) (cwV 2 hts (tk_gV mw_434 mw_435 mw_436 mw_5 mw_437) rfl rfl rfl yd_X4_isIdle ⟨Nat.le_of_ble_eq_true rfl, Nat.le_of_ble_eq_true rfl⟩) 19 4 rfl rfl rfl rfl [.int x3] rfl (Nat.le_of_ble_eq_true rfl) dX4_touchedBy_33 (fun H locs hI => ?_)
          refine tk_if_eq (tgt := 43) hx hb hf dX4_touchedBy_36 (by decide) (fun hf => ?_) (fun hf => ?_)
          · refine lv_iconst (v := 0) hx hb dX4_touchedBy_43 (by decide) ?_
            refine lv_iadd hx hb dX4_touchedBy_44 ?_
            refine tk_topi hf (fun i7 hf => ?_)
            refine lv_istore_n (lv' := [(3, .int i7), (0, .ref (tad G 19)), (1, .int x1), (2, .int x2), (4, .int x4)]) hx hb dX4_touchedBy_45 rfl hl (by decide) rfl (fun ls hl => ?_)
            refine tk_let hf (fun i8 ei8 hf => ?_)
            refine lv_iinc (v := i8) (lv' := [(4, .int i8), (3, .int i7), (0, .ref (tad G 19)), (1, .int x1), (2, .int x2)]) hx hb dX4_touchedBy_46 hl (k := 4) rfl (by rw [ei8]; rfl) (by decide) rfl (fun ls hl => ?_)
            refine lv_goto (tgt := 5) hx hb dX4_touchedBy_49 (by decide) ?_
            exact ih x1 x2 i7 i8 _ _ _ hI (lv_sub hl [2, 3, 4, 1, 0] rfl) hf
          · refine lv_iconst (v := 1) hx hb dX4_touchedBy_39 (by decide) ?_
            refine lv_goto (tgt := 44) hx hb dX4_touchedBy_40 (by decide) ?_
            refine lv_iadd hx hb dX4_touchedBy_44 ?_
            refine tk_topi hf (fun i9 hf => ?_)
            refine lv_istore_n (lv' := [(3, .int i9), (0, .ref (tad G 19)), (1, .int x1), (2, .int x2), (4, .int x4)]) hx hb dX4_touchedBy_45 rfl hl (by decide) rfl (fun ls hl => ?_)
            refine tk_let hf (fun i10 ei10 hf => ?_)
            refine lv_iinc (v := i10) (lv' := [(4, .int i10), (3, .int i9), (0, .ref (tad G 19)), (1, .int x1), (2, .int x2)]) hx hb dX4_touchedBy_46 hl (k := 4) rfl (by rw [ei10]; rfl) (by decide) rfl (fun ls hl => ?_)
            refine lv_goto (tgt := 5) hx hb dX4_touchedBy_49 (by decide) ?_
            exact ih x1 x2 i9 i10 _ _ _ hI (lv_sub hl [2, 3, 4, 1, 0] rfl) hf
set_option maxHeartbeats 4000000 in
set_option maxRecDepth 100000 in
theorem c_X4_touchedBy (l : Launch) (G : tG) (st : tST) (x1 : Int32) (x2 : Int32) {r : Int32} (hf : f_X4_touchedBy x1 x2 st = some r) : tCI l G yX4_touchedBy cX4_touchedBy 5 (some .int) rm_X4_touchedBy [.ref (tad G 19), .int x1, .int x2] st r st := by
  refine tk_entI (by decide +kernel) (Nat.le_of_ble_eq_true rfl) (fun p e s m below meth c ls S hr hlk hI hl => ?_)
  have hl : lv_has ls 5 [(0, .ref (tad G 19)), (1, .int x1), (2, .int x2)] := hl
  have S : CallFix p m c cX4_touchedBy 5 s [.ref (tad G 19), .int x1, .int x2].toArray wsL_law RX4 := S
  have hx := S.1
  have hb := S.2.1
  have hown := S.2.2.2.1
  have hts := S.2.2.2.2
  unfold f_X4_touchedBy at hf
  refine lv_iconst (v := 0) hx hb dX4_touchedBy_0 (by decide) ?_
  refine lv_istore_n (lv' := [(3, .int (0 : Int32)), (0, .ref (tad G 19)), (1, .int x1), (2, .int x2)]) hx hb dX4_touchedBy_1 rfl hl (by decide) rfl (fun ls hl => ?_)
  refine lv_iconst (v := 0) hx hb dX4_touchedBy_2 (by decide) ?_
  refine lv_istore (lv' := [(4, .int (0 : Int32)), (3, .int (0 : Int32)), (0, .ref (tad G 19)), (1, .int x1), (2, .int x2)]) hx hb dX4_touchedBy_3 hl (by decide) rfl (fun ls hl => ?_)
  exact k_X4_touchedBy_5 S hr hlk tfu x1 x2 (0 : Int32) (0 : Int32) _ _ _ hI (lv_sub hl [2, 3, 4, 1, 0] rfl) hf
/-! X4_leansOn -/
abbrev rm_X4_leansOn : Room := { frames := 1, cells := 0, slots := 0, locals := 23 }
def f_X4_leansOn_82 (st : tST)  : Nat → Int32 → Int32 → Int32 → Option (Int32)
  | 0, _, _, _ => none
  | n + 1, x1, x2, x3 => (if (tg_I st 112) ≤ x3 then some (x2 &&& (((1 : Int32) <<< (x1 &&& (31 : Int32))) ^^^ (-1 : Int32))) else tal 90 (tg_A st 30) x3 (fun v1 => (if v1 = (-1 : Int32) then tlet (x3 + (1 : Int32)) (fun i2 => f_X4_leansOn_82 st n x1 x2 i2) else tal 90 (tg_A st 31) x3 (fun v3 => (if v3 = x1 then tal 90 (tg_A st 30) x3 (fun v5 => tal 90 (tg_A st 31) v5 (fun v6 => (if v6 = (-1 : Int32) then tlet (x3 + (1 : Int32)) (fun i7 => f_X4_leansOn_82 st n x1 x2 i7) else tal 90 (tg_A st 30) x3 (fun v8 => tal 90 (tg_A st 31) v8 (fun v9 => tlet (x2 ||| ((1 : Int32) <<< (v9 &&& (31 : Int32)))) (fun i10 => tlet (x3 + (1 : Int32)) (fun i11 => f_X4_leansOn_82 st n x1 i10 i11))))))) else tlet (x3 + (1 : Int32)) (fun i4 => f_X4_leansOn_82 st n x1 x2 i4))))))
def f_X4_leansOn_4 (st : tST)  : Nat → Int32 → Int32 → Int32 → Option (Int32)
  | 0, _, _, _ => none
  | n + 1, x1, x2, x3 => (if (tg_I st 102) ≤ x3 then f_X4_leansOn_82 st tfu x1 x2 (0 : Int32) else tal 64 (tg_A st 24) x3 (fun v1 => (f_X4_has v1 x1).bind (fun r2 => (if r2 = 0 then (f_X4_movedBy x3 st).bind (fun r9 => (f_X4_has r9 x1).bind (fun r10 => (if r10 = 0 then tlet (x2 ||| (0 : Int32)) (fun i11 => tlet (x3 + (1 : Int32)) (fun i12 => f_X4_leansOn_4 st n x1 i11 i12)) else tal 64 (tg_A st 22) x3 (fun v13 => (if v13 = (-1 : Int32) then tlet (x2 ||| (0 : Int32)) (fun i14 => tlet (x3 + (1 : Int32)) (fun i15 => f_X4_leansOn_4 st n x1 i14 i15)) else tal 64 (tg_A st 22) x3 (fun v16 => tlet (x2 ||| ((1 : Int32) <<< (v16 &&& (31 : Int32)))) (fun i17 => tlet (x3 + (1 : Int32)) (fun i18 => f_X4_leansOn_4 st n x1 i17 i18)))))))) else tal 64 (tg_A st 22) x3 (fun v3 => (if v3 = (-1 : Int32) then tlet (x2 ||| (0 : Int32)) (fun i4 => tlet (x3 + (1 : Int32)) (fun i5 => f_X4_leansOn_4 st n x1 i4 i5)) else tal 64 (tg_A st 22) x3 (fun v6 => tlet (x2 ||| ((1 : Int32) <<< (v6 &&& (31 : Int32)))) (fun i7 => tlet (x3 + (1 : Int32)) (fun i8 => f_X4_leansOn_4 st n x1 i7 i8)))))))))
def f_X4_leansOn (x1 : Int32) (st : tST) : Option (Int32) := f_X4_leansOn_4 st tfu x1 (0 : Int32) (0 : Int32)
theorem yd_X4_leansOn : yX4_leansOn.cls = RX4 ∧ yX4_leansOn.cls ≠ "java/lang/invoke/MethodHandle" ∧ yX4_leansOn.cls ≠ "java/lang/invoke/VarHandle" ∧ (parseMethodDescriptor yX4_leansOn.desc).map (fun d => d.parameters.length) = some 1 := by decide +kernel
set_option maxHeartbeats 4000000 in
set_option maxRecDepth 100000 in
theorem k_X4_leansOn_82 {l : Launch} {G : tG} {p : Program} {e : Env} {s : State} {m : MethodId} {below : List Frame} {meth : Method} {c : Code} {args : Array Value} {r : Int32} {st : tST} (S : CallFix p m c cX4_leansOn 5 s args wsL_law RX4) (hr : meth.sig.returnType = (some .int)) (hlk : meth.locks = false) : ∀ (n : Nat) (x1 : Int32) (x2 : Int32) (x3 : Int32) (H : Heap) (locs : List Loc) (ls : Array Slot), tIn G (tA G s.heap.size) s st H locs → lv_has ls 5 [(0, .ref (tad G 19)), (1, .int x1), (2, .int x2), (3, .int x3)] → f_X4_leansOn_82 st n x1 x2 x3 = some r → W p l e rm_X4_leansOn s m args below meth c H locs 0 0 (tZI G below args s r st) (F0 m 82 ls []) := by
  have hx := S.1
  have hb := S.2.1
  have hown := S.2.2.2.1
  have hts := S.2.2.2.2
  intro n
  induction n with
  | zero => intro x1 x2 x3 H locs ls hI hl hf; exact nomatch (show (none : Option (Int32)) = some _ from hf)
  | succ n ih =>
    intro x1 x2 x3 H locs ls hI hl hf
    rw [f_X4_leansOn_82] at hf
    refine lv_iload_n hx hb dX4_leansOn_82 rfl (lv_at hl 3 rfl) ?_
    refine lv_aload_n hx hb dX4_leansOn_83 rfl (lv_at hl 0 rfl) ?_
    refine tg_X4_12 S hI mw_137 dX4_leansOn_84 ?_
    refine tk_icmp_ge (tgt := 147) hx hb hf dX4_leansOn_87 (by decide) (fun hf => ?_) (fun hf => ?_)
    · refine lv_iload_n hx hb dX4_leansOn_147 rfl (lv_at hl 2 rfl) ?_
      refine lv_iconst (v := 1) hx hb dX4_leansOn_148 (by decide) ?_
      refine lv_iload_n hx hb dX4_leansOn_149 rfl (lv_at hl 1 rfl) ?_
      refine lv_ishl hx hb dX4_leansOn_150 ?_
      refine lv_iconst (v := -1) hx hb dX4_leansOn_151 (by decide) ?_
      refine lv_ixor hx hb dX4_leansOn_152 ?_
      refine lv_iand hx hb dX4_leansOn_153 ?_
      exact tk_riR S hr hlk hI hf dX4_leansOn_154
    · refine lv_aload_n hx hb dX4_leansOn_90 rfl (lv_at hl 0 rfl) ?_
      refine tg_X4_14 S hI mw_75 dX4_leansOn_91 ?_
      refine lv_iload_n hx hb dX4_leansOn_94 rfl (lv_at hl 3 rfl) ?_
      refine tk_iald S hI (k := 30) (n := 90) rfl hf dX4_leansOn_95 (fun v1 hf => ?_)
      refine lv_iconst (v := -1) hx hb dX4_leansOn_96 (by decide) ?_
      refine tk_icmp_eq (tgt := 141) hx hb hf dX4_leansOn_97 (by decide) (fun hf => ?_) (fun hf => ?_)
      · refine tk_let hf (fun i2 ei2 hf => ?_)
        refine lv_iinc (v := i2) (lv' := [(3, .int i2), (0, .ref (tad G 19)), (1, .int x1), (2, .int x2)]) hx hb dX4_leansOn_141 hl (k := 3) rfl (by rw [ei2]; rfl) (by decide) rfl (fun ls hl => ?_)
        refine lv_goto (tgt := 82) hx hb dX4_leansOn_144 (by decide) ?_
        exact ih x1 x2 i2 _ _ _ hI (lv_sub hl [1, 2, 3, 0] rfl) hf
      · refine lv_aload_n hx hb dX4_leansOn_100 rfl (lv_at hl 0 rfl) ?_
        refine tg_X4_15 S hI mw_76 dX4_leansOn_101 ?_
        refine lv_iload_n hx hb dX4_leansOn_104 rfl (lv_at hl 3 rfl) ?_
        refine tk_iald S hI (k := 31) (n := 90) rfl hf dX4_leansOn_105 (fun v3 hf => ?_)
        refine lv_iload_n hx hb dX4_leansOn_106 rfl (lv_at hl 1 rfl) ?_
        refine tk_icmp_ne (tgt := 141) hx hb hf dX4_leansOn_107 (by decide) (fun hf => ?_) (fun hf => ?_)
        · refine tk_let hf (fun i4 ei4 hf => ?_)
          refine lv_iinc (v := i4) (lv' := [(3, .int i4), (0, .ref (tad G 19)), (1, .int x1), (2, .int x2)]) hx hb dX4_leansOn_141 hl (k := 3) rfl (by rw [ei4]; rfl) (by decide) rfl (fun ls hl => ?_)
          refine lv_goto (tgt := 82) hx hb dX4_leansOn_144 (by decide) ?_
          exact ih x1 x2 i4 _ _ _ hI (lv_sub hl [1, 2, 3, 0] rfl) hf
        · refine lv_aload_n hx hb dX4_leansOn_110 rfl (lv_at hl 0 rfl) ?_
          refine tg_X4_15 S hI mw_76 dX4_leansOn_111 ?_
          refine lv_aload_n hx hb dX4_leansOn_114 rfl (lv_at hl 0 rfl) ?_
          refine tg_X4_14 S hI mw_75 dX4_leansOn_115 ?_
          refine lv_iload_n hx hb dX4_leansOn_118 rfl (lv_at hl 3 rfl) ?_
          refine tk_iald S hI (k := 30) (n := 90) rfl hf dX4_leansOn_119 (fun v5 hf => ?_)
          refine tk_iald S hI (k := 31) (n := 90) rfl hf dX4_leansOn_120 (fun v6 hf => ?_)
          refine lv_iconst (v := -1) hx hb dX4_leansOn_121 (by decide) ?_
          refine tk_icmp_eq (tgt := 141) hx hb hf dX4_leansOn_122 (by decide) (fun hf => ?_) (fun hf => ?_)
          · refine tk_let hf (fun i7 ei7 hf => ?_)
            refine lv_iinc (v := i7) (lv' := [(3, .int i7), (0, .ref (tad G 19)), (1, .int x1), (2, .int x2)]) hx hb dX4_leansOn_141 hl (k := 3) rfl (by rw [ei7]; rfl) (by decide) rfl (fun ls hl => ?_)
            refine lv_goto (tgt := 82) hx hb dX4_leansOn_144 (by decide) ?_
            exact ih x1 x2 i7 _ _ _ hI (lv_sub hl [1, 2, 3, 0] rfl) hf
          · refine lv_iload_n hx hb dX4_leansOn_125 rfl (lv_at hl 2 rfl) ?_
            refine lv_iconst (v := 1) hx hb dX4_leansOn_126 (by decide) ?_
            refine lv_aload_n hx hb dX4_leansOn_127 rfl (lv_at hl 0 rfl) ?_
            refine tg_X4_15 S hI mw_76 dX4_leansOn_128 ?_
            refine lv_aload_n hx hb dX4_leansOn_131 rfl (lv_at hl 0 rfl) ?_
            refine tg_X4_14 S hI mw_75 dX4_leansOn_132 ?_
            refine lv_iload_n hx hb dX4_leansOn_135 rfl (lv_at hl 3 rfl) ?_
            refine tk_iald S hI (k := 30) (n := 90) rfl hf dX4_leansOn_136 (fun v8 hf => ?_)
            refine tk_iald S hI (k := 31) (n := 90) rfl hf dX4_leansOn_137 (fun v9 hf => ?_)
            refine lv_ishl hx hb dX4_leansOn_138 ?_
            refine lv_ior hx hb dX4_leansOn_139 ?_
            refine tk_topi hf (fun i10 hf => ?_)
            refine lv_istore_n (lv' := [(2, .int i10), (0, .ref (tad G 19)), (1, .int x1), (3, .int x3)]) hx hb dX4_leansOn_140 rfl hl (by decide) rfl (fun ls hl => ?_)
            refine tk_let hf (fun i11 ei11 hf => ?_)
            refine lv_iinc (v := i11) (lv' := [(3, .int i11), (2, .int i10), (0, .ref (tad G 19)), (1, .int x1)]) hx hb dX4_leansOn_141 hl (k := 3) rfl (by rw [ei11]; rfl) (by decide) rfl (fun ls hl => ?_)
            refine lv_goto (tgt := 82) hx hb dX4_leansOn_144 (by decide) ?_
            exact ih x1 i10 i11 _ _ _ hI (lv_sub hl [2, 3, 1, 0] rfl) hf
set_option maxHeartbeats 4000000 in
set_option maxRecDepth 100000 in
theorem k_X4_leansOn_4 {l : Launch} {G : tG} {p : Program} {e : Env} {s : State} {m : MethodId} {below : List Frame} {meth : Method} {c : Code} {args : Array Value} {r : Int32} {st : tST} (S : CallFix p m c cX4_leansOn 5 s args wsL_law RX4) (hr : meth.sig.returnType = (some .int)) (hlk : meth.locks = false) : ∀ (n : Nat) (x1 : Int32) (x2 : Int32) (x3 : Int32) (H : Heap) (locs : List Loc) (ls : Array Slot), tIn G (tA G s.heap.size) s st H locs → lv_has ls 5 [(0, .ref (tad G 19)), (1, .int x1), (2, .int x2), (3, .int x3)] → f_X4_leansOn_4 st n x1 x2 x3 = some r → W p l e rm_X4_leansOn s m args below meth c H locs 0 0 (tZI G below args s r st) (F0 m 4 ls []) := by
  have hx := S.1
  have hb := S.2.1
  have hown := S.2.2.2.1
  have hts := S.2.2.2.2
  intro n
  induction n with
  | zero => intro x1 x2 x3 H locs ls hI hl hf; exact nomatch (show (none : Option (Int32)) = some _ from hf)
  | succ n ih =>
    intro x1 x2 x3 H locs ls hI hl hf
    rw [f_X4_leansOn_4] at hf
    refine lv_iload_n hx hb dX4_leansOn_4 rfl (lv_at hl 3 rfl) ?_
    refine lv_aload_n hx hb dX4_leansOn_5 rfl (lv_at hl 0 rfl) ?_
    refine tg_X4_2 S hI mw_136 dX4_leansOn_6 ?_
    refine tk_icmp_ge (tgt := 80) hx hb hf dX4_leansOn_9 (by decide) (fun hf => ?_) (fun hf => ?_)
    · refine lv_iconst (v := 0) hx hb dX4_leansOn_80 (by decide) ?_
      refine lv_istore_n (lv' := [(3, .int (0 : Int32)), (0, .ref (tad G 19)), (1, .int x1), (2, .int x2)]) hx hb dX4_leansOn_81 rfl hl (by decide) rfl (fun ls hl => ?_)
      exact k_X4_leansOn_82 S hr hlk tfu x1 x2 (0 : Int32) _ _ _ hI (lv_sub hl [1, 2, 3, 0] rfl) hf
    · refine lv_aload_n hx hb dX4_leansOn_12 rfl (lv_at hl 0 rfl) ?_
      refine tg_X4_6 S hI mw_68 dX4_leansOn_13 ?_
      refine lv_iload_n hx hb dX4_leansOn_16 rfl (lv_at hl 3 rfl) ?_
      refine tk_iald S hI (k := 24) (n := 64) rfl hf dX4_leansOn_17 (fun v1 hf => ?_)
      refine lv_iload_n hx hb dX4_leansOn_18 rfl (lv_at hl 1 rfl) ?_
      refine tk_bd hf (fun r2 hq hf => ?_)
      refine tk_sI S hI hl.1 (c_X4_has l G st v1 x1 hq) (va_cwS 2 hts (tk_gS mw_229 mw_230 mw_5 mw_231) rfl rfl rfl yd_X4_has ⟨Nat.le_of_ble_eq_true rfl, Nat.le_of_ble_eq_true rfl⟩) rfl [] rfl (Nat.le_of_ble_eq_true rfl) dX4_leansOn_19 (fun H locs hI => ?_)
      refine tk_if_ne (tgt := 37) hx hb hf dX4_leansOn_22 (by decide) (fun hf => ?_) (fun hf => ?_)
      · refine lv_iconst (v := 1) hx hb dX4_leansOn_37 (by decide) ?_
        refine lv_goto (tgt := 42) hx hb dX4_leansOn_38 (by decide) ?_
        refine lv_istore (lv' := [(4, .int (1 : Int32)), (0, .ref (tad G 19)), (1, .int x1), (2, .int x2), (3, .int x3)]) hx hb dX4_leansOn_42 hl (by decide) rfl (fun ls hl => ?_)
        refine lv_iload_n hx hb dX4_leansOn_44 rfl (lv_at hl 3 rfl) ?_
        refine lv_iload hx hb dX4_leansOn_45 (lv_at hl 0 rfl) ?_
        refine lv_if_eq (tgt := 71) hx hb dX4_leansOn_47 (by decide) (fun h => absurd h (by decide)) (fun _ => ?_)
        refine lv_aload_n hx hb dX4_leansOn_50 rfl (lv_at hl 1 rfl) ?_
        refine tg_X4_4 S hI mw_66 dX4_leansOn_51 ?_
        refine lv_iload_n hx hb dX4_leansOn_54 rfl (lv_at hl 4 rfl) ?_
        refine tk_iald S hI (k := 22) (n := 64) rfl hf dX4_leansOn_55 (fun v3 hf => ?_)
        refine lv_iconst (v := -1) hx hb dX4_leansOn_56 (by decide) ?_
        refine tk_icmp_eq (tgt := 71) hx hb hf dX4_leansOn_57 (by decide) (fun hf => ?_) (fun hf => ?_)
        · refine lv_iconst (v := 0) hx hb dX4_leansOn_71 (by decide) ?_
          refine lv_ior hx hb dX4_leansOn_72 ?_
          refine tk_topi hf (fun i4 hf => ?_)
          refine lv_istore_n (lv' := [(2, .int i4), (4, .int (1 : Int32)), (0, .ref (tad G 19)), (1, .int x1), (3, .int x3)]) hx hb dX4_leansOn_73 rfl hl (by decide) rfl (fun ls hl => ?_)
          refine tk_let hf (fun i5 ei5 hf => ?_)
          refine lv_iinc (v := i5) (lv' := [(3, .int i5), (2, .int i4), (4, .int (1 : Int32)), (0, .ref (tad G 19)), (1, .int x1)]) hx hb dX4_leansOn_74 hl (k := 4) rfl (by rw [ei5]; rfl) (by decide) rfl (fun ls hl => ?_)
          refine lv_goto (tgt := 4) hx hb dX4_leansOn_77 (by decide) ?_
          exact ih x1 i4 i5 _ _ _ hI (lv_sub hl [3, 4, 1, 0] rfl) hf
        · refine lv_iconst (v := 1) hx hb dX4_leansOn_60 (by decide) ?_
          refine lv_aload_n hx hb dX4_leansOn_61 rfl (lv_at hl 1 rfl) ?_
          refine tg_X4_4 S hI mw_66 dX4_leansOn_62 ?_
          refine lv_iload_n hx hb dX4_leansOn_65 rfl (lv_at hl 4 rfl) ?_
          refine tk_iald S hI (k := 22) (n := 64) rfl hf dX4_leansOn_66 (fun v6 hf => ?_)
          refine lv_ishl hx hb dX4_leansOn_67 ?_
          refine lv_goto (tgt := 72) hx hb dX4_leansOn_68 (by decide) ?_
          refine lv_ior hx hb dX4_leansOn_72 ?_
          refine tk_topi hf (fun i7 hf => ?_)
          refine lv_istore_n (lv' := [(2, .int i7), (4, .int (1 : Int32)), (0, .ref (tad G 19)), (1, .int x1), (3, .int x3)]) hx hb dX4_leansOn_73 rfl hl (by decide) rfl (fun ls hl => ?_)
          refine tk_let hf (fun i8 ei8 hf => ?_)
          refine lv_iinc (v := i8) (lv' := [(3, .int i8), (2, .int i7), (4, .int (1 : Int32)), (0, .ref (tad G 19)), (1, .int x1)]) hx hb dX4_leansOn_74 hl (k := 4) rfl (by rw [ei8]; rfl) (by decide) rfl (fun ls hl => ?_)
          refine lv_goto (tgt := 4) hx hb dX4_leansOn_77 (by decide) ?_
          exact ih x1 i7 i8 _ _ _ hI (lv_sub hl [3, 4, 1, 0] rfl) hf
      · refine lv_aload_n hx hb dX4_leansOn_25 rfl (lv_at hl 0 rfl) ?_
        refine lv_iload_n hx hb dX4_leansOn_26 rfl (lv_at hl 3 rfl) ?_
        refine tk_bd hf (fun r9 hq hf => ?_)
        refine tk_vI S hI hl.1 (c_X4_movedBy l G st x3 hq) (cwV 1 hts (tk_gV mw_357 mw_358 mw_359 mw_5 mw_360) rfl rfl rfl yd_X4_movedBy ⟨Nat.le_of_ble_eq_true rfl, Nat.le_of_ble_eq_true rfl⟩) 19 4 rfl rfl rfl rfl [] rfl (Nat.le_of_ble_eq_true rfl) dX4_leansOn_27 (fun H locs hI => ?_)
        refine lv_iload_n hx hb dX4_leansOn_30 rfl (lv_at hl 1 rfl) ?_
        refine tk_bd hf (fun r10 hq hf => ?_)
        refine tk_sI S hI hl.1 (c_X4_has l G st r9 x1 hq) (va_cwS 2 hts (tk_gS mw_229 mw_230 mw_5 mw_231) rfl rfl rfl yd_X4_has ⟨Nat.le_of_ble_eq_true rfl, Nat.le_of_ble_eq_true rfl⟩) rfl [] rfl (Nat.le_of_ble_eq_true rfl) dX4_leansOn_31 (fun H locs hI => ?_)
        refine tk_if_eq (tgt := 41) hx hb hf dX4_leansOn_34 (by decide) (fun hf => ?_) (fun hf => ?_)
        · refine lv_iconst (v := 0) hx hb dX4_leansOn_41 (by decide) ?_
          refine lv_istore (lv' := [(4, .int (0 : Int32)), (0, .ref (tad G 19)), (1, .int x1), (2, .int x2), (3, .int x3)]) hx hb dX4_leansOn_42 hl (by decide) rfl (fun ls hl => ?_)
          refine lv_iload_n hx hb dX4_leansOn_44 rfl (lv_at hl 3 rfl) ?_
          refine lv_iload hx hb dX4_leansOn_45 (lv_at hl 0 rfl) ?_
          refine lv_if_eq (tgt := 71) hx hb dX4_leansOn_47 (by decide) (fun _ => ?_) (fun h => absurd h (by decide))
          refine lv_iconst (v := 0) hx hb dX4_leansOn_71 (by decide) ?_
          refine lv_ior hx hb dX4_leansOn_72 ?_
          refine tk_topi hf (fun i11 hf => ?_)
          refine lv_istore_n (lv' := [(2, .int i11), (4, .int (0 : Int32)), (0, .ref (tad G 19)), (1, .int x1), (3, .int x3)]) hx hb dX4_leansOn_73 rfl hl (by decide) rfl (fun ls hl => ?_)
          refine tk_let hf (fun i12 ei12 hf => ?_)
          refine lv_iinc (v := i12) (lv' := [(3, .int i12), (2, .int i11), (4, .int (0 : Int32)), (0, .ref (tad G 19)), (1, .int x1)]) hx hb dX4_leansOn_74 hl (k := 4) rfl (by rw [ei12]; rfl) (by decide) rfl (fun ls hl => ?_)
          refine lv_goto (tgt := 4) hx hb dX4_leansOn_77 (by decide) ?_
          exact ih x1 i11 i12 _ _ _ hI (lv_sub hl [3, 4, 1, 0] rfl) hf
        · refine lv_iconst (v := 1) hx hb dX4_leansOn_37 (by decide) ?_
          refine lv_goto (tgt := 42) hx hb dX4_leansOn_38 (by decide) ?_
          refine lv_istore (lv' := [(4, .int (1 : Int32)), (0, .ref (tad G 19)), (1, .int x1), (2, .int x2), (3, .int x3)]) hx hb dX4_leansOn_42 hl (by decide) rfl (fun ls hl => ?_)
          refine lv_iload_n hx hb dX4_leansOn_44 rfl (lv_at hl 3 rfl) ?_
          refine lv_iload hx hb dX4_leansOn_45 (lv_at hl 0 rfl) ?_
          refine lv_if_eq (tgt := 71) hx hb dX4_leansOn_47 (by decide) (fun h => absurd h (by decide)) (fun _ => ?_)
          refine lv_aload_n hx hb dX4_leansOn_50 rfl (lv_at hl 1 rfl) ?_
          refine tg_X4_4 S hI mw_66 dX4_leansOn_51 ?_
          refine lv_iload_n hx hb dX4_leansOn_54 rfl (lv_at hl 4 rfl) ?_
          refine tk_iald S hI (k := 22) (n := 64) rfl hf dX4_leansOn_55 (fun v13 hf => ?_)
          refine lv_iconst (v := -1) hx hb dX4_leansOn_56 (by decide) ?_
          refine tk_icmp_eq (tgt := 71) hx hb hf dX4_leansOn_57 (by decide) (fun hf => ?_) (fun hf => ?_)
          · refine lv_iconst (v := 0) hx hb dX4_leansOn_71 (by decide) ?_
            refine lv_ior hx hb dX4_leansOn_72 ?_
            refine tk_topi hf (fun i14 hf => ?_)
            refine lv_istore_n (lv' := [(2, .int i14), (4, .int (1 : Int32)), (0, .ref (tad G 19)), (1, .int x1), (3, .int x3)]) hx hb dX4_leansOn_73 rfl hl (by decide) rfl (fun ls hl => ?_)
            refine tk_let hf (fun i15 ei15 hf => ?_)
            refine lv_iinc (v := i15) (lv' := [(3, .int i15), (2, .int i14), (4, .int (1 : Int32)), (0, .ref (tad G 19)), (1, .int x1)]) hx hb dX4_leansOn_74 hl (k := 4) rfl (by rw [ei15]; rfl) (by decide) rfl (fun ls hl => ?_)
            refine lv_goto (tgt := 4) hx hb dX4_leansOn_77 (by decide) ?_
            exact ih x1 i14 i15 _ _ _ hI (lv_sub hl [3, 4, 1, 0] rfl) hf
          · refine lv_iconst (v := 1) hx hb dX4_leansOn_60 (by decide) ?_
            refine lv_aload_n hx hb dX4_leansOn_61 rfl (lv_at hl 1 rfl) ?_
            refine tg_X4_4 S hI mw_66 dX4_leansOn_62 ?_
            refine lv_iload_n hx hb dX4_leansOn_65 rfl (lv_at hl 4 rfl) ?_
            refine tk_iald S hI (k := 22) (n := 64) rfl hf dX4_leansOn_66 (fun v16 hf => ?_)
            refine lv_ishl hx hb dX4_leansOn_67 ?_
            refine lv_goto (tgt := 72) hx hb dX4_leansOn_68 (by decide) ?_
            refine lv_ior hx hb dX4_leansOn_72 ?_
            refine tk_topi hf (fun i17 hf => ?_)
            refine lv_istore_n (lv' := [(2, .int i17), (4, .int (1 : Int32)), (0, .ref (tad G 19)), (1, .int x1), (3, .int x3)]) hx hb dX4_leansOn_73 rfl hl (by decide) rfl (fun ls hl => ?_)
            refine tk_let hf (fun i18 ei18 hf => ?_)
            refine lv_iinc (v := i18) (lv' := [(3, .int i18), (2, .int i17), (4, .int (1 : Int32)), (0, .ref (tad G 19)), (1, .int x1)]) hx hb dX4_leansOn_74 hl (k := 4) rfl (by rw [ei18]; rfl) (by decide) rfl (fun ls hl => ?_)
            refine lv_goto (tgt := 4) hx hb dX4_leansOn_77 (by decide) ?_
            exact ih x1 i17 i18 _ _ _ hI (lv_sub hl [3, 4, 1, 0] rfl) hf
set_option maxHeartbeats 4000000 in
set_option maxRecDepth 100000 in
theorem c_X4_leansOn (l : Launch) (G : tG) (st : tST) (x1 : Int32) {r : Int32} (hf : f_X4_leansOn x1 st = some r) : tCI l G yX4_leansOn cX4_leansOn 5 (some .int) rm_X4_leansOn [.ref (tad G 19), .int x1] st r st := by
  refine tk_entI (by decide +kernel) (Nat.le_of_ble_eq_true rfl) (fun p e s m below meth c ls S hr hlk hI hl => ?_)
  have hl : lv_has ls 5 [(0, .ref (tad G 19)), (1, .int x1)] := hl
  have S : CallFix p m c cX4_leansOn 5 s [.ref (tad G 19), .int x1].toArray wsL_law RX4 := S
  have hx := S.1
  have hb := S.2.1
  have hown := S.2.2.2.1
  have hts := S.2.2.2.2
  unfold f_X4_leansOn at hf
  refine lv_iconst (v := 0) hx hb dX4_leansOn_0 (by decide) ?_
  refine lv_istore_n (lv' := [(2, .int (0 : Int32)), (0, .ref (tad G 19)), (1, .int x1)]) hx hb dX4_leansOn_1 rfl hl (by decide) rfl (fun ls hl => ?_)
  refine lv_iconst (v := 0) hx hb dX4_leansOn_2 (by decide) ?_
  refine lv_istore_n (lv' := [(3, .int (0 : Int32)), (2, .int (0 : Int32)), (0, .ref (tad G 19)), (1, .int x1)]) hx hb dX4_leansOn_3 rfl hl (by decide) rfl (fun ls hl => ?_)
  exact k_X4_leansOn_4 S hr hlk tfu x1 (0 : Int32) (0 : Int32) _ _ _ hI (lv_sub hl [2, 3, 1, 0] rfl) hf
/-! X4_changeNow -/
abbrev rm_X4_changeNow : Room := { frames := 5, cells := 0, slots := 0, locals := 117 }
def f_X4_changeNow (x1 : Int32) (x2 : Int32) (st : tST) : Option (Int32) := (if x2 = (0 : Int32) then tal 12 (tg_A st 25) x1 (fun v1 => some v1) else (if x2 = (1 : Int32) then tal 12 (tg_A st 26) x1 (fun v2 => some v2) else (if x2 = (2 : Int32) then tal 12 (tg_A st 27) x1 (fun v3 => some v3) else (if x2 = (3 : Int32) then tal 12 (tg_A st 28) x1 (fun v4 => (if v4 = 0 then some (0 : Int32) else some (1 : Int32))) else (if x2 = (4 : Int32) then (f_X4_touchedBy x1 (0 : Int32) st).bind (fun r5 => some r5) else (if x2 = (5 : Int32) then (f_X4_touchedBy x1 (1 : Int32) st).bind (fun r6 => some r6) else (f_X4_leansOn x1 st).bind (fun r7 => some r7)))))))
theorem yd_X4_changeNow : yX4_changeNow.cls = RX4 ∧ yX4_changeNow.cls ≠ "java/lang/invoke/MethodHandle" ∧ yX4_changeNow.cls ≠ "java/lang/invoke/VarHandle" ∧ (parseMethodDescriptor yX4_changeNow.desc).map (fun d => d.parameters.length) = some 2 := by decide +kernel
set_option maxHeartbeats 4000000 in
set_option maxRecDepth 100000 in
theorem c_X4_changeNow (l : Launch) (G : tG) (st : tST) (x1 : Int32) (x2 : Int32) {r : Int32} (hf : f_X4_changeNow x1 x2 st = some r) : tCI l G yX4_changeNow cX4_changeNow 3 (some .int) rm_X4_changeNow [.ref (tad G 19), .int x1, .int x2] st r st := by
  refine tk_entI (by decide +kernel) (Nat.le_of_ble_eq_true rfl) (fun p e s m below meth c ls S hr hlk hI hl => ?_)
  have hl : lv_has ls 3 [(0, .ref (tad G 19)), (1, .int x1), (2, .int x2)] := hl
  have S : CallFix p m c cX4_changeNow 3 s [.ref (tad G 19), .int x1, .int x2].toArray wsL_law RX4 := S
  have hx := S.1
  have hb := S.2.1
  have hown := S.2.2.2.1
  have hts := S.2.2.2.2
  unfold f_X4_changeNow at hf
  refine lv_iload_n hx hb dX4_changeNow_0 rfl (lv_at hl 2 rfl) ?_
  refine tk_if hf (fun c1_0 hf => ?_) (fun c1_0 hf => ?_)
  · refine lv_tableIn (off := 39) (tgt := 40) hx hb dX4_changeNow_1 (by rw [c1_0]; decide) (by rw [c1_0]; decide) (by rw [c1_0]; rfl) (by decide) ?_
    refine lv_aload_n hx hb dX4_changeNow_40 rfl (lv_at hl 0 rfl) ?_
    refine tg_X4_8 S hI mw_69 dX4_changeNow_41 ?_
    refine lv_iload_n hx hb dX4_changeNow_44 rfl (lv_at hl 1 rfl) ?_
    refine tk_iald S hI (k := 25) (n := 12) rfl hf dX4_changeNow_45 (fun v1 hf => ?_)
    exact tk_riR S hr hlk hI hf dX4_changeNow_46
  refine tk_if hf (fun c1_1 hf => ?_) (fun c1_1 hf => ?_)
  · refine lv_tableIn (off := 46) (tgt := 47) hx hb dX4_changeNow_1 (by rw [c1_1]; decide) (by rw [c1_1]; decide) (by rw [c1_1]; rfl) (by decide) ?_
    refine lv_aload_n hx hb dX4_changeNow_47 rfl (lv_at hl 0 rfl) ?_
    refine tg_X4_9 S hI mw_70 dX4_changeNow_48 ?_
    refine lv_iload_n hx hb dX4_changeNow_51 rfl (lv_at hl 1 rfl) ?_
    refine tk_iald S hI (k := 26) (n := 12) rfl hf dX4_changeNow_52 (fun v2 hf => ?_)
    exact tk_riR S hr hlk hI hf dX4_changeNow_53
  refine tk_if hf (fun c1_2 hf => ?_) (fun c1_2 hf => ?_)
  · refine lv_tableIn (off := 53) (tgt := 54) hx hb dX4_changeNow_1 (by rw [c1_2]; decide) (by rw [c1_2]; decide) (by rw [c1_2]; rfl) (by decide) ?_
    refine lv_aload_n hx hb dX4_changeNow_54 rfl (lv_at hl 0 rfl) ?_
    refine tg_X4_10 S hI mw_71 dX4_changeNow_55 ?_
    refine lv_iload_n hx hb dX4_changeNow_58 rfl (lv_at hl 1 rfl) ?_
    refine tk_iald S hI (k := 27) (n := 12) rfl hf dX4_changeNow_59 (fun v3 hf => ?_)
    exact tk_riR S hr hlk hI hf dX4_changeNow_60
  refine tk_if hf (fun c1_3 hf => ?_) (fun c1_3 hf => ?_)
  · refine lv_tableIn (off := 60) (tgt := 61) hx hb dX4_changeNow_1 (by rw [c1_3]; decide) (by rw [c1_3]; decide) (by rw [c1_3]; rfl) (by decide) ?_
    refine lv_aload_n hx hb dX4_changeNow_61 rfl (lv_at hl 0 rfl) ?_
    refine tg_X4_11 S hI mw_73 dX4_changeNow_62 ?_
    refine lv_iload_n hx hb dX4_changeNow_65 rfl (lv_at hl 1 rfl) ?_
    refine tk_zald S hI (k := 28) (n := 12) rfl hf dX4_changeNow_66 (fun v4 hf => ?_)
    refine tk_if_eq (tgt := 74) hx hb hf dX4_changeNow_67 (by decide) (fun hf => ?_) (fun hf => ?_)
    · refine lv_iconst (v := 0) hx hb dX4_changeNow_74 (by decide) ?_
      exact tk_riR S hr hlk hI hf dX4_changeNow_75
    · refine lv_iconst (v := 1) hx hb dX4_changeNow_70 (by decide) ?_
      refine lv_goto (tgt := 75) hx hb dX4_changeNow_71 (by decide) ?_
      exact tk_riR S hr hlk hI hf dX4_changeNow_75
  refine tk_if hf (fun c1_4 hf => ?_) (fun c1_4 hf => ?_)
  · refine lv_tableIn (off := 75) (tgt := 76) hx hb dX4_changeNow_1 (by rw [c1_4]; decide) (by rw [c1_4]; decide) (by rw [c1_4]; rfl) (by decide) ?_
    refine lv_aload_n hx hb dX4_changeNow_76 rfl (lv_at hl 0 rfl) ?_
    refine lv_iload_n hx hb dX4_changeNow_77 rfl (lv_at hl 1 rfl) ?_
    refine lv_iconst (v := 0) hx hb dX4_changeNow_78 (by decide) ?_
    refine tk_bd hf (fun r5 hq hf => ?_)
    refine tk_vI S hI hl.1 (c_X4_touchedBy l G st x1 (0 : Int32) hq) (cwV 2 hts (tk_gV mw_426 mw_427 mw_428 mw_5 mw_429) rfl rfl rfl yd_X4_touchedBy ⟨Nat.le_of_ble_eq_true rfl, Nat.le_of_ble_eq_true rfl⟩) 19 4 rfl rfl rfl rfl [] rfl (Nat.le_of_ble_eq_true rfl) dX4_changeNow_79 (fun H locs hI => ?_)
    exact tk_riR S hr hlk hI hf dX4_changeNow_82
  refine tk_if hf (fun c1_5 hf => ?_) (fun c1_5 hf => ?_)
  · refine lv_tableIn (off := 82) (tgt := 83) hx hb dX4_changeNow_1 (by rw [c1_5]; decide) (by rw [c1_5]; decide) (by rw [c1_5]; rfl) (by decide) ?_
    refine lv_aload_n hx hb dX4_changeNow_83 rfl (lv_at hl 0 rfl) ?_
    refine lv_iload_n hx hb dX4_changeNow_84 rfl (lv_at hl 1 rfl) ?_
    refine lv_iconst (v := 1) hx hb dX4_changeNow_85 (by decide) ?_
    refine tk_bd hf (fun r6 hq hf => ?_)
    refine tk_vI S hI hl.1 (c_X4_touchedBy l G st x1 (1 : Int32) hq) (cwV 2 hts (tk_gV mw_426 mw_427 mw_428 mw_5 mw_429) rfl rfl rfl yd_X4_touchedBy ⟨Nat.le_of_ble_eq_true rfl, Nat.le_of_ble_eq_true rfl⟩) 19 4 rfl rfl rfl rfl [] rfl (Nat.le_of_ble_eq_true rfl) dX4_changeNow_86 (fun H locs hI => ?_)
    exact tk_riR S hr hlk hI hf dX4_changeNow_89
  refine lv_tableOut (tgt := 90) hx hb dX4_changeNow_1 (by have := lv_neT c1_0 (a := 0) (by decide); have := lv_neT c1_1 (a := 1) (by decide); have := lv_neT c1_2 (a := 2) (by decide); have := lv_neT c1_3 (a := 3) (by decide); have := lv_neT c1_4 (a := 4) (by decide); have := lv_neT c1_5 (a := 5) (by decide); omega) (by decide) ?_
  refine lv_aload_n hx hb dX4_changeNow_90 rfl (lv_at hl 0 rfl) ?_
  refine lv_iload_n hx hb dX4_changeNow_91 rfl (lv_at hl 1 rfl) ?_
  refine tk_bd hf (fun r7 hq hf => ?_)
  refine tk_vI S hI hl.1 (c_X4_leansOn l G st x1 hq) (cwV 1 hts (tk_gV mw_438 mw_439 mw_440 mw_5 mw_441) rfl rfl rfl yd_X4_leansOn ⟨Nat.le_of_ble_eq_true rfl, Nat.le_of_ble_eq_true rfl⟩) 19 4 rfl rfl rfl rfl [] rfl (Nat.le_of_ble_eq_true rfl) dX4_changeNow_92 (fun H locs hI => ?_)
  exact tk_riR S hr hlk hI hf dX4_changeNow_95
