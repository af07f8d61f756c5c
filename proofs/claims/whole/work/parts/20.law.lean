/-! THE CLAIM OUT OF ONE WALK OF THE LAW'S BODY. Your part is whole_start (and what it stands on); all else here is the same for every law, but numbers. -/
def R_law : String := "TrackedLettersLaw"
def lw_P (b : Addr) (xs : List Int32) (args : Array Value) (s : State) : Prop := args = #[.ref b] ∧ s.IntsAt b xs ∧ xs.length ≤ 2560 ∧ (Jvm.Cond.and given_1 narrow_1).before args s = true
def lw_Q (_ : Array Value) (s : State) (o : Outcome) (t : State) : Prop := o = .returned (some (.int 1)) ∧ Framed s o t [] 41 2316
def lw_Z (below : List Frame) (a : Array Value) (s : State) : State → Prop := fun t => ∃ o, t.status = .running ∧ Ended t below o ∧ lw_Q a s o t
/-- the law's own end, with 1 on the stack, nothing written that was there before, its room as the claim has it -/
theorem lw_ret {p : Program} {l : Launch} {e : Env} {s : State} {m : MethodId} {below : List Frame} {meth : Method} {c : Code} {b : Nat} (hx : p.tables.exec = Jvm.exec) (hb : c.code = code) (hr : meth.sig.returnType = ret) (hlocks : meth.locks = false) {pc : Nat} {H : Heap} {ls : Array Slot} (hdg : decode code pc = .ok (.ireturn, 1)) : W p l e room_1 s m #[Value.ref b] below meth c H [] 41 2316 (lw_Z below #[Value.ref b] s) (F0 m pc ls [.int 1]) := by
  intro T hT X
  obtain ⟨fs, hret, hrun, hended, hW, hframe⟩ := X.leave (v := some (.int 1)) (hlocks := hlocks) (fun h => by rw [hr] at h; cases h)
  have hmeth' : T.vm.method? m = some meth := X.method'
  refine ⟨T.setFrames fs, ?_, .returned (some (.int 1)), hrun, hended, rfl, ⟨_, rfl⟩, hW, hframe⟩
  jvm_step X.here [X.here.top, hx, hb, hdg, hmeth', hr, ret, narrow_b1]
  (try refine ⟨rfl, ?_⟩); (try refine ⟨rfl, ?_⟩)
  first | (intro acts; rw [hret _ acts rfl rfl rfl]) | rw [hret _ _ rfl rfl rfl]
  exact Steps.refl _
/-- what holds at the law's entry: the machine, the code, the tables' words (any of lw_tbl by 'hts w (by decide +kernel)'), the script of L ints xs at the cell b, what the Statement gives of the start (any of its parts by flat_of_before) -/
def lw_At (p : Program) (s : State) (m : MethodId) (meth : Method) (c : Code) (b L : Nat) (xs : Nat → Int32) : Prop :=
  p.tables.exec = Jvm.exec ∧ c.code = code ∧ meth.sig.returnType = ret ∧ c.maxLocals = 4 ∧ s.vm.findClass R_law = some m.cls ∧ (∀ w ∈ lw_tbl, w.before #[Value.ref b] s = true) ∧ va_X b L xs s s.heap ∧ b < s.heap.size ∧ meth.locks = false ∧ (Jvm.Cond.and given_1 narrow_1).before #[Value.ref b] s = true
theorem tk_sld {p : Program} {l : Launch} {e : Env} {R : Room} {s : State} {m : MethodId} {args : Array Value} {below : List Frame} {meth : Method} {c : Code} {H : Heap} {locs : List Loc} {cells slots : Nat} {Q : State → Prop} {cc : ByteArray} {pc : Nat} {ls : Array Slot} {rest : List Value} {G : tG} {st : tST} {β : Type} {z : β} {A : Nat → Prop} (hx : p.tables.exec = Jvm.exec) (hb : c.code = cc) {b L : Nat} {xs : Nat → Int32} (hX : va_X b L xs s s.heap) (hbl : b < s.heap.size) (hbA : ¬ A b) (hI : tIn G A s st H locs) {i : Int32} {kk : Int32 → Option β} (hf : tal L xs i kk = some z) (hd : decode cc pc = .ok (.iaload, 1)) (kn : ∀ v : Int32, kk v = some z → W p l e R s m args below meth c H locs cells slots Q (F0 m (pc + 1) ls (.int v :: rest))) : W p l e R s m args below meth c H locs cells slots Q (F0 m pc ls (.int i :: .ref b :: rest)) := by
  unfold tal at hf
  split at hf
  · cases hf
  · next h => exact va_sld hx hb hX hbl hbA hI.2.2.2 h hd (kn _ hf)
theorem tk_base {G : tG} {sz q : Nat} (hG : ∀ k, sz ≤ tad G k) (h : tA G sz q) : sz ≤ q := h.elim (fun ⟨k, hk⟩ => by rw [hk]; exact hG k) id
theorem tk_lI {p : Program} {l : Launch} {e : Env} {R : Room} {s : State} {m : MethodId} {args : Array Value} {below : List Frame} {meth : Method} {c : Code} {H : Heap} {locs : List Loc} {cells slots : Nat} {Q : State → Prop} {cc : ByteArray} {nL pc index : Nat} {ls : Array Slot} {st0 : List Value} {own : String} {G : tG} {st : tST} (S : CallFix p m c cc nL s args wsL_law own) (hI : tIn G (tA G s.heap.size) s st H locs) (hls : ls.size = nL) (hcs : cells ≤ R.cells ∧ slots ≤ R.slots) {y : MethodName} {bytes : ByteArray} {mLc n : Nat} {ret : Option FieldType} {rmc : Room} {C : String} {b : Nat} {As : List Value} {r : Int32} {st' : tST} (hM : tCI l G y bytes mLc ret rmc (.ref b :: As) st r st') (cw : CallW R s args own C index y bytes mLc ret (Cond.code y bytes mLc ret :: wsL_law) rmc 0 0 n) (q0 ci : Nat) {fs : List Value} {qq : vw_C} (hrv : (tw G st)[q0]? = some (b, .inr (ci, fs))) (hcl : vwCl[ci]? = some qq) (hC : qq.1 = C) (hn : As.length = n) (rest : List Value) (hst : st0 = As.reverse ++ .ref b :: rest) (hW : (rest.map fun v => v.category).sum ≤ 8) (hdg : decode cc pc = .ok (.invokevirtual index, 3)) (kk : ∀ (H1 : Heap) (locs1 : List Loc), tIn G (tA G s.heap.size) s st' H1 locs1 → W p l e R s m args below meth c H1 locs1 cells slots Q (F0 m (pc + 3) ls (.int r :: rest))) : W p l e R s m args below meth c H locs cells slots Q (F0 m pc ls st0) := by
  subst hC
  refine va_calli (va_runV S (hM H.size) cw ⟨tk_blind, va_recv hI.1 hI.2.1 hcl hrv, fun U hU hW => ⟨rfl, by rw [hU], by rw [hU]; exact hI.2.1, va_K.moved hW.alike hI.1, hI.2.2.1.weaken (fun _ _ _ _ => trivial)⟩⟩ rfl hn hls hst (lv_room hW) hdg hcs) hI.2.2.2 (fun q _ h => tA_sub hI.2.2.2 q h) (fun q h => tA_sub hI.2.2.2 q h) (fun r' u t H1 locs1 ht hvm hp hB hz hk hS => ?_)
  obtain ⟨rfl, rfl⟩ := hp
  obtain ⟨hP, hK, hD⟩ := hB
  exact kk H1 locs1 ⟨hI.1, by rw [← ht]; exact hP, hD.weaken (fun _ q _ h => tA_sub hI.2.2.2 q.1 h), hS⟩
theorem tk_lL {p : Program} {l : Launch} {e : Env} {R : Room} {s : State} {m : MethodId} {args : Array Value} {below : List Frame} {meth : Method} {c : Code} {H : Heap} {locs : List Loc} {cells slots : Nat} {Q : State → Prop} {cc : ByteArray} {nL pc index : Nat} {ls : Array Slot} {st0 : List Value} {own : String} {G : tG} {st : tST} (S : CallFix p m c cc nL s args wsL_law own) (hI : tIn G (tA G s.heap.size) s st H locs) (hls : ls.size = nL) (hcs : cells ≤ R.cells ∧ slots ≤ R.slots) {y : MethodName} {bytes : ByteArray} {mLc n : Nat} {ret : Option FieldType} {rmc : Room} {C : String} {b : Nat} {As : List Value} {r : Int64} {st' : tST} (hM : tCL l G y bytes mLc ret rmc (.ref b :: As) st r st') (cw : CallW R s args own C index y bytes mLc ret (Cond.code y bytes mLc ret :: wsL_law) rmc 0 0 n) (q0 ci : Nat) {fs : List Value} {qq : vw_C} (hrv : (tw G st)[q0]? = some (b, .inr (ci, fs))) (hcl : vwCl[ci]? = some qq) (hC : qq.1 = C) (hn : As.length = n) (rest : List Value) (hst : st0 = As.reverse ++ .ref b :: rest) (hW : (rest.map fun v => v.category).sum ≤ 8) (hdg : decode cc pc = .ok (.invokevirtual index, 3)) (kk : ∀ (H1 : Heap) (locs1 : List Loc), tIn G (tA G s.heap.size) s st' H1 locs1 → W p l e R s m args below meth c H1 locs1 cells slots Q (F0 m (pc + 3) ls (.long r :: rest))) : W p l e R s m args below meth c H locs cells slots Q (F0 m pc ls st0) := by
  subst hC
  refine va_calll (va_runV S (hM H.size) cw ⟨tk_blind, va_recv hI.1 hI.2.1 hcl hrv, fun U hU hW => ⟨rfl, by rw [hU], by rw [hU]; exact hI.2.1, va_K.moved hW.alike hI.1, hI.2.2.1.weaken (fun _ _ _ _ => trivial)⟩⟩ rfl hn hls hst (lv_room hW) hdg hcs) hI.2.2.2 (fun q _ h => tA_sub hI.2.2.2 q h) (fun q h => tA_sub hI.2.2.2 q h) (fun r' u t H1 locs1 ht hvm hp hB hz hk hS => ?_)
  obtain ⟨rfl, rfl⟩ := hp
  obtain ⟨hP, hK, hD⟩ := hB
  exact kk H1 locs1 ⟨hI.1, by rw [← ht]; exact hP, hD.weaken (fun _ q _ h => tA_sub hI.2.2.2 q.1 h), hS⟩
def f_L_law_18 (L : Nat) (xs : Nat → Int32) : Nat → Int32 → tST → Option Int32
  | 0, _, _ => none
  | n + 1, x3, st => (if ((Int32.ofNat L) - (5 : Int32)) < x3 then some (1 : Int32) else tal L xs x3 (fun v1 => (if (v1 &&& (31 : Int32)) = (0 : Int32) then tal L xs (x3 + (1 : Int32)) (fun v2 => tbd (f_X3_letter v2 st) (fun r3 s4 => tal L xs (x3 + (1 : Int32)) (fun v5 => tbd (f_X4_letter v5 s4) (fun r6 s7 => (if r3 = r6 then tlet (x3 + (5 : Int32)) (fun i8 => f_L_law_18 L xs n i8 s7) else some (0 : Int32)))))) else (if (v1 &&& (31 : Int32)) = (1 : Int32) then tbd (f_X3_blank st) (fun r9 s10 => tbd (f_X4_blank s10) (fun r11 s12 => (if r9 = r11 then tlet (x3 + (5 : Int32)) (fun i13 => f_L_law_18 L xs n i13 s12) else some (0 : Int32)))) else (if (v1 &&& (31 : Int32)) = (2 : Int32) then tbd (f_X3_begin st) (fun r14 s15 => tbd (f_X4_begin s15) (fun r16 s17 => (if r14 = r16 then tlet (x3 + (5 : Int32)) (fun i18 => f_L_law_18 L xs n i18 s17) else some (0 : Int32)))) else (if (v1 &&& (31 : Int32)) = (3 : Int32) then tal L xs (x3 + (1 : Int32)) (fun v19 => tal L xs (x3 + (2 : Int32)) (fun v20 => tbd (f_X3_insert v19 v20 st) (fun r21 s22 => tal L xs (x3 + (1 : Int32)) (fun v23 => tal L xs (x3 + (2 : Int32)) (fun v24 => tbd (f_X4_insert v23 v24 s22) (fun r25 s26 => (if r21 = r25 then tlet (x3 + (5 : Int32)) (fun i27 => f_L_law_18 L xs n i27 s26) else some (0 : Int32)))))))) else (if (v1 &&& (31 : Int32)) = (4 : Int32) then tal L xs (x3 + (1 : Int32)) (fun v28 => tal L xs (x3 + (2 : Int32)) (fun v29 => tal L xs (x3 + (3 : Int32)) (fun v30 => tbd (f_X3_remove v28 v29 v30 st) (fun r31 s32 => tal L xs (x3 + (1 : Int32)) (fun v33 => tal L xs (x3 + (2 : Int32)) (fun v34 => tal L xs (x3 + (3 : Int32)) (fun v35 => tbd (f_X4_remove v33 v34 v35 s32) (fun r36 s37 => (if r31 = r36 then tlet (x3 + (5 : Int32)) (fun i38 => f_L_law_18 L xs n i38 s37) else some (0 : Int32)))))))))) else (if (v1 &&& (31 : Int32)) = (5 : Int32) then tal L xs (x3 + (1 : Int32)) (fun v39 => tal L xs (x3 + (2 : Int32)) (fun v40 => tal L xs (x3 + (3 : Int32)) (fun v41 => tal L xs (x3 + (4 : Int32)) (fun v42 => tbd (f_X3_move v39 v40 v41 v42 st) (fun r43 s44 => tal L xs (x3 + (1 : Int32)) (fun v45 => tal L xs (x3 + (2 : Int32)) (fun v46 => tal L xs (x3 + (3 : Int32)) (fun v47 => tal L xs (x3 + (4 : Int32)) (fun v48 => tbd (f_X4_move v45 v46 v47 v48 s44) (fun r49 s50 => (if r43 = r49 then tlet (x3 + (5 : Int32)) (fun i51 => f_L_law_18 L xs n i51 s50) else some (0 : Int32)))))))))))) else (if (v1 &&& (31 : Int32)) = (6 : Int32) then tal L xs (x3 + (1 : Int32)) (fun v52 => tal L xs (x3 + (2 : Int32)) (fun v53 => (if v53 = 0 then tbd (f_X3_show v52 (0 : Int32) st) (fun r54 s55 => tal L xs (x3 + (1 : Int32)) (fun v56 => tal L xs (x3 + (2 : Int32)) (fun v57 => (if v57 = 0 then tbd (f_X4_show v56 (0 : Int32) s55) (fun r58 s59 => (if r54 = r58 then tlet (x3 + (5 : Int32)) (fun i60 => f_L_law_18 L xs n i60 s59) else some (0 : Int32))) else tbd (f_X4_show v56 (1 : Int32) s55) (fun r61 s62 => (if r54 = r61 then tlet (x3 + (5 : Int32)) (fun i63 => f_L_law_18 L xs n i63 s62) else some (0 : Int32))))))) else tbd (f_X3_show v52 (1 : Int32) st) (fun r64 s65 => tal L xs (x3 + (1 : Int32)) (fun v66 => tal L xs (x3 + (2 : Int32)) (fun v67 => (if v67 = 0 then tbd (f_X4_show v66 (0 : Int32) s65) (fun r68 s69 => (if r64 = r68 then tlet (x3 + (5 : Int32)) (fun i70 => f_L_law_18 L xs n i70 s69) else some (0 : Int32))) else tbd (f_X4_show v66 (1 : Int32) s65) (fun r71 s72 => (if r64 = r71 then tlet (x3 + (5 : Int32)) (fun i73 => f_L_law_18 L xs n i73 s72) else some (0 : Int32)))))))))) else (if (v1 &&& (31 : Int32)) = (7 : Int32) then tal L xs (x3 + (1 : Int32)) (fun v74 => tal L xs (x3 + (2 : Int32)) (fun v75 => tbd (f_X3_decide v74 v75 st) (fun r76 s77 => tal L xs (x3 + (1 : Int32)) (fun v78 => tal L xs (x3 + (2 : Int32)) (fun v79 => tbd (f_X4_decide v78 v79 s77) (fun r80 s81 => (if r76 = r80 then tlet (x3 + (5 : Int32)) (fun i82 => f_L_law_18 L xs n i82 s81) else some (0 : Int32)))))))) else (if (v1 &&& (31 : Int32)) = (8 : Int32) then tbd (f_X3_settle st) (fun r83 s84 => tbd (f_X4_settle s84) (fun r85 s86 => (if r83 = r85 then tlet (x3 + (5 : Int32)) (fun i87 => f_L_law_18 L xs n i87 s86) else some (0 : Int32)))) else (if (v1 &&& (31 : Int32)) = (9 : Int32) then tal L xs (x3 + (1 : Int32)) (fun v88 => tbd (f_X3_length v88 st) (fun r89 s90 => tal L xs (x3 + (1 : Int32)) (fun v91 => tbd (f_X4_length v91 s90) (fun r92 s93 => (if r89 = r92 then tlet (x3 + (5 : Int32)) (fun i94 => f_L_law_18 L xs n i94 s93) else some (0 : Int32)))))) else (if (v1 &&& (31 : Int32)) = (10 : Int32) then tal L xs (x3 + (1 : Int32)) (fun v95 => tal L xs (x3 + (2 : Int32)) (fun v96 => tal L xs (x3 + (3 : Int32)) (fun v97 => tbd (f_X3_read v95 v96 v97 st) (fun r98 s99 => tal L xs (x3 + (1 : Int32)) (fun v100 => tal L xs (x3 + (2 : Int32)) (fun v101 => tal L xs (x3 + (3 : Int32)) (fun v102 => tbd (f_X4_read v100 v101 v102 s99) (fun r103 s104 => (if r98 = r103 then tlet (x3 + (5 : Int32)) (fun i105 => f_L_law_18 L xs n i105 s104) else some (0 : Int32)))))))))) else (if (v1 &&& (31 : Int32)) = (11 : Int32) then tal L xs (x3 + (1 : Int32)) (fun v106 => tal L xs (x3 + (2 : Int32)) (fun v107 => (f_X3_place v106 v107 st).bind (fun r108 => tal L xs (x3 + (1 : Int32)) (fun v109 => tal L xs (x3 + (2 : Int32)) (fun v110 => (f_X4_place v109 v110 st).bind (fun r111 => (if r108 = r111 then tlet (x3 + (5 : Int32)) (fun i112 => f_L_law_18 L xs n i112 st) else some (0 : Int32)))))))) else (if (v1 &&& (31 : Int32)) = (12 : Int32) then tal L xs (x3 + (1 : Int32)) (fun v113 => tal L xs (x3 + (2 : Int32)) (fun v114 => (f_X3_change v113 v114 st).bind (fun r115 => tal L xs (x3 + (1 : Int32)) (fun v116 => tal L xs (x3 + (2 : Int32)) (fun v117 => (f_X4_change v116 v117 st).bind (fun r118 => (if r115 = r118 then tlet (x3 + (5 : Int32)) (fun i119 => f_L_law_18 L xs n i119 st) else some (0 : Int32)))))))) else (if (v1 &&& (31 : Int32)) = (13 : Int32) then tal L xs (x3 + (1 : Int32)) (fun v120 => tal L xs (x3 + (2 : Int32)) (fun v121 => tbd (f_X3_span v120 v121 st) (fun r122 s123 => tal L xs (x3 + (1 : Int32)) (fun v124 => tal L xs (x3 + (2 : Int32)) (fun v125 => tbd (f_X4_span v124 v125 s123) (fun r126 s127 => (if r122 = r126 then tlet (x3 + (5 : Int32)) (fun i128 => f_L_law_18 L xs n i128 s127) else some (0 : Int32)))))))) else (if (v1 &&& (31 : Int32)) = (14 : Int32) then tal L xs (x3 + (1 : Int32)) (fun v129 => tbd (f_X3_found v129 st) (fun r130 s131 => tal L xs (x3 + (1 : Int32)) (fun v132 => tbd (f_X4_found v132 s131) (fun r133 s134 => (if r130 = r133 then tlet (x3 + (5 : Int32)) (fun i135 => f_L_law_18 L xs n i135 s134) else some (0 : Int32)))))) else (if (v1 &&& (31 : Int32)) = (15 : Int32) then tal L xs (x3 + (1 : Int32)) (fun v136 => (f_X3_count v136 st).bind (fun r137 => tal L xs (x3 + (1 : Int32)) (fun v138 => (f_X4_count v138 st).bind (fun r139 => (if r137 = r139 then tlet (x3 + (5 : Int32)) (fun i140 => f_L_law_18 L xs n i140 st) else some (0 : Int32)))))) else (if (v1 &&& (31 : Int32)) = (16 : Int32) then tbd (f_X3_digest st) (fun r141 s142 => tbd (f_X4_digest s142) (fun r143 s144 => (if (lg_cmp r141 r143) = 0 then tlet (x3 + (5 : Int32)) (fun i145 => f_L_law_18 L xs n i145 s144) else some (0 : Int32)))) else tlet (x3 + (5 : Int32)) (fun i146 => f_L_law_18 L xs n i146 st))))))))))))))))))))
set_option maxHeartbeats 8000000 in
set_option maxRecDepth 100000 in
theorem k_L_law_18 {l : Launch} {G : tG} {p : Program} {e : Env} {s : State} {m : MethodId} {below : List Frame} {meth : Method} {c : Code} {b L : Nat} {xs : Nat → Int32} (S : CallFix p m c cL_law 4 s #[Value.ref b] wsL_law RL) (hr : meth.sig.returnType = ret) (hlk : meth.locks = false) (hX : va_X b L xs s s.heap) (hbl : b < s.heap.size) (hG : ∀ k, s.heap.size ≤ tad G k) : ∀ (n : Nat) (x3 : Int32) (st : tST) (H : Heap) (locs : List Loc) (ls : Array Slot), tIn G (tA G s.heap.size) s st H locs → lv_has ls 4 [(0, .ref b), (1, .ref (tad G 0)), (2, .ref (tad G 19)), (3, .int x3)] → f_L_law_18 L xs n x3 st = some 1 → W p l e room_1 s m #[Value.ref b] below meth c H locs 41 2316 (lw_Z below #[Value.ref b] s) (F0 m 18 ls []) := by
  have hx := S.1
  have hb := S.2.1
  have hown := S.2.2.2.1
  have hts := S.2.2.2.2
  have hcs : 41 ≤ room_1.cells ∧ 2316 ≤ room_1.slots := ⟨Nat.le_of_ble_eq_true rfl, Nat.le_of_ble_eq_true rfl⟩
  have hbA : ¬ tA G s.heap.size b := fun h => Nat.not_le.mpr hbl (tk_base hG h)
  intro n
  induction n with
  | zero => intro x3 st H locs ls hI hl hf; exact nomatch (show (none : Option Int32) = some _ from hf)
  | succ n ih =>
    intro x3 st H locs ls hI hl hf
    rw [f_L_law_18] at hf
    refine lv_iload_n hx hb dL_law_18 rfl (lv_at hl 3 rfl) ?_
    refine lv_aload_n hx hb dL_law_19 rfl (lv_at hl 0 rfl) ?_
    refine va_slen hx hb hX hbl hbA hI.2.2.2 dL_law_20 ?_
    refine lv_iconst (v := 5) hx hb dL_law_21 (by decide) ?_
    refine lv_isub hx hb dL_law_22 ?_
    refine tk_icmp_gt (tgt := 620) hx hb hf dL_law_23 (by decide) (fun hf => ?_) (fun hf => ?_)
    · refine lv_iconst (v := 1) hx hb dL_law_620 (by decide) ?_
      refine va_forget (fun q hq => tk_base hG (hI.2.2.2.2.2 q hq)) ?_
      exact lw_ret hx hb hr hlk dL_law_621
    · refine lv_aload_n hx hb dL_law_26 rfl (lv_at hl 0 rfl) ?_
      refine lv_iload_n hx hb dL_law_27 rfl (lv_at hl 3 rfl) ?_
      refine tk_sld hx hb hX hbl hbA hI hf dL_law_28 (fun v1 hf => ?_)
      refine lv_bipush (v := 31) hx hb dL_law_29 (by decide) ?_
      refine lv_iand hx hb dL_law_31 ?_
      refine tk_if hf (fun c1_0 hf => ?_) (fun c1_0 hf => ?_)
      · refine lv_tableIn (off := 84) (tgt := 116) hx hb dL_law_32 (by rw [c1_0]; decide) (by rw [c1_0]; decide) (by rw [c1_0]; rfl) (by decide) ?_
        refine lv_aload_n hx hb dL_law_116 rfl (lv_at hl 1 rfl) ?_
        refine lv_aload_n hx hb dL_law_117 rfl (lv_at hl 0 rfl) ?_
        refine lv_iload_n hx hb dL_law_118 rfl (lv_at hl 3 rfl) ?_
        refine lv_iconst (v := 1) hx hb dL_law_119 (by decide) ?_
        refine lv_iadd hx hb dL_law_120 ?_
        refine tk_sld hx hb hX hbl hbA hI hf dL_law_121 (fun v2 hf => ?_)
        refine tk_bd2 hf (fun r3 s4 hq hf => ?_)
        refine tk_lI S hI hl.1 hcs (c_X3_letter l G st v2 hq) (cwV 1 hts (tk_gV mw_86 mw_87 mw_88 mw_2 mw_89) rfl rfl rfl yd_X3_letter ⟨Nat.le_of_ble_eq_true rfl, Nat.le_of_ble_eq_true rfl⟩) 0 3 rfl rfl rfl rfl [] rfl (Nat.le_of_ble_eq_true rfl) dL_law_122 (fun H locs hI => ?_)
        refine lv_aload_n hx hb dL_law_125 rfl (lv_at hl 2 rfl) ?_
        refine lv_aload_n hx hb dL_law_126 rfl (lv_at hl 0 rfl) ?_
        refine lv_iload_n hx hb dL_law_127 rfl (lv_at hl 3 rfl) ?_
        refine lv_iconst (v := 1) hx hb dL_law_128 (by decide) ?_
        refine lv_iadd hx hb dL_law_129 ?_
        refine tk_sld hx hb hX hbl hbA hI hf dL_law_130 (fun v5 hf => ?_)
        refine tk_bd2 hf (fun r6 s7 hq hf => ?_)
        refine tk_lI S hI hl.1 hcs (c_X4_letter l G s4 v5 hq) (cwV 1 hts (tk_gV mw_90 mw_91 mw_92 mw_5 mw_93) rfl rfl rfl yd_X4_letter ⟨Nat.le_of_ble_eq_true rfl, Nat.le_of_ble_eq_true rfl⟩) 19 4 rfl rfl rfl rfl [.int r3] rfl (Nat.le_of_ble_eq_true rfl) dL_law_131 (fun H locs hI => ?_)
        refine tk_icmp_eq (tgt := 614) hx hb hf dL_law_134 (by decide) (fun hf => ?_) (fun hf => ?_)
        · refine tk_let hf (fun i8 ei8 hf => ?_)
          refine lv_iinc (v := i8) (lv' := [(3, .int i8), (0, .ref b), (1, .ref (tad G 0)), (2, .ref (tad G 19))]) hx hb dL_law_614 hl (k := 3) rfl (by rw [ei8]; rfl) (by decide) rfl (fun ls hl => ?_)
          refine lv_goto (tgt := 18) hx hb dL_law_617 (by decide) ?_
          exact ih i8 s7 _ _ _ hI (lv_sub hl [1, 2, 3, 0] rfl) hf
        · refine lv_iconst (v := 0) hx hb dL_law_137 (by decide) ?_
          exact absurd hf (by decide)
      refine tk_if hf (fun c1_1 hf => ?_) (fun c1_1 hf => ?_)
      · refine lv_tableIn (off := 107) (tgt := 139) hx hb dL_law_32 (by rw [c1_1]; decide) (by rw [c1_1]; decide) (by rw [c1_1]; rfl) (by decide) ?_
        refine lv_aload_n hx hb dL_law_139 rfl (lv_at hl 1 rfl) ?_
        refine tk_bd2 hf (fun r9 s10 hq hf => ?_)
        refine tk_lI S hI hl.1 hcs (c_X3_blank l G st  hq) (cwV 0 hts (tk_gV mw_98 mw_99 mw_100 mw_2 mw_101) rfl rfl rfl yd_X3_blank ⟨Nat.le_of_ble_eq_true rfl, Nat.le_of_ble_eq_true rfl⟩) 0 3 rfl rfl rfl rfl [] rfl (Nat.le_of_ble_eq_true rfl) dL_law_140 (fun H locs hI => ?_)
        refine lv_aload_n hx hb dL_law_143 rfl (lv_at hl 2 rfl) ?_
        refine tk_bd2 hf (fun r11 s12 hq hf => ?_)
        refine tk_lI S hI hl.1 hcs (c_X4_blank l G s10  hq) (cwV 0 hts (tk_gV mw_102 mw_103 mw_104 mw_5 mw_105) rfl rfl rfl yd_X4_blank ⟨Nat.le_of_ble_eq_true rfl, Nat.le_of_ble_eq_true rfl⟩) 19 4 rfl rfl rfl rfl [.int r9] rfl (Nat.le_of_ble_eq_true rfl) dL_law_144 (fun H locs hI => ?_)
        refine tk_icmp_eq (tgt := 614) hx hb hf dL_law_147 (by decide) (fun hf => ?_) (fun hf => ?_)
        · refine tk_let hf (fun i13 ei13 hf => ?_)
          refine lv_iinc (v := i13) (lv' := [(3, .int i13), (0, .ref b), (1, .ref (tad G 0)), (2, .ref (tad G 19))]) hx hb dL_law_614 hl (k := 3) rfl (by rw [ei13]; rfl) (by decide) rfl (fun ls hl => ?_)
          refine lv_goto (tgt := 18) hx hb dL_law_617 (by decide) ?_
          exact ih i13 s12 _ _ _ hI (lv_sub hl [1, 2, 3, 0] rfl) hf
        · refine lv_iconst (v := 0) hx hb dL_law_150 (by decide) ?_
          exact absurd hf (by decide)
      refine tk_if hf (fun c1_2 hf => ?_) (fun c1_2 hf => ?_)
      · refine lv_tableIn (off := 120) (tgt := 152) hx hb dL_law_32 (by rw [c1_2]; decide) (by rw [c1_2]; decide) (by rw [c1_2]; rfl) (by decide) ?_
        refine lv_aload_n hx hb dL_law_152 rfl (lv_at hl 1 rfl) ?_
        refine tk_bd2 hf (fun r14 s15 hq hf => ?_)
        refine tk_lI S hI hl.1 hcs (c_X3_begin l G st  hq) (cwV 0 hts (tk_gV mw_106 mw_107 mw_108 mw_2 mw_109) rfl rfl rfl yd_X3_begin ⟨Nat.le_of_ble_eq_true rfl, Nat.le_of_ble_eq_true rfl⟩) 0 3 rfl rfl rfl rfl [] rfl (Nat.le_of_ble_eq_true rfl) dL_law_153 (fun H locs hI => ?_)
        refine lv_aload_n hx hb dL_law_156 rfl (lv_at hl 2 rfl) ?_
        refine tk_bd2 hf (fun r16 s17 hq hf => ?_)
        refine tk_lI S hI hl.1 hcs (c_X4_begin l G s15  hq) (cwV 0 hts (tk_gV mw_132 mw_133 mw_134 mw_5 mw_135) rfl rfl rfl yd_X4_begin ⟨Nat.le_of_ble_eq_true rfl, Nat.le_of_ble_eq_true rfl⟩) 19 4 rfl rfl rfl rfl [.int r14] rfl (Nat.le_of_ble_eq_true rfl) dL_law_157 (fun H locs hI => ?_)
        refine tk_icmp_eq (tgt := 614) hx hb hf dL_law_160 (by decide) (fun hf => ?_) (fun hf => ?_)
        · refine tk_let hf (fun i18 ei18 hf => ?_)
          refine lv_iinc (v := i18) (lv' := [(3, .int i18), (0, .ref b), (1, .ref (tad G 0)), (2, .ref (tad G 19))]) hx hb dL_law_614 hl (k := 3) rfl (by rw [ei18]; rfl) (by decide) rfl (fun ls hl => ?_)
          refine lv_goto (tgt := 18) hx hb dL_law_617 (by decide) ?_
          exact ih i18 s17 _ _ _ hI (lv_sub hl [1, 2, 3, 0] rfl) hf
        · refine lv_iconst (v := 0) hx hb dL_law_163 (by decide) ?_
          exact absurd hf (by decide)
      refine tk_if hf (fun c1_3 hf => ?_) (fun c1_3 hf => ?_)
      · refine lv_tableIn (off := 133) (tgt := 165) hx hb dL_law_32 (by rw [c1_3]; decide) (by rw [c1_3]; decide) (by rw [c1_3]; rfl) (by decide) ?_
        refine lv_aload_n hx hb dL_law_165 rfl (lv_at hl 1 rfl) ?_
        refine lv_aload_n hx hb dL_law_166 rfl (lv_at hl 0 rfl) ?_
        refine lv_iload_n hx hb dL_law_167 rfl (lv_at hl 3 rfl) ?_
        refine lv_iconst (v := 1) hx hb dL_law_168 (by decide) ?_
        refine lv_iadd hx hb dL_law_169 ?_
        refine tk_sld hx hb hX hbl hbA hI hf dL_law_170 (fun v19 hf => ?_)
        refine lv_aload_n hx hb dL_law_171 rfl (lv_at hl 0 rfl) ?_
        refine lv_iload_n hx hb dL_law_172 rfl (lv_at hl 3 rfl) ?_
        refine lv_iconst (v := 2) hx hb dL_law_173 (by decide) ?_
        refine lv_iadd hx hb dL_law_174 ?_
        refine tk_sld hx hb hX hbl hbA hI hf dL_law_175 (fun v20 hf => ?_)
        refine tk_bd2 hf (fun r21 s22 hq hf => ?_)
        refine tk_lI S hI hl.1 hcs (c_X3_insert l G st v19 v20 hq) (cwV 2 hts (tk_gV mw_152 mw_153 mw_154 mw_2 mw_155) rfl rfl rfl yd_X3_insert ⟨Nat.le_of_ble_eq_true rfl, Nat.le_of_ble_eq_true rfl⟩) 0 3 rfl rfl rfl rfl [] rfl (Nat.le_of_ble_eq_true rfl) dL_law_176 (fun H locs hI => ?_)
        refine lv_aload_n hx hb dL_law_179 rfl (lv_at hl 2 rfl) ?_
        refine lv_aload_n hx hb dL_law_180 rfl (lv_at hl 0 rfl) ?_
        refine lv_iload_n hx hb dL_law_181 rfl (lv_at hl 3 rfl) ?_
        refine lv_iconst (v := 1) hx hb dL_law_182 (by decide) ?_
        refine lv_iadd hx hb dL_law_183 ?_
        refine tk_sld hx hb hX hbl hbA hI hf dL_law_184 (fun v23 hf => ?_)
        refine lv_aload_n hx hb dL_law_185 rfl (lv_at hl 0 rfl) ?_
        refine lv_iload_n hx hb dL_law_186 rfl (lv_at hl 3 rfl) ?_
        refine lv_iconst (v := 2) hx hb dL_law_187 (by decide) ?_
        refine lv_iadd hx hb dL_law_188 ?_
        refine tk_sld hx hb hX hbl hbA hI hf dL_law_189 (fun v24 hf => ?_)
        refine tk_bd2 hf (fun r25 s26 hq hf => ?_)
        refine tk_lI S hI hl.1 hcs (c_X4_insert l G s22 v23 v24 hq) (cwV 2 hts (tk_gV mw_209 mw_210 mw_211 mw_5 mw_212) rfl rfl rfl yd_X4_insert ⟨Nat.le_of_ble_eq_true rfl, Nat.le_of_ble_eq_true rfl⟩) 19 4 rfl rfl rfl rfl [.int r21] rfl (Nat.le_of_ble_eq_true rfl) dL_law_190 (fun H locs hI => ?_)
        refine tk_icmp_eq (tgt := 614) hx hb hf dL_law_193 (by decide) (fun hf => ?_) (fun hf => ?_)
        · refine tk_let hf (fun i27 ei27 hf => ?_)
          refine lv_iinc (v := i27) (lv' := [(3, .int i27), (0, .ref b), (1, .ref (tad G 0)), (2, .ref (tad G 19))]) hx hb dL_law_614 hl (k := 3) rfl (by rw [ei27]; rfl) (by decide) rfl (fun ls hl => ?_)
          refine lv_goto (tgt := 18) hx hb dL_law_617 (by decide) ?_
          exact ih i27 s26 _ _ _ hI (lv_sub hl [1, 2, 3, 0] rfl) hf
        · refine lv_iconst (v := 0) hx hb dL_law_196 (by decide) ?_
          exact absurd hf (by decide)
      refine tk_if hf (fun c1_4 hf => ?_) (fun c1_4 hf => ?_)
      · refine lv_tableIn (off := 166) (tgt := 198) hx hb dL_law_32 (by rw [c1_4]; decide) (by rw [c1_4]; decide) (by rw [c1_4]; rfl) (by decide) ?_
        refine lv_aload_n hx hb dL_law_198 rfl (lv_at hl 1 rfl) ?_
        refine lv_aload_n hx hb dL_law_199 rfl (lv_at hl 0 rfl) ?_
        refine lv_iload_n hx hb dL_law_200 rfl (lv_at hl 3 rfl) ?_
        refine lv_iconst (v := 1) hx hb dL_law_201 (by decide) ?_
        refine lv_iadd hx hb dL_law_202 ?_
        refine tk_sld hx hb hX hbl hbA hI hf dL_law_203 (fun v28 hf => ?_)
        refine lv_aload_n hx hb dL_law_204 rfl (lv_at hl 0 rfl) ?_
        refine lv_iload_n hx hb dL_law_205 rfl (lv_at hl 3 rfl) ?_
        refine lv_iconst (v := 2) hx hb dL_law_206 (by decide) ?_
        refine lv_iadd hx hb dL_law_207 ?_
        refine tk_sld hx hb hX hbl hbA hI hf dL_law_208 (fun v29 hf => ?_)
        refine lv_aload_n hx hb dL_law_209 rfl (lv_at hl 0 rfl) ?_
        refine lv_iload_n hx hb dL_law_210 rfl (lv_at hl 3 rfl) ?_
        refine lv_iconst (v := 3) hx hb dL_law_211 (by decide) ?_
        refine lv_iadd hx hb dL_law_212 ?_
        refine tk_sld hx hb hX hbl hbA hI hf dL_law_213 (fun v30 hf => ?_)
        refine tk_bd2 hf (fun r31 s32 hq hf => ?_)
        refine tk_lI S hI hl.1 hcs (c_X3_remove l G st v28 v29 v30 hq) (cwV 3 hts (tk_gV mw_252 mw_253 mw_254 mw_2 mw_255) rfl rfl rfl yd_X3_remove ⟨Nat.le_of_ble_eq_true rfl, Nat.le_of_ble_eq_true rfl⟩) 0 3 rfl rfl rfl rfl [] rfl (Nat.le_of_ble_eq_true rfl) dL_law_214 (fun H locs hI => ?_)
        refine lv_aload_n hx hb dL_law_217 rfl (lv_at hl 2 rfl) ?_
        refine lv_aload_n hx hb dL_law_218 rfl (lv_at hl 0 rfl) ?_
        refine lv_iload_n hx hb dL_law_219 rfl (lv_at hl 3 rfl) ?_
        refine lv_iconst (v := 1) hx hb dL_law_220 (by decide) ?_
        refine lv_iadd hx hb dL_law_221 ?_
        refine tk_sld hx hb hX hbl hbA hI hf dL_law_222 (fun v33 hf => ?_)
        refine lv_aload_n hx hb dL_law_223 rfl (lv_at hl 0 rfl) ?_
        refine lv_iload_n hx hb dL_law_224 rfl (lv_at hl 3 rfl) ?_
        refine lv_iconst (v := 2) hx hb dL_law_225 (by decide) ?_
        refine lv_iadd hx hb dL_law_226 ?_
        refine tk_sld hx hb hX hbl hbA hI hf dL_law_227 (fun v34 hf => ?_)
        refine lv_aload_n hx hb dL_law_228 rfl (lv_at hl 0 rfl) ?_
        refine lv_iload_n hx hb dL_law_229 rfl (lv_at hl 3 rfl) ?_
        refine lv_iconst (v := 3) hx hb dL_law_230 (by decide) ?_
        refine lv_iadd hx hb dL_law_231 ?_
        refine tk_sld hx hb hX hbl hbA hI hf dL_law_232 (fun v35 hf => ?_)
        refine tk_bd2 hf (fun r36 s37 hq hf => ?_)
        refine tk_lI S hI hl.1 hcs (c_X4_remove l G s32 v33 v34 v35 hq) (cwV 3 hts (tk_gV mw_260 mw_261 mw_262 mw_5 mw_263) rfl rfl rfl yd_X4_remove ⟨Nat.le_of_ble_eq_true rfl, Nat.le_of_ble_eq_true rfl⟩) 19 4 rfl rfl rfl rfl [.int r31] rfl (Nat.le_of_ble_eq_true rfl) dL_law_233 (fun H locs hI => ?_)
        refine tk_icmp_eq (tgt := 614) hx hb hf dL_law_236 (by decide) (fun hf => ?_) (fun hf => ?_)
        · refine tk_let hf (fun i38 ei38 hf => ?_)
          refine lv_iinc (v := i38) (lv' := [(3, .int i38), (0, .ref b), (1, .ref (tad G 0)), (2, .ref (tad G 19))]) hx hb dL_law_614 hl (k := 3) rfl (by rw [ei38]; rfl) (by decide) rfl (fun ls hl => ?_)
          refine lv_goto (tgt := 18) hx hb dL_law_617 (by decide) ?_
          exact ih i38 s37 _ _ _ hI (lv_sub hl [1, 2, 3, 0] rfl) hf
        · refine lv_iconst (v := 0) hx hb dL_law_239 (by decide) ?_
          exact absurd hf (by decide)
      refine tk_if hf (fun c1_5 hf => ?_) (fun c1_5 hf => ?_)
      · refine lv_tableIn (off := 209) (tgt := 241) hx hb dL_law_32 (by rw [c1_5]; decide) (by rw [c1_5]; decide) (by rw [c1_5]; rfl) (by decide) ?_
        refine lv_aload_n hx hb dL_law_241 rfl (lv_at hl 1 rfl) ?_
        refine lv_aload_n hx hb dL_law_242 rfl (lv_at hl 0 rfl) ?_
        refine lv_iload_n hx hb dL_law_243 rfl (lv_at hl 3 rfl) ?_
        refine lv_iconst (v := 1) hx hb dL_law_244 (by decide) ?_
        refine lv_iadd hx hb dL_law_245 ?_
        refine tk_sld hx hb hX hbl hbA hI hf dL_law_246 (fun v39 hf => ?_)
        refine lv_aload_n hx hb dL_law_247 rfl (lv_at hl 0 rfl) ?_
        refine lv_iload_n hx hb dL_law_248 rfl (lv_at hl 3 rfl) ?_
        refine lv_iconst (v := 2) hx hb dL_law_249 (by decide) ?_
        refine lv_iadd hx hb dL_law_250 ?_
        refine tk_sld hx hb hX hbl hbA hI hf dL_law_251 (fun v40 hf => ?_)
        refine lv_aload_n hx hb dL_law_252 rfl (lv_at hl 0 rfl) ?_
        refine lv_iload_n hx hb dL_law_253 rfl (lv_at hl 3 rfl) ?_
        refine lv_iconst (v := 3) hx hb dL_law_254 (by decide) ?_
        refine lv_iadd hx hb dL_law_255 ?_
        refine tk_sld hx hb hX hbl hbA hI hf dL_law_256 (fun v41 hf => ?_)
        refine lv_aload_n hx hb dL_law_257 rfl (lv_at hl 0 rfl) ?_
        refine lv_iload_n hx hb dL_law_258 rfl (lv_at hl 3 rfl) ?_
        refine lv_iconst (v := 4) hx hb dL_law_259 (by decide) ?_
        refine lv_iadd hx hb dL_law_260 ?_
        refine tk_sld hx hb hX hbl hbA hI hf dL_law_261 (fun v42 hf => ?_)
        refine tk_bd2 hf (fun r43 s44 hq hf => ?_)
        refine tk_lI S hI hl.1 hcs (c_X3_move l G st v39 v40 v41 v42 hq) (cwV 4 hts (tk_gV mw_264 mw_265 mw_266 mw_2 mw_267) rfl rfl rfl yd_X3_move ⟨Nat.le_of_ble_eq_true rfl, Nat.le_of_ble_eq_true rfl⟩) 0 3 rfl rfl rfl rfl [] rfl (Nat.le_of_ble_eq_true rfl) dL_law_262 (fun H locs hI => ?_)
        refine lv_aload_n hx hb dL_law_265 rfl (lv_at hl 2 rfl) ?_
        refine lv_aload_n hx hb dL_law_266 rfl (lv_at hl 0 rfl) ?_
        refine lv_iload_n hx hb dL_law_267 rfl (lv_at hl 3 rfl) ?_
        refine lv_iconst (v := 1) hx hb dL_law_268 (by decide) ?_
        refine lv_iadd hx hb dL_law_269 ?_
        refine tk_sld hx hb hX hbl hbA hI hf dL_law_270 (fun v45 hf => ?_)
        refine lv_aload_n hx hb dL_law_271 rfl (lv_at hl 0 rfl) ?_
        refine lv_iload_n hx hb dL_law_272 rfl (lv_at hl 3 rfl) ?_
        refine lv_iconst (v := 2) hx hb dL_law_273 (by decide) ?_
        refine lv_iadd hx hb dL_law_274 ?_
        refine tk_sld hx hb hX hbl hbA hI hf dL_law_275 (fun v46 hf => ?_)
        refine lv_aload_n hx hb dL_law_276 rfl (lv_at hl 0 rfl) ?_
        refine lv_iload_n hx hb dL_law_277 rfl (lv_at hl 3 rfl) ?_
        refine lv_iconst (v := 3) hx hb dL_law_278 (by decide) ?_
        refine lv_iadd hx hb dL_law_279 ?_
        refine tk_sld hx hb hX hbl hbA hI hf dL_law_280 (fun v47 hf => ?_)
        refine lv_aload_n hx hb dL_law_281 rfl (lv_at hl 0 rfl) ?_
        refine lv_iload_n hx hb dL_law_282 rfl (lv_at hl 3 rfl) ?_
        refine lv_iconst (v := 4) hx hb dL_law_283 (by decide) ?_
        refine lv_iadd hx hb dL_law_284 ?_
        refine tk_sld hx hb hX hbl hbA hI hf dL_law_285 (fun v48 hf => ?_)
        refine tk_bd2 hf (fun r49 s50 hq hf => ?_)
        refine tk_lI S hI hl.1 hcs (c_X4_move l G s44 v45 v46 v47 v48 hq) (cwV 4 hts (tk_gV mw_272 mw_273 mw_274 mw_5 mw_275) rfl rfl rfl yd_X4_move ⟨Nat.le_of_ble_eq_true rfl, Nat.le_of_ble_eq_true rfl⟩) 19 4 rfl rfl rfl rfl [.int r43] rfl (Nat.le_of_ble_eq_true rfl) dL_law_286 (fun H locs hI => ?_)
        refine tk_icmp_eq (tgt := 614) hx hb hf dL_law_289 (by decide) (fun hf => ?_) (fun hf => ?_)
        · refine tk_let hf (fun i51 ei51 hf => ?_)
          refine lv_iinc (v := i51) (lv' := [(3, .int i51), (0, .ref b), (1, .ref (tad G 0)), (2, .ref (tad G 19))]) hx hb dL_law_614 hl (k := 3) rfl (by rw [ei51]; rfl) (by decide) rfl (fun ls hl => ?_)
          refine lv_goto (tgt := 18) hx hb dL_law_617 (by decide) ?_
          exact ih i51 s50 _ _ _ hI (lv_sub hl [1, 2, 3, 0] rfl) hf
        · refine lv_iconst (v := 0) hx hb dL_law_292 (by decide) ?_
          exact absurd hf (by decide)
      refine tk_if hf (fun c1_6 hf => ?_) (fun c1_6 hf => ?_)
      · refine lv_tableIn (off := 262) (tgt := 294) hx hb dL_law_32 (by rw [c1_6]; decide) (by rw [c1_6]; decide) (by rw [c1_6]; rfl) (by decide) ?_
        refine lv_aload_n hx hb dL_law_294 rfl (lv_at hl 1 rfl) ?_
        refine lv_aload_n hx hb dL_law_295 rfl (lv_at hl 0 rfl) ?_
        refine lv_iload_n hx hb dL_law_296 rfl (lv_at hl 3 rfl) ?_
        refine lv_iconst (v := 1) hx hb dL_law_297 (by decide) ?_
        refine lv_iadd hx hb dL_law_298 ?_
        refine tk_sld hx hb hX hbl hbA hI hf dL_law_299 (fun v52 hf => ?_)
        refine lv_aload_n hx hb dL_law_300 rfl (lv_at hl 0 rfl) ?_
        refine lv_iload_n hx hb dL_law_301 rfl (lv_at hl 3 rfl) ?_
        refine lv_iconst (v := 2) hx hb dL_law_302 (by decide) ?_
        refine lv_iadd hx hb dL_law_303 ?_
        refine tk_sld hx hb hX hbl hbA hI hf dL_law_304 (fun v53 hf => ?_)
        refine tk_if_eq (tgt := 312) hx hb hf dL_law_305 (by decide) (fun hf => ?_) (fun hf => ?_)
        · refine lv_iconst (v := 0) hx hb dL_law_312 (by decide) ?_
          refine tk_bd2 hf (fun r54 s55 hq hf => ?_)
          refine tk_lI S hI hl.1 hcs (c_X3_show l G st v52 (0 : Int32) hq) (cwV 2 hts (tk_gV mw_276 mw_277 mw_278 mw_2 mw_279) rfl rfl rfl yd_X3_show ⟨Nat.le_of_ble_eq_true rfl, Nat.le_of_ble_eq_true rfl⟩) 0 3 rfl rfl rfl rfl [] rfl (Nat.le_of_ble_eq_true rfl) dL_law_313 (fun H locs hI => ?_)
          refine lv_aload_n hx hb dL_law_316 rfl (lv_at hl 2 rfl) ?_
          refine lv_aload_n hx hb dL_law_317 rfl (lv_at hl 0 rfl) ?_
          refine lv_iload_n hx hb dL_law_318 rfl (lv_at hl 3 rfl) ?_
          refine lv_iconst (v := 1) hx hb dL_law_319 (by decide) ?_
          refine lv_iadd hx hb dL_law_320 ?_
          refine tk_sld hx hb hX hbl hbA hI hf dL_law_321 (fun v56 hf => ?_)
          refine lv_aload_n hx hb dL_law_322 rfl (lv_at hl 0 rfl) ?_
          refine lv_iload_n hx hb dL_law_323 rfl (lv_at hl 3 rfl) ?_
          refine lv_iconst (v := 2) hx hb dL_law_324 (by decide) ?_
          refine lv_iadd hx hb dL_law_325 ?_
          refine tk_sld hx hb hX hbl hbA hI hf dL_law_326 (fun v57 hf => ?_)
          refine tk_if_eq (tgt := 334) hx hb hf dL_law_327 (by decide) (fun hf => ?_) (fun hf => ?_)
          · refine lv_iconst (v := 0) hx hb dL_law_334 (by decide) ?_
            refine tk_bd2 hf (fun r58 s59 hq hf => ?_)
            refine tk_lI S hI hl.1 hcs (c_X4_show l G s55 v56 (0 : Int32) hq) (cwV 2 hts (tk_gV mw_285 mw_286 mw_287 mw_5 mw_288) rfl rfl rfl yd_X4_show ⟨Nat.le_of_ble_eq_true rfl, Nat.le_of_ble_eq_true rfl⟩) 19 4 rfl rfl rfl rfl [.int r54] rfl (Nat.le_of_ble_eq_true rfl) dL_law_335 (fun H locs hI => ?_)
            refine tk_icmp_eq (tgt := 614) hx hb hf dL_law_338 (by decide) (fun hf => ?_) (fun hf => ?_)
            · refine tk_let hf (fun i60 ei60 hf => ?_)
              refine lv_iinc (v := i60) (lv' := [(3, .int i60), (0, .ref b), (1, .ref (tad G 0)), (2, .ref (tad G 19))]) hx hb dL_law_614 hl (k := 3) rfl (by rw [ei60]; rfl) (by decide) rfl (fun ls hl => ?_)
              refine lv_goto (tgt := 18) hx hb dL_law_617 (by decide) ?_
              exact ih i60 s59 _ _ _ hI (lv_sub hl [1, 2, 3, 0] rfl) hf
            · refine lv_iconst (v := 0) hx hb dL_law_341 (by decide) ?_
              exact absurd hf (by decide)
          · refine lv_iconst (v := 1) hx hb dL_law_330 (by decide) ?_
            refine lv_goto (tgt := 335) hx hb dL_law_331 (by decide) ?_
            refine tk_bd2 hf (fun r61 s62 hq hf => ?_)
            refine tk_lI S hI hl.1 hcs (c_X4_show l G s55 v56 (1 : Int32) hq) (cwV 2 hts (tk_gV mw_285 mw_286 mw_287 mw_5 mw_288) rfl rfl rfl yd_X4_show ⟨Nat.le_of_ble_eq_true rfl, Nat.le_of_ble_eq_true rfl⟩) 19 4 rfl rfl rfl rfl [.int r54] rfl (Nat.le_of_ble_eq_true rfl) dL_law_335 (fun H locs hI => ?_)
            refine tk_icmp_eq (tgt := 614) hx hb hf dL_law_338 (by decide) (fun hf => ?_) (fun hf => ?_)
            · refine tk_let hf (fun i63 ei63 hf => ?_)
              refine lv_iinc (v := i63) (lv' := [(3, .int i63), (0, .ref b), (1, .ref (tad G 0)), (2, .ref (tad G 19))]) hx hb dL_law_614 hl (k := 3) rfl (by rw [ei63]; rfl) (by decide) rfl (fun ls hl => ?_)
              refine lv_goto (tgt := 18) hx hb dL_law_617 (by decide) ?_
              exact ih i63 s62 _ _ _ hI (lv_sub hl [1, 2, 3, 0] rfl) hf
            · refine lv_iconst (v := 0) hx hb dL_law_341 (by decide) ?_
              exact absurd hf (by decide)
        · refine lv_iconst (v := 1) hx hb dL_law_308 (by decide) ?_
          refine lv_goto (tgt := 313) hx hb dL_law_309 (by decide) ?_
          refine tk_bd2 hf (fun r64 s65 hq hf => ?_)
          refine tk_lI S hI hl.1 hcs (c_X3_show l G st v52 (1 : Int32) hq) (cwV 2 hts (tk_gV mw_276 mw_277 mw_278 mw_2 mw_279) rfl rfl rfl yd_X3_show ⟨Nat.le_of_ble_eq_true rfl, Nat.le_of_ble_eq_true rfl⟩) 0 3 rfl rfl rfl rfl [] rfl (Nat.le_of_ble_eq_true rfl) dL_law_313 (fun H locs hI => ?_)
          refine lv_aload_n hx hb dL_law_316 rfl (lv_at hl 2 rfl) ?_
          refine lv_aload_n hx hb dL_law_317 rfl (lv_at hl 0 rfl) ?_
          refine lv_iload_n hx hb dL_law_318 rfl (lv_at hl 3 rfl) ?_
          refine lv_iconst (v := 1) hx hb dL_law_319 (by decide) ?_
          refine lv_iadd hx hb dL_law_320 ?_
          refine tk_sld hx hb hX hbl hbA hI hf dL_law_321 (fun v66 hf => ?_)
          refine lv_aload_n hx hb dL_law_322 rfl (lv_at hl 0 rfl) ?_
          refine lv_iload_n hx hb dL_law_323 rfl (lv_at hl 3 rfl) ?_
          refine lv_iconst (v := 2) hx hb dL_law_324 (by decide) ?_
          refine lv_iadd hx hb dL_law_325 ?_
          refine tk_sld hx hb hX hbl hbA hI hf dL_law_326 (fun v67 hf => ?_)
          refine tk_if_eq (tgt := 334) hx hb hf dL_law_327 (by decide) (fun hf => ?_) (fun hf => ?_)
          · refine lv_iconst (v := 0) hx hb dL_law_334 (by decide) ?_
            refine tk_bd2 hf (fun r68 s69 hq hf => ?_)
            refine tk_lI S hI hl.1 hcs (c_X4_show l G s65 v66 (0 : Int32) hq) (cwV 2 hts (tk_gV mw_285 mw_286 mw_287 mw_5 mw_288) rfl rfl rfl yd_X4_show ⟨Nat.le_of_ble_eq_true rfl, Nat.le_of_ble_eq_true rfl⟩) 19 4 rfl rfl rfl rfl [.int r64] rfl (Nat.le_of_ble_eq_true rfl) dL_law_335 (fun H locs hI => ?_)
            refine tk_icmp_eq (tgt := 614) hx hb hf dL_law_338 (by decide) (fun hf => ?_) (fun hf => ?_)
            · refine tk_let hf (fun i70 ei70 hf => ?_)
              refine lv_iinc (v := i70) (lv' := [(3, .int i70), (0, .ref b), (1, .ref (tad G 0)), (2, .ref (tad G 19))]) hx hb dL_law_614 hl (k := 3) rfl (by rw [ei70]; rfl) (by decide) rfl (fun ls hl => ?_)
              refine lv_goto (tgt := 18) hx hb dL_law_617 (by decide) ?_
              exact ih i70 s69 _ _ _ hI (lv_sub hl [1, 2, 3, 0] rfl) hf
            · refine lv_iconst (v := 0) hx hb dL_law_341 (by decide) ?_
              exact absurd hf (by decide)
          · refine lv_iconst (v := 1) hx hb dL_law_330 (by decide) ?_
            refine lv_goto (tgt := 335) hx hb dL_law_331 (by decide) ?_
            refine tk_bd2 hf (fun r71 s72 hq hf => ?_)
            refine tk_lI S hI hl.1 hcs (c_X4_show l G s65 v66 (1 : Int32) hq) (cwV 2 hts (tk_gV mw_285 mw_286 mw_287 mw_5 mw_288) rfl rfl rfl yd_X4_show ⟨Nat.le_of_ble_eq_true rfl, Nat.le_of_ble_eq_true rfl⟩) 19 4 rfl rfl rfl rfl [.int r64] rfl (Nat.le_of_ble_eq_true rfl) dL_law_335 (fun H locs hI => ?_)
            refine tk_icmp_eq (tgt := 614) hx hb hf dL_law_338 (by decide) (fun hf => ?_) (fun hf => ?_)
            · refine tk_let hf (fun i73 ei73 hf => ?_)
              refine lv_iinc (v := i73) (lv' := [(3, .int i73), (0, .ref b), (1, .ref (tad G 0)), (2, .ref (tad G 19))]) hx hb dL_law_614 hl (k := 3) rfl (by rw [ei73]; rfl) (by decide) rfl (fun ls hl => ?_)
              refine lv_goto (tgt := 18) hx hb dL_law_617 (by decide) ?_
              exact ih i73 s72 _ _ _ hI (lv_sub hl [1, 2, 3, 0] rfl) hf
            · refine lv_iconst (v := 0) hx hb dL_law_341 (by decide) ?_
              exact absurd hf (by decide)
      refine tk_if hf (fun c1_7 hf => ?_) (fun c1_7 hf => ?_)
      · refine lv_tableIn (off := 311) (tgt := 343) hx hb dL_law_32 (by rw [c1_7]; decide) (by rw [c1_7]; decide) (by rw [c1_7]; rfl) (by decide) ?_
        refine lv_aload_n hx hb dL_law_343 rfl (lv_at hl 1 rfl) ?_
        refine lv_aload_n hx hb dL_law_344 rfl (lv_at hl 0 rfl) ?_
        refine lv_iload_n hx hb dL_law_345 rfl (lv_at hl 3 rfl) ?_
        refine lv_iconst (v := 1) hx hb dL_law_346 (by decide) ?_
        refine lv_iadd hx hb dL_law_347 ?_
        refine tk_sld hx hb hX hbl hbA hI hf dL_law_348 (fun v74 hf => ?_)
        refine lv_aload_n hx hb dL_law_349 rfl (lv_at hl 0 rfl) ?_
        refine lv_iload_n hx hb dL_law_350 rfl (lv_at hl 3 rfl) ?_
        refine lv_iconst (v := 2) hx hb dL_law_351 (by decide) ?_
        refine lv_iadd hx hb dL_law_352 ?_
        refine tk_sld hx hb hX hbl hbA hI hf dL_law_353 (fun v75 hf => ?_)
        refine tk_bd2 hf (fun r76 s77 hq hf => ?_)
        refine tk_lI S hI hl.1 hcs (c_X3_decide l G st v74 v75 hq) (cwV 2 hts (tk_gV mw_293 mw_294 mw_295 mw_2 mw_296) rfl rfl rfl yd_X3_decide ⟨Nat.le_of_ble_eq_true rfl, Nat.le_of_ble_eq_true rfl⟩) 0 3 rfl rfl rfl rfl [] rfl (Nat.le_of_ble_eq_true rfl) dL_law_354 (fun H locs hI => ?_)
        refine lv_aload_n hx hb dL_law_357 rfl (lv_at hl 2 rfl) ?_
        refine lv_aload_n hx hb dL_law_358 rfl (lv_at hl 0 rfl) ?_
        refine lv_iload_n hx hb dL_law_359 rfl (lv_at hl 3 rfl) ?_
        refine lv_iconst (v := 1) hx hb dL_law_360 (by decide) ?_
        refine lv_iadd hx hb dL_law_361 ?_
        refine tk_sld hx hb hX hbl hbA hI hf dL_law_362 (fun v78 hf => ?_)
        refine lv_aload_n hx hb dL_law_363 rfl (lv_at hl 0 rfl) ?_
        refine lv_iload_n hx hb dL_law_364 rfl (lv_at hl 3 rfl) ?_
        refine lv_iconst (v := 2) hx hb dL_law_365 (by decide) ?_
        refine lv_iadd hx hb dL_law_366 ?_
        refine tk_sld hx hb hX hbl hbA hI hf dL_law_367 (fun v79 hf => ?_)
        refine tk_bd2 hf (fun r80 s81 hq hf => ?_)
        refine tk_lI S hI hl.1 hcs (c_X4_decide l G s77 v78 v79 hq) (cwV 2 hts (tk_gV mw_298 mw_299 mw_300 mw_5 mw_301) rfl rfl rfl yd_X4_decide ⟨Nat.le_of_ble_eq_true rfl, Nat.le_of_ble_eq_true rfl⟩) 19 4 rfl rfl rfl rfl [.int r76] rfl (Nat.le_of_ble_eq_true rfl) dL_law_368 (fun H locs hI => ?_)
        refine tk_icmp_eq (tgt := 614) hx hb hf dL_law_371 (by decide) (fun hf => ?_) (fun hf => ?_)
        · refine tk_let hf (fun i82 ei82 hf => ?_)
          refine lv_iinc (v := i82) (lv' := [(3, .int i82), (0, .ref b), (1, .ref (tad G 0)), (2, .ref (tad G 19))]) hx hb dL_law_614 hl (k := 3) rfl (by rw [ei82]; rfl) (by decide) rfl (fun ls hl => ?_)
          refine lv_goto (tgt := 18) hx hb dL_law_617 (by decide) ?_
          exact ih i82 s81 _ _ _ hI (lv_sub hl [1, 2, 3, 0] rfl) hf
        · refine lv_iconst (v := 0) hx hb dL_law_374 (by decide) ?_
          exact absurd hf (by decide)
      refine tk_if hf (fun c1_8 hf => ?_) (fun c1_8 hf => ?_)
      · refine lv_tableIn (off := 344) (tgt := 376) hx hb dL_law_32 (by rw [c1_8]; decide) (by rw [c1_8]; decide) (by rw [c1_8]; rfl) (by decide) ?_
        refine lv_aload_n hx hb dL_law_376 rfl (lv_at hl 1 rfl) ?_
        refine tk_bd2 hf (fun r83 s84 hq hf => ?_)
        refine tk_lI S hI hl.1 hcs (c_X3_settle l G st  hq) (cwV 0 hts (tk_gV mw_302 mw_303 mw_304 mw_2 mw_305) rfl rfl rfl yd_X3_settle ⟨Nat.le_of_ble_eq_true rfl, Nat.le_of_ble_eq_true rfl⟩) 0 3 rfl rfl rfl rfl [] rfl (Nat.le_of_ble_eq_true rfl) dL_law_377 (fun H locs hI => ?_)
        refine lv_aload_n hx hb dL_law_380 rfl (lv_at hl 2 rfl) ?_
        refine tk_bd2 hf (fun r85 s86 hq hf => ?_)
        refine tk_lI S hI hl.1 hcs (c_X4_settle l G s84  hq) (cwV 0 hts (tk_gV mw_306 mw_307 mw_308 mw_5 mw_309) rfl rfl rfl yd_X4_settle ⟨Nat.le_of_ble_eq_true rfl, Nat.le_of_ble_eq_true rfl⟩) 19 4 rfl rfl rfl rfl [.int r83] rfl (Nat.le_of_ble_eq_true rfl) dL_law_381 (fun H locs hI => ?_)
        refine tk_icmp_eq (tgt := 614) hx hb hf dL_law_384 (by decide) (fun hf => ?_) (fun hf => ?_)
        · refine tk_let hf (fun i87 ei87 hf => ?_)
          refine lv_iinc (v := i87) (lv' := [(3, .int i87), (0, .ref b), (1, .ref (tad G 0)), (2, .ref (tad G 19))]) hx hb dL_law_614 hl (k := 3) rfl (by rw [ei87]; rfl) (by decide) rfl (fun ls hl => ?_)
          refine lv_goto (tgt := 18) hx hb dL_law_617 (by decide) ?_
          exact ih i87 s86 _ _ _ hI (lv_sub hl [1, 2, 3, 0] rfl) hf
        · refine lv_iconst (v := 0) hx hb dL_law_387 (by decide) ?_
          exact absurd hf (by decide)
      refine tk_if hf (fun c1_9 hf => ?_) (fun c1_9 hf => ?_)
      · refine lv_tableIn (off := 357) (tgt := 389) hx hb dL_law_32 (by rw [c1_9]; decide) (by rw [c1_9]; decide) (by rw [c1_9]; rfl) (by decide) ?_
        refine lv_aload_n hx hb dL_law_389 rfl (lv_at hl 1 rfl) ?_
        refine lv_aload_n hx hb dL_law_390 rfl (lv_at hl 0 rfl) ?_
        refine lv_iload_n hx hb dL_law_391 rfl (lv_at hl 3 rfl) ?_
        refine lv_iconst (v := 1) hx hb dL_law_392 (by decide) ?_
        refine lv_iadd hx hb dL_law_393 ?_
        refine tk_sld hx hb hX hbl hbA hI hf dL_law_394 (fun v88 hf => ?_)
        refine tk_bd2 hf (fun r89 s90 hq hf => ?_)
        refine tk_lI S hI hl.1 hcs (c_X3_length l G st v88 hq) (cwV 1 hts (tk_gV mw_315 mw_316 mw_317 mw_2 mw_318) rfl rfl rfl yd_X3_length ⟨Nat.le_of_ble_eq_true rfl, Nat.le_of_ble_eq_true rfl⟩) 0 3 rfl rfl rfl rfl [] rfl (Nat.le_of_ble_eq_true rfl) dL_law_395 (fun H locs hI => ?_)
        refine lv_aload_n hx hb dL_law_398 rfl (lv_at hl 2 rfl) ?_
        refine lv_aload_n hx hb dL_law_399 rfl (lv_at hl 0 rfl) ?_
        refine lv_iload_n hx hb dL_law_400 rfl (lv_at hl 3 rfl) ?_
        refine lv_iconst (v := 1) hx hb dL_law_401 (by decide) ?_
        refine lv_iadd hx hb dL_law_402 ?_
        refine tk_sld hx hb hX hbl hbA hI hf dL_law_403 (fun v91 hf => ?_)
        refine tk_bd2 hf (fun r92 s93 hq hf => ?_)
        refine tk_lI S hI hl.1 hcs (c_X4_length l G s90 v91 hq) (cwV 1 hts (tk_gV mw_322 mw_323 mw_324 mw_5 mw_325) rfl rfl rfl yd_X4_length ⟨Nat.le_of_ble_eq_true rfl, Nat.le_of_ble_eq_true rfl⟩) 19 4 rfl rfl rfl rfl [.int r89] rfl (Nat.le_of_ble_eq_true rfl) dL_law_404 (fun H locs hI => ?_)
        refine tk_icmp_eq (tgt := 614) hx hb hf dL_law_407 (by decide) (fun hf => ?_) (fun hf => ?_)
        · refine tk_let hf (fun i94 ei94 hf => ?_)
          refine lv_iinc (v := i94) (lv' := [(3, .int i94), (0, .ref b), (1, .ref (tad G 0)), (2, .ref (tad G 19))]) hx hb dL_law_614 hl (k := 3) rfl (by rw [ei94]; rfl) (by decide) rfl (fun ls hl => ?_)
          refine lv_goto (tgt := 18) hx hb dL_law_617 (by decide) ?_
          exact ih i94 s93 _ _ _ hI (lv_sub hl [1, 2, 3, 0] rfl) hf
        · refine lv_iconst (v := 0) hx hb dL_law_410 (by decide) ?_
          exact absurd hf (by decide)
      refine tk_if hf (fun c1_10 hf => ?_) (fun c1_10 hf => ?_)
      · refine lv_tableIn (off := 380) (tgt := 412) hx hb dL_law_32 (by rw [c1_10]; decide) (by rw [c1_10]; decide) (by rw [c1_10]; rfl) (by decide) ?_
        refine lv_aload_n hx hb dL_law_412 rfl (lv_at hl 1 rfl) ?_
        refine lv_aload_n hx hb dL_law_413 rfl (lv_at hl 0 rfl) ?_
        refine lv_iload_n hx hb dL_law_414 rfl (lv_at hl 3 rfl) ?_
        refine lv_iconst (v := 1) hx hb dL_law_415 (by decide) ?_
        refine lv_iadd hx hb dL_law_416 ?_
        refine tk_sld hx hb hX hbl hbA hI hf dL_law_417 (fun v95 hf => ?_)
        refine lv_aload_n hx hb dL_law_418 rfl (lv_at hl 0 rfl) ?_
        refine lv_iload_n hx hb dL_law_419 rfl (lv_at hl 3 rfl) ?_
        refine lv_iconst (v := 2) hx hb dL_law_420 (by decide) ?_
        refine lv_iadd hx hb dL_law_421 ?_
        refine tk_sld hx hb hX hbl hbA hI hf dL_law_422 (fun v96 hf => ?_)
        refine lv_aload_n hx hb dL_law_423 rfl (lv_at hl 0 rfl) ?_
        refine lv_iload_n hx hb dL_law_424 rfl (lv_at hl 3 rfl) ?_
        refine lv_iconst (v := 3) hx hb dL_law_425 (by decide) ?_
        refine lv_iadd hx hb dL_law_426 ?_
        refine tk_sld hx hb hX hbl hbA hI hf dL_law_427 (fun v97 hf => ?_)
        refine tk_bd2 hf (fun r98 s99 hq hf => ?_)
        refine tk_lI S hI hl.1 hcs (c_X3_read l G st v95 v96 v97 hq) (cwV 3 hts (tk_gV mw_333 mw_334 mw_335 mw_2 mw_336) rfl rfl rfl yd_X3_read ⟨Nat.le_of_ble_eq_true rfl, Nat.le_of_ble_eq_true rfl⟩) 0 3 rfl rfl rfl rfl [] rfl (Nat.le_of_ble_eq_true rfl) dL_law_428 (fun H locs hI => ?_)
        refine lv_aload_n hx hb dL_law_431 rfl (lv_at hl 2 rfl) ?_
        refine lv_aload_n hx hb dL_law_432 rfl (lv_at hl 0 rfl) ?_
        refine lv_iload_n hx hb dL_law_433 rfl (lv_at hl 3 rfl) ?_
        refine lv_iconst (v := 1) hx hb dL_law_434 (by decide) ?_
        refine lv_iadd hx hb dL_law_435 ?_
        refine tk_sld hx hb hX hbl hbA hI hf dL_law_436 (fun v100 hf => ?_)
        refine lv_aload_n hx hb dL_law_437 rfl (lv_at hl 0 rfl) ?_
        refine lv_iload_n hx hb dL_law_438 rfl (lv_at hl 3 rfl) ?_
        refine lv_iconst (v := 2) hx hb dL_law_439 (by decide) ?_
        refine lv_iadd hx hb dL_law_440 ?_
        refine tk_sld hx hb hX hbl hbA hI hf dL_law_441 (fun v101 hf => ?_)
        refine lv_aload_n hx hb dL_law_442 rfl (lv_at hl 0 rfl) ?_
        refine lv_iload_n hx hb dL_law_443 rfl (lv_at hl 3 rfl) ?_
        refine lv_iconst (v := 3) hx hb dL_law_444 (by decide) ?_
        refine lv_iadd hx hb dL_law_445 ?_
        refine tk_sld hx hb hX hbl hbA hI hf dL_law_446 (fun v102 hf => ?_)
        refine tk_bd2 hf (fun r103 s104 hq hf => ?_)
        refine tk_lI S hI hl.1 hcs (c_X4_read l G s99 v100 v101 v102 hq) (cwV 3 hts (tk_gV mw_346 mw_347 mw_348 mw_5 mw_349) rfl rfl rfl yd_X4_read ⟨Nat.le_of_ble_eq_true rfl, Nat.le_of_ble_eq_true rfl⟩) 19 4 rfl rfl rfl rfl [.int r98] rfl (Nat.le_of_ble_eq_true rfl) dL_law_447 (fun H locs hI => ?_)
        refine tk_icmp_eq (tgt := 614) hx hb hf dL_law_450 (by decide) (fun hf => ?_) (fun hf => ?_)
        · refine tk_let hf (fun i105 ei105 hf => ?_)
          refine lv_iinc (v := i105) (lv' := [(3, .int i105), (0, .ref b), (1, .ref (tad G 0)), (2, .ref (tad G 19))]) hx hb dL_law_614 hl (k := 3) rfl (by rw [ei105]; rfl) (by decide) rfl (fun ls hl => ?_)
          refine lv_goto (tgt := 18) hx hb dL_law_617 (by decide) ?_
          exact ih i105 s104 _ _ _ hI (lv_sub hl [1, 2, 3, 0] rfl) hf
        · refine lv_iconst (v := 0) hx hb dL_law_453 (by decide) ?_
          exact absurd hf (by decide)
      refine tk_if hf (fun c1_11 hf => ?_) (fun c1_11 hf => ?_)
      · refine lv_tableIn (off := 423) (tgt := 455) hx hb dL_law_32 (by rw [c1_11]; decide) (by rw [c1_11]; decide) (by rw [c1_11]; rfl) (by decide) ?_
        refine lv_aload_n hx hb dL_law_455 rfl (lv_at hl 1 rfl) ?_
        refine lv_aload_n hx hb dL_law_456 rfl (lv_at hl 0 rfl) ?_
        refine lv_iload_n hx hb dL_law_457 rfl (lv_at hl 3 rfl) ?_
        refine lv_iconst (v := 1) hx hb dL_law_458 (by decide) ?_
        refine lv_iadd hx hb dL_law_459 ?_
        refine tk_sld hx hb hX hbl hbA hI hf dL_law_460 (fun v106 hf => ?_)
        refine lv_aload_n hx hb dL_law_461 rfl (lv_at hl 0 rfl) ?_
        refine lv_iload_n hx hb dL_law_462 rfl (lv_at hl 3 rfl) ?_
        refine lv_iconst (v := 2) hx hb dL_law_463 (by decide) ?_
        refine lv_iadd hx hb dL_law_464 ?_
        refine tk_sld hx hb hX hbl hbA hI hf dL_law_465 (fun v107 hf => ?_)
        refine tk_bd hf (fun r108 hq hf => ?_)
        refine tk_lI S hI hl.1 hcs (c_X3_place l G st v106 v107 hq) (cwV 2 hts (tk_gV mw_361 mw_362 mw_363 mw_2 mw_364) rfl rfl rfl yd_X3_place ⟨Nat.le_of_ble_eq_true rfl, Nat.le_of_ble_eq_true rfl⟩) 0 3 rfl rfl rfl rfl [] rfl (Nat.le_of_ble_eq_true rfl) dL_law_466 (fun H locs hI => ?_)
        refine lv_aload_n hx hb dL_law_469 rfl (lv_at hl 2 rfl) ?_
        refine lv_aload_n hx hb dL_law_470 rfl (lv_at hl 0 rfl) ?_
        refine lv_iload_n hx hb dL_law_471 rfl (lv_at hl 3 rfl) ?_
        refine lv_iconst (v := 1) hx hb dL_law_472 (by decide) ?_
        refine lv_iadd hx hb dL_law_473 ?_
        refine tk_sld hx hb hX hbl hbA hI hf dL_law_474 (fun v109 hf => ?_)
        refine lv_aload_n hx hb dL_law_475 rfl (lv_at hl 0 rfl) ?_
        refine lv_iload_n hx hb dL_law_476 rfl (lv_at hl 3 rfl) ?_
        refine lv_iconst (v := 2) hx hb dL_law_477 (by decide) ?_
        refine lv_iadd hx hb dL_law_478 ?_
        refine tk_sld hx hb hX hbl hbA hI hf dL_law_479 (fun v110 hf => ?_)
        refine tk_bd hf (fun r111 hq hf => ?_)
        refine tk_lI S hI hl.1 hcs (c_X4_place l G st v109 v110 hq) (cwV 2 hts (tk_gV mw_374 mw_375 mw_376 mw_5 mw_377) rfl rfl rfl yd_X4_place ⟨Nat.le_of_ble_eq_true rfl, Nat.le_of_ble_eq_true rfl⟩) 19 4 rfl rfl rfl rfl [.int r108] rfl (Nat.le_of_ble_eq_true rfl) dL_law_480 (fun H locs hI => ?_)
        refine tk_icmp_eq (tgt := 614) hx hb hf dL_law_483 (by decide) (fun hf => ?_) (fun hf => ?_)
        · refine tk_let hf (fun i112 ei112 hf => ?_)
          refine lv_iinc (v := i112) (lv' := [(3, .int i112), (0, .ref b), (1, .ref (tad G 0)), (2, .ref (tad G 19))]) hx hb dL_law_614 hl (k := 3) rfl (by rw [ei112]; rfl) (by decide) rfl (fun ls hl => ?_)
          refine lv_goto (tgt := 18) hx hb dL_law_617 (by decide) ?_
          exact ih i112 st _ _ _ hI (lv_sub hl [1, 2, 3, 0] rfl) hf
        · refine lv_iconst (v := 0) hx hb dL_law_486 (by decide) ?_
          exact absurd hf (by decide)
      refine tk_if hf (fun c1_12 hf => ?_) (fun c1_12 hf => ?_)
      · refine lv_tableIn (off := 456) (tgt := 488) hx hb dL_law_32 (by rw [c1_12]; decide) (by rw [c1_12]; decide) (by rw [c1_12]; rfl) (by decide) ?_
        refine lv_aload_n hx hb dL_law_488 rfl (lv_at hl 1 rfl) ?_
        refine lv_aload_n hx hb dL_law_489 rfl (lv_at hl 0 rfl) ?_
        refine lv_iload_n hx hb dL_law_490 rfl (lv_at hl 3 rfl) ?_
        refine lv_iconst (v := 1) hx hb dL_law_491 (by decide) ?_
        refine lv_iadd hx hb dL_law_492 ?_
        refine tk_sld hx hb hX hbl hbA hI hf dL_law_493 (fun v113 hf => ?_)
        refine lv_aload_n hx hb dL_law_494 rfl (lv_at hl 0 rfl) ?_
        refine lv_iload_n hx hb dL_law_495 rfl (lv_at hl 3 rfl) ?_
        refine lv_iconst (v := 2) hx hb dL_law_496 (by decide) ?_
        refine lv_iadd hx hb dL_law_497 ?_
        refine tk_sld hx hb hX hbl hbA hI hf dL_law_498 (fun v114 hf => ?_)
        refine tk_bd hf (fun r115 hq hf => ?_)
        refine tk_lI S hI hl.1 hcs (c_X3_change l G st v113 v114 hq) (cwV 2 hts (tk_gV mw_390 mw_391 mw_392 mw_2 mw_393) rfl rfl rfl yd_X3_change ⟨Nat.le_of_ble_eq_true rfl, Nat.le_of_ble_eq_true rfl⟩) 0 3 rfl rfl rfl rfl [] rfl (Nat.le_of_ble_eq_true rfl) dL_law_499 (fun H locs hI => ?_)
        refine lv_aload_n hx hb dL_law_502 rfl (lv_at hl 2 rfl) ?_
        refine lv_aload_n hx hb dL_law_503 rfl (lv_at hl 0 rfl) ?_
        refine lv_iload_n hx hb dL_law_504 rfl (lv_at hl 3 rfl) ?_
        refine lv_iconst (v := 1) hx hb dL_law_505 (by decide) ?_
        refine lv_iadd hx hb dL_law_506 ?_
        refine tk_sld hx hb hX hbl hbA hI hf dL_law_507 (fun v116 hf => ?_)
        refine lv_aload_n hx hb dL_law_508 rfl (lv_at hl 0 rfl) ?_
        refine lv_iload_n hx hb dL_law_509 rfl (lv_at hl 3 rfl) ?_
        refine lv_iconst (v := 2) hx hb dL_law_510 (by decide) ?_
        refine lv_iadd hx hb dL_law_511 ?_
        refine tk_sld hx hb hX hbl hbA hI hf dL_law_512 (fun v117 hf => ?_)
        refine tk_bd hf (fun r118 hq hf => ?_)
        refine tk_lI S hI hl.1 hcs (c_X4_change l G st v116 v117 hq) (cwV 2 hts (tk_gV mw_418 mw_419 mw_420 mw_5 mw_421) rfl rfl rfl yd_X4_change ⟨Nat.le_of_ble_eq_true rfl, Nat.le_of_ble_eq_true rfl⟩) 19 4 rfl rfl rfl rfl [.int r115] rfl (Nat.le_of_ble_eq_true rfl) dL_law_513 (fun H locs hI => ?_)
        refine tk_icmp_eq (tgt := 614) hx hb hf dL_law_516 (by decide) (fun hf => ?_) (fun hf => ?_)
        · refine tk_let hf (fun i119 ei119 hf => ?_)
          refine lv_iinc (v := i119) (lv' := [(3, .int i119), (0, .ref b), (1, .ref (tad G 0)), (2, .ref (tad G 19))]) hx hb dL_law_614 hl (k := 3) rfl (by rw [ei119]; rfl) (by decide) rfl (fun ls hl => ?_)
          refine lv_goto (tgt := 18) hx hb dL_law_617 (by decide) ?_
          exact ih i119 st _ _ _ hI (lv_sub hl [1, 2, 3, 0] rfl) hf
        · refine lv_iconst (v := 0) hx hb dL_law_519 (by decide) ?_
          exact absurd hf (by decide)
      refine tk_if hf (fun c1_13 hf => ?_) (fun c1_13 hf => ?_)
      · refine lv_tableIn (off := 489) (tgt := 521) hx hb dL_law_32 (by rw [c1_13]; decide) (by rw [c1_13]; decide) (by rw [c1_13]; rfl) (by decide) ?_
        refine lv_aload_n hx hb dL_law_521 rfl (lv_at hl 1 rfl) ?_
        refine lv_aload_n hx hb dL_law_522 rfl (lv_at hl 0 rfl) ?_
        refine lv_iload_n hx hb dL_law_523 rfl (lv_at hl 3 rfl) ?_
        refine lv_iconst (v := 1) hx hb dL_law_524 (by decide) ?_
        refine lv_iadd hx hb dL_law_525 ?_
        refine tk_sld hx hb hX hbl hbA hI hf dL_law_526 (fun v120 hf => ?_)
        refine lv_aload_n hx hb dL_law_527 rfl (lv_at hl 0 rfl) ?_
        refine lv_iload_n hx hb dL_law_528 rfl (lv_at hl 3 rfl) ?_
        refine lv_iconst (v := 2) hx hb dL_law_529 (by decide) ?_
        refine lv_iadd hx hb dL_law_530 ?_
        refine tk_sld hx hb hX hbl hbA hI hf dL_law_531 (fun v121 hf => ?_)
        refine tk_bd2 hf (fun r122 s123 hq hf => ?_)
        refine tk_lI S hI hl.1 hcs (c_X3_span l G st v120 v121 hq) (cwV 2 hts (tk_gV mw_442 mw_443 mw_444 mw_2 mw_445) rfl rfl rfl yd_X3_span ⟨Nat.le_of_ble_eq_true rfl, Nat.le_of_ble_eq_true rfl⟩) 0 3 rfl rfl rfl rfl [] rfl (Nat.le_of_ble_eq_true rfl) dL_law_532 (fun H locs hI => ?_)
        refine lv_aload_n hx hb dL_law_535 rfl (lv_at hl 2 rfl) ?_
        refine lv_aload_n hx hb dL_law_536 rfl (lv_at hl 0 rfl) ?_
        refine lv_iload_n hx hb dL_law_537 rfl (lv_at hl 3 rfl) ?_
        refine lv_iconst (v := 1) hx hb dL_law_538 (by decide) ?_
        refine lv_iadd hx hb dL_law_539 ?_
        refine tk_sld hx hb hX hbl hbA hI hf dL_law_540 (fun v124 hf => ?_)
        refine lv_aload_n hx hb dL_law_541 rfl (lv_at hl 0 rfl) ?_
        refine lv_iload_n hx hb dL_law_542 rfl (lv_at hl 3 rfl) ?_
        refine lv_iconst (v := 2) hx hb dL_law_543 (by decide) ?_
        refine lv_iadd hx hb dL_law_544 ?_
        refine tk_sld hx hb hX hbl hbA hI hf dL_law_545 (fun v125 hf => ?_)
        refine tk_bd2 hf (fun r126 s127 hq hf => ?_)
        refine tk_lI S hI hl.1 hcs (c_X4_span l G s123 v124 v125 hq) (cwV 2 hts (tk_gV mw_459 mw_460 mw_461 mw_5 mw_462) rfl rfl rfl yd_X4_span ⟨Nat.le_of_ble_eq_true rfl, Nat.le_of_ble_eq_true rfl⟩) 19 4 rfl rfl rfl rfl [.int r122] rfl (Nat.le_of_ble_eq_true rfl) dL_law_546 (fun H locs hI => ?_)
        refine tk_icmp_eq (tgt := 614) hx hb hf dL_law_549 (by decide) (fun hf => ?_) (fun hf => ?_)
        · refine tk_let hf (fun i128 ei128 hf => ?_)
          refine lv_iinc (v := i128) (lv' := [(3, .int i128), (0, .ref b), (1, .ref (tad G 0)), (2, .ref (tad G 19))]) hx hb dL_law_614 hl (k := 3) rfl (by rw [ei128]; rfl) (by decide) rfl (fun ls hl => ?_)
          refine lv_goto (tgt := 18) hx hb dL_law_617 (by decide) ?_
          exact ih i128 s127 _ _ _ hI (lv_sub hl [1, 2, 3, 0] rfl) hf
        · refine lv_iconst (v := 0) hx hb dL_law_552 (by decide) ?_
          exact absurd hf (by decide)
      refine tk_if hf (fun c1_14 hf => ?_) (fun c1_14 hf => ?_)
      · refine lv_tableIn (off := 522) (tgt := 554) hx hb dL_law_32 (by rw [c1_14]; decide) (by rw [c1_14]; decide) (by rw [c1_14]; rfl) (by decide) ?_
        refine lv_aload_n hx hb dL_law_554 rfl (lv_at hl 1 rfl) ?_
        refine lv_aload_n hx hb dL_law_555 rfl (lv_at hl 0 rfl) ?_
        refine lv_iload_n hx hb dL_law_556 rfl (lv_at hl 3 rfl) ?_
        refine lv_iconst (v := 1) hx hb dL_law_557 (by decide) ?_
        refine lv_iadd hx hb dL_law_558 ?_
        refine tk_sld hx hb hX hbl hbA hI hf dL_law_559 (fun v129 hf => ?_)
        refine tk_bd2 hf (fun r130 s131 hq hf => ?_)
        refine tk_lI S hI hl.1 hcs (c_X3_found l G st v129 hq) (cwV 1 hts (tk_gV mw_468 mw_469 mw_470 mw_2 mw_471) rfl rfl rfl yd_X3_found ⟨Nat.le_of_ble_eq_true rfl, Nat.le_of_ble_eq_true rfl⟩) 0 3 rfl rfl rfl rfl [] rfl (Nat.le_of_ble_eq_true rfl) dL_law_560 (fun H locs hI => ?_)
        refine lv_aload_n hx hb dL_law_563 rfl (lv_at hl 2 rfl) ?_
        refine lv_aload_n hx hb dL_law_564 rfl (lv_at hl 0 rfl) ?_
        refine lv_iload_n hx hb dL_law_565 rfl (lv_at hl 3 rfl) ?_
        refine lv_iconst (v := 1) hx hb dL_law_566 (by decide) ?_
        refine lv_iadd hx hb dL_law_567 ?_
        refine tk_sld hx hb hX hbl hbA hI hf dL_law_568 (fun v132 hf => ?_)
        refine tk_bd2 hf (fun r133 s134 hq hf => ?_)
        refine tk_lI S hI hl.1 hcs (c_X4_found l G s131 v132 hq) (cwV 1 hts (tk_gV mw_487 mw_488 mw_489 mw_5 mw_490) rfl rfl rfl yd_X4_found ⟨Nat.le_of_ble_eq_true rfl, Nat.le_of_ble_eq_true rfl⟩) 19 4 rfl rfl rfl rfl [.int r130] rfl (Nat.le_of_ble_eq_true rfl) dL_law_569 (fun H locs hI => ?_)
        refine tk_icmp_eq (tgt := 614) hx hb hf dL_law_572 (by decide) (fun hf => ?_) (fun hf => ?_)
        · refine tk_let hf (fun i135 ei135 hf => ?_)
          refine lv_iinc (v := i135) (lv' := [(3, .int i135), (0, .ref b), (1, .ref (tad G 0)), (2, .ref (tad G 19))]) hx hb dL_law_614 hl (k := 3) rfl (by rw [ei135]; rfl) (by decide) rfl (fun ls hl => ?_)
          refine lv_goto (tgt := 18) hx hb dL_law_617 (by decide) ?_
          exact ih i135 s134 _ _ _ hI (lv_sub hl [1, 2, 3, 0] rfl) hf
        · refine lv_iconst (v := 0) hx hb dL_law_575 (by decide) ?_
          exact absurd hf (by decide)
      refine tk_if hf (fun c1_15 hf => ?_) (fun c1_15 hf => ?_)
      · refine lv_tableIn (off := 545) (tgt := 577) hx hb dL_law_32 (by rw [c1_15]; decide) (by rw [c1_15]; decide) (by rw [c1_15]; rfl) (by decide) ?_
        refine lv_aload_n hx hb dL_law_577 rfl (lv_at hl 1 rfl) ?_
        refine lv_aload_n hx hb dL_law_578 rfl (lv_at hl 0 rfl) ?_
        refine lv_iload_n hx hb dL_law_579 rfl (lv_at hl 3 rfl) ?_
        refine lv_iconst (v := 1) hx hb dL_law_580 (by decide) ?_
        refine lv_iadd hx hb dL_law_581 ?_
        refine tk_sld hx hb hX hbl hbA hI hf dL_law_582 (fun v136 hf => ?_)
        refine tk_bd hf (fun r137 hq hf => ?_)
        refine tk_lI S hI hl.1 hcs (c_X3_count l G st v136 hq) (cwV 1 hts (tk_gV mw_501 mw_502 mw_503 mw_2 mw_504) rfl rfl rfl yd_X3_count ⟨Nat.le_of_ble_eq_true rfl, Nat.le_of_ble_eq_true rfl⟩) 0 3 rfl rfl rfl rfl [] rfl (Nat.le_of_ble_eq_true rfl) dL_law_583 (fun H locs hI => ?_)
        refine lv_aload_n hx hb dL_law_586 rfl (lv_at hl 2 rfl) ?_
        refine lv_aload_n hx hb dL_law_587 rfl (lv_at hl 0 rfl) ?_
        refine lv_iload_n hx hb dL_law_588 rfl (lv_at hl 3 rfl) ?_
        refine lv_iconst (v := 1) hx hb dL_law_589 (by decide) ?_
        refine lv_iadd hx hb dL_law_590 ?_
        refine tk_sld hx hb hX hbl hbA hI hf dL_law_591 (fun v138 hf => ?_)
        refine tk_bd hf (fun r139 hq hf => ?_)
        refine tk_lI S hI hl.1 hcs (c_X4_count l G st v138 hq) (cwV 1 hts (tk_gV mw_514 mw_515 mw_516 mw_5 mw_517) rfl rfl rfl yd_X4_count ⟨Nat.le_of_ble_eq_true rfl, Nat.le_of_ble_eq_true rfl⟩) 19 4 rfl rfl rfl rfl [.int r137] rfl (Nat.le_of_ble_eq_true rfl) dL_law_592 (fun H locs hI => ?_)
        refine tk_icmp_eq (tgt := 614) hx hb hf dL_law_595 (by decide) (fun hf => ?_) (fun hf => ?_)
        · refine tk_let hf (fun i140 ei140 hf => ?_)
          refine lv_iinc (v := i140) (lv' := [(3, .int i140), (0, .ref b), (1, .ref (tad G 0)), (2, .ref (tad G 19))]) hx hb dL_law_614 hl (k := 3) rfl (by rw [ei140]; rfl) (by decide) rfl (fun ls hl => ?_)
          refine lv_goto (tgt := 18) hx hb dL_law_617 (by decide) ?_
          exact ih i140 st _ _ _ hI (lv_sub hl [1, 2, 3, 0] rfl) hf
        · refine lv_iconst (v := 0) hx hb dL_law_598 (by decide) ?_
          exact absurd hf (by decide)
      refine tk_if hf (fun c1_16 hf => ?_) (fun c1_16 hf => ?_)
      · refine lv_tableIn (off := 568) (tgt := 600) hx hb dL_law_32 (by rw [c1_16]; decide) (by rw [c1_16]; decide) (by rw [c1_16]; rfl) (by decide) ?_
        refine lv_aload_n hx hb dL_law_600 rfl (lv_at hl 1 rfl) ?_
        refine tk_bd2 hf (fun r141 s142 hq hf => ?_)
        refine tk_lL S hI hl.1 hcs (c_X3_digest l G st  hq) (cwV 0 hts (tk_gV mw_534 mw_535 mw_536 mw_2 mw_537) rfl rfl rfl yd_X3_digest ⟨Nat.le_of_ble_eq_true rfl, Nat.le_of_ble_eq_true rfl⟩) 0 3 rfl rfl rfl rfl [] rfl (Nat.le_of_ble_eq_true rfl) dL_law_601 (fun H locs hI => ?_)
        refine lv_aload_n hx hb dL_law_604 rfl (lv_at hl 2 rfl) ?_
        refine tk_bd2 hf (fun r143 s144 hq hf => ?_)
        refine tk_lL S hI hl.1 hcs (c_X4_digest l G s142  hq) (cwV 0 hts (tk_gV mw_560 mw_561 mw_562 mw_5 mw_563) rfl rfl rfl yd_X4_digest ⟨Nat.le_of_ble_eq_true rfl, Nat.le_of_ble_eq_true rfl⟩) 19 4 rfl rfl rfl rfl [.long r141] rfl (Nat.le_of_ble_eq_true rfl) dL_law_605 (fun H locs hI => ?_)
        refine W.lcmp hx hb dL_law_608 ?_
        refine tk_if_eq (tgt := 614) hx hb hf dL_law_609 (by decide) (fun hf => ?_) (fun hf => ?_)
        · refine tk_let hf (fun i145 ei145 hf => ?_)
          refine lv_iinc (v := i145) (lv' := [(3, .int i145), (0, .ref b), (1, .ref (tad G 0)), (2, .ref (tad G 19))]) hx hb dL_law_614 hl (k := 3) rfl (by rw [ei145]; rfl) (by decide) rfl (fun ls hl => ?_)
          refine lv_goto (tgt := 18) hx hb dL_law_617 (by decide) ?_
          exact ih i145 s144 _ _ _ hI (lv_sub hl [1, 2, 3, 0] rfl) hf
        · refine lv_iconst (v := 0) hx hb dL_law_612 (by decide) ?_
          exact absurd hf (by decide)
      refine lv_tableOut (tgt := 614) hx hb dL_law_32 (by have := lv_neT c1_0 (a := 0) (by decide); have := lv_neT c1_1 (a := 1) (by decide); have := lv_neT c1_2 (a := 2) (by decide); have := lv_neT c1_3 (a := 3) (by decide); have := lv_neT c1_4 (a := 4) (by decide); have := lv_neT c1_5 (a := 5) (by decide); have := lv_neT c1_6 (a := 6) (by decide); have := lv_neT c1_7 (a := 7) (by decide); have := lv_neT c1_8 (a := 8) (by decide); have := lv_neT c1_9 (a := 9) (by decide); have := lv_neT c1_10 (a := 10) (by decide); have := lv_neT c1_11 (a := 11) (by decide); have := lv_neT c1_12 (a := 12) (by decide); have := lv_neT c1_13 (a := 13) (by decide); have := lv_neT c1_14 (a := 14) (by decide); have := lv_neT c1_15 (a := 15) (by decide); have := lv_neT c1_16 (a := 16) (by decide); omega) (by decide) ?_
      refine tk_let hf (fun i146 ei146 hf => ?_)
      refine lv_iinc (v := i146) (lv' := [(3, .int i146), (0, .ref b), (1, .ref (tad G 0)), (2, .ref (tad G 19))]) hx hb dL_law_614 hl (k := 3) rfl (by rw [ei146]; rfl) (by decide) rfl (fun ls hl => ?_)
      refine lv_goto (tgt := 18) hx hb dL_law_617 (by decide) ?_
      exact ih i146 st _ _ _ hI (lv_sub hl [1, 2, 3, 0] rfl) hf
def tk_st0 : tST := (fun k => if k = 3 then -1 else 0, fun _ => 0, fun _ _ => 0, fun _ _ => 0)
theorem tk_getD {l : List Nat} {k d : Nat} (h : l.length ≤ k) : l.getD k d = d := by
  rw [List.getD_eq_getElem?_getD, List.getElem?_eq_none h]; rfl
theorem tk_hG {G : tG} {st : tST} {A : Nat → Prop} (hD : va_D A (tw G st)) (hdef : ∀ k, 41 ≤ k → tad G k = tad G 0) : ∀ k, A (tad G k) := by
  have key : ∀ k, k < 41 → A (tad G k) := by
    intro k hk
    have h1 : ((tw G st).map Prod.fst)[k]? = some (tad G k) := by
      rw [tw_fst, List.getElem?_map, List.getElem?_range hk]; rfl
    rw [List.getElem?_map] at h1
    cases hq : (tw G st)[k]? with
    | none => rw [hq] at h1; cases h1
    | some q =>
      rw [hq] at h1
      have h2 : q.1 = tad G k := Option.some.inj h1
      rw [← h2]
      exact hD.2 k q hq
  intro k
  by_cases hk : k < 41
  · exact key k hk
  · rw [hdef k (Nat.le_of_not_lt hk)]
    exact key 0 (by decide)
set_option maxHeartbeats 8000000 in
set_option maxRecDepth 100000 in
theorem tk_start {p : Program} {e : Env} {s : State} {m : MethodId} {below : List Frame} {meth : Method} {c : Code} (l : Launch) {b L : Nat} {xs : Nat → Int32} (hpure : f_L_law_18 L xs tfu 0 tk_st0 = some 1) (C0 : lw_At p s m meth c b L xs) : W p l e room_1 s m #[Value.ref b] below meth c s.heap [] 0 0 (lw_Z below #[Value.ref b] s) (entryFrame m ([Value.ref b] : List Value).toArray 4) := by
  obtain ⟨hx, hb, hr, hml, hown, htsT, hX, hbl, hlocks, hgv⟩ := id C0
  have hts : ∀ w ∈ wsL_law, w.before #[Value.ref b] s = true := fun w h => htsT w (wsL_law_in w h)
  have hA : ∀ q : Nat, s.heap.size ≤ q → (fun q : Nat => s.heap.size ≤ q) q := fun _ h => h
  have hNX1 : va_Nw (.methodLinkNest RX3 29 yX1_init "TrackedLetters") s := va_Nw.of rfl (htsT _ (List.mem_of_getElem? (i := 73) (by decide +kernel)))
  have hNX0 : va_Nw (.methodLinkNest RX3 36 yX0_init "TrackedLetters") s := va_Nw.of rfl (htsT _ (List.mem_of_getElem? (i := 100) (by decide +kernel)))
  have hNX2 : va_Nw (.methodLinkNest RX3 43 yX2_init "TrackedLetters") s := va_Nw.of rfl (htsT _ (List.mem_of_getElem? (i := 132) (by decide +kernel)))
  obtain ⟨d0, iS0, hKn0⟩ := u_known (C := RX0) (T := TX0) (N := 6) (n := 6) htsT inX0 (hts _ mw_23)
  obtain ⟨d1, iS1, hKn1⟩ := u_known (C := RX1) (T := TX1) (N := 5) (n := 5) htsT inX1 (hts _ mw_19)
  obtain ⟨d2, iS2, hKn2⟩ := u_known (C := RX2) (T := TX2) (N := 4) (n := 4) htsT inX2 (hts _ mw_27)
  obtain ⟨d3, iS3, hKn3⟩ := u_known (C := RX3) (T := TX3) (N := 13) (n := 13) htsT inX3 (hts _ mw_1)
  obtain ⟨d4, iS4, hKn4⟩ := u_known (C := RX4) (T := TX4) (N := 32) (n := 32) htsT inX4 (hts _ mw_4)
  obtain ⟨D, hKc⟩ : ∃ D : va_G, ∀ (k : Nat) (q : vw_C), vwCl[k]? = some q → u_Kn s q.1 q.2.1 q.2.2 (D.1 k) (D.2 k) := by
    refine ⟨(fun k => if k = 0 then d0 else if k = 1 then d1 else if k = 2 then d2 else if k = 3 then d3 else d4, fun k => if k = 0 then iS0 else if k = 1 then iS1 else if k = 2 then iS2 else if k = 3 then iS3 else iS4), ?_⟩
    intro k q hq
    match k, hq with
    | 0, hq => cases hq; exact hKn0
    | 1, hq => cases hq; exact hKn1
    | 2, hq => cases hq; exact hKn2
    | 3, hq => cases hq; exact hKn3
    | 4, hq => cases hq; exact hKn4
    | k + 5, hq => simp [vwCl] at hq
  have hS : va_S (fun q : Nat => s.heap.size ≤ q) s.heap s.heap [] := va_S.rf
  have hK : va_K D vwCl [] s := ⟨hKc, fun k q h => by simp at h⟩
  have hP : va_P D vwCl [] s.heap := fun k q h => by simp at h
  have hD : va_D (fun q : Nat => s.heap.size ≤ q) [] := ⟨fun i j p q h => by simp at h, fun k q h => by simp at h⟩
  have hl := lv_entry ([.ref b]) (n := 4) (Nat.le_of_ble_eq_true rfl)
  rw [lg_entry_eq]
  generalize (lg_sl ([.ref b]) ++ List.replicate (4 - (lg_sl ([.ref b])).length) Slot.unset).toArray = ls at hl ⊢
  have hl : lv_has ls 4 [(0, .ref b)] := hl
  refine va_new (ci := 3) (fs := [.null, .int 0, .null, .int 0, .long 0, .null, .null, .null, .null, .int 0, .int 0, .int 0, .int 0]) (C := RX3) (T := TX3) (N := 13) hx hb hts inlX3 tyX3 tyX3_ok hown (hts _ mw_0) (hts _ mw_1) (hts _ mw_2) hK hP hD hS hA rfl (fun j hj => by rcases (show j = 0 ∨ j = 1 ∨ j = 2 ∨ j = 3 ∨ j = 4 ∨ j = 5 ∨ j = 6 ∨ j = 7 ∨ j = 8 ∨ j = 9 ∨ j = 10 ∨ j = 11 ∨ j = 12 by omega) with rfl | rfl | rfl | rfl | rfl | rfl | rfl | rfl | rfl | rfl | rfl | rfl | rfl <;> rfl) (Nat.le_of_ble_eq_true rfl) (Nat.le_of_ble_eq_true rfl) dL_law_0 (fun a0 H hP hD hS => ?_)
  have hP : va_P D vwCl [(a0, .inr (3, [.null, .int 0, .null, .int 0, .long 0, .null, .null, .null, .null, .int 0, .int 0, .int 0, .int 0]))] H := hP
  have hD : va_D (fun q : Nat => s.heap.size ≤ q) [(a0, .inr (3, [.null, .int 0, .null, .int 0, .long 0, .null, .null, .null, .null, .int 0, .int 0, .int 0, .int 0]))] := hD
  refine W.widen (k := 1) (n := 13) (by omega) (by omega) ?_
  refine lv_dup hx hb dL_law_3 rfl ?_
  have hPc := hP.sub (ws' := [(a0, .inr (3, [.null, .int 0, .null, .int 0, .long 0, .null, .null, .null, .null, .int 0, .int 0, .int 0, .int 0]))]) [0] rfl
  have hDc := hD.sub (ws' := [(a0, .inr (3, [.null, .int 0, .null, .int 0, .long 0, .null, .null, .null, .null, .int 0, .int 0, .int 0, .int 0]))]) [0] (by decide) rfl
  have hKc := hK.sub (tys' := []) [] rfl
  have hFc := va_free (wc := [(a0, .inr (3, [.null, .int 0, .null, .int 0, .long 0, .null, .null, .null, .null, .int 0, .int 0, .int 0, .int 0]))]) hD hS hA [0] rfl
  refine va_callv (va_runI (As := []) (rest := [.ref a0]) ⟨hx, hb, hml, hown, hts⟩ (c_X3_init l D a0 H.size) (cwI 0 hts (tk_gI mw_8) rfl rfl rfl (hts _ mw_2) (hts _ mw_6) (hts _ mw_7) rfl yd_X3_init ⟨Nat.le_of_ble_eq_true rfl, Nat.le_of_ble_eq_true rfl⟩) ⟨fun a U g mk q => by obtain ⟨q0, q1, qP, qK, qD, qN1, qN2, qN3⟩ := q; exact ⟨q0, q1, qP, va_K.moved (u := U) (U := U.calling g mk a) (Vm.Alike.refl U.vm) qK, qD, va_Nw.same rfl rfl qN1, va_Nw.same rfl rfl qN2, va_Nw.same rfl rfl qN3⟩, fun U hU hW => ⟨rfl, by rw [hU], by rw [hU]; exact hPc, va_K.moved hW.alike hKc, hDc.weaken (fun _ _ _ _ => trivial), va_Nw.warmM hW hNX1, va_Nw.warmM hW hNX0, va_Nw.warmM hW hNX2⟩⟩ rfl rfl hl.1 rfl (lv_room (Nat.le_of_ble_eq_true rfl)) dL_law_4 ⟨Nat.le_of_ble_eq_true rfl, Nat.le_of_ble_eq_true rfl⟩) hS (fun q _ h => hFc q h) hFc (fun u t H1 locs ht hvm hw hB hz1 hk1 hS => ?_)
  obtain ⟨a1, a2, a3, a4, a5, a6, a7, a9, a10, a11, a12, a13, a14, a17, a18, a19, a20, a22, ca1, ca16, hP1, hK1, hD1⟩ := hB
  rw [ht] at hP1
  have hK1 := va_K.moved hvm.symm hK1
  obtain ⟨hP, hD⟩ := va_join (wr := []) (w1 := [(a0, .inr (3, [.ref a1, .int 0, .ref a2, .int 0, .long 0, .ref a3, .ref a9, .ref a17, .ref a22, .int 0, .int (-1), .int 0, .int 0])), (a1, .inl (ca1, 40, .inl (fun _ => 0))), (a2, .inl (ca1, 64, .inl (fun _ => 0))), (a3, .inr (1, [.ref a4, .ref a5, .ref a6, .ref a7, .int 0])), (a4, .inl (ca1, 90, .inl (fun _ => 0))), (a5, .inl (ca1, 90, .inl (fun _ => 0))), (a6, .inl (ca1, 90, .inl (fun _ => 0))), (a7, .inl (ca1, 90, .inl (fun _ => 0))), (a9, .inr (0, [.ref a10, .ref a11, .ref a12, .ref a13, .ref a14, .int 0])), (a10, .inl (ca1, 12, .inl (fun _ => 0))), (a11, .inl (ca1, 12, .inl (fun _ => 0))), (a12, .inl (ca1, 12, .inl (fun _ => 0))), (a13, .inl (ca1, 12, .inl (fun _ => 0))), (a14, .inl (ca16, 12, .inr (.inl (fun _ => 0)))), (a17, .inr (2, [.ref a18, .ref a19, .ref a20, .int 0])), (a18, .inl (ca1, 90, .inl (fun _ => 0))), (a19, .inl (ca1, 90, .inl (fun _ => 0))), (a20, .inl (ca1, 90, .inl (fun _ => 0))), (a22, .inl (ca1, 90, .inl (fun _ => 0)))]) hP hD [0] [] rfl rfl (by decide) (by decide) hk1 hFc hP1 hD1
  have hK := hK.app hK1
  generalize H1 = H at hP hS ⊢
  have hP : va_P D vwCl [(a0, .inr (3, [.ref a1, .int 0, .ref a2, .int 0, .long 0, .ref a3, .ref a9, .ref a17, .ref a22, .int 0, .int (-1), .int 0, .int 0])), (a1, .inl (ca1, 40, .inl (fun _ => 0))), (a2, .inl (ca1, 64, .inl (fun _ => 0))), (a3, .inr (1, [.ref a4, .ref a5, .ref a6, .ref a7, .int 0])), (a4, .inl (ca1, 90, .inl (fun _ => 0))), (a5, .inl (ca1, 90, .inl (fun _ => 0))), (a6, .inl (ca1, 90, .inl (fun _ => 0))), (a7, .inl (ca1, 90, .inl (fun _ => 0))), (a9, .inr (0, [.ref a10, .ref a11, .ref a12, .ref a13, .ref a14, .int 0])), (a10, .inl (ca1, 12, .inl (fun _ => 0))), (a11, .inl (ca1, 12, .inl (fun _ => 0))), (a12, .inl (ca1, 12, .inl (fun _ => 0))), (a13, .inl (ca1, 12, .inl (fun _ => 0))), (a14, .inl (ca16, 12, .inr (.inl (fun _ => 0)))), (a17, .inr (2, [.ref a18, .ref a19, .ref a20, .int 0])), (a18, .inl (ca1, 90, .inl (fun _ => 0))), (a19, .inl (ca1, 90, .inl (fun _ => 0))), (a20, .inl (ca1, 90, .inl (fun _ => 0))), (a22, .inl (ca1, 90, .inl (fun _ => 0)))] H := hP
  have hD : va_D (fun q : Nat => s.heap.size ≤ q) [(a0, .inr (3, [.ref a1, .int 0, .ref a2, .int 0, .long 0, .ref a3, .ref a9, .ref a17, .ref a22, .int 0, .int (-1), .int 0, .int 0])), (a1, .inl (ca1, 40, .inl (fun _ => 0))), (a2, .inl (ca1, 64, .inl (fun _ => 0))), (a3, .inr (1, [.ref a4, .ref a5, .ref a6, .ref a7, .int 0])), (a4, .inl (ca1, 90, .inl (fun _ => 0))), (a5, .inl (ca1, 90, .inl (fun _ => 0))), (a6, .inl (ca1, 90, .inl (fun _ => 0))), (a7, .inl (ca1, 90, .inl (fun _ => 0))), (a9, .inr (0, [.ref a10, .ref a11, .ref a12, .ref a13, .ref a14, .int 0])), (a10, .inl (ca1, 12, .inl (fun _ => 0))), (a11, .inl (ca1, 12, .inl (fun _ => 0))), (a12, .inl (ca1, 12, .inl (fun _ => 0))), (a13, .inl (ca1, 12, .inl (fun _ => 0))), (a14, .inl (ca16, 12, .inr (.inl (fun _ => 0)))), (a17, .inr (2, [.ref a18, .ref a19, .ref a20, .int 0])), (a18, .inl (ca1, 90, .inl (fun _ => 0))), (a19, .inl (ca1, 90, .inl (fun _ => 0))), (a20, .inl (ca1, 90, .inl (fun _ => 0))), (a22, .inl (ca1, 90, .inl (fun _ => 0)))] := hD
  have hK : va_K D vwCl [(ca1, .int), (ca16, .long)] s := hK
  refine W.widen (k := 19) (n := 912) (by omega) (by omega) ?_
  refine lv_astore_n (lv' := [(1, .ref a0), (0, .ref b)]) hx hb dL_law_7 rfl hl (by decide) rfl (fun ls hl => ?_)
  refine va_new (ci := 4) (fs := [.int 0, .null, .int 0, .null, .null, .null, .null, .int 0, .null, .null, .null, .null, .int 0, .null, .null, .null, .null, .null, .null, .int 0, .int 0, .int 0, .null, .null, .null, .int 0, .null, .null, .null, .int 0, .int 0, .long 0]) (C := RX4) (T := TX4) (N := 32) hx hb hts inlX4 tyX4 tyX4_ok hown (hts _ mw_3) (hts _ mw_4) (hts _ mw_5) hK hP hD hS hA rfl (fun j hj => by rcases (show j = 0 ∨ j = 1 ∨ j = 2 ∨ j = 3 ∨ j = 4 ∨ j = 5 ∨ j = 6 ∨ j = 7 ∨ j = 8 ∨ j = 9 ∨ j = 10 ∨ j = 11 ∨ j = 12 ∨ j = 13 ∨ j = 14 ∨ j = 15 ∨ j = 16 ∨ j = 17 ∨ j = 18 ∨ j = 19 ∨ j = 20 ∨ j = 21 ∨ j = 22 ∨ j = 23 ∨ j = 24 ∨ j = 25 ∨ j = 26 ∨ j = 27 ∨ j = 28 ∨ j = 29 ∨ j = 30 ∨ j = 31 by omega) with rfl | rfl | rfl | rfl | rfl | rfl | rfl | rfl | rfl | rfl | rfl | rfl | rfl | rfl | rfl | rfl | rfl | rfl | rfl | rfl | rfl | rfl | rfl | rfl | rfl | rfl | rfl | rfl | rfl | rfl | rfl | rfl <;> rfl) (Nat.le_of_ble_eq_true rfl) (Nat.le_of_ble_eq_true rfl) dL_law_8 (fun b0 H hP hD hS => ?_)
  have hP : va_P D vwCl [(a0, .inr (3, [.ref a1, .int 0, .ref a2, .int 0, .long 0, .ref a3, .ref a9, .ref a17, .ref a22, .int 0, .int (-1), .int 0, .int 0])), (a1, .inl (ca1, 40, .inl (fun _ => 0))), (a2, .inl (ca1, 64, .inl (fun _ => 0))), (a3, .inr (1, [.ref a4, .ref a5, .ref a6, .ref a7, .int 0])), (a4, .inl (ca1, 90, .inl (fun _ => 0))), (a5, .inl (ca1, 90, .inl (fun _ => 0))), (a6, .inl (ca1, 90, .inl (fun _ => 0))), (a7, .inl (ca1, 90, .inl (fun _ => 0))), (a9, .inr (0, [.ref a10, .ref a11, .ref a12, .ref a13, .ref a14, .int 0])), (a10, .inl (ca1, 12, .inl (fun _ => 0))), (a11, .inl (ca1, 12, .inl (fun _ => 0))), (a12, .inl (ca1, 12, .inl (fun _ => 0))), (a13, .inl (ca1, 12, .inl (fun _ => 0))), (a14, .inl (ca16, 12, .inr (.inl (fun _ => 0)))), (a17, .inr (2, [.ref a18, .ref a19, .ref a20, .int 0])), (a18, .inl (ca1, 90, .inl (fun _ => 0))), (a19, .inl (ca1, 90, .inl (fun _ => 0))), (a20, .inl (ca1, 90, .inl (fun _ => 0))), (a22, .inl (ca1, 90, .inl (fun _ => 0))), (b0, .inr (4, [.int 0, .null, .int 0, .null, .null, .null, .null, .int 0, .null, .null, .null, .null, .int 0, .null, .null, .null, .null, .null, .null, .int 0, .int 0, .int 0, .null, .null, .null, .int 0, .null, .null, .null, .int 0, .int 0, .long 0]))] H := hP
  have hD : va_D (fun q : Nat => s.heap.size ≤ q) [(a0, .inr (3, [.ref a1, .int 0, .ref a2, .int 0, .long 0, .ref a3, .ref a9, .ref a17, .ref a22, .int 0, .int (-1), .int 0, .int 0])), (a1, .inl (ca1, 40, .inl (fun _ => 0))), (a2, .inl (ca1, 64, .inl (fun _ => 0))), (a3, .inr (1, [.ref a4, .ref a5, .ref a6, .ref a7, .int 0])), (a4, .inl (ca1, 90, .inl (fun _ => 0))), (a5, .inl (ca1, 90, .inl (fun _ => 0))), (a6, .inl (ca1, 90, .inl (fun _ => 0))), (a7, .inl (ca1, 90, .inl (fun _ => 0))), (a9, .inr (0, [.ref a10, .ref a11, .ref a12, .ref a13, .ref a14, .int 0])), (a10, .inl (ca1, 12, .inl (fun _ => 0))), (a11, .inl (ca1, 12, .inl (fun _ => 0))), (a12, .inl (ca1, 12, .inl (fun _ => 0))), (a13, .inl (ca1, 12, .inl (fun _ => 0))), (a14, .inl (ca16, 12, .inr (.inl (fun _ => 0)))), (a17, .inr (2, [.ref a18, .ref a19, .ref a20, .int 0])), (a18, .inl (ca1, 90, .inl (fun _ => 0))), (a19, .inl (ca1, 90, .inl (fun _ => 0))), (a20, .inl (ca1, 90, .inl (fun _ => 0))), (a22, .inl (ca1, 90, .inl (fun _ => 0))), (b0, .inr (4, [.int 0, .null, .int 0, .null, .null, .null, .null, .int 0, .null, .null, .null, .null, .int 0, .null, .null, .null, .null, .null, .null, .int 0, .int 0, .int 0, .null, .null, .null, .int 0, .null, .null, .null, .int 0, .int 0, .long 0]))] := hD
  refine W.widen (k := 20) (n := 944) (by omega) (by omega) ?_
  refine lv_dup hx hb dL_law_11 rfl ?_
  have hPc := hP.sub (ws' := [(b0, .inr (4, [.int 0, .null, .int 0, .null, .null, .null, .null, .int 0, .null, .null, .null, .null, .int 0, .null, .null, .null, .null, .null, .null, .int 0, .int 0, .int 0, .null, .null, .null, .int 0, .null, .null, .null, .int 0, .int 0, .long 0]))]) [19] rfl
  have hDc := hD.sub (ws' := [(b0, .inr (4, [.int 0, .null, .int 0, .null, .null, .null, .null, .int 0, .null, .null, .null, .null, .int 0, .null, .null, .null, .null, .null, .null, .int 0, .int 0, .int 0, .null, .null, .null, .int 0, .null, .null, .null, .int 0, .int 0, .long 0]))]) [19] (by decide) rfl
  have hKc := hK.sub (tys' := []) [] rfl
  have hFc := va_free (wc := [(b0, .inr (4, [.int 0, .null, .int 0, .null, .null, .null, .null, .int 0, .null, .null, .null, .null, .int 0, .null, .null, .null, .null, .null, .null, .int 0, .int 0, .int 0, .null, .null, .null, .int 0, .null, .null, .null, .int 0, .int 0, .long 0]))]) hD hS hA [19] rfl
  refine va_callv (va_runI (As := []) (rest := [.ref b0]) ⟨hx, hb, hml, hown, hts⟩ (c_X4_init l D b0 H.size) (cwI 0 hts (tk_gI mw_62) rfl rfl rfl (hts _ mw_5) (hts _ mw_60) (hts _ mw_61) rfl yd_X4_init ⟨Nat.le_of_ble_eq_true rfl, Nat.le_of_ble_eq_true rfl⟩) ⟨fun a U g mk q => by obtain ⟨q0, q1, qP, qK, qD⟩ := q; exact ⟨q0, q1, qP, va_K.moved (u := U) (U := U.calling g mk a) (Vm.Alike.refl U.vm) qK, qD⟩, fun U hU hW => ⟨rfl, by rw [hU], by rw [hU]; exact hPc, va_K.moved hW.alike hKc, hDc.weaken (fun _ _ _ _ => trivial)⟩⟩ rfl rfl hl.1 rfl (lv_room (Nat.le_of_ble_eq_true rfl)) dL_law_12 ⟨Nat.le_of_ble_eq_true rfl, Nat.le_of_ble_eq_true rfl⟩) hS (fun q _ h => hFc q h) hFc (fun u t H1 locs ht hvm hw hB hz1 hk1 hS => ?_)
  obtain ⟨b1, b2, b3, b4, b5, b6, b7, b8, b9, b10, b11, b12, b13, b14, b15, b16, b17, b18, b19, b20, b21, cb1, cb9, hP1, hK1, hD1⟩ := hB
  rw [ht] at hP1
  have hK1 := va_K.moved hvm.symm hK1
  obtain ⟨hP, hD⟩ := va_join (wr := [(a0, .inr (3, [.ref a1, .int 0, .ref a2, .int 0, .long 0, .ref a3, .ref a9, .ref a17, .ref a22, .int 0, .int (-1), .int 0, .int 0])), (a1, .inl (ca1, 40, .inl (fun _ => 0))), (a2, .inl (ca1, 64, .inl (fun _ => 0))), (a3, .inr (1, [.ref a4, .ref a5, .ref a6, .ref a7, .int 0])), (a4, .inl (ca1, 90, .inl (fun _ => 0))), (a5, .inl (ca1, 90, .inl (fun _ => 0))), (a6, .inl (ca1, 90, .inl (fun _ => 0))), (a7, .inl (ca1, 90, .inl (fun _ => 0))), (a9, .inr (0, [.ref a10, .ref a11, .ref a12, .ref a13, .ref a14, .int 0])), (a10, .inl (ca1, 12, .inl (fun _ => 0))), (a11, .inl (ca1, 12, .inl (fun _ => 0))), (a12, .inl (ca1, 12, .inl (fun _ => 0))), (a13, .inl (ca1, 12, .inl (fun _ => 0))), (a14, .inl (ca16, 12, .inr (.inl (fun _ => 0)))), (a17, .inr (2, [.ref a18, .ref a19, .ref a20, .int 0])), (a18, .inl (ca1, 90, .inl (fun _ => 0))), (a19, .inl (ca1, 90, .inl (fun _ => 0))), (a20, .inl (ca1, 90, .inl (fun _ => 0))), (a22, .inl (ca1, 90, .inl (fun _ => 0)))]) (w1 := [(b0, .inr (4, [.int 0, .ref b1, .int 0, .ref b2, .ref b3, .ref b4, .ref b5, .int 0, .ref b6, .ref b7, .ref b8, .ref b9, .int 0, .ref b10, .ref b11, .ref b12, .ref b13, .ref b14, .ref b15, .int 0, .int 0, .int 0, .ref b16, .ref b17, .ref b18, .int 0, .ref b19, .ref b20, .ref b21, .int 0, .int 0, .long 0])), (b1, .inl (cb1, 40, .inl (fun _ => 0))), (b2, .inl (cb1, 64, .inl (fun _ => 0))), (b3, .inl (cb1, 64, .inl (fun _ => 0))), (b4, .inl (cb1, 64, .inl (fun _ => 0))), (b5, .inl (cb1, 64, .inl (fun _ => 0))), (b6, .inl (cb1, 12, .inl (fun _ => 0))), (b7, .inl (cb1, 12, .inl (fun _ => 0))), (b8, .inl (cb1, 12, .inl (fun _ => 0))), (b9, .inl (cb9, 12, .inl (fun _ => 0))), (b10, .inl (cb1, 90, .inl (fun _ => 0))), (b11, .inl (cb1, 90, .inl (fun _ => 0))), (b12, .inl (cb1, 90, .inl (fun _ => 0))), (b13, .inl (cb1, 90, .inl (fun _ => 0))), (b14, .inl (cb1, 90, .inl (fun _ => 0))), (b15, .inl (cb1, 90, .inl (fun _ => 0))), (b16, .inl (cb1, 64, .inl (fun _ => 0))), (b17, .inl (cb9, 90, .inl (fun _ => 0))), (b18, .inl (cb1, 64, .inl (fun _ => 0))), (b19, .inl (cb1, 90, .inl (fun _ => 0))), (b20, .inl (cb1, 90, .inl (fun _ => 0))), (b21, .inl (cb1, 90, .inl (fun _ => 0)))]) hP hD [19] [0, 1, 2, 3, 4, 5, 6, 7, 8, 9, 10, 11, 12, 13, 14, 15, 16, 17, 18] rfl rfl (by decide) (by decide) hk1 hFc hP1 hD1
  have hK := hK.app hK1
  generalize H1 = H at hP hS ⊢
  have hK : va_K D vwCl [(ca1, .int), (ca16, .long), (cb1, .int), (cb9, .boolean)] s := hK
  obtain rfl : ca1 = cb1 := tk_ceqI hK 0 2 rfl rfl
  have hK : va_K D vwCl (tty (D, ca1, ca16, cb9, fun k => [a0, a1, a2, a3, a4, a5, a6, a7, a9, a10, a11, a12, a13, a14, a17, a18, a19, a20, a22, b0, b1, b2, b3, b4, b5, b6, b7, b8, b9, b10, b11, b12, b13, b14, b15, b16, b17, b18, b19, b20, b21].getD k a0)) s := hK.sub [0, 1, 3] rfl
  obtain ⟨G, hGe⟩ : ∃ G : tG, G = (D, ca1, ca16, cb9, fun k => [a0, a1, a2, a3, a4, a5, a6, a7, a9, a10, a11, a12, a13, a14, a17, a18, a19, a20, a22, b0, b1, b2, b3, b4, b5, b6, b7, b8, b9, b10, b11, b12, b13, b14, b15, b16, b17, b18, b19, b20, b21].getD k a0) := ⟨_, rfl⟩
  have hP : va_P G.1 vwCl (tw G tk_st0) H := by rw [hGe]; exact hP
  have hD : va_D (fun q : Nat => s.heap.size ≤ q) (tw G tk_st0) := by rw [hGe]; exact hD
  have hK : va_K G.1 vwCl (tty G) s := by rw [hGe]; exact hK
  have hG : ∀ k, s.heap.size ≤ tad G k := tk_hG hD (fun k hk => by rw [hGe]; exact tk_getD (l := [a0, a1, a2, a3, a4, a5, a6, a7, a9, a10, a11, a12, a13, a14, a17, a18, a19, a20, a22, b0, b1, b2, b3, b4, b5, b6, b7, b8, b9, b10, b11, b12, b13, b14, b15, b16, b17, b18, b19, b20, b21]) (d := a0) hk)
  have e0 : a0 = tad G 0 := by rw [hGe]; rfl
  have e19 : b0 = tad G 19 := by rw [hGe]; rfl
  refine W.widen (k := 41) (n := 2316) (by omega) (by omega) ?_
  refine lv_astore_n (lv' := [(2, .ref b0), (1, .ref a0), (0, .ref b)]) hx hb dL_law_15 rfl hl (by decide) rfl (fun ls hl => ?_)
  refine lv_iconst (v := 0) hx hb dL_law_16 (by decide) ?_
  refine lv_istore_n (lv' := [(3, .int 0), (2, .ref b0), (1, .ref a0), (0, .ref b)]) hx hb dL_law_17 rfl hl (by decide) rfl (fun ls hl => ?_)
  have hI : tIn G (tA G s.heap.size) s tk_st0 H locs := ⟨hK, hP, tA_self hD, ⟨hS.1, fun q h1 h2 => hS.2.1 q h1 (fun h3 => h2 (Or.inr h3)), fun q hq => Or.inr (hS.2.2 q hq)⟩⟩
  rw [e0, e19] at hl
  exact k_L_law_18 ⟨hx, hb, hml, hown, hts⟩ hr hlocks hX hbl hG tfu 0 tk_st0 H locs ls hI (lv_sub hl [3, 2, 1, 0] rfl) hpure
