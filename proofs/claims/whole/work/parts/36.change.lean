/-! ===== facts of a change ===== -/
theorem b_not {x : Int32} {i : Nat} (hi : i < 32) : bt (x ^^^ (-1)) i = !bt x i := by rw [b_xor, b_m1 i hi, Bool.xor_true]
def wS (a : AB) (c : Nat) : Int32 := mkV a 1 ||| ((1 : Int32) <<< (nI c &&& 31))
def oS (a : AB) (c : Nat) : Int32 := mkV a 1 &&& (((1 : Int32) <<< (nI c &&& 31)) ^^^ (-1))
theorem wS_o (a : AB) (c : Nat) : wS a c &&& (((1 : Int32) <<< (nI c &&& 31)) ^^^ (-1)) = oS a c := by
  refine b_ext (fun i hi => ?_)
  unfold wS oS
  rw [b_and, b_or, b_and, b_not hi]
  cases bt (mkV a 1) i <;> cases bt ((1 : Int32) <<< (nI c &&& 31)) i <;> rfl
theorem oS_w (a : AB) (c : Nat) : oS a c ||| ((1 : Int32) <<< (nI c &&& 31)) = wS a c := by
  refine b_ext (fun i hi => ?_)
  unfold wS oS
  rw [b_or, b_and, b_or, b_not hi]
  cases bt (mkV a 1) i <;> cases bt ((1 : Int32) <<< (nI c &&& 31)) i <;> rfl
def idl (a : AB) (c l : Nat) : Bool := decide (thB a (wS a c) l = thB a (oS a c) l) && (!thB a (wS a c) l || decide (fw a (wS a c) 90 (a.home l) = fw a (oS a c) 90 (a.home l)))
theorem bl_not (x : Bool) (h : ¬ x = false) : x = true := by cases x <;> simp_all
theorem m_isTouched {a : AB} {st : tST} (h : MR a st) (hI : Inv a) {l c : Nat} (hl : l < a.nL) (hc : c < a.nC) : f_X4_isTouched (nI l) (nI c) st = some (if tch a l c = true then 1 else 0) := by
  have hL := hI.nL
  have hC := hI.nC
  unfold f_X4_isTouched
  simp only [pz_tal (show l < 64 by omega) (show 64 < 2 ^ 31 by omega), h.ins hl, h.del hl]
  have e1 : (en (a.ins l) = nI c) = (a.ins l = some c) := by
    rw [← en_some c]
    exact en_inj (fun k hk => by have := (hI.ins hl hk).1; omega) (fun k hk => by cases hk; omega)
  rw [ite_p e1]
  unfold tch
  by_cases hi : a.ins l = some c
  · rw [if_pos hi, decide_eq_true hi]; rfl
  · rw [if_neg hi, decide_eq_false hi, m_has (by omega), pz_bs, m_movedBy h hI hl, pz_bs, m_has (by omega), pz_bs, mk_bt _ _ (Nat.le_refl _) c (by omega), decide_eq_true (show c < 32 by omega), Bool.true_and]
    cases bt (a.del l) c <;> cases mvd a l c <;> rfl
theorem m_isIdle {a : AB} {st : tST} (h : MR a st) (hI : Inv a) {l c : Nat} (hl : l < a.nL) : f_X4_isIdle (nI l) (nI c) st = some (if idl a c l = true then 1 else 0) := by
  have hP := hI.nP
  have hf1 := (fw_in hI (S := wS a c) 90 (a.home l) (hI.home hl)).1
  have hf2 := (fw_in hI (S := oS a c) 90 (a.home l) (hI.home hl)).1
  unfold f_X4_isIdle
  rw [m_setOf h hI, pz_bs]
  simp only [tlet]
  rw [show mkV a 1 &&& (((1 : Int32) <<< (nI c &&& 31)) ^^^ (-1)) = oS a c from rfl, oS_w, m_isThere h hI hl, pz_bs, m_isThere h hI hl, pz_bs, m_standsAt h hI _ hl, pz_bs, m_standsAt h hI _ hl, pz_bs]
  unfold idl
  cases thB a (wS a c) l <;> cases thB a (oS a c) l
  · rfl
  · rfl
  · rfl
  · rw [if_pos rfl, if_neg (by decide)]
    by_cases he : fw a (wS a c) 90 (a.home l) = fw a (oS a c) 90 (a.home l)
    · rw [if_pos (by rw [he]), decide_eq_true he]; rfl
    · rw [if_neg (by rw [pz_eq (by omega) (by omega)]; exact he), decide_eq_false he]; rfl
theorem m_touchedBy {a : AB} {st : tST} (h : MR a st) (hI : Inv a) {c : Nat} (hc : c < a.nC) (b : Bool) : f_X4_touchedBy (nI c) (if b = true then 1 else 0) st = some (nI (fb_ct (fun l => tch a l c && (!b || idl a c l)) a.nL)) := by
  have hL := hI.nL
  unfold f_X4_touchedBy
  refine lp_q (F := fun n (x : Int32) i => f_X4_touchedBy_5 st n (nI c) (if b = true then 1 else 0) x i) (J := fun k x => x = nI (fb_ct (fun l => tch a l c && (!b || idl a c l)) k)) (N := a.nL) (Q := fun o => o = some (nI (fb_ct (fun l => tch a l c && (!b || idl a c l)) a.nL))) ?_ ?_ 0 tfu 0 (Nat.zero_le _) (tfu_gt (by omega)) rfl
  · intro n x hx
    show f_X4_touchedBy_5 st (n + 1) (nI c) (if b = true then 1 else 0) x (nI a.nL) = _
    rw [f_X4_touchedBy_5, h.nL, if_pos (nI_le (Nat.le_refl _) (by omega)), hx]
  · intro n x l hl hx ih
    show f_X4_touchedBy_5 st (n + 1) (nI c) (if b = true then 1 else 0) x (nI l) = _
    rw [f_X4_touchedBy_5, h.nL, if_neg (nI_ge hl (by omega)), m_isTouched h hI hl hc, pz_bs, m_isIdle h hI hl, pz_bs]
    simp only [tlet, nI_1]
    have z0 : x + 0 = x := by rw [hx, show (0 : Int32) = nI 0 from rfl, nI_add, Nat.add_zero]
    rw [z0]
    have no : ¬ (tch a l c && (!b || idl a c l)) = true → f_X4_touchedBy_5 st n (nI c) (if b = true then 1 else 0) x (nI (l + 1)) = some (nI (fb_ct (fun l => tch a l c && (!b || idl a c l)) a.nL)) := fun e => ih _ (by rw [fb_ct_succ, if_neg e]; exact hx)
    have yes : (tch a l c && (!b || idl a c l)) = true → f_X4_touchedBy_5 st n (nI c) (if b = true then 1 else 0) (x + 1) (nI (l + 1)) = some (nI (fb_ct (fun l => tch a l c && (!b || idl a c l)) a.nL)) := fun e => ih _ (by rw [fb_ct_succ, if_pos e, hx, nI_1])
    cases ht : tch a l c
    · exact no (by rw [ht]; simp)
    · rw [if_neg (by decide)]
      cases b
      · rw [if_pos (by decide)]; exact yes (by rw [ht]; rfl)
      · rw [if_neg (by decide)]
        cases hd : idl a c l
        · exact no (by rw [ht, hd]; decide)
        · exact yes (by rw [ht, hd]; rfl)
theorem x_touched {a : AB} {st : tST} (h : XR a st) (hI : Inv a) {c : Nat} (hc : c < a.nC) : fb_ct (bl (tg_B st 13 c)) 64 = fb_ct (fun l => tch a l c) a.nL := by
  rw [fb_ct_cong (n := 64) (q := fun l => decide (l < a.nL) && tch a l c) (fun l hl => h.tch hc hl), ct_cut hI.nL (fun i h1 _ => by rw [decide_eq_false (by omega)]; rfl)]
  exact fb_ct_cong (fun l hl => by rw [decide_eq_true hl, Bool.true_and])
theorem idl_count {a : AB} (hI : Inv a) (c : Nat) : fb_ct (fun l => tch a l c && !thB a (wS a c) l && !thB a (oS a c) l) a.nL + fb_ct (fun i => tch a (a.lt (a.line i)) c && hp a (wS a c) i && hp a (oS a c) i) a.nP = fb_ct (fun l => tch a l c && idl a c l) a.nL := by
  have e1 : fb_ct (fun i => tch a (a.lt (a.line i)) c && hp a (wS a c) i && hp a (oS a c) i) a.nP = fb_ct (fun l => tch a l c && thB a (wS a c) l && thB a (oS a c) l && decide (fw a (wS a c) 90 (a.home l) = fw a (oS a c) 90 (a.home l))) a.nL := by
    refine ct_bij (f := fun i => a.lt (a.line i)) (g := fun l => a.pos (fw a (wS a c) 90 (a.home l))) (fun i hi h => ?_) (fun l hl h => ?_)
    · unfold hp hd on at h
      simp only [Bool.and_eq_true, decide_eq_true_eq] at h ⊢
      obtain ⟨⟨h1, h2, h3⟩, h4, h5⟩ := h
      exact ⟨hI.lt (hI.line hi), ⟨⟨⟨h1, h2⟩, h4⟩, h3.trans h5.symm⟩, by rw [h3]; exact hI.pl_ hi⟩
    · simp only [Bool.and_eq_true, decide_eq_true_eq] at h
      obtain ⟨⟨⟨h1, h2⟩, h3⟩, h4⟩ := h
      obtain ⟨g1, g2, -⟩ := fw_in hI (S := wS a c) 90 (a.home l) (hI.home hl)
      have g3 : a.lt (fw a (wS a c) 90 (a.home l)) = l := g2.trans (hI.lth hl)
      refine ⟨hI.pos g1, ?_, ?_⟩
      · unfold hp hd on
        simp only [hI.lp g1, g3, Bool.and_eq_true, decide_eq_true_eq]
        exact ⟨⟨h1, h2, trivial⟩, h3, h4.symm⟩
      · show a.lt (a.line (a.pos (fw a (wS a c) 90 (a.home l)))) = l
        rw [hI.lp g1, g3]
  rw [e1, ← fb_ct_or]
  · refine fb_ct_cong (fun l hl => ?_)
    unfold idl
    cases tch a l c <;> cases thB a (wS a c) l <;> cases thB a (oS a c) l <;> simp
  · intro k _
    cases tch a k c <;> cases thB a (wS a c) k <;> cases thB a (oS a c) k <;> simp
theorem x_idleOf {a : AB} {st : tST} (h : XR a st) (hI : Inv a) {c : Nat} (hc : c < a.nC) : f_X3_idleOf (nI c) st = some (nI (fb_ct (fun l => tch a l c && idl a c l) a.nL)) := by
  have hP := hI.nP
  have hC := hI.nC
  have hL := hI.nL
  unfold f_X3_idleOf
  rw [x_setOf h hI (by decide), pz_bs]
  simp only [tlet]
  rw [show mkV a 1 ||| ((1 : Int32) <<< (nI c &&& 31)) = wS a c from rfl, wS_o, x_thereBy h hI, pz_bs, x_thereBy h hI, pz_bs, pz_tal (by omega) (by omega), j13_count, pz_bs]
  obtain ⟨T1, hT1, hTe1⟩ : ∃ T, (∀ l, l < 64 → bl T l = thP a (wS a c) l) ∧ T = mkB (thP a (wS a c)) 64 := ⟨_, fun l hl => by rw [mkB_bl _ _ (Nat.le_refl _) l hl, decide_eq_true hl, Bool.true_and], rfl⟩
  obtain ⟨T2, hT2, hTe2⟩ : ∃ T, (∀ l, l < 64 → bl T l = thP a (oS a c) l) ∧ T = mkB (thP a (oS a c)) 64 := ⟨_, fun l hl => by rw [mkB_bl _ _ (Nat.le_refl _) l hl, decide_eq_true hl, Bool.true_and], rfl⟩
  rw [← hTe1, ← hTe2]
  clear hTe1 hTe2
  have e0 : fb_ct (bl ((tg_B st 13 c &&& (T1 ^^^ (-1))) &&& (T2 ^^^ (-1)))) 64 = fb_ct (fun l => tch a l c && !thB a (wS a c) l && !thB a (oS a c) l) a.nL := by
    rw [fb_ct_cong (n := 64) (q := fun l => decide (l < a.nL) && (tch a l c && !thB a (wS a c) l && !thB a (oS a c) l)) (fun l hl => ?_), ct_cut hL (fun i h1 _ => by rw [decide_eq_false (by omega)]; rfl)]
    · exact fb_ct_cong (fun l hl => by rw [decide_eq_true hl, Bool.true_and])
    · rw [l_and, l_and, l_not hl, l_not hl, h.tch hc hl, hT1 l hl, hT2 l hl]
      unfold thP
      cases decide (l < a.nL) <;> simp [Bool.and_assoc]
  rw [e0, ← idl_count hI c]
  generalize fb_ct (fun l => tch a l c && !thB a (wS a c) l && !thB a (oS a c) l) a.nL = B
  refine lp_q (F := fun n (x : Int32) i => f_X3_idleOf_67 st n (wS a c) (oS a c) T1 T2 (tg_B st 13 c) x i) (J := fun k x => x = nI (B + fb_ct (fun i => tch a (a.lt (a.line i)) c && hp a (wS a c) i && hp a (oS a c) i) k)) (N := a.nP) (Q := fun o => o = some (nI (B + fb_ct (fun i => tch a (a.lt (a.line i)) c && hp a (wS a c) i && hp a (oS a c) i) a.nP))) ?_ ?_ 0 tfu (nI B) (Nat.zero_le _) (tfu_gt (by omega)) rfl
  · intro n x hx
    show f_X3_idleOf_67 st (n + 1) (wS a c) (oS a c) T1 T2 (tg_B st 13 c) x (nI a.nP) = _
    rw [f_X3_idleOf_67, h.nP, if_pos (nI_le (Nat.le_refl _) (by omega)), hx]
  · intro n x i hi hx ih
    show f_X3_idleOf_67 st (n + 1) (wS a c) (oS a c) T1 T2 (tg_B st 13 c) x (nI i) = _
    have hl := hI.lt (hI.line hi)
    have hl64 : a.lt (a.line i) < 64 := by omega
    rw [f_X3_idleOf_67, h.nP, if_neg (nI_ge hi (by omega)), x_holds h hI _ _ hi, pz_bs, x_holds h hI _ _ hi, pz_bs, l_and, l_and, h.tch hc hl64, hT1 _ hl64, hT2 _ hl64, decide_eq_true hl, Bool.true_and]
    simp only [tlet, nI_1]
    have p1 : thP a (wS a c) (a.lt (a.line i)) = thB a (wS a c) (a.lt (a.line i)) := by unfold thP; rw [decide_eq_true hl, Bool.true_and]
    have p2 : thP a (oS a c) (a.lt (a.line i)) = thB a (oS a c) (a.lt (a.line i)) := by unfold thP; rw [decide_eq_true hl, Bool.true_and]
    rw [p1, p2, Bool.and_assoc, Bool.and_assoc]
    show (if (if (tch a (a.lt (a.line i)) c && hp a (wS a c) i) = true then (1 : Int32) else 0) = 0 then _ else (if (if (tch a (a.lt (a.line i)) c && hp a (oS a c) i) = true then (1 : Int32) else 0) = 0 then _ else _)) = _
    have no : ¬ (tch a (a.lt (a.line i)) c && hp a (wS a c) i && hp a (oS a c) i) = true → f_X3_idleOf_67 st n (wS a c) (oS a c) T1 T2 (tg_B st 13 c) x (nI (i + 1)) = _ := fun e => ih _ (by rw [fb_ct_succ, if_neg e]; exact hx)
    have yes : (tch a (a.lt (a.line i)) c && hp a (wS a c) i && hp a (oS a c) i) = true → f_X3_idleOf_67 st n (wS a c) (oS a c) T1 T2 (tg_B st 13 c) (x + 1) (nI (i + 1)) = _ := fun e => ih _ (by rw [fb_ct_succ, if_pos e, hx, nI_1]; rfl)
    cases ht : tch a (a.lt (a.line i)) c
    · exact no (by rw [ht]; simp)
    · cases h1 : hp a (wS a c) i
      · exact no (by rw [ht, h1]; simp)
      · cases h2 : hp a (oS a c) i
        · exact no (by rw [ht, h1, h2]; decide)
        · exact yes (by rw [ht, h1, h2]; rfl)
/-! ===== which changes a change leans on ===== -/
def ldr (a : AB) (c d p : Nat) : Bool := decide (a.by_ p = some c) && (match a.fr p with
  | none => false
  | some q => decide (a.by_ q = some d))
theorem ldr_iff {a : AB} {c d p : Nat} : ldr a c d p = true ↔ a.by_ p = some c ∧ ∃ q, a.fr p = some q ∧ a.by_ q = some d := by
  unfold ldr
  rw [Bool.and_eq_true, decide_eq_true_eq]
  cases a.fr p with
  | none => simp
  | some q => simp
def lnI (a : AB) (c d : Nat) : Bool := exs (fun l => (bt (a.del l) c || mvd a l c) && decide (a.ins l = some d)) a.nL
def lnP (a : AB) (c d : Nat) : Bool := (lnI a c d || exs (ldr a c d) a.nP) && !decide (d = c)
theorem x_insertsUnder {a : AB} {st : tST} (h : XR a st) (hI : Inv a) {c : Nat} (hc : c < a.nC) : f_X0_insertsUnder (nI c) st = some (mk (fun d => lnI a c d && !decide (d = c)) a.nC) := by
  have hC := hI.nC
  have hL := hI.nL
  have key : ∀ d, d < a.nC → ¬ d = c → a.kind d = 0 → (lg_cmp (tg_B st 13 d &&& tg_B st 13 c) 0 = 0) = (lnI a c d = false) := by
    intro d hd hne hk
    rw [l_cmp0, l_zero]
    apply propext
    constructor
    · intro h1
      cases hz : lnI a c d
      · rfl
      · obtain ⟨l, h2, h3⟩ := exs_iff.mp hz
        simp only [Bool.and_eq_true, decide_eq_true_eq] at h3
        have h4 := h1 l (by omega)
        have h5 : tch a l c = true := by
          unfold tch
          rw [Bool.or_assoc, h3.1, Bool.or_true]
        rw [l_and, h.tch hd (by omega), h.tch hc (by omega), decide_eq_true h2, tch_0 hI h2 hk, h5, decide_eq_true h3.2] at h4
        cases h4
    · intro h1 l hl
      rw [l_and, h.tch hd hl, h.tch hc hl]
      by_cases h2 : l < a.nL
      · rw [decide_eq_true h2, tch_0 hI h2 hk, Bool.true_and, Bool.true_and]
        by_cases h3 : a.ins l = some d
        · cases ht : tch a l c
          · simp
          · exfalso
            have h4 : (bt (a.del l) c || mvd a l c) = true := by
              unfold tch at ht
              rw [decide_eq_false (fun e => by rw [h3] at e; cases e; exact hne rfl), Bool.false_or] at ht
              exact ht
            have : lnI a c d = true := exs_iff.mpr ⟨l, h2, by rw [h4, decide_eq_true h3]; rfl⟩
            rw [h1] at this
            cases this
        · rw [decide_eq_false h3]; rfl
      · rw [decide_eq_false h2]; rfl
  have kin : ∀ d, lnI a c d = true → a.kind d = 0 := by
    intro d hz
    obtain ⟨l, h2, h3⟩ := exs_iff.mp hz
    simp only [Bool.and_eq_true, decide_eq_true_eq] at h3
    exact (hI.ins h2 h3.2).2
  unfold f_X0_insertsUnder
  refine lp_q (F := fun n (x : Int32) i => f_X0_insertsUnder_4 st n (nI c) x i) (J := fun k x => x = mk (fun d => lnI a c d && !decide (d = c)) k) (N := a.nC) (Q := fun o => o = some (mk (fun d => lnI a c d && !decide (d = c)) a.nC)) ?_ ?_ 0 tfu 0 (Nat.zero_le _) (tfu_gt (by omega)) rfl
  · intro n x hx
    show f_X0_insertsUnder_4 st (n + 1) (nI c) x (nI a.nC) = _
    rw [f_X0_insertsUnder_4, h.nC, if_pos (nI_le (Nat.le_refl _) (by omega)), hx]
  · intro n x d hd hx ih
    show f_X0_insertsUnder_4 st (n + 1) (nI c) x (nI d) = _
    rw [f_X0_insertsUnder_4, h.nC, if_neg (nI_ge hd (by omega))]
    simp only [pz_tal (show d < 12 by omega) (show 12 < 2 ^ 31 by omega), pz_tal (show c < 12 by omega) (show 12 < 2 ^ 31 by omega), h.kind hd, tlet, nI_1]
    have no : ¬ (lnI a c d && !decide (d = c)) = true → f_X0_insertsUnder_4 st n (nI c) x (nI (d + 1)) = _ := fun e => ih _ (by rw [mk, if_neg e, or_0]; exact hx)
    have yes : (lnI a c d && !decide (d = c)) = true → f_X0_insertsUnder_4 st n (nI c) (x ||| ((1 : Int32) <<< (nI d &&& 31))) (nI (d + 1)) = _ := fun e => ih _ (by rw [mk, if_pos e, hx])
    by_cases he : d = c
    · rw [if_pos (by rw [he])]; exact no (by rw [decide_eq_true he]; simp)
    · rw [if_neg (by rw [pz_eq (by omega) (by omega)]; exact he)]
      by_cases hk : a.kind d = 0
      · rw [if_pos hk, ite_p (key d hd he hk)]
        by_cases hz : lnI a c d = false
        · rw [if_pos hz]; exact no (by rw [hz]; simp)
        · rw [if_neg hz]; exact yes (by rw [bl_not _ hz, decide_eq_false he]; rfl)
      · rw [if_neg hk]
        refine no (fun e => hk (kin d ?_))
        rw [Bool.and_eq_true] at e
        exact e.1
theorem exs_line {a : AB} (hI : Inv a) (P : Nat → Bool) : exs (fun i => P (a.line i)) a.nP = exs P a.nP := by
  apply bool_ext
  rw [exs_iff, exs_iff]
  constructor
  · rintro ⟨i, h1, h2⟩
    exact ⟨a.line i, hI.line h1, h2⟩
  · rintro ⟨p, h1, h2⟩
    exact ⟨a.pos p, hI.pos h1, by rw [hI.lp h1]; exact h2⟩
theorem x_leadersUnder {a : AB} {st : tST} (h : XR a st) (hI : Inv a) {c : Nat} (hc : c < a.nC) : ∃ r, f_X1_leadersUnder (nI c) st = some r ∧ ∀ d, d < 32 → bt r d = exs (ldr a c d) a.nP := by
  have hC := hI.nC
  have hP := hI.nP
  unfold f_X1_leadersUnder
  refine lp_q (F := fun n (x : Int32) i => f_X1_leadersUnder_4 st n (nI c) x i) (J := fun k x => ∀ d, d < 32 → bt x d = exs (fun i => ldr a c d (a.line i)) k) (N := a.nP) (Q := fun o => ∃ r, o = some r ∧ ∀ d, d < 32 → bt r d = exs (ldr a c d) a.nP) ?_ ?_ 0 tfu 0 (Nat.zero_le _) (tfu_gt (by omega)) (fun d _ => b_0 d)
  · intro n x hx
    refine ⟨x, ?_, fun d hd => by rw [hx d hd]; exact exs_line hI (ldr a c d)⟩
    show f_X1_leadersUnder_4 st (n + 1) (nI c) x (nI a.nP) = _
    rw [f_X1_leadersUnder_4, h.nP, if_pos (nI_le (Nat.le_refl _) (by omega))]
  · intro n x i hi hx ih
    show ∃ r, f_X1_leadersUnder_4 st (n + 1) (nI c) x (nI i) = _ ∧ _
    have hli := hI.line hi
    have e1 : (en (a.by_ (a.line i)) = nI c) = (a.by_ (a.line i) = some c) := by
      rw [← en_some c]
      exact en_inj (fun k hk => by have := hI.by_ hli hk; omega) (fun k hk => by cases hk; omega)
    have no : (∀ d, ldr a c d (a.line i) = false) → ∃ r, f_X1_leadersUnder_4 st n (nI c) x (nI (i + 1)) = some r ∧ ∀ d, d < 32 → bt r d = exs (ldr a c d) a.nP := fun e => ih _ (fun d hd => by rw [exs, e d, Bool.or_false]; exact hx d hd)
    rw [f_X1_leadersUnder_4, h.nP, if_neg (nI_ge hi (by omega))]
    simp only [pz_tal (show i < 90 by omega) (show 90 < 2 ^ 31 by omega), h.by_ hi, h.fr hi, tlet, nI_1]
    rw [ite_p e1]
    by_cases hb : a.by_ (a.line i) = some c
    · rw [if_pos hb]
      cases hf : a.fr (a.line i) with
      | none =>
        rw [Option.map_none, if_pos en_none]
        exact no (fun d => by unfold ldr; rw [hf, Bool.and_false])
      | some q =>
        obtain ⟨g1, -⟩ := hI.fr hli hf
        have hq : q < a.nP := by omega
        have hpq := hI.pos hq
        rw [Option.map_some, en_some, if_neg (by rw [pz_m1 (by omega)]; exact id)]
        simp only [pz_tal (show a.pos q < 90 by omega) (show 90 < 2 ^ 31 by omega), h.by_ hpq, hI.lp hq]
        cases hbq : a.by_ q with
        | none =>
          rw [if_pos en_none]
          exact no (fun d => by unfold ldr; rw [hf]; show (_ && decide (a.by_ q = some d)) = false; rw [hbq]; simp)
        | some e =>
          have he := hI.by_ hq hbq
          rw [en_some, if_neg (by rw [pz_m1 (by omega)]; exact id)]
          refine ih _ (fun d hd => ?_)
          rw [b_or, hx d hd, b_one (by omega) hd, exs]
          congr 1
          unfold ldr
          rw [hf, decide_eq_true hb, Bool.true_and]
          show _ = decide (a.by_ q = some d)
          rw [hbq]
          exact decide_eq_decide.mpr ⟨fun e => by rw [e], fun e => by cases e; rfl⟩
    · rw [if_neg hb]
      exact no (fun d => by unfold ldr; rw [decide_eq_false hb, Bool.false_and])
theorem x_leans {a : AB} {st : tST} (h : XR a st) (hI : Inv a) {c : Nat} (hc : c < a.nC) : ((f_X0_insertsUnder (nI c) st).bind fun r8 => (f_X1_leadersUnder (nI c) st).bind fun r9 => some (r8 ||| r9)) = some (mk (lnP a c) a.nC) := by
  have hC := hI.nC
  obtain ⟨r, h1, h2⟩ := x_leadersUnder h hI hc
  rw [x_insertsUnder h hI hc, pz_bs, h1, pz_bs]
  congr 1
  refine mk_ext (by omega) (fun d hd => ?_)
  rw [b_or, mk_bt _ _ (by omega) d hd, h2 d hd]
  have e1 : exs (ldr a c d) a.nP = true → d < a.nC ∧ ¬ d = c := by
    intro hz
    obtain ⟨p, g1, g2⟩ := exs_iff.mp hz
    obtain ⟨g3, q, g4, g5⟩ := ldr_iff.mp g2
    have g6 := (hI.fr g1 g4).1
    exact ⟨hI.by_ (by omega) g5, fun e => hI.lead g1 g4 g3 (by rw [g5, e])⟩
  unfold lnP
  cases hz : exs (ldr a c d) a.nP
  · simp
  · obtain ⟨k1, k2⟩ := e1 hz
    rw [decide_eq_true k1, decide_eq_false k2]
    simp
theorem m_leans_2 {a : AB} {st : tST} (h : MR a st) (hI : Inv a) {c : Nat} (hc : c < a.nC) (x0 : Int32) (hx0 : ∀ d, d < 32 → bt x0 d = lnI a c d) : f_X4_leansOn_82 st tfu (nI c) x0 0 = some (mk (lnP a c) a.nC) := by
  have hC := hI.nC
  have hP := hI.nP
  refine lp_q (F := fun n (x : Int32) i => f_X4_leansOn_82 st n (nI c) x i) (J := fun k x => ∀ d, d < 32 → bt x d = (lnI a c d || exs (ldr a c d) k)) (N := a.nP) (Q := fun o => o = some (mk (lnP a c) a.nC)) ?_ ?_ 0 tfu x0 (Nat.zero_le _) (tfu_gt (by omega)) (fun d hd => by rw [hx0 d hd]; simp [exs])
  · intro n x hx
    show f_X4_leansOn_82 st (n + 1) (nI c) x (nI a.nP) = _
    rw [f_X4_leansOn_82, h.nP, if_pos (nI_le (Nat.le_refl _) (by omega))]
    congr 1
    refine mk_ext (by omega) (fun d hd => ?_)
    rw [b_and, b_not hd, hx d hd, b_one (by omega) hd]
    unfold lnP
    have e1 : (lnI a c d || exs (ldr a c d) a.nP) = true → d < a.nC := by
      intro hz
      rw [Bool.or_eq_true] at hz
      rcases hz with hz | hz
      · obtain ⟨l, h2, h3⟩ := exs_iff.mp hz
        simp only [Bool.and_eq_true, decide_eq_true_eq] at h3
        exact (hI.ins h2 h3.2).1
      · obtain ⟨p, g1, g2⟩ := exs_iff.mp hz
        obtain ⟨g3, q, g4, g5⟩ := ldr_iff.mp g2
        have g6 := (hI.fr g1 g4).1
        exact hI.by_ (by omega) g5
    cases hz : (lnI a c d || exs (ldr a c d) a.nP)
    · simp
    · rw [decide_eq_true (e1 hz), Bool.true_and, Bool.true_and]
  · intro n x p hp hx ih
    show f_X4_leansOn_82 st (n + 1) (nI c) x (nI p) = _
    have e1 : (en (a.by_ p) = nI c) = (a.by_ p = some c) := by
      rw [← en_some c]
      exact en_inj (fun k hk => by have := hI.by_ hp hk; omega) (fun k hk => by cases hk; omega)
    have no : (∀ d, ldr a c d p = false) → f_X4_leansOn_82 st n (nI c) x (nI (p + 1)) = some (mk (lnP a c) a.nC) := fun e => ih _ (fun d hd => by rw [exs, e d, Bool.or_false]; exact hx d hd)
    rw [f_X4_leansOn_82, h.nP, if_neg (nI_ge hp (by omega))]
    simp only [pz_tal (show p < 90 by omega) (show 90 < 2 ^ 31 by omega), h.by_ hp, h.fr hp, tlet, nI_1]
    cases hf : a.fr p with
    | none =>
      rw [if_pos en_none]
      exact no (fun d => by unfold ldr; rw [hf, Bool.and_false])
    | some q =>
      obtain ⟨g1, -⟩ := hI.fr hp hf
      have hq : q < a.nP := by omega
      rw [en_some, if_neg (by rw [pz_m1 (by omega)]; exact id), ite_p e1]
      by_cases hb : a.by_ p = some c
      · rw [if_pos hb]
        simp only [pz_tal (show q < 90 by omega) (show 90 < 2 ^ 31 by omega), h.by_ hq]
        cases hbq : a.by_ q with
        | none =>
          rw [if_pos en_none]
          exact no (fun d => by unfold ldr; rw [hf]; show (_ && decide (a.by_ q = some d)) = false; rw [hbq]; simp)
        | some e =>
          have he := hI.by_ hq hbq
          rw [en_some, if_neg (by rw [pz_m1 (by omega)]; exact id)]
          refine ih _ (fun d hd => ?_)
          rw [b_or, hx d hd, b_one (by omega) hd, exs, Bool.or_assoc]
          congr 2
          unfold ldr
          rw [hf, decide_eq_true hb, Bool.true_and]
          show _ = decide (a.by_ q = some d)
          rw [hbq]
          exact decide_eq_decide.mpr ⟨fun e => by rw [e], fun e => by cases e; rfl⟩
      · rw [if_neg hb]
        exact no (fun d => by unfold ldr; rw [decide_eq_false hb, Bool.false_and])
theorem m_leansOn {a : AB} {st : tST} (h : MR a st) (hI : Inv a) {c : Nat} (hc : c < a.nC) : f_X4_leansOn (nI c) st = some (mk (lnP a c) a.nC) := by
  have hC := hI.nC
  have hL := hI.nL
  unfold f_X4_leansOn
  refine lp_q (F := fun n (x : Int32) i => f_X4_leansOn_4 st n (nI c) x i) (J := fun k x => ∀ d, d < 32 → bt x d = exs (fun l => (bt (a.del l) c || mvd a l c) && decide (a.ins l = some d)) k) (N := a.nL) (Q := fun o => o = some (mk (lnP a c) a.nC)) ?_ ?_ 0 tfu 0 (Nat.zero_le _) (tfu_gt (by omega)) (fun d _ => b_0 d)
  · intro n x hx
    show f_X4_leansOn_4 st (n + 1) (nI c) x (nI a.nL) = _
    rw [f_X4_leansOn_4, h.nL, if_pos (nI_le (Nat.le_refl _) (by omega))]
    exact m_leans_2 h hI hc x hx
  · intro n x l hl hx ih
    show f_X4_leansOn_4 st (n + 1) (nI c) x (nI l) = _
    have no : (∀ d, ((bt (a.del l) c || mvd a l c) && decide (a.ins l = some d)) = false) → f_X4_leansOn_4 st n (nI c) x (nI (l + 1)) = some (mk (lnP a c) a.nC) := fun e => ih _ (fun d hd => by rw [exs, e d, Bool.or_false]; exact hx d hd)
    have yes : (bt (a.del l) c || mvd a l c) = true → (if en (a.ins l) = -1 then f_X4_leansOn_4 st n (nI c) x (nI (l + 1)) else f_X4_leansOn_4 st n (nI c) (x ||| ((1 : Int32) <<< (en (a.ins l) &&& 31))) (nI (l + 1))) = some (mk (lnP a c) a.nC) := by
      intro e
      cases hi : a.ins l with
      | none =>
        rw [if_pos en_none]
        exact no (fun d => by rw [hi]; simp)
      | some f =>
        have hf := (hI.ins hl hi).1
        rw [en_some, if_neg (by rw [pz_m1 (by omega)]; exact id)]
        refine ih _ (fun d hd => ?_)
        rw [b_or, hx d hd, b_one (by omega) hd, exs, e, hi, Bool.true_and]
        congr 1
        exact decide_eq_decide.mpr ⟨fun e => by rw [e], fun e => by cases e; rfl⟩
    rw [f_X4_leansOn_4, h.nL, if_neg (nI_ge hl (by omega))]
    simp only [pz_tal (show l < 64 by omega) (show 64 < 2 ^ 31 by omega), h.ins hl, h.del hl, m_has (show c < 31 by omega), m_movedBy h hI hl, pz_bs, tlet, nI_1, or_0, mk_bt (mvd a l) 32 (Nat.le_refl _) c (show c < 32 by omega), decide_eq_true (show c < 32 by omega), Bool.true_and]
    cases hd : bt (a.del l) c
    · rw [if_pos (by decide)]
      cases hm : mvd a l c
      · rw [if_pos (by decide)]
        exact no (fun d => by rw [hd, hm]; rfl)
      · rw [if_neg (by decide)]
        exact yes (by rw [hd, hm]; rfl)
    · rw [if_neg (by decide)]
      exact yes (by rw [hd]; rfl)
/-! ===== all facts of a change ===== -/
def cfv (a : AB) (c : Nat) (w : Int32) : Int32 :=
  if w = 0 then a.kind c else if w = 1 then a.auth c else if w = 2 then a.stat c else if w = 3 then a.shwn c
  else if w = 4 then nI (fb_ct (fun l => tch a l c) a.nL) else if w = 5 then nI (fb_ct (fun l => tch a l c && idl a c l) a.nL) else mk (lnP a c) a.nC
theorem x_changeFact {a : AB} {st : tST} (h : XR a st) (hI : Inv a) {c : Nat} (hc : c < a.nC) (w : Int32) : f_X3_changeFact (nI c) w st = some (cfv a c w) := by
  have hC := hI.nC
  unfold f_X3_changeFact cfv
  rw [x_leans h hI hc]
  simp only [pz_tal (show c < 12 by omega) (show 12 < 2 ^ 31 by omega), h.kind hc, h.auth hc, h.stat hc, h.shwn hc, j13_count, x_touched h hI hc, x_idleOf h hI hc, pz_bs]
  repeat' split
  all_goals rfl
theorem m_changeNow {a : AB} {st : tST} (h : MR a st) (hI : Inv a) {c : Nat} (hc : c < a.nC) (w : Int32) : f_X4_changeNow (nI c) w st = some (cfv a c w) := by
  have hC := hI.nC
  have e4 : f_X4_touchedBy (nI c) 0 st = some (nI (fb_ct (fun l => tch a l c) a.nL)) := by
    have := m_touchedBy h hI hc false
    simpa using this
  have e5 : f_X4_touchedBy (nI c) 1 st = some (nI (fb_ct (fun l => tch a l c && idl a c l) a.nL)) := by
    have := m_touchedBy h hI hc true
    simpa using this
  have e3 : (if a.shwn c = 0 then some (0 : Int32) else some 1) = some (a.shwn c) := by
    rcases hI.shwn hc with e | e <;> rw [e] <;> rfl
  unfold f_X4_changeNow cfv
  simp only [pz_tal (show c < 12 by omega) (show 12 < 2 ^ 31 by omega), h.kind hc, h.auth hc, h.stat hc, h.shwn hc, e3, e4, e5, m_leansOn h hI hc, pz_bs]
  repeat' split
  all_goals rfl
