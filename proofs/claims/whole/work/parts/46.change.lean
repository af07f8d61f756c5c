/-! ===== authors, ranges, the place ahead ===== -/
theorem x_isAuthor_in {j : Nat} (h : j < 4) : f_X3_isAuthor (nI j) = some 1 := by
  unfold f_X3_isAuthor
  rw [if_neg (nI_pos (by omega)), if_neg (show ¬ (4 : Int32) ≤ nI j from nI_ge (a := j) (b := 4) h (by omega))]; rfl
theorem x_isAuthor_out {x : Int32} (h : x < 0 ∨ nI 4 ≤ x) : f_X3_isAuthor x = some 0 := by
  unfold f_X3_isAuthor
  rcases ix_out (by omega) h with h | ⟨h1, h2, h3⟩
  · rw [if_pos h]; rfl
  · rw [if_neg h1, if_pos (show (4 : Int32) ≤ x from h3)]; rfl
theorem m_isAuthor_in {j : Nat} (h : j < 4) : f_X4_isAuthor (nI j) = some 1 := by
  unfold f_X4_isAuthor
  rw [show (3 : Int32) = nI 4 - 1 by decide, wn_in h (by omega)]; rfl
theorem m_isAuthor_out {x : Int32} (h : x < 0 ∨ nI 4 ≤ x) : f_X4_isAuthor x = some 0 := by
  unfold f_X4_isAuthor
  rw [show (3 : Int32) = nI 4 - 1 by decide, wn_out (by omega) h]; rfl
theorem nI_sub {i n : Nat} (h : i ≤ n) : nI n - nI i = nI (n - i) := by
  have h1 := nI_add (n - i) i
  rw [Nat.sub_add_cancel h] at h1
  rw [← h1, Int32.add_sub_cancel]
theorem wn_to {j n : Nat} (h : j ≤ n) (hn : n < 4096) : f_X4_within (nI j) 0 (nI n) = some 1 := by
  rw [← nI_pred n]; exact wn_in (by omega) (by omega)
theorem wn_no {x : Int32} {n : Nat} (hn : n < 4096) (h : x < 0 ∨ nI (n + 1) ≤ x) : f_X4_within x 0 (nI n) = some 0 := by
  rw [← nI_pred n]; exact wn_out (by omega) h
/-- both programs' tests of a range, side by side -/
theorem range_all (x y : Int32) {n : Nat} (hn : n < 4096) : (f_X3_refusalOfRange x y (nI n) = some (-1001) ∧ f_X4_within x 0 (nI n - 1) = some 0) ∨ (f_X3_refusalOfRange x y (nI n) = some (-1002) ∧ f_X4_within x 0 (nI n - 1) = some 1 ∧ f_X4_within y 1 (nI n - x) = some 0) ∨ ∃ i m, x = nI i ∧ y = nI m ∧ 0 < m ∧ i + m ≤ n ∧ f_X3_refusalOfRange x y (nI n) = some 0 ∧ f_X4_within x 0 (nI n - 1) = some 1 ∧ f_X4_within y 1 (nI n - x) = some 1 := by
  unfold f_X3_refusalOfRange
  rcases ix_all x (n := n) (by omega) with hx | ⟨i, hi, rfl⟩
  · left
    refine ⟨?_, wn_out (by omega) hx⟩
    rcases ix_out (by omega) hx with q | ⟨q1, q2, q3⟩
    · rw [if_pos q]
    · rw [if_neg q1, if_neg q2]
  · right
    rw [if_neg (nI_pos (by omega)), if_pos (nI_lt hi (by omega)), wn_in hi (by omega), nI_sub (by omega)]
    unfold f_X4_within
    by_cases c1 : y < 1
    · left
      rw [if_pos c1, if_pos c1]; exact ⟨rfl, rfl, rfl⟩
    · rw [if_neg c1, if_neg c1]
      by_cases c2 : y ≤ nI (n - i)
      · right
        rw [if_pos c2, if_neg (Int32.not_lt.mpr c2)]
        have c0 : ¬ y < 0 := fun e => c1 (by
          rw [Int32.lt_iff_toInt_lt] at e ⊢
          have e0 : (0 : Int32).toInt = 0 := by decide
          have e1 : (1 : Int32).toInt = 1 := by decide
          omega)
        obtain ⟨m, hm, rfl⟩ := nI_of c0
        rw [nI_leI hm (by omega)] at c2
        have c3 : ¬ m < 1 := fun e => c1 (nI_lt (a := m) (b := 1) e (by omega))
        exact ⟨i, m, rfl, rfl, by omega, by omega, rfl, rfl, rfl⟩
      · left
        rw [if_neg c2, if_pos (Int32.not_le.mp c2)]; exact ⟨rfl, rfl, rfl⟩
def gA (a : AB) (S : Int32) (j : Nat) : Nat := if fb_ct (hp a S) a.nP ≤ j then a.nP else kp a S j
theorem gA_le {a : AB} {S : Int32} {j : Nat} : gA a S j ≤ a.nP := by
  unfold gA
  split
  · exact Nat.le_refl _
  · have := (kp_ok (a := a) (S := S) (j := j) (by omega)).1; omega
theorem x_ahead {a : AB} {st : tST} (h : XR a st) (hI : Inv a) {S : Int32} {j : Nat} (hj : j ≤ fb_ct (hp a S) a.nP) (hr : ∀ k, k < fb_ct (hp a S) a.nP → tg_A st 18 k = nI (kp a S k)) : f_X3_placeAhead (nI j) (nI (fb_ct (hp a S) a.nP)) st = some (nI (gA a S j)) := by
  have hP := hI.nP
  have hle := fb_ct_le (hp a S) a.nP
  unfold f_X3_placeAhead gA
  by_cases c : fb_ct (hp a S) a.nP ≤ j
  · rw [if_pos (nI_le c (by omega)), if_pos c, h.nP]
  · rw [if_neg (nI_ge (by omega) (by omega)), if_neg c, pz_tal (by omega) (by omega), hr j (by omega)]
theorem m_ahead {a : AB} {st : tST} (h : MR a st) (hI : Inv a) {S : Int32} {j : Nat} (hj : j ≤ fb_ct (hp a S) a.nP) (h1 : tg_I st 121 = nI (fb_ct (hp a S) a.nP)) (hr : ∀ k, k < fb_ct (hp a S) a.nP → tg_A st 35 k = nI (a.line (kp a S k))) : f_X4_ahead (nI j) st = some (nI (gA a S j)) := by
  have hP := hI.nP
  have hL := hI.nL
  have hcnt := hp_count hI S
  have hle := fb_ct_le (hp a S) a.nP
  unfold f_X4_ahead gA
  rw [h1]
  by_cases c : fb_ct (hp a S) a.nP ≤ j
  · rw [if_pos (nI_le c (by omega)), if_pos c, h.nP]
  · have hk := (kp_ok (a := a) (S := S) (j := j) (by omega)).1
    rw [if_neg (nI_ge (by omega) (by omega)), if_neg c, pz_tal (by omega) (by omega), hr j (by omega), m_inLine h hI (hI.line hk), pz_bs, hI.pl_ hk]
/-- what an author sees, by both -/
theorem x_sight {a : AB} {st : tST} (h : XR a st) (hI : Inv a) {j : Nat} (hj : j < 4) : f_X3_setOf (2 + nI j) st = some (mkV a (nI (j + 2))) ∧ ∃ s, f_X3_lineUp (mkV a (nI (j + 2))) st = some (nI (fb_ct (hp a (mkV a (nI (j + 2)))) a.nP), s) ∧ tFr [] [] [18] st s ∧ ∀ k, k < fb_ct (hp a (mkV a (nI (j + 2)))) a.nP → tg_A s 18 k = nI (kp a (mkV a (nI (j + 2))) k) := by
  refine ⟨?_, ?_⟩
  · rw [show (2 : Int32) + nI j = nI (j + 2) by rw [show (2 : Int32) = nI 2 from rfl, nI_add, Nat.add_comm]]
    exact x_setOf h hI (nI_pos' (by omega))
  · obtain ⟨s, e1, e2, e3⟩ := x_lineUp h hI (mkV a (nI (j + 2)))
    refine ⟨s, e1, e2, fun k hk => ?_⟩
    obtain ⟨k1, k2, k3⟩ := kp_ok hk
    have := e3 _ k1 k2
    rw [k3] at this; exact this
theorem m_sight {a : AB} {st : tST} (h : MR a st) (hI : Inv a) (j : Nat) : f_X4_setOf (nI j + 2) st = some (mkV a (nI (j + 2))) ∧ ∃ s, f_X4_layRead (mkV a (nI (j + 2))) st = some s ∧ tFr [121] [] [35, 36] st s ∧ tg_I s 121 = nI (fb_ct (hp a (mkV a (nI (j + 2)))) a.nP) ∧ ∀ k, k < fb_ct (hp a (mkV a (nI (j + 2)))) a.nP → tg_A s 35 k = nI (a.line (kp a (mkV a (nI (j + 2))) k)) := by
  refine ⟨?_, ?_⟩
  · rw [show nI j + (2 : Int32) = nI (j + 2) by rw [show (2 : Int32) = nI 2 from rfl, nI_add]]
    exact m_setOf h hI
  · obtain ⟨s, e1, e2, e3, e4⟩ := m_layRead h hI (mkV a (nI (j + 2)))
    refine ⟨s, e1, e2, e3, fun k hk => ?_⟩
    obtain ⟨k1, k2, k3⟩ := kp_ok hk
    have := e4 _ k1 k2
    rw [k3] at this; exact this
theorem x_isFull {a : AB} {st : tST} (h : XR a st) (hI : Inv a) : f_X0_isFull st = some (if a.nC < 12 then 0 else 1) := by
  have hC := hI.nC
  unfold f_X0_isFull
  rw [h.nC]
  by_cases c : a.nC < 12
  · rw [if_pos (show nI a.nC < (12 : Int32) from nI_lt (a := a.nC) (b := 12) c (by omega)), if_pos c]; rfl
  · rw [if_neg (show ¬ nI a.nC < (12 : Int32) from nI_nlt (a := a.nC) (b := 12) (by omega) (by omega)), if_neg c]; rfl
theorem m_full {a : AB} {st : tST} (h : MR a st) (hI : Inv a) : (tg_I st 107 = (12 : Int32)) = ¬ a.nC < 12 := by
  have hC := hI.nC
  rw [h.nC, show (12 : Int32) = nI 12 from rfl, pz_eq (by omega) (by omega)]
  exact propext ⟨fun e => by omega, fun e => by omega⟩
/-! ===== a change is laid ===== -/
theorem tch_new {a : AB} (hI : Inv a) {l c : Nat} (hl : l < a.nL) (hc : a.nC ≤ c) : tch a l c = false := by
  cases hq : tch a l c
  · rfl
  · unfold tch at hq
    simp only [Bool.or_eq_true, decide_eq_true_eq] at hq
    rcases hq with (h | h) | h
    · have := (hI.ins hl h).1; omega
    · have := (hI.del hl h).1; omega
    · have := (mvd_kind hI h).1; omega
theorem x_add {a : AB} {st : tST} (h : XR a st) (hI : Inv a) (hn : a.nC < 12) (kind auth : Int32) : ∃ st', f_X0_add kind auth st = some (nI a.nC, st') ∧ mSame st st' ∧ tg_I st' 4 = tg_I st 4 ∧ tg_I st' 5 = tg_I st 5 ∧ tg_A st' 18 = tg_A st 18 ∧ XR (addC a kind auth) st' := by
  unfold f_X0_add
  simp only [tlet]
  rw [h.nC, pz_tas hn (by omega), nI_clamp (by omega), pz_tas hn (by omega), pz_tas hn (by omega), pz_tas hn (by omega), pz_tas hn (by omega)]
  obtain ⟨s, hs⟩ : ∃ s, s = tp_B (tp_A (tp_A (tp_A (tp_A st 9 a.nC kind) 10 a.nC auth) 11 a.nC 0) 12 a.nC 0) 13 a.nC 0 := ⟨_, rfl⟩
  have i7 : tg_I s 7 = nI a.nC := by rw [hs]; exact h.nC
  have ms : mSame st s := by rw [hs]; exact ((((mSame.A (by decide)).tr (mSame.A (by decide))).tr (mSame.A (by decide))).tr (mSame.A (by decide))).tr mSame.B
  rw [← hs, i7, nI_1]
  refine ⟨_, rfl, ms.tr (mSame.I (by decide)), by rw [hs]; rfl, by rw [hs]; rfl, by rw [hs]; rfl, ?_⟩
  rw [hs]
  refine ⟨⟨h.pl, h.nL, h.nP, rfl⟩, h.2.1, h.2.2.1, h.2.2.2.1, h.2.2.2.2.1, fun c hc => ?_⟩
  have hc : c < a.nC + 1 := hc
  show upd (tg_A st 9) a.nC kind c = va_up a.kind a.nC kind c ∧ upd (tg_A st 10) a.nC auth c = va_up a.auth a.nC auth c ∧ upd (tg_A st 11) a.nC 0 c = va_up a.stat a.nC 0 c ∧ upd (tg_A st 12) a.nC 0 c = va_up a.shwn a.nC 0 c ∧ ∀ l, l < 64 → bl (vp_updL (tg_B st 13) a.nC 0 c) l = (decide (l < a.nL) && tch a l c)
  by_cases e : c = a.nC
  · rw [e]
    simp only [pk_us, va_up_self, pk_uLs, l_0]
    refine ⟨trivial, trivial, trivial, trivial, fun l _ => ?_⟩
    by_cases hl : l < a.nL
    · rw [tch_new hI hl (Nat.le_refl _), Bool.and_false]
    · rw [decide_eq_false hl, Bool.false_and]
  · rw [pk_un e, pk_un e, pk_un e, pk_un e, va_up_ne _ _ e, va_up_ne _ _ e, va_up_ne _ _ e, va_up_ne _ _ e, pk_uLn e]
    exact h.2.2.2.2.2 c (by omega)
theorem m_add {a : AB} {st : tST} (h : MR a st) (hn : a.nC < 12) (kind auth : Int32) : ∃ st', f_X4_layChange kind auth st = some (nI a.nC, st') ∧ tFr [107] [] [25, 26, 27, 28] st st' ∧ MR (addC a kind auth) st' := by
  unfold f_X4_layChange
  simp only [st_IA, h.nC, pz_tas hn (show 12 < 2 ^ 31 by omega), nI_clamp (show a.nC < 2 ^ 31 by omega), tlet, nI_1]
  obtain ⟨s, hs⟩ : ∃ s, s = tp_I (tp_A (tp_A (tp_A (tp_A st 25 a.nC kind) 26 a.nC auth) 27 a.nC 0) 28 a.nC (vp_nar .boolean (0 : Int32))) 107 (nI (a.nC + 1)) := ⟨_, rfl⟩
  rw [← hs]
  refine ⟨s, ?_, ?_, ?_⟩
  · congr 2
    rw [hs]
    show nI (a.nC + 1) - 1 = _
    rw [nI_pred]
  · rw [hs]
    exact ((((tFr.putA (by decide)).tr (tFr.putA (by decide))).tr (tFr.putA (by decide))).tr (tFr.putA (by decide))).tr (tFr.putI (by decide))
  · rw [hs]
    refine ⟨⟨h.pl, h.nL, rfl, h.nP⟩, h.2.1, h.2.2.1, fun c hc => ?_, h.2.2.2.2.1, h.2.2.2.2.2⟩
    have hc : c < a.nC + 1 := hc
    show upd (tg_A st 25) a.nC kind c = va_up a.kind a.nC kind c ∧ upd (tg_A st 26) a.nC auth c = va_up a.auth a.nC auth c ∧ upd (tg_A st 27) a.nC 0 c = va_up a.stat a.nC 0 c ∧ upd (tg_A st 28) a.nC 0 c = va_up a.shwn a.nC 0 c
    by_cases e : c = a.nC
    · rw [e]
      simp only [pk_us, va_up_self]
      exact ⟨trivial, trivial, trivial, trivial⟩
    · rw [pk_un e, pk_un e, pk_un e, pk_un e, va_up_ne _ _ e, va_up_ne _ _ e, va_up_ne _ _ e, va_up_ne _ _ e]
      exact h.2.2.2.1 c (by omega)
def tcS (st : tST) (c l : Nat) : tST := tp_B st 13 c (tg_B st 13 c ||| ((1 : Int64) <<< ((nI l).toInt64 &&& 63)))
theorem x_touch {st : tST} {c l : Nat} (hc : c < 12) : f_X0_touch (nI c) (nI l) st = some (tcS st c l) := by
  unfold f_X0_touch tcS
  rw [pz_tal hc (by omega), pz_tas hc (by omega), nI_clamp (by omega)]
theorem tcS_bl {st : tST} {c l d m : Nat} (hl : l < 64) (hm : m < 64) : bl (tg_B (tcS st c l) 13 d) m = (bl (tg_B st 13 d) m || (decide (d = c) && decide (m = l))) := by
  show bl (vp_updL (tg_B st 13) c _ d) m = _
  by_cases e : d = c
  · rw [e, pk_uLs, l_or, l_one hl hm, decide_eq_true rfl, Bool.true_and]
  · rw [pk_uLn e, decide_eq_false e, Bool.false_and, Bool.or_false]
/-! ===== insert ===== -/
theorem mvd_addL {a : AB} {code : Int32} {o : Option Nat} {g l c : Nat} : mvd (addL a code o g) l c = mvd a l c := by
  show exs (fun q => decide (va_up a.lt a.nP a.nL q = l) && (va_up a.fr a.nP none q).isSome && decide (va_up a.by_ a.nP o q = some c)) (a.nP + 1) = _
  rw [exs, va_up_self, va_up_self, va_up_self]
  simp only [Option.isSome_none, Bool.and_false, Bool.false_and, Bool.or_false]
  exact exs_cong (fun q hq => by rw [va_up_ne _ _ (by omega), va_up_ne _ _ (by omega), va_up_ne _ _ (by omega)])
theorem mvd_none {a : AB} (hI : Inv a) {c : Nat} : mvd a a.nL c = false := by
  cases hq : mvd a a.nL c
  · rfl
  · obtain ⟨q, h1, h2⟩ := exs_iff.mp hq
    simp only [Bool.and_eq_true, decide_eq_true_eq] at h2
    have := hI.lt h1
    omega
theorem x_ins1 {a : AB} {st : tST} (h : XR a st) (hI : Inv a) {code : Int32} {c g : Nat} (hl : a.nL < 64) (hn : a.nP < 90) (hg : g ≤ a.nP) (hc : c < a.nC) : ∃ st', f_X3_addLetter code (nI g) (nI c) (tcS st c a.nL) = some st' ∧ mSame st st' ∧ tg_I st' 4 = tg_I st 4 ∧ tg_I st' 5 = tg_I st 5 ∧ XR (addL a code (some c) g) st' := by
  have hC := hI.nC
  have hB : XB a st := XB_of h
  have hB2 : XB a (tcS st c a.nL) := hB
  obtain ⟨s, e1, e2, e3⟩ := x_addLetter (st := tcS st c a.nL) (code := code) (o := some c) (g := g) hB2 hI hl hn hg
  obtain ⟨k1, k2, k3, k4, k5, k6⟩ := e3
  obtain ⟨p1, p2⟩ := XP_to k1
  refine ⟨s, e1, mSame.B.tr (mSame.fr e2 (by decide) (by decide)), e2.1 4 (by decide), e2.1 5 (by decide), ⟨k5, k2, p1, k4⟩, k6, k3, fun l hl64 => ?_, p2, fun d hd => ?_⟩
  · rw [e2.2.1 0 (by decide)]
    show bl (tg_L st 0) l = (decide (l < a.nL + 1) && decide (va_up a.ins a.nL (some c) l = none))
    rw [h.first hl64]
    by_cases e : l = a.nL
    · rw [e, va_up_self, decide_eq_false (Nat.lt_irrefl _), show decide (some c = none) = false from rfl, Bool.and_false, Bool.false_and]
    · rw [va_up_ne _ _ e]
      congr 1
      exact decide_eq_decide.mpr ⟨fun q => by omega, fun q => by omega⟩
  · have hd : d < a.nC := hd
    rw [e2.2.2.1 9 (by decide), e2.2.2.1 10 (by decide), e2.2.2.1 11 (by decide), e2.2.2.1 12 (by decide), e2.2.2.2 13]
    refine ⟨h.kind hd, h.auth hd, h.stat hd, h.shwn hd, fun l hl64 => ?_⟩
    rw [tcS_bl hl hl64, h.tch hd hl64]
    show _ = (decide (l < a.nL + 1) && (decide (va_up a.ins a.nL (some c) l = some d) || bt (va_up a.del a.nL 0 l) d || mvd (addL a code (some c) g) l d))
    rw [mvd_addL]
    by_cases e : l = a.nL
    · rw [e, va_up_self, va_up_self, b_0, mvd_none hI, decide_eq_false (Nat.lt_irrefl _), decide_eq_true (Nat.lt_succ_self _), decide_eq_true rfl]
      simp only [Bool.false_and, Bool.false_or, Bool.and_true, Bool.true_and, Bool.or_false]
      exact decide_eq_decide.mpr ⟨fun q => by rw [q], fun q => by cases q; rfl⟩
    · rw [va_up_ne _ _ e, va_up_ne _ _ e, decide_eq_false e, Bool.and_false, Bool.or_false]
      show (decide (l < a.nL) && tch a l d) = (decide (l < a.nL + 1) && tch a l d)
      congr 1
      exact decide_eq_decide.mpr ⟨fun q => by omega, fun q => by omega⟩
def iA (b : AB) (c g : Nat) : Nat → AB
  | 0 => b
  | k + 1 => addL (iA b c g k) (b.page k) (some c) (g + k)
theorem iA_n (b : AB) (c g : Nat) : ∀ k, (iA b c g k).nL = b.nL + k ∧ (iA b c g k).nP = b.nP + k ∧ (iA b c g k).nC = b.nC ∧ (iA b c g k).pl = b.pl ∧ (iA b c g k).page = b.page ∧ (iA b c g k).kind = b.kind
  | 0 => ⟨rfl, rfl, rfl, rfl, rfl, rfl⟩
  | k + 1 => by
    obtain ⟨h1, h2, h3, h4, h5, h6⟩ := iA_n b c g k
    exact ⟨congrArg (· + 1) h1, congrArg (· + 1) h2, h3, h4, h5, h6⟩
theorem Inv_iA {b : AB} (h : Inv b) {c g : Nat} (hc : c < b.nC) (hk : b.kind c = 0) (hg : g ≤ b.nP) : ∀ k, b.nL + k ≤ 64 → b.nP + k ≤ 90 → Inv (iA b c g k)
  | 0, _, _ => h
  | k + 1, q1, q2 => by
    obtain ⟨h1, h2, h3, h4, h5, h6⟩ := iA_n b c g k
    exact Inv_addL (Inv_iA h hc hk hg k (by omega) (by omega)) (by omega) (by omega) (by omega) (fun d hd => by cases hd; rw [h3, h6]; exact ⟨hc, hk⟩)
theorem x_insertPage {b : AB} {st : tST} (h : XR b st) (hI : Inv b) {c g : Nat} (hc : c < b.nC) (hk : b.kind c = 0) (hg : g ≤ b.nP) (h64 : b.nL + b.pl ≤ 64) (h90 : b.nP + b.pl ≤ 90) : ∃ st', f_X3_insertPage_13 tfu (nI g) (nI c) 0 st = some (nI c, st') ∧ mSame st st' ∧ tg_I st' 4 = tg_I st 4 ∧ tg_I st' 5 = tg_I st 5 ∧ XR (setG (iA b c g b.pl) 0 b.page) st' := by
  have hC := hI.nC
  have hpl := hI.pl
  refine lp_q (F := fun m (x : tST) i => f_X3_insertPage_13 m (nI g) (nI c) i x) (J := fun k x => mSame st x ∧ tg_I x 4 = tg_I st 4 ∧ tg_I x 5 = tg_I st 5 ∧ XR (iA b c g k) x) (N := b.pl) (Q := fun o => ∃ st', o = some (nI c, st') ∧ mSame st st' ∧ tg_I st' 4 = tg_I st 4 ∧ tg_I st' 5 = tg_I st 5 ∧ XR (setG (iA b c g b.pl) 0 b.page) st') ?_ ?_ 0 tfu st (Nat.zero_le _) (tfu_gt (by omega)) ⟨mSame.rf, rfl, rfl, h⟩
  · intro m x ⟨h1, h2, h3, h4⟩
    show ∃ st', f_X3_insertPage_13 (m + 1) (nI g) (nI c) (nI b.pl) x = _ ∧ _
    obtain ⟨q1, q2, q3, q4, q5, q6⟩ := iA_n b c g b.pl
    rw [f_X3_insertPage_13, h4.pl, q4, if_pos (nI_le (Nat.le_refl _) (by omega))]
    simp only [tlet]
    exact ⟨_, rfl, h1.tr (mSame.I (by decide)), h2, h3, ⟨rfl, h4.nL, h4.nP, h4.nC⟩, fun j hj => absurd hj (Nat.not_lt_zero _), h4.2.2.1, h4.2.2.2.1, h4.2.2.2.2.1, h4.2.2.2.2.2⟩
  · intro m x k hk2 ⟨h1, h2, h3, h4⟩ ih
    show ∃ st', f_X3_insertPage_13 (m + 1) (nI g) (nI c) (nI k) x = _ ∧ _
    obtain ⟨q1, q2, q3, q4, q5, q6⟩ := iA_n b c g k
    obtain ⟨s, e1, e2, e3, e4, e5⟩ := x_ins1 (code := b.page k) (c := c) (g := g + k) h4 (Inv_iA hI hc hk hg k (by omega) (by omega)) (by omega) (by omega) (by omega) (by omega)
    rw [f_X3_insertPage_13, h4.pl, q4, if_neg (nI_ge hk2 (by omega)), h4.nL, x_touch (by omega), pz_bs, pz_tal (by omega) (by omega), show tg_A (tcS x c (iA b c g k).nL) 1 k = b.page k from (h4.page (by omega)).trans (by rw [q5]), nI_add, e1, pz_bs]
    simp only [tlet, nI_1]
    exact ih s ⟨h1.tr e2, e3.trans h2, e4.trans h3, e5⟩
theorem m_insertPage {b : AB} {st : tST} (h : MR b st) (hI : Inv b) {c g : Nat} (hc : c < b.nC) (hk : b.kind c = 0) (hg : g ≤ b.nP) (h64 : b.nL + b.pl ≤ 64) (h90 : b.nP + b.pl ≤ 90) : ∃ st', f_X4_insert_107 tfu (nI g) (nI c) 0 st = some (nI c, st') ∧ tFr [100, 102, 112] [] [21, 22, 23, 24, 29, 30, 31, 32, 33, 34] st st' ∧ MR (setG (iA b c g b.pl) 0 b.page) st' := by
  have hC := hI.nC
  have hpl := hI.pl
  refine lp_q (F := fun m (x : tST) i => f_X4_insert_107 m (nI g) (nI c) i x) (J := fun k x => tFr [100, 102, 112] [] [21, 22, 23, 24, 29, 30, 31, 32, 33, 34] st x ∧ MR (iA b c g k) x) (N := b.pl) (Q := fun o => ∃ st', o = some (nI c, st') ∧ tFr [100, 102, 112] [] [21, 22, 23, 24, 29, 30, 31, 32, 33, 34] st st' ∧ MR (setG (iA b c g b.pl) 0 b.page) st') ?_ ?_ 0 tfu st (Nat.zero_le _) (tfu_gt (by omega)) ⟨tFr.rf, h⟩
  · intro m x ⟨h1, h4⟩
    show ∃ st', f_X4_insert_107 (m + 1) (nI g) (nI c) (nI b.pl) x = _ ∧ _
    obtain ⟨q1, q2, q3, q4, q5, q6⟩ := iA_n b c g b.pl
    rw [f_X4_insert_107, h4.pl, q4, if_pos (nI_le (Nat.le_refl _) (by omega))]
    simp only [tlet]
    exact ⟨_, rfl, h1.tr (tFr.putI (by decide)), ⟨rfl, h4.nL, h4.nC, h4.nP⟩, fun j hj => absurd hj (Nat.not_lt_zero _), h4.2.2.1, h4.2.2.2.1, h4.2.2.2.2.1, h4.2.2.2.2.2⟩
  · intro m x k hk2 ⟨h1, h4⟩ ih
    show ∃ st', f_X4_insert_107 (m + 1) (nI g) (nI c) (nI k) x = _ ∧ _
    obtain ⟨q1, q2, q3, q4, q5, q6⟩ := iA_n b c g k
    obtain ⟨s, e1, e2, e3⟩ := m_comes (code := b.page k) (o := some c) (g := g + k) h4 (Inv_iA hI hc hk hg k (by omega) (by omega)) (by omega) (by omega) (by omega)
    rw [f_X4_insert_107, h4.pl, q4, if_neg (nI_ge hk2 (by omega)), pz_tal (by omega) (by omega), h4.page (by omega), q5, nI_add, show f_X4_comes (b.page k) (nI c) (nI (g + k)) x = some s from e1, pz_bs]
    simp only [tlet, nI_1]
    exact ih s ⟨h1.tr (e2.mono (by decide) (by decide) (by decide)), e3⟩
