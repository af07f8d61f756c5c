/-! ===== a letter comes ===== -/
theorem XP_g {a : AB} {st : tST} {g : Nat} (h : XP a st g 0) (g' : Nat) : XP a st g' 0 := by
  obtain ⟨h1, h2⟩ := XP_to h
  refine ⟨h1, fun i hi => ?_⟩
  rw [xi_0, show (fun q => xi g' 0 (a.pos q)) = a.pos from funext (fun q => xi_0 _ _)]
  exact h2 i hi
def XB (a : AB) (st : tST) : Prop := XP a st 0 0 ∧ tg_I st 1 = nI a.nL ∧ (∀ l, l < a.nL → tg_A st 2 l = a.sign l) ∧ tg_I st 7 = nI a.nC ∧ tg_I st 0 = nI a.pl ∧ (∀ j, j < a.pl → tg_A st 1 j = a.page j)
theorem XB_of {a : AB} {st : tST} (h : XR a st) : XB a st := ⟨XP_of h 0, h.nL, fun _ hl => h.sign hl, h.nC, h.pl, fun _ hj => h.page hj⟩
theorem x_addLetter {a : AB} {st : tST} {code : Int32} {o : Option Nat} {g : Nat} (h : XB a st) (hI : Inv a) (hl : a.nL < 64) (hn : a.nP < 90) (hg : g ≤ a.nP) : ∃ st', f_X3_addLetter code (nI g) (en o) st = some st' ∧ tFr [1, 6] [] [2, 4, 5, 6, 7] st st' ∧ XB (addL a code o g) st' := by
  obtain ⟨h1, h2, h3, h4, h5, h6⟩ := h
  unfold f_X3_addLetter
  rw [h2, pz_tas (by omega) (by omega), nI_clamp (by omega)]
  obtain ⟨s1, hs1⟩ : ∃ s1, s1 = tp_A st 2 a.nL code := ⟨_, rfl⟩
  have f1 : tFr [1, 6] [] [2, 4, 5, 6, 7] st s1 := by rw [hs1]; exact tFr.putA (by decide)
  have p1 : XP a s1 0 0 := by rw [hs1]; exact h1
  rw [← hs1]
  obtain ⟨s2, e1, e2, e3⟩ := x_openGap (g := g) (n := 1) p1 (fun p hp => hI.line hp) (fun p q hp hf => by have := (hI.fr hp hf).1; omega) (fun p hp => hI.pos hp) hg (by omega) (by omega)
  have e1 : f_X1_openGap (nI g) 1 s1 = some s2 := e1
  have i1 : tg_I s2 1 = nI a.nL := by rw [e2.1 1 (by decide), hs1]; exact h2
  rw [e1, pz_bs, i1]
  obtain ⟨s3, g1, g2, g3⟩ := x_put (l := a.nL) (f := none) (b := o) e3 (fun p hp => hI.line hp) (fun p hp => hI.pl_ hp) (fun p hp => hI.lp hp) (fun p q hp hf => by have := (hI.fr hp hf).1; omega) hg (by omega) (fun q hq => by cases hq)
  have g1 : f_X1_put (nI g) (nI a.nL) (-1) (en o) s2 = some s3 := g1
  have i2 : tg_I s3 1 = nI a.nL := by rw [g2.1 1 (by decide), i1]
  rw [g1, pz_bs, i2]
  simp only [tlet, nI_1]
  have f3 : tFr [1, 6] [] [2, 4, 5, 6, 7] st s3 := f1.tr ((e2.mono (by decide) (by decide) (by decide)).tr (g2.mono (by decide) (by decide) (by decide)))
  have a2 : tg_A s3 2 = upd (tg_A st 2) a.nL code := by rw [g2.2.2.1 2 (by decide), e2.2.2.1 2 (by decide), hs1]; rfl
  refine ⟨_, rfl, f3.tr (tFr.putI (by decide)), ?_, rfl, fun l hl2 => ?_, (f3.1 7 (by decide)).trans h4, (f3.1 0 (by decide)).trans h5, fun j hj => ?_⟩
  · have := XP_g g3 0
    exact this
  · have hl2 : l < a.nL + 1 := hl2
    show tg_A s3 2 l = va_up a.sign a.nL code l
    rw [a2]
    by_cases e : l = a.nL
    · rw [e, pk_us, va_up_self]
    · rw [pk_un e, va_up_ne _ _ e, h3 l (by omega)]
  · show tg_A s3 1 j = a.page j
    rw [f3.2.2.1 1 (by decide)]
    exact h6 j hj
theorem m_comes {a : AB} {st : tST} {code : Int32} {o : Option Nat} {g : Nat} (h : MR a st) (hI : Inv a) (hl : a.nL < 64) (hn : a.nP < 90) (hg : g ≤ a.nP) : ∃ st', f_X4_comes code (en o) (nI g) st = some st' ∧ tFr [102, 112] [] [21, 22, 23, 24, 29, 30, 31, 32, 33, 34] st st' ∧ MR (addL a code o g) st' := by
  unfold f_X4_comes
  rw [h.nL, pz_tas (by omega) (by omega), nI_clamp (by omega)]
  simp only [st_IA, h.nL, h.nP, pz_tas hl (show 64 < 2 ^ 31 by omega), nI_clamp (show a.nL < 2 ^ 31 by omega)]
  obtain ⟨s1, hs1⟩ : ∃ s1, s1 = tp_A (tp_A (tp_A (tp_A st 21 a.nL code) 22 a.nL (en o)) 24 a.nL 0) 23 a.nL (nI a.nP) := ⟨_, rfl⟩
  have f1 : tFr [102, 112] [] [21, 22, 23, 24, 29, 30, 31, 32, 33, 34] st s1 := by rw [hs1]; exact (((tFr.putA (by decide)).tr (tFr.putA (by decide))).tr (tFr.putA (by decide))).tr (tFr.putA (by decide))
  have p1 : MP a s1 := by rw [hs1]; exact ⟨h.nP, h.2.2.2.2.1, h.2.2.2.2.2⟩
  rw [← hs1]
  obtain ⟨s2, e1, e2, e3⟩ := m_layPlace (l := a.nL) (f := none) (b := o) (g := g) p1 (fun p q hp hf => by have := (hI.fr hp hf).1; omega) hg hn (fun q hq => by cases hq)
  have e1 : f_X4_layPlace (nI a.nL) (-1) (en o) (nI g) s1 = some s2 := e1
  have i1 : tg_I s2 102 = nI a.nL := by rw [e2.1 102 (by decide), hs1]; exact h.nL
  rw [e1, pz_bs, i1]
  simp only [tlet, nI_1]
  have f2 : tFr [102, 112] [] [21, 22, 23, 24, 29, 30, 31, 32, 33, 34] st s2 := f1.tr (e2.mono (by decide) (by decide) (by decide))
  have a21 : tg_A s2 21 = upd (tg_A st 21) a.nL code := by rw [e2.2.2.1 21 (by decide), hs1]; rfl
  have a22 : tg_A s2 22 = upd (tg_A st 22) a.nL (en o) := by rw [e2.2.2.1 22 (by decide), hs1]; rfl
  have a23 : tg_A s2 23 = upd (tg_A st 23) a.nL (nI a.nP) := by rw [e2.2.2.1 23 (by decide), hs1]; rfl
  have a24 : tg_A s2 24 = upd (tg_A st 24) a.nL 0 := by rw [e2.2.2.1 24 (by decide), hs1]; rfl
  refine ⟨_, rfl, f2.tr (tFr.putI (by decide)), ⟨(f2.1 100 (by decide)).trans h.pl, rfl, (f2.1 107 (by decide)).trans h.nC, e3.1⟩, fun j hj => ?_, fun l hl2 => ?_, fun c hc => ?_, e3.2.1, e3.2.2⟩
  · show tg_A s2 20 j = a.page j
    rw [f2.2.2.1 20 (by decide)]
    exact h.page hj
  · have hl2 : l < a.nL + 1 := hl2
    show tg_A s2 21 l = va_up a.sign a.nL code l ∧ tg_A s2 22 l = en (va_up a.ins a.nL o l) ∧ tg_A s2 23 l = nI (va_up a.home a.nL a.nP l) ∧ tg_A s2 24 l = va_up a.del a.nL 0 l
    rw [a21, a22, a23, a24]
    by_cases e : l = a.nL
    · rw [e]
      simp only [pk_us, va_up_self]
      exact ⟨trivial, trivial, trivial, trivial⟩
    · rw [pk_un e, pk_un e, pk_un e, pk_un e, va_up_ne _ _ e, va_up_ne _ _ e, va_up_ne _ _ e, va_up_ne _ _ e]
      exact ⟨h.sign (by omega), h.ins (by omega), h.home (by omega), h.del (by omega)⟩
  · show tg_A s2 25 c = a.kind c ∧ tg_A s2 26 c = a.auth c ∧ tg_A s2 27 c = a.stat c ∧ tg_A s2 28 c = a.shwn c
    rw [f2.2.2.1 25 (by decide), f2.2.2.1 26 (by decide), f2.2.2.1 27 (by decide), f2.2.2.1 28 (by decide)]
    exact ⟨h.kind hc, h.auth hc, h.stat hc, h.shwn hc⟩
/-! ===== a text begins ===== -/
def txT (pl : Nat) (page codes : Nat → Int32) : Nat → AB
  | 0 => emp pl page
  | k + 1 => addL (txT pl page codes k) (codes k) none k
theorem txT_n (pl : Nat) (page codes : Nat → Int32) : ∀ k, (txT pl page codes k).nL = k ∧ (txT pl page codes k).nP = k ∧ (txT pl page codes k).nC = 0 ∧ (txT pl page codes k).pl = pl ∧ (txT pl page codes k).page = page
  | 0 => ⟨rfl, rfl, rfl, rfl, rfl⟩
  | k + 1 => by
    obtain ⟨h1, h2, h3, h4, h5⟩ := txT_n pl page codes k
    exact ⟨congrArg (· + 1) h1, congrArg (· + 1) h2, h3, h4, h5⟩
theorem txT_ins (pl : Nat) (page codes : Nat → Int32) : ∀ k l, (txT pl page codes k).ins l = none
  | 0, _ => rfl
  | k + 1, l => by
    show va_up (txT pl page codes k).ins (txT pl page codes k).nL none l = none
    by_cases e : l = (txT pl page codes k).nL
    · rw [e, va_up_self]
    · rw [va_up_ne _ _ e]; exact txT_ins pl page codes k l
theorem Inv_txT {pl : Nat} (page codes : Nat → Int32) (hpl : pl ≤ 40) : ∀ k, k ≤ 64 → Inv (txT pl page codes k)
  | 0, _ => Inv_emp page hpl
  | k + 1, h => by
    obtain ⟨h1, h2, -⟩ := txT_n pl page codes k
    exact Inv_addL (Inv_txT page codes hpl k (by omega)) (by omega) (by omega) (by omega) (fun c hc => by cases hc)
theorem uL_shl {n : Nat} (hn : n < 64) : uL ((1 : Int64) <<< ((nI n).toInt64 &&& 63)) = 2 ^ n := by
  refine Nat.eq_of_testBit_eq (fun i => ?_)
  by_cases hi : i < 64
  · rw [← bl_uL, l_one hn hi, Nat.testBit_two_pow]
    exact decide_eq_decide.mpr ⟨fun e => e.symm, fun e => e.symm⟩
  · rw [Nat.testBit_two_pow, decide_eq_false (by omega)]
    exact Nat.testBit_lt_two_pow (Nat.lt_of_lt_of_le (uL_lt _) (show 18446744073709551616 ≤ 2 ^ i from Nat.pow_le_pow_right (n := 2) (i := 64) (by omega) (by omega)))
theorem x_firstLetters {n : Nat} (hn : n ≤ 64) : ∃ r, f_X3_firstLetters (nI n) = some r ∧ ∀ l, l < 64 → bl r l = decide (l < n) := by
  unfold f_X3_firstLetters
  by_cases h : n < 64
  · rw [if_pos (show nI n < (64 : Int32) from nI_lt (a := n) (b := 64) h (by omega))]
    refine ⟨_, rfl, fun l hl => ?_⟩
    have h1 : uL (1 : Int64) = 1 := by decide
    have h2 : 1 ≤ 2 ^ n := Nat.one_le_two_pow
    rw [bl_uL, uL_sub (by rw [uL_shl h, h1]; exact h2), uL_shl h, h1, Nat.testBit_two_pow_sub_one]
  · rw [if_neg (show ¬ nI n < (64 : Int32) from nI_nlt (a := n) (b := 64) (by omega) (by omega))]
    exact ⟨_, rfl, fun l hl => by rw [l_m1 l hl, decide_eq_true (by omega)]⟩
theorem x_startText_1 {st : tST} {pl n : Nat} {page codes : Nat → Int32} (hpl : pl ≤ 40) (hn : n ≤ 40) (h0 : tg_I st 0 = nI pl) (hp : ∀ j, j < pl → tg_A st 1 j = page j) (hc : ∀ j, j < n → tg_A st 1 j = codes j) : ∃ st', f_X3_startText_a1 (nI n) st = some st' ∧ mSame st st' ∧ tg_I st' 4 = tg_I st 4 ∧ tg_I st' 5 = tg_I st 5 ∧ XR (txT pl page codes n) st' := by
  unfold f_X3_startText_a1
  simp only [tlet]
  obtain ⟨s, hs⟩ : ∃ s, s = tp_I (tp_I (tp_I st 6 0) 7 0) 1 0 := ⟨_, rfl⟩
  have sf : tFr [1, 6, 7] [] [] st s := by rw [hs]; exact ((tFr.putI (by decide)).tr (tFr.putI (by decide))).tr (tFr.putI (by decide))
  have b0 : XB (txT pl page codes 0) s := by
    rw [hs]
    exact ⟨⟨rfl, fun i hi => absurd hi (Nat.not_lt_zero _)⟩, rfl, fun i hi => absurd hi (Nat.not_lt_zero _), rfl, h0, hp⟩
  rw [← hs]
  have fin : ∀ x : tST, tFr [1, 6, 7] [] [2, 4, 5, 6, 7] st x → XB (txT pl page codes n) x → ∃ st', ((f_X3_firstLetters (tg_I x 1)).bind fun r1 => some (tp_L x 0 r1)) = some st' ∧ mSame st st' ∧ tg_I st' 4 = tg_I st 4 ∧ tg_I st' 5 = tg_I st 5 ∧ XR (txT pl page codes n) st' := by
    intro x h1 h2
    obtain ⟨e1, e2, e3, e4, e5⟩ := txT_n pl page codes n
    obtain ⟨k1, k2, k3, k4, k5, k6⟩ := h2
    obtain ⟨r, r1, r2⟩ := x_firstLetters (n := n) (by omega)
    rw [k2, e1, r1, pz_bs]
    obtain ⟨p1, p2⟩ := XP_to k1
    refine ⟨_, rfl, (mSame.fr h1 (by decide) (by decide)).tr mSame.L, h1.1 4 (by decide), h1.1 5 (by decide), ⟨k5, by rw [e1] at k2; rw [e1]; exact k2, p1, k4⟩, k6, k3, fun l hl => ?_, p2, fun c hc => ?_⟩
    · show bl r l = _
      rw [r2 l hl, e1, txT_ins, decide_eq_true rfl, Bool.and_true]
    · rw [e3] at hc; exact absurd hc (Nat.not_lt_zero _)
  refine lp_q (F := fun m (x : tST) i => f_X3_startText_a1_23 m (nI n) i x) (J := fun k x => tFr [1, 6, 7] [] [2, 4, 5, 6, 7] st x ∧ XB (txT pl page codes k) x) (N := n) (Q := fun o => ∃ st', o = some st' ∧ mSame st st' ∧ tg_I st' 4 = tg_I st 4 ∧ tg_I st' 5 = tg_I st 5 ∧ XR (txT pl page codes n) st') ?_ ?_ 0 tfu s (Nat.zero_le _) (tfu_gt (by omega)) ⟨sf.mono (by decide) (by decide) (by decide), b0⟩
  · intro m x ⟨h1, h2⟩
    show ∃ st', f_X3_startText_a1_23 (m + 1) (nI n) (nI n) x = _ ∧ _
    rw [f_X3_startText_a1_23, if_pos (nI_le (Nat.le_refl _) (by omega))]
    exact fin x h1 h2
  · intro m x k hk ⟨h1, h2⟩ ih
    show ∃ st', f_X3_startText_a1_23 (m + 1) (nI n) (nI k) x = _ ∧ _
    obtain ⟨e1, e2, e3, e4, e5⟩ := txT_n pl page codes k
    have hI := Inv_txT page codes hpl k (by omega)
    obtain ⟨s', g1, g2, g3⟩ := x_addLetter (code := codes k) (o := none) (g := k) h2 hI (by omega) (by omega) (by omega)
    rw [f_X3_startText_a1_23, if_neg (nI_ge hk (by omega)), if_neg (show ¬ (64 : Int32) ≤ nI k from nI_ge (a := k) (b := 64) (by omega) (by omega)), pz_tal (by omega) (by omega), h1.2.2.1 1 (by decide), hc k hk, show (-1 : Int32) = en none from rfl, g1, pz_bs]
    simp only [tlet, nI_1]
    exact ih s' ⟨h1.tr (g2.mono (by decide) (by decide) (by decide)), g3⟩
theorem x_startText_2 {st : tST} {pl n : Nat} {page codes : Nat → Int32} (hpl : pl ≤ 40) (hn : n ≤ 64) (h0 : tg_I st 0 = nI pl) (hp : ∀ j, j < pl → tg_A st 1 j = page j) (hc : ∀ j, j < n → tg_A st 18 j = codes j) : ∃ st', f_X3_startText_a18 (nI n) st = some st' ∧ mSame st st' ∧ tg_I st' 4 = tg_I st 4 ∧ tg_I st' 5 = tg_I st 5 ∧ XR (txT pl page codes n) st' := by
  unfold f_X3_startText_a18
  simp only [tlet]
  obtain ⟨s, hs⟩ : ∃ s, s = tp_I (tp_I (tp_I st 6 0) 7 0) 1 0 := ⟨_, rfl⟩
  have sf : tFr [1, 6, 7] [] [] st s := by rw [hs]; exact ((tFr.putI (by decide)).tr (tFr.putI (by decide))).tr (tFr.putI (by decide))
  have b0 : XB (txT pl page codes 0) s := by
    rw [hs]
    exact ⟨⟨rfl, fun i hi => absurd hi (Nat.not_lt_zero _)⟩, rfl, fun i hi => absurd hi (Nat.not_lt_zero _), rfl, h0, hp⟩
  rw [← hs]
  have fin : ∀ x : tST, tFr [1, 6, 7] [] [2, 4, 5, 6, 7] st x → XB (txT pl page codes n) x → ∃ st', ((f_X3_firstLetters (tg_I x 1)).bind fun r1 => some (tp_L x 0 r1)) = some st' ∧ mSame st st' ∧ tg_I st' 4 = tg_I st 4 ∧ tg_I st' 5 = tg_I st 5 ∧ XR (txT pl page codes n) st' := by
    intro x h1 h2
    obtain ⟨e1, e2, e3, e4, e5⟩ := txT_n pl page codes n
    obtain ⟨k1, k2, k3, k4, k5, k6⟩ := h2
    obtain ⟨r, r1, r2⟩ := x_firstLetters (n := n) (by omega)
    rw [k2, e1, r1, pz_bs]
    obtain ⟨p1, p2⟩ := XP_to k1
    refine ⟨_, rfl, (mSame.fr h1 (by decide) (by decide)).tr mSame.L, h1.1 4 (by decide), h1.1 5 (by decide), ⟨k5, by rw [e1] at k2; rw [e1]; exact k2, p1, k4⟩, k6, k3, fun l hl => ?_, p2, fun c hc => ?_⟩
    · show bl r l = _
      rw [r2 l hl, e1, txT_ins, decide_eq_true rfl, Bool.and_true]
    · rw [e3] at hc; exact absurd hc (Nat.not_lt_zero _)
  refine lp_q (F := fun m (x : tST) i => f_X3_startText_a18_23 m (nI n) i x) (J := fun k x => tFr [1, 6, 7] [] [2, 4, 5, 6, 7] st x ∧ XB (txT pl page codes k) x) (N := n) (Q := fun o => ∃ st', o = some st' ∧ mSame st st' ∧ tg_I st' 4 = tg_I st 4 ∧ tg_I st' 5 = tg_I st 5 ∧ XR (txT pl page codes n) st') ?_ ?_ 0 tfu s (Nat.zero_le _) (tfu_gt (by omega)) ⟨sf.mono (by decide) (by decide) (by decide), b0⟩
  · intro m x ⟨h1, h2⟩
    show ∃ st', f_X3_startText_a18_23 (m + 1) (nI n) (nI n) x = _ ∧ _
    rw [f_X3_startText_a18_23, if_pos (nI_le (Nat.le_refl _) (by omega))]
    exact fin x h1 h2
  · intro m x k hk ⟨h1, h2⟩ ih
    show ∃ st', f_X3_startText_a18_23 (m + 1) (nI n) (nI k) x = _ ∧ _
    obtain ⟨e1, e2, e3, e4, e5⟩ := txT_n pl page codes k
    have hI := Inv_txT page codes hpl k (by omega)
    obtain ⟨s', g1, g2, g3⟩ := x_addLetter (code := codes k) (o := none) (g := k) h2 hI (by omega) (by omega) (by omega)
    rw [f_X3_startText_a18_23, if_neg (nI_ge hk (by omega)), if_neg (show ¬ (64 : Int32) ≤ nI k from nI_ge (a := k) (b := 64) (by omega) (by omega)), pz_tal (by omega) (by omega), h1.2.2.1 18 (by decide), hc k hk, show (-1 : Int32) = en none from rfl, g1, pz_bs]
    simp only [tlet, nI_1]
    exact ih s' ⟨h1.tr (g2.mono (by decide) (by decide) (by decide)), g3⟩
theorem s_begin {a : AB} {st : tST} (h : Rel a st) : tStp (f_X3_begin st) f_X4_begin := by
  obtain ⟨hX, hM, hI, h4, h5⟩ := id h
  have hpl := hI.pl
  obtain ⟨s1, e1, e2, e3, e4, e5⟩ := x_startText_1 (st := st) (pl := a.pl) (n := a.pl) (page := a.page) (codes := a.page) hpl hpl hX.pl (fun j hj => hX.page hj) (fun j hj => hX.page hj)
  obtain ⟨t1, t2, t3, t4, t5⟩ := txT_n a.pl a.page a.page a.pl
  obtain ⟨s2, hs2⟩ : ∃ s2, s2 = tp_I (tp_I s1 0 0) 4 (tg_I s1 4 + 1) := ⟨_, rfl⟩
  have hx : f_X3_begin st = some (nI a.pl, s2) := by
    unfold f_X3_begin
    rw [hX.pl, e1, pz_bs]
    simp only [tlet]
    rw [hs2]
    congr 2
    show tg_I s1 1 = nI a.pl
    rw [e5.nL, t1]
  have ms : mSame st s2 := by rw [hs2]; exact e2.tr ((mSame.I (by decide)).tr (mSame.I (by decide)))
  have hM2 := hM.same ms
  have hX2 : XR (setG (txT a.pl a.page a.page a.pl) 0 a.page) s2 := by
    rw [hs2]
    exact ⟨⟨rfl, e5.nL, e5.nP, e5.nC⟩, fun j hj => absurd hj (Nat.not_lt_zero _), e5.2.2.1, e5.2.2.2.1, e5.2.2.2.2.1, e5.2.2.2.2.2⟩
  unfold tStp
  rw [hx]
  refine ⟨nI a.pl, s2, ?_⟩
  have goal : ∃ s3, f_X4_begin s2 = some (nI a.pl, s3) ∧ xSame s2 s3 ∧ MR (setG (txT a.pl a.page a.page a.pl) 0 a.page) s3 ∧ tg_I s3 119 = tg_I s2 119 + 1 ∧ tg_I s3 120 = tg_I s2 120 := by
    unfold f_X4_begin
    simp only [tlet]
    obtain ⟨u, hu⟩ : ∃ u, u = tp_I (tp_I (tp_I s2 102 0) 112 0) 107 0 := ⟨_, rfl⟩
    have uf : tFr [102, 107, 112] [] [] s2 u := by rw [hu]; exact ((tFr.putI (by decide)).tr (tFr.putI (by decide))).tr (tFr.putI (by decide))
    have u0 : MR (txT a.pl a.page a.page 0) u := by
      rw [hu]
      exact ⟨⟨hM2.pl, rfl, rfl, rfl⟩, fun j hj => hM2.page hj, fun l hl => absurd hl (Nat.not_lt_zero _), fun l hl => absurd hl (Nat.not_lt_zero _), fun l hl => absurd hl (Nat.not_lt_zero _), fun l hl => absurd hl (Nat.not_lt_zero _)⟩
    rw [← hu]
    refine lp_q (F := fun m (x : tST) i => f_X4_begin_17 m i x) (J := fun k x => tFr [102, 107, 112] [] [21, 22, 23, 24, 29, 30, 31, 32, 33, 34] s2 x ∧ MR (txT a.pl a.page a.page k) x) (N := a.pl) (Q := fun o => ∃ s3, o = some (nI a.pl, s3) ∧ xSame s2 s3 ∧ MR (setG (txT a.pl a.page a.page a.pl) 0 a.page) s3 ∧ tg_I s3 119 = tg_I s2 119 + 1 ∧ tg_I s3 120 = tg_I s2 120) ?_ ?_ 0 tfu u (Nat.zero_le _) (tfu_gt (by omega)) ⟨uf.mono (by decide) (by decide) (by decide), u0⟩
    · intro m x ⟨k1, k2⟩
      show ∃ s3, f_X4_begin_17 (m + 1) (nI a.pl) x = _ ∧ _
      rw [f_X4_begin_17, k2.pl, t4, if_pos (nI_le (Nat.le_refl _) (by omega))]
      simp only [tlet]
      refine ⟨tp_I (tp_I x 119 (tg_I x 119 + 1)) 100 0, ?_, (xSame.fr k1 (by decide) (by decide) (by decide)).tr ((xSame.I (by decide)).tr (xSame.I (by decide))), ?_, ?_, k1.1 120 (by decide)⟩
      · congr 2
        show tg_I x 102 = nI a.pl
        rw [k2.nL, t1]
      · exact ⟨⟨rfl, k2.nL, k2.nC, k2.nP⟩, fun j hj => absurd hj (Nat.not_lt_zero _), k2.2.2.1, k2.2.2.2.1, k2.2.2.2.2.1, k2.2.2.2.2.2⟩
      · show tg_I x 119 + 1 = _
        rw [k1.1 119 (by decide)]
    · intro m x k hk ⟨k1, k2⟩ ih
      show ∃ s3, f_X4_begin_17 (m + 1) (nI k) x = _ ∧ _
      obtain ⟨q1, q2, q3, q4, q5⟩ := txT_n a.pl a.page a.page k
      obtain ⟨s', g1, g2, g3⟩ := m_comes (code := a.page k) (o := none) (g := k) k2 (Inv_txT _ _ hpl k (by omega)) (by omega) (by omega) (by omega)
      rw [f_X4_begin_17, k2.pl, q4, if_neg (nI_ge hk (by omega)), pz_tal (by omega) (by omega), k2.page (by omega), q5, k2.nP, q2, show (-1 : Int32) = en none from rfl, g1, pz_bs]
      simp only [tlet, nI_1]
      exact ih s' ⟨k1.tr (g2.mono (by decide) (by decide) (by decide)), g3⟩
  obtain ⟨s3, g1, g2, g3, g4, g5⟩ := goal
  refine ⟨s3, rfl, g1, setG (txT a.pl a.page a.page a.pl) 0 a.page, hX2.same g2, g3, Inv_setG (Inv_txT _ _ hpl _ (by omega)) _ (by omega), ?_, ?_⟩
  · rw [g4, g2.1 4 (by decide), ms.1 119 (by decide), ← h4, hs2]
    show tg_I s1 4 + 1 = _
    rw [e3]
  · rw [g5, g2.1 5 (by decide), ms.1 120 (by decide), ← h5, hs2]
    exact e4
theorem s_settle {a : AB} {st : tST} (h : Rel a st) : tStp (f_X3_settle st) f_X4_settle := by
  obtain ⟨hX, hM, hI, h4, h5⟩ := id h
  have hpl := hI.pl
  have hL := hI.nL
  have hP := hI.nP
  unfold tStp f_X3_settle f_X4_settle
  rw [x_inStatus hX hI, pz_bs]
  by_cases h0 : mkT a 0 = 0
  · rw [if_pos h0, x_setOf hX hI (by decide), pz_bs]
    obtain ⟨s1, e1, e2, e3⟩ := x_lineUp hX hI (mkV a 0)
    rw [e1, pz_bd]
    obtain ⟨len, hlen⟩ : ∃ len, len = fb_ct (hp a (mkV a 0)) a.nP := ⟨_, rfl⟩
    have hcnt := hp_count hI (mkV a 0)
    obtain ⟨codes, hcodes⟩ : ∃ codes : Nat → Int32, codes = fun j => a.sign (a.lt (a.line (kp a (mkV a 0) j))) := ⟨_, rfl⟩
    have kok : ∀ j, j < len → kp a (mkV a 0) j < a.nP ∧ hp a (mkV a 0) (kp a (mkV a 0) j) = true ∧ fb_ct (hp a (mkV a 0)) (kp a (mkV a 0) j) = j := fun j hj => kp_ok (by omega)
    rw [← hlen] at hcnt ⊢
    have hs1 := hX.sc e2.sc
    have r1 : ∀ j, j < len → tg_A s1 18 j = nI (kp a (mkV a 0) j) := fun j hj => by
      obtain ⟨k1, k2, k3⟩ := kok j hj
      have := e3 _ k1 k2
      rw [k3] at this; exact this
    have hx : ∃ s2, f_X3_settle_27 tfu (nI len) 0 s1 = some (nI len, s2) ∧ mSame s1 s2 ∧ tg_I s2 4 = tg_I s1 4 ∧ tg_I s2 5 = tg_I s1 5 + 1 ∧ XR (txT a.pl a.page codes len) s2 := by
      refine lp_q (F := fun m (x : tST) i => f_X3_settle_27 m (nI len) i x) (J := fun k x => tFr [] [] [18] s1 x ∧ (∀ j, j < k → tg_A x 18 j = codes j) ∧ (∀ j, k ≤ j → j < len → tg_A x 18 j = nI (kp a (mkV a 0) j))) (N := len) (Q := fun o => ∃ s2, o = some (nI len, s2) ∧ mSame s1 s2 ∧ tg_I s2 4 = tg_I s1 4 ∧ tg_I s2 5 = tg_I s1 5 + 1 ∧ XR (txT a.pl a.page codes len) s2) ?_ ?_ 0 tfu s1 (Nat.zero_le _) (tfu_gt (by omega)) ⟨tFr.rf, fun j hj => by omega, fun j _ hj => r1 j hj⟩
      · intro m x ⟨k1, k2, k3⟩
        show ∃ s2, f_X3_settle_27 (m + 1) (nI len) (nI len) x = _ ∧ _
        have hsx := hs1.sc k1.sc
        obtain ⟨s', g1, g2, g3, g4, g5⟩ := x_startText_2 (st := x) (pl := a.pl) (n := len) (page := a.page) (codes := codes) hpl (by omega) hsx.pl (fun j hj => hsx.page hj) k2
        obtain ⟨t1, -⟩ := txT_n a.pl a.page codes len
        rw [f_X3_settle_27, if_pos (nI_le (Nat.le_refl _) (by omega)), g1, pz_bs]
        simp only [tlet]
        refine ⟨tp_I s' 5 (tg_I s' 5 + 1), ?_, ((mSame.fr k1 (by decide) (by decide)).tr g2).tr (mSame.I (by decide)), ?_, ?_, ?_⟩
        · congr 2
          show tg_I s' 1 = nI len
          rw [g5.nL, t1]
        · show tg_I s' 4 = _
          rw [g3, k1.1 4 (by decide)]
        · show tg_I s' 5 + 1 = _
          rw [g4, k1.1 5 (by decide)]
        · exact ⟨g5.1, g5.2⟩
      · intro m x k hk ⟨k1, k2, k3⟩ ih
        show ∃ s2, f_X3_settle_27 (m + 1) (nI len) (nI k) x = _ ∧ _
        have hsx := hs1.sc k1.sc
        obtain ⟨q1, q2, q3⟩ := kok k hk
        have hlt := hI.lt (hI.line q1)
        rw [f_X3_settle_27, if_neg (nI_ge hk (by omega)), pz_tal (by omega) (by omega), k3 k (Nat.le_refl _) hk, pz_tal (by omega) (by omega), hsx.lt q1, pz_tal (by omega) (by omega), hsx.sign hlt, pz_tas (by omega) (by omega), nI_clamp (by omega)]
        simp only [tlet, nI_1]
        refine ih _ ⟨k1.tr (tFr.putA (by decide)), fun j hj => ?_, fun j hj1 hj2 => ?_⟩
        · show upd (tg_A x 18) k _ j = _
          by_cases e : j = k
          · rw [e, pk_us, hcodes]
          · rw [pk_un e]; exact k2 j (by omega)
        · show upd (tg_A x 18) k _ j = _
          rw [pk_un (by omega)]; exact k3 j (by omega) hj2
    obtain ⟨s2, x1, x2, x3, x4, x5⟩ := hx
    have hM2 := (hM.sc e2.sc).same x2
    refine ⟨nI len, s2, ?_⟩
    have goal : ∃ s3, ((f_X4_inState 0 s2).bind fun r1 => if r1 = 0 then (f_X4_setOf 0 s2).bind fun r2 => (f_X4_layRead r2 s2).bind fun s3 => f_X4_settle_23 tfu 0 s3 else some (-1003, s2)) = some (nI len, s3) ∧ xSame s2 s3 ∧ MR (txT a.pl a.page codes len) s3 ∧ tg_I s3 119 = tg_I s2 119 ∧ tg_I s3 120 = tg_I s2 120 + 1 := by
      rw [m_inState hM2 hI, pz_bs, if_pos h0, m_setOf hM2 hI, pz_bs]
      obtain ⟨y, y1, y2, y3, y4⟩ := m_layRead hM2 hI (mkV a 0)
      rw [← hlen] at y3
      have hy := hM2.sc y2.sc
      have r2 : ∀ j, j < len → tg_A y 35 j = nI (a.line (kp a (mkV a 0) j)) := fun j hj => by
        obtain ⟨k1, k2, k3⟩ := kok j hj
        have := y4 _ k1 k2
        rw [k3] at this; exact this
      rw [y1, pz_bs]
      refine lp_q (F := fun m (x : tST) i => f_X4_settle_23 m i x) (J := fun k x => tFr [] [] [37] y x ∧ ∀ j, j < k → tg_A x 37 j = codes j) (N := len) (Q := fun o => ∃ s3, o = some (nI len, s3) ∧ xSame s2 s3 ∧ MR (txT a.pl a.page codes len) s3 ∧ tg_I s3 119 = tg_I s2 119 ∧ tg_I s3 120 = tg_I s2 120 + 1) ?_ ?_ 0 tfu y (Nat.zero_le _) (tfu_gt (by omega)) ⟨tFr.rf, fun j hj => by omega⟩
      · intro m x ⟨k1, k2⟩
        show ∃ s3, f_X4_settle_23 (m + 1) (nI len) x = _ ∧ _
        rw [f_X4_settle_23, k1.1 121 (by decide), y3, if_pos (nI_le (Nat.le_refl _) (by omega))]
        simp only [tlet]
        have hx2 := hy.sc k1.sc
        obtain ⟨u, hu⟩ : ∃ u, u = tp_I (tp_I (tp_I x 102 0) 112 0) 107 0 := ⟨_, rfl⟩
        have uf : tFr [102, 107, 112] [] [] x u := by rw [hu]; exact ((tFr.putI (by decide)).tr (tFr.putI (by decide))).tr (tFr.putI (by decide))
        have u0 : MR (txT a.pl a.page codes 0) u := by
          rw [hu]
          exact ⟨⟨hx2.pl, rfl, rfl, rfl⟩, fun j hj => hx2.page hj, fun l hl => absurd hl (Nat.not_lt_zero _), fun l hl => absurd hl (Nat.not_lt_zero _), fun l hl => absurd hl (Nat.not_lt_zero _), fun l hl => absurd hl (Nat.not_lt_zero _)⟩
        have all1 : tFr [102, 107, 112, 121] [] [35, 36, 37] s2 u := (y2.mono (by decide) (by decide) (by decide)).tr ((k1.mono (by decide) (by decide) (by decide)).tr (uf.mono (by decide) (by decide) (by decide)))
        have u121 : tg_I u 121 = nI len := by rw [uf.1 121 (by decide), k1.1 121 (by decide), y3]
        have u37 : ∀ j, j < len → tg_A u 37 j = codes j := fun j hj => by rw [uf.2.2.1 37 (by decide)]; exact k2 j hj
        rw [← hu]
        refine lp_q (F := fun m (x : tST) i => f_X4_settle_76 m i x) (J := fun k x => tFr [102, 107, 112] [] [21, 22, 23, 24, 29, 30, 31, 32, 33, 34] u x ∧ MR (txT a.pl a.page codes k) x) (N := len) (Q := fun o => ∃ s3, o = some (nI len, s3) ∧ xSame s2 s3 ∧ MR (txT a.pl a.page codes len) s3 ∧ tg_I s3 119 = tg_I s2 119 ∧ tg_I s3 120 = tg_I s2 120 + 1) ?_ ?_ 0 tfu u (Nat.zero_le _) (tfu_gt (by omega)) ⟨tFr.rf, u0⟩
        · intro m z ⟨z1, z2⟩
          show ∃ s3, f_X4_settle_76 (m + 1) (nI len) z = _ ∧ _
          obtain ⟨t1, -⟩ := txT_n a.pl a.page codes len
          rw [f_X4_settle_76, z1.1 121 (by decide), u121, if_pos (nI_le (Nat.le_refl _) (by omega))]
          simp only [tlet]
          refine ⟨tp_I z 120 (tg_I z 120 + 1), ?_, ((xSame.fr all1 (by decide) (by decide) (by decide)).tr (xSame.fr z1 (by decide) (by decide) (by decide))).tr (xSame.I (by decide)), ?_, ?_, ?_⟩
          · congr 2
            show tg_I z 102 = nI len
            rw [z2.nL, t1]
          · exact ⟨z2.1, z2.2⟩
          · show tg_I z 119 = _
            rw [z1.1 119 (by decide), all1.1 119 (by decide)]
          · show tg_I z 120 + 1 = _
            rw [z1.1 120 (by decide), all1.1 120 (by decide)]
        · intro m z k hk ⟨z1, z2⟩ ih
          show ∃ s3, f_X4_settle_76 (m + 1) (nI k) z = _ ∧ _
          obtain ⟨q1, q2, q3, q4, q5⟩ := txT_n a.pl a.page codes k
          obtain ⟨s', g1, g2, g3⟩ := m_comes (code := codes k) (o := none) (g := k) z2 (Inv_txT _ _ hpl k (by omega)) (by omega) (by omega) (by omega)
          rw [f_X4_settle_76, z1.1 121 (by decide), u121, if_neg (nI_ge hk (by omega)), pz_tal (by omega) (by omega), z1.2.2.1 37 (by decide), u37 k hk, z2.nP, q2, show (-1 : Int32) = en none from rfl, g1, pz_bs]
          simp only [tlet, nI_1]
          exact ih s' ⟨z1.tr (g2.mono (by decide) (by decide) (by decide)), g3⟩
      · intro m x k hk ⟨k1, k2⟩ ih
        show ∃ s3, f_X4_settle_23 (m + 1) (nI k) x = _ ∧ _
        have hx2 := hy.sc k1.sc
        obtain ⟨q1, q2, q3⟩ := kok k hk
        have hli := hI.line q1
        have hlt := hI.lt hli
        rw [f_X4_settle_23, k1.1 121 (by decide), y3, if_neg (nI_ge hk (by omega)), pz_tal (by omega) (by omega), k1.2.2.1 35 (by decide), r2 k hk, pz_tal (by omega) (by omega), hx2.lt hli, pz_tal (by omega) (by omega), hx2.sign hlt, pz_tas (by omega) (by omega), nI_clamp (by omega)]
        simp only [tlet, nI_1]
        refine ih _ ⟨k1.tr (tFr.putA (by decide)), fun j hj => ?_⟩
        show upd (tg_A x 37) k _ j = _
        by_cases e : j = k
        · rw [e, pk_us, hcodes]
        · rw [pk_un e]; exact k2 j (by omega)
    obtain ⟨s3, g1, g2, g3, g4, g5⟩ := goal
    have c4 : tg_I s1 4 = tg_I st 4 := e2.1 4 (by decide)
    have c5 : tg_I s1 5 = tg_I st 5 := e2.1 5 (by decide)
    refine ⟨s3, x1, g1, txT a.pl a.page codes len, x5.same g2, g3, Inv_txT _ _ hpl _ (by omega), ?_, ?_⟩
    · rw [g4, g2.1 4 (by decide), x3, c4, h4, x2.1 119 (by decide), e2.1 119 (by decide)]
    · rw [g5, g2.1 5 (by decide), x4, c5, h5, x2.1 120 (by decide), e2.1 120 (by decide)]
  · rw [if_neg h0]
    refine ⟨-1003, st, st, rfl, ?_, a, h⟩
    rw [m_inState hM hI, pz_bs, if_neg h0]
