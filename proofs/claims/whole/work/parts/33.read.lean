/-! ===== what scratch parts may change ===== -/
def tSc (st st' : tST) : Prop := tFr [2, 3, 8, 121, 125, 129, 130] [1] [15, 16, 17, 18, 35, 36, 37, 38, 39, 40] st st'
theorem tFr.sc {ks ls as : List Nat} {s1 s2 : tST} (h : tFr ks ls as s1 s2) (h1 : ∀ k ∈ ks, k ∈ [2, 3, 8, 121, 125, 129, 130] := by decide) (h2 : ∀ k ∈ ls, k ∈ [1] := by decide) (h3 : ∀ k ∈ as, k ∈ [15, 16, 17, 18, 35, 36, 37, 38, 39, 40] := by decide) : tSc s1 s2 := h.mono h1 h2 h3
theorem XR.sc {a : AB} {st st' : tST} (h : XR a st) (f : tSc st st') : XR a st' := by
  unfold XR
  rw [f.1 0 (by decide), f.1 1 (by decide), f.1 6 (by decide), f.1 7 (by decide), f.2.1 0 (by decide), f.2.2.1 1 (by decide), f.2.2.1 2 (by decide), f.2.2.1 4 (by decide), f.2.2.1 5 (by decide), f.2.2.1 6 (by decide), f.2.2.1 7 (by decide), f.2.2.1 9 (by decide), f.2.2.1 10 (by decide), f.2.2.1 11 (by decide), f.2.2.1 12 (by decide), f.2.2.2 13]
  exact h
theorem MR.sc {a : AB} {st st' : tST} (h : MR a st) (f : tSc st st') : MR a st' := by
  unfold MR
  rw [f.1 100 (by decide), f.1 102 (by decide), f.1 107 (by decide), f.1 112 (by decide), f.2.2.1 20 (by decide), f.2.2.1 21 (by decide), f.2.2.1 22 (by decide), f.2.2.1 23 (by decide), f.2.2.1 24 (by decide), f.2.2.1 25 (by decide), f.2.2.1 26 (by decide), f.2.2.1 27 (by decide), f.2.2.1 28 (by decide), f.2.2.1 29 (by decide), f.2.2.1 30 (by decide), f.2.2.1 31 (by decide), f.2.2.1 32 (by decide), f.2.2.1 33 (by decide), f.2.2.1 34 (by decide)]
  exact h
/-! ===== what reads by a set ===== -/
def hd (a : AB) (S : Int32) (p : Nat) : Bool := thB a S (a.lt p) && on a S p
def hp (a : AB) (S : Int32) (i : Nat) : Bool := hd a S (a.line i)
theorem ct_lt {P : Nat → Bool} {i n : Nat} (hi : i < n) (hp : P i = true) : fb_ct P i < fb_ct P n := by
  have h1 := fb_ct_mono P (show i + 1 ≤ n by omega)
  rw [fb_ct_succ, if_pos hp] at h1
  omega
theorem hd_inj {a : AB} {S : Int32} {p q : Nat} (h1 : hd a S p = true) (h2 : hd a S q = true) (h : a.lt p = a.lt q) : p = q := by
  unfold hd on at h1 h2
  simp only [Bool.and_eq_true, decide_eq_true_eq] at h1 h2
  rw [← h1.2, ← h2.2, h]
theorem hp_count {a : AB} (hI : Inv a) (S : Int32) : fb_ct (hp a S) a.nP ≤ a.nL := by
  have kth : ∀ k, ∃ i, k < fb_ct (hp a S) a.nP → i < a.nP ∧ hp a S i = true ∧ fb_ct (hp a S) i = k := by
    intro k
    by_cases hk : k < fb_ct (hp a S) a.nP
    · obtain ⟨i, h1, h2, h3⟩ := fb_ct_kth hk
      exact ⟨i, fun _ => ⟨h1, h2, h3⟩⟩
    · exact ⟨0, fun h => absurd h hk⟩
  refine fb_holes a.nL (fb_ct (hp a S) a.nP) (fun k => a.lt (a.line (Classical.choose (kth k)))) (fun k hk => ?_) (fun k j hkj hj he => ?_)
  · obtain ⟨h1, -, -⟩ := Classical.choose_spec (kth k) hk
    exact hI.lt (hI.line h1)
  · obtain ⟨h1, h2, h3⟩ := Classical.choose_spec (kth k) (by omega)
    obtain ⟨g1, g2, g3⟩ := Classical.choose_spec (kth j) hj
    have h4 := hd_inj h2 g2 he
    have h5 := hI.pl_ h1
    rw [h4, hI.pl_ g1] at h5
    rw [h5] at g3
    omega
theorem x_lineUp {a : AB} {st : tST} (h : XR a st) (hI : Inv a) (S : Int32) : ∃ st', f_X3_lineUp S st = some (nI (fb_ct (hp a S) a.nP), st') ∧ tFr [] [] [18] st st' ∧ ∀ i, i < a.nP → hp a S i = true → tg_A st' 18 (fb_ct (hp a S) i) = nI i := by
  have hP := hI.nP
  have hL := hI.nL
  unfold f_X3_lineUp
  rw [x_thereBy h hI S, pz_bs]
  obtain ⟨T, hT, hTe⟩ : ∃ T, (∀ l, l < 64 → bl T l = thP a S l) ∧ T = mkB (thP a S) 64 := ⟨_, fun l hl => by rw [mkB_bl _ _ (Nat.le_refl _) l hl, decide_eq_true hl, Bool.true_and], rfl⟩
  rw [← hTe]
  clear hTe
  refine lp_q (F := fun n (x : Int32 × tST) i => f_X3_lineUp_12 n S T x.1 i x.2) (J := fun c x => x.1 = nI (fb_ct (hp a S) c) ∧ tFr [] [] [18] st x.2 ∧ ∀ i, i < c → hp a S i = true → tg_A x.2 18 (fb_ct (hp a S) i) = nI i) (N := a.nP) (Q := fun o => ∃ st', o = some (nI (fb_ct (hp a S) a.nP), st') ∧ tFr [] [] [18] st st' ∧ ∀ i, i < a.nP → hp a S i = true → tg_A st' 18 (fb_ct (hp a S) i) = nI i) ?_ ?_ 0 tfu (0, st) (Nat.zero_le _) (tfu_gt (by omega)) ⟨rfl, tFr.rf, fun i hi => by omega⟩
  · intro n x ⟨h1, h2, h3⟩
    refine ⟨x.2, ?_, h2, h3⟩
    show f_X3_lineUp_12 (n + 1) S T x.1 (nI a.nP) x.2 = _
    rw [f_X3_lineUp_12, h2.1 6 (by decide), h.nP, if_pos (nI_le (Nat.le_refl _) (by omega)), h1]
  · intro n x c hc ⟨h1, h2, h3⟩ ih
    obtain ⟨x1, s⟩ := x
    dsimp only at h1 h2 h3
    show ∃ st', f_X3_lineUp_12 (n + 1) S T x1 (nI c) s = _ ∧ _
    have hs := h.sc h2.sc
    have hlt := hI.lt (hI.line hc)
    have hle := fb_ct_le (hp a S) c
    rw [f_X3_lineUp_12, hs.nP, if_neg (nI_ge hc (by omega)), x_holds hs hI T S hc, pz_bs, hT _ (by omega)]
    have he : (thP a S (a.lt (a.line c)) && on a S (a.line c)) = hp a S c := by
      unfold thP hp hd
      rw [decide_eq_true hlt, Bool.true_and]
    rw [he, ite_p (pz_b01 _)]
    by_cases hq : hp a S c = false
    · rw [if_pos hq]
      simp only [tlet, nI_1]
      refine ih (x1, s) ⟨?_, h2, fun i hi hpi => ?_⟩
      · rw [fb_ct_succ, if_neg (by rw [hq]; decide)]; exact h1
      · by_cases hic : i = c
        · subst hic; rw [hq] at hpi; cases hpi
        · exact h3 i (by omega) hpi
    · have hq1 : hp a S c = true := by cases hz : hp a S c <;> simp_all
      rw [if_neg hq, h1, pz_tas (by omega) (by omega), nI_clamp (by omega)]
      simp only [tlet, nI_1]
      refine ih (nI (fb_ct (hp a S) c + 1), tp_A s 18 (fb_ct (hp a S) c) (nI c)) ⟨?_, h2.tr (tFr.putA (by decide)), fun i hi hpi => ?_⟩
      · rw [fb_ct_succ, if_pos hq1]
      · show tg_A (tp_A s 18 (fb_ct (hp a S) c) (nI c)) 18 _ = _
        rw [st_AA, if_pos rfl]
        by_cases hic : i = c
        · subst hic; exact pk_us
        · have := ct_lt (show i < c by omega) hpi
          rw [pk_un (by omega)]
          exact h3 i (by omega) hpi
theorem m_layRead_3 {a : AB} {st : tST} (h : MR a st) (hI : Inv a) (S : Int32) (h36 : ∀ p, p < a.nP → tg_A st 36 p = if hd a S p = true then 1 else 0) (h121 : tg_I st 121 = 0) : ∃ st', f_X4_layRead_67 tfu 0 st = some st' ∧ tFr [121] [] [35, 36] st st' ∧ tg_I st' 121 = nI (fb_ct (hp a S) a.nP) ∧ ∀ i, i < a.nP → hp a S i = true → tg_A st' 35 (fb_ct (hp a S) i) = nI (a.line i) := by
  have hP := hI.nP
  have hL := hI.nL
  have hcnt := hp_count hI S
  refine lp_q (F := fun n (x : tST) i => f_X4_layRead_67 n i x) (J := fun c x => tFr [121] [] [35] st x ∧ tg_I x 121 = nI (fb_ct (hp a S) c) ∧ ∀ i, i < c → hp a S i = true → tg_A x 35 (fb_ct (hp a S) i) = nI (a.line i)) (N := a.nP) (Q := fun o => ∃ st', o = some st' ∧ tFr [121] [] [35, 36] st st' ∧ tg_I st' 121 = nI (fb_ct (hp a S) a.nP) ∧ ∀ i, i < a.nP → hp a S i = true → tg_A st' 35 (fb_ct (hp a S) i) = nI (a.line i)) ?_ ?_ 0 tfu st (Nat.zero_le _) (tfu_gt (by omega)) ⟨tFr.rf, h121, fun i hi => by omega⟩
  · intro n x ⟨h1, h2, h3⟩
    refine ⟨x, ?_, h1.mono (by decide) (by decide) (by decide), h2, h3⟩
    show f_X4_layRead_67 (n + 1) (nI a.nP) x = _
    rw [f_X4_layRead_67, h1.1 112 (by decide), h.nP, if_pos (nI_le (Nat.le_refl _) (by omega))]
  · intro n x c hc ⟨h1, h2, h3⟩ ih
    show ∃ st', f_X4_layRead_67 (n + 1) (nI c) x = _ ∧ _
    have hs := h.sc h1.sc
    have hlc := hI.line hc
    have hle := fb_ct_le (hp a S) c
    rw [f_X4_layRead_67, hs.nP, if_neg (nI_ge hc (by omega))]
    simp only [pz_tal (show c < 90 by omega) (show 90 < 2 ^ 31 by omega), hs.line hc]
    rw [pz_tal (show a.line c < 90 by omega) (by omega), h1.2.2.1 36 (by decide), h36 _ hlc, ite_p (pz_b01 _), show hd a S (a.line c) = hp a S c from rfl]
    by_cases hq : hp a S c = false
    · rw [if_pos hq]
      simp only [tlet, nI_1]
      refine ih x ⟨h1, ?_, fun i hi hpi => ?_⟩
      · rw [fb_ct_succ, if_neg (by rw [hq]; decide)]; exact h2
      · by_cases hic : i = c
        · subst hic; rw [hq] at hpi; cases hpi
        · exact h3 i (by omega) hpi
    · have hq1 : hp a S c = true := by cases hz : hp a S c <;> simp_all
      have hlt := ct_lt hc hq1
      rw [if_neg hq, h2, pz_tas (by omega) (by omega), nI_clamp (by omega)]
      simp only [tlet, nI_1]
      refine ih _ ⟨h1.tr ((tFr.putA (by decide)).tr (tFr.putI (by decide))), ?_, fun i hi hpi => ?_⟩
      · rw [st_II, if_pos rfl, st_IA, h2, nI_1, fb_ct_succ, if_pos hq1]
      · rw [st_AI, st_AA, if_pos rfl]
        by_cases hic : i = c
        · subst hic; exact pk_us
        · have := ct_lt (show i < c by omega) hpi
          rw [pk_un (by omega)]
          exact h3 i (by omega) hpi
theorem hd_exs {a : AB} (hI : Inv a) (S : Int32) {p : Nat} (hp : p < a.nP) : exs (fun l => thB a S l && decide (fw a S 90 (a.home l) = p)) a.nL = hd a S p := by
  apply bool_ext
  rw [exs_iff]
  unfold hd on
  constructor
  · rintro ⟨l, h1, h2⟩
    simp only [Bool.and_eq_true, decide_eq_true_eq] at h2 ⊢
    have h3 := (fw_in hI (S := S) 90 (a.home l) (hI.home h1)).2.1
    rw [h2.2, hI.lth h1] at h3
    rw [h3]
    exact h2
  · intro h
    exact ⟨a.lt p, hI.lt hp, h⟩
theorem m_layRead {a : AB} {st : tST} (h : MR a st) (hI : Inv a) (S : Int32) : ∃ st', f_X4_layRead S st = some st' ∧ tFr [121] [] [35, 36] st st' ∧ tg_I st' 121 = nI (fb_ct (hp a S) a.nP) ∧ ∀ i, i < a.nP → hp a S i = true → tg_A st' 35 (fb_ct (hp a S) i) = nI (a.line i) := by
  have hP := hI.nP
  have hL := hI.nL
  unfold f_X4_layRead
  refine lp_q (F := fun n (x : tST) i => f_X4_layRead_2 n S i x) (J := fun c x => tFr [121] [] [35, 36] st x ∧ ∀ p, p < c → tg_A x 36 p = 0) (N := a.nP) (Q := fun o => ∃ st', o = some st' ∧ tFr [121] [] [35, 36] st st' ∧ tg_I st' 121 = nI (fb_ct (hp a S) a.nP) ∧ ∀ i, i < a.nP → hp a S i = true → tg_A st' 35 (fb_ct (hp a S) i) = nI (a.line i)) ?_ ?_ 0 tfu st (Nat.zero_le _) (tfu_gt (by omega)) ⟨tFr.rf, fun i hi => by omega⟩
  · intro n x ⟨h1, h2⟩
    show ∃ st', f_X4_layRead_2 (n + 1) S (nI a.nP) x = _ ∧ _
    rw [f_X4_layRead_2, h1.1 112 (by decide), h.nP, if_pos (nI_le (Nat.le_refl _) (by omega))]
    refine lp_q (F := fun n (y : tST) i => f_X4_layRead_25 n S i y) (J := fun c y => tFr [121] [] [35, 36] st y ∧ ∀ p, p < a.nP → tg_A y 36 p = if exs (fun l => thB a S l && decide (fw a S 90 (a.home l) = p)) c = true then 1 else 0) (N := a.nL) (Q := fun o => ∃ st', o = some st' ∧ tFr [121] [] [35, 36] st st' ∧ tg_I st' 121 = nI (fb_ct (hp a S) a.nP) ∧ ∀ i, i < a.nP → hp a S i = true → tg_A st' 35 (fb_ct (hp a S) i) = nI (a.line i)) ?_ ?_ 0 tfu x (Nat.zero_le _) (tfu_gt (by omega)) ⟨h1, fun p hp => h2 p hp⟩
    · intro n y ⟨g1, g2⟩
      show ∃ st', f_X4_layRead_25 (n + 1) S (nI a.nL) y = _ ∧ _
      rw [f_X4_layRead_25, g1.1 102 (by decide), h.nL, if_pos (nI_le (Nat.le_refl _) (by omega))]
      simp only [tlet]
      have f1 : tFr [121] [] [35, 36] st (tp_I y 121 0) := g1.tr (tFr.putI (by decide))
      obtain ⟨st', e1, e2, e3, e4⟩ := m_layRead_3 (h.sc f1.sc) hI S (fun p hp => by rw [st_AI, g2 p hp, hd_exs hI S hp]) rfl
      exact ⟨st', e1, f1.tr e2, e3, e4⟩
    · intro n y l hl ⟨g1, g2⟩ ih
      show ∃ st', f_X4_layRead_25 (n + 1) S (nI l) y = _ ∧ _
      have hs := h.sc g1.sc
      rw [f_X4_layRead_25, hs.nL, if_neg (nI_ge hl (by omega)), m_isThere hs hI hl S, pz_bs, ite_p (pz_b01 _)]
      by_cases hq : thB a S l = false
      · rw [if_pos hq]
        simp only [tlet, nI_1]
        refine ih y ⟨g1, fun p hp => ?_⟩
        rw [exs, hq, Bool.false_and, Bool.or_false]
        exact g2 p hp
      · have hq1 : thB a S l = true := by cases hz : thB a S l <;> simp_all
        have hf := (fw_in hI (S := S) 90 (a.home l) (hI.home hl)).1
        rw [if_neg hq, m_standsAt hs hI S hl, pz_bs, pz_tas (by omega) (by omega), nI_clamp (by omega)]
        simp only [tlet, nI_1]
        refine ih _ ⟨g1.tr (tFr.putA (by decide)), fun p hp => ?_⟩
        rw [st_AA, if_pos rfl, exs, hq1, Bool.true_and]
        by_cases hpe : fw a S 90 (a.home l) = p
        · rw [hpe, pk_us, decide_eq_true rfl, Bool.or_true]; rfl
        · rw [pk_un (fun e => hpe e.symm), decide_eq_false hpe, Bool.or_false]
          exact g2 p hp
  · intro n x c hc ⟨h1, h2⟩ ih
    show ∃ st', f_X4_layRead_2 (n + 1) S (nI c) x = _ ∧ _
    rw [f_X4_layRead_2, h1.1 112 (by decide), h.nP, if_neg (nI_ge hc (by omega)), pz_tas (by omega) (by omega), nI_clamp (by omega)]
    simp only [tlet, nI_1]
    refine ih _ ⟨h1.tr (tFr.putA (by decide)), fun p hp => ?_⟩
    rw [st_AA, if_pos rfl]
    by_cases hpe : p = c
    · rw [hpe, pk_us]; rfl
    · rw [pk_un hpe]; exact h2 p (by omega)
/-! ===== a place's number in the line ===== -/
theorem m_inLine {a : AB} {st : tST} (h : MR a st) (hI : Inv a) {p : Nat} (hp : p < a.nP) : f_X4_inLine (nI p) st = some (nI (a.pos p)) := by
  have hP := hI.nP
  have hpp := hI.pos hp
  unfold f_X4_inLine
  refine lp_q (F := fun n (x : Unit) i => f_X4_inLine_2 st n (nI p) i) (J := fun c x => True) (N := a.pos p) (Q := fun o => o = some (nI (a.pos p))) ?_ ?_ 0 tfu () (Nat.zero_le _) (tfu_gt (by omega)) trivial
  · intro n x _
    show f_X4_inLine_2 st (n + 1) (nI p) (nI (a.pos p)) = _
    rw [f_X4_inLine_2, pz_tal (by omega) (by omega), h.line hpp, hI.lp hp, if_pos rfl]
  · intro n x c hc _ ih
    show f_X4_inLine_2 st (n + 1) (nI p) (nI c) = _
    have hcP : c < a.nP := by omega
    have hlc := hI.line hcP
    rw [f_X4_inLine_2, pz_tal (by omega) (by omega), h.line hcP, if_neg (by
      rw [pz_eq (by omega) (by omega)]
      intro e
      have := hI.pl_ hcP
      rw [e] at this
      omega)]
    simp only [tlet, nI_1]
    exact ih () trivial
