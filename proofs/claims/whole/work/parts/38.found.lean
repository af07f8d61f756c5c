/-! ===== reads as the page ===== -/
def mis (a : AB) (S : Int32) (i : Nat) : Bool := hp a S i && !decide (a.sign (a.lt (a.line i)) = a.page (fb_ct (hp a S) i))
def rp (a : AB) (S : Int32) : Bool := decide (fb_ct (hp a S) a.nP = a.pl) && !exs (mis a S) a.nP
theorem hp_letters {a : AB} (hI : Inv a) (S : Int32) : fb_ct (hp a S) a.nP = fb_ct (thB a S) a.nL := by
  refine ct_bij (f := fun i => a.lt (a.line i)) (g := fun l => a.pos (fw a S 90 (a.home l))) (fun i hi h => ?_) (fun l hl h => ?_)
  · unfold hp hd on at h
    simp only [Bool.and_eq_true, decide_eq_true_eq] at h
    exact ⟨hI.lt (hI.line hi), h.1, by rw [h.2]; exact hI.pl_ hi⟩
  · obtain ⟨g1, g2, -⟩ := fw_in hI (S := S) 90 (a.home l) (hI.home hl)
    have g3 : a.lt (fw a S 90 (a.home l)) = l := g2.trans (hI.lth hl)
    refine ⟨hI.pos g1, ?_, ?_⟩
    · unfold hp hd on
      simp only [hI.lp g1, g3, Bool.and_eq_true, decide_eq_true_eq]
      exact ⟨h, trivial⟩
    · show a.lt (a.line (a.pos (fw a S 90 (a.home l)))) = l
      rw [hI.lp g1, g3]
theorem x_readsAsPage {a : AB} {st : tST} (h : XR a st) (hI : Inv a) (S : Int32) : f_X3_readsAsPage S st = some (if rp a S = true then 1 else 0) := by
  have hP := hI.nP
  have hL := hI.nL
  have hpl := hI.pl
  unfold f_X3_readsAsPage
  rw [x_thereBy h hI, pz_bs, j13_count, pz_bs]
  have e0 : fb_ct (bl (mkB (thP a S) 64)) 64 = fb_ct (hp a S) a.nP := by
    rw [hp_letters hI, fb_ct_cong (n := 64) (q := fun l => decide (l < a.nL) && thB a S l) (fun l hl => by rw [mkB_bl _ _ (Nat.le_refl _) l hl, decide_eq_true hl, Bool.true_and]; rfl), ct_cut hL (fun i h1 _ => by rw [decide_eq_false (by omega)]; rfl)]
    exact fb_ct_cong (fun l hl => by rw [decide_eq_true hl, Bool.true_and])
  have hle := fb_ct_le (hp a S) a.nP
  rw [e0, h.pl]
  obtain ⟨T, hT, hTe⟩ : ∃ T, (∀ l, l < 64 → bl T l = thP a S l) ∧ T = mkB (thP a S) 64 := ⟨_, fun l hl => by rw [mkB_bl _ _ (Nat.le_refl _) l hl, decide_eq_true hl, Bool.true_and], rfl⟩
  rw [← hTe]
  clear hTe e0
  by_cases hc : fb_ct (hp a S) a.nP = a.pl
  · rw [if_pos (by rw [hc])]
    refine lp_q (F := fun n (x : Int32) i => f_X3_readsAsPage_25 st n S T x i) (J := fun i x => x = nI (fb_ct (hp a S) i) ∧ ∀ j, j < i → mis a S j = false) (N := a.nP) (Q := fun o => o = some (if rp a S = true then 1 else 0)) ?_ ?_ 0 tfu 0 (Nat.zero_le _) (tfu_gt (by omega)) ⟨rfl, fun j hj => by omega⟩
    · intro n x ⟨hx, hm⟩
      show f_X3_readsAsPage_25 st (n + 1) S T x (nI a.nP) = _
      rw [f_X3_readsAsPage_25, h.nP, if_pos (nI_le (Nat.le_refl _) (by omega)), hx, h.pl, hc, if_pos rfl]
      have : exs (mis a S) a.nP = false := by
        cases hz : exs (mis a S) a.nP
        · rfl
        · obtain ⟨j, h1, h2⟩ := exs_iff.mp hz
          rw [hm j h1] at h2; cases h2
      unfold rp
      rw [decide_eq_true hc, this]; rfl
    · intro n x i hi ⟨hx, hm⟩ ih
      show f_X3_readsAsPage_25 st (n + 1) S T x (nI i) = _
      have hl := hI.lt (hI.line hi)
      have hle2 := fb_ct_le (hp a S) i
      rw [f_X3_readsAsPage_25, h.nP, if_neg (nI_ge hi (by omega)), x_holds h hI T S hi, pz_bs, hT _ (by omega)]
      have he : (thP a S (a.lt (a.line i)) && on a S (a.line i)) = hp a S i := by
        unfold thP hp hd
        rw [decide_eq_true hl, Bool.true_and]
      rw [he, ite_p (pz_b01 _)]
      by_cases hq : hp a S i = false
      · rw [if_pos hq]
        simp only [tlet, nI_1]
        refine ih _ ⟨by rw [fb_ct_succ, hq]; simpa using hx, fun j hj => ?_⟩
        by_cases hji : j = i
        · subst hji; unfold mis; rw [hq]; rfl
        · exact hm j (by omega)
      · have hq1 := bl_not _ hq
        have hlt := ct_lt hi hq1
        rw [if_neg hq, hx, h.pl, if_neg (nI_ge (by omega) (by omega)), pz_tal (by omega) (by omega), h.lt hi, pz_tal (by omega) (by omega), h.sign hl, pz_tal (by omega) (by omega), h.page (by omega)]
        by_cases hs : a.sign (a.lt (a.line i)) = a.page (fb_ct (hp a S) i)
        · rw [if_pos hs]
          simp only [tlet, nI_1]
          refine ih _ ⟨by rw [fb_ct_succ, hq1]; rfl, fun j hj => ?_⟩
          by_cases hji : j = i
          · subst hji; unfold mis; rw [decide_eq_true hs]; simp
          · exact hm j (by omega)
        · rw [if_neg hs]
          have : exs (mis a S) a.nP = true := exs_iff.mpr ⟨i, hi, by unfold mis; rw [hq1, decide_eq_false hs]; rfl⟩
          unfold rp
          rw [this]; simp; rfl
  · rw [if_neg (by rw [pz_eq (by omega) (by omega)]; exact hc)]
    unfold rp
    rw [decide_eq_false hc]; rfl
theorem m_readsAsPage {a : AB} {st : tST} (h : MR a st) (hI : Inv a) (S : Int32) : ∃ st', f_X4_readsAsPage S st = some (if rp a S = true then 1 else 0, st') ∧ tFr [121] [] [35, 36] st st' := by
  have hP := hI.nP
  have hL := hI.nL
  have hpl := hI.pl
  obtain ⟨s, e1, e2, e3, e4⟩ := m_layRead h hI S
  have hs := h.sc e2.sc
  have hcnt := hp_count hI S
  refine ⟨s, ?_, e2⟩
  unfold f_X4_readsAsPage
  rw [e1, pz_bs, e3, hs.pl]
  have main : ∀ x : Int32, (x = 1 ∧ fb_ct (hp a S) a.nP = a.pl ∨ x = 0 ∧ rp a S = false) → f_X4_readsAsPage_24 tfu x 0 s = some (if rp a S = true then 1 else 0, s) := by
    intro x hx
    refine lp_q (F := fun n (x : Int32) i => f_X4_readsAsPage_24 n x i s) (J := fun k x => (x = 1 ∧ fb_ct (hp a S) a.nP = a.pl ∧ ∀ i, i < a.nP → hp a S i = true → fb_ct (hp a S) i < k → mis a S i = false) ∨ (x = 0 ∧ rp a S = false)) (N := fb_ct (hp a S) a.nP) (Q := fun o => o = some (if rp a S = true then 1 else 0, s)) ?_ ?_ 0 tfu x (Nat.zero_le _) (tfu_gt (by omega)) (hx.imp (fun e => ⟨e.1, e.2, fun i _ _ hk => by omega⟩) id)
    · intro n x hx
      show f_X4_readsAsPage_24 (n + 1) x (nI (fb_ct (hp a S) a.nP)) s = _
      rw [f_X4_readsAsPage_24, e3, if_pos (nI_le (Nat.le_refl _) (by omega))]
      rcases hx with ⟨h1, h2, h3⟩ | ⟨h1, h2⟩
      · have : exs (mis a S) a.nP = false := by
          cases hz : exs (mis a S) a.nP
          · rfl
          · obtain ⟨j, g1, g2⟩ := exs_iff.mp hz
            have g3 : hp a S j = true := by
              unfold mis at g2
              rw [Bool.and_eq_true] at g2
              exact g2.1
            rw [h3 j g1 g3 (ct_lt g1 g3)] at g2; cases g2
        unfold rp
        rw [h1, decide_eq_true h2, this]; rfl
      · rw [h1, h2]; rfl
    · intro n x k hk hx ih
      show f_X4_readsAsPage_24 (n + 1) x (nI k) s = _
      rw [f_X4_readsAsPage_24, e3, if_neg (nI_ge hk (by omega))]
      rcases hx with ⟨h1, h2, h3⟩ | ⟨h1, h2⟩
      · obtain ⟨i, g1, g2, g3⟩ := fb_ct_kth hk
        have hli := hI.line g1
        have hl := hI.lt hli
        have hr : tg_A s 35 k = nI (a.line i) := by rw [← g3]; exact e4 i g1 g2
        rw [h1, if_neg (by decide), pz_tal (by omega) (by omega), hr, pz_tal (by omega) (by omega), hs.lt hli, pz_tal (by omega) (by omega), hs.sign hl, pz_tal (by omega) (by omega), hs.page (by omega)]
        by_cases hq : a.sign (a.lt (a.line i)) = a.page k
        · rw [if_pos hq]
          simp only [tlet, nI_1]
          refine ih _ (Or.inl ⟨rfl, h2, fun j hj1 hj2 hj3 => ?_⟩)
          by_cases hjk : fb_ct (hp a S) j = k
          · have : j = i := fb_ct_kth_one hj2 g2 (hjk.trans g3.symm)
            subst this
            unfold mis
            rw [g3, decide_eq_true hq]; simp
          · exact h3 j hj1 hj2 (by omega)
        · rw [if_neg hq]
          simp only [tlet, nI_1]
          refine ih _ (Or.inr ⟨rfl, ?_⟩)
          have : exs (mis a S) a.nP = true := exs_iff.mpr ⟨i, g1, by unfold mis; rw [g2, g3, decide_eq_false hq]; rfl⟩
          unfold rp
          rw [this]; simp
      · rw [h1, h2, if_pos rfl]; rfl
  by_cases hc : fb_ct (hp a S) a.nP = a.pl
  · rw [if_pos (by rw [hc])]
    exact main 1 (Or.inl ⟨rfl, hc⟩)
  · rw [if_neg (by rw [pz_eq (by omega) (by omega)]; exact hc)]
    exact main 0 (Or.inr ⟨rfl, by unfold rp; rw [decide_eq_false hc]; rfl⟩)
/-! ===== found ===== -/
def cnt (x : Int32) : Nat := fb_ct (bt x) 12
def fdP (a : AB) (s : Nat) : Bool := decide (nI s &&& (mkT a 0 ^^^ (-1)) = 0) && rp a (mkT a 1 ||| nI s)
def fds (a : AB) : Nat → Int32 × Int32
  | 0 => (0, -1)
  | s + 1 => if fdP a s = true then ((fds a s).1 + 1, if (fds a s).2 = -1 ∨ ¬ cnt (fds a s).2 ≤ cnt (nI s) then nI s else (fds a s).2) else fds a s
theorem fds_best (a : AB) : ∀ s, s ≤ 4096 → (fds a s).2 = -1 ∨ ∃ t, t < 4096 ∧ (fds a s).2 = nI t
  | 0, _ => Or.inl rfl
  | s + 1, h => by
    rw [fds]
    by_cases hp : fdP a s = true
    · rw [if_pos hp]
      by_cases hc : (fds a s).2 = -1 ∨ ¬ cnt (fds a s).2 ≤ cnt (nI s)
      · rw [if_pos hc]
        exact Or.inr ⟨s, by omega, rfl⟩
      · rw [if_neg hc]
        exact fds_best a s (by omega)
    · rw [if_neg hp]
      exact fds_best a s (by omega)
theorem nI_small {s : Nat} (h : s < 4096) : ∀ i, 12 ≤ i → bt (nI s) i = false := by
  intro i hi
  by_cases h32 : i < 32
  · rw [bt_nI _ _ h32]
    exact Nat.testBit_lt_two_pow (Nat.lt_of_lt_of_le h (Nat.pow_le_pow_right (n := 2) (by omega) hi))
  · exact b_big (by omega)
theorem or_comm32 (x y : Int32) : x ||| y = y ||| x := b_ext (fun i _ => by rw [b_or, b_or, Bool.or_comm])
theorem mkT_nat {a : AB} (hI : Inv a) (s : Int32) : ∃ o, o < 2 ^ a.nC ∧ mkT a s = nI o := by
  have hC := hI.nC
  refine ⟨uI (mkT a s), ?_, ?_⟩
  · refine Nat.lt_pow_two_of_testBit _ (fun i hi => ?_)
    rw [← bt_uI]
    by_cases h : i < 32
    · rw [mkT, mk_bt _ _ (by omega) i h, decide_eq_false (by omega)]; rfl
    · exact b_big (by omega)
  · refine b_ext (fun i hi => ?_)
    rw [bt_nI _ _ hi, bt_uI]
theorem sub_le {a : AB} {o s : Nat} (ho : mkT a 0 = nI o) (ho2 : o < 4096) (hs : s < 4096) (h : fdP a s = true) : s ≤ o := by
  unfold fdP at h
  rw [Bool.and_eq_true, decide_eq_true_eq, b_zero] at h
  have h1 : s &&& o = s := by
    refine Nat.eq_of_testBit_eq (fun i => ?_)
    rw [Nat.testBit_and]
    by_cases h32 : i < 32
    · have h2 := h.1 i h32
      rw [b_and, b_not h32, ho, bt_nI _ _ h32, bt_nI _ _ h32] at h2
      cases hq : s.testBit i
      · rfl
      · rw [hq] at h2
        simp at h2
        rw [h2]; rfl
    · have : s.testBit i = false := Nat.testBit_lt_two_pow (Nat.lt_of_lt_of_le hs (show 4096 ≤ 2 ^ i from Nat.pow_le_pow_right (n := 2) (i := 12) (by omega) (by omega)))
      rw [this]; rfl
  rw [← h1]
  exact Nat.and_le_right
theorem fds_more {a : AB} {o : Nat} (ho : mkT a 0 = nI o) (ho2 : o < 4096) : ∀ k, o + 1 + k ≤ 4096 → fds a (o + 1 + k) = fds a (o + 1)
  | 0, _ => rfl
  | k + 1, h => by
    rw [show o + 1 + (k + 1) = (o + 1 + k) + 1 by omega, fds, if_neg (fun e => by have := sub_le ho ho2 (by omega) e; omega)]
    exact fds_more ho ho2 k (by omega)
theorem p2_le {a : AB} (hI : Inv a) : 2 ^ a.nC ≤ 4096 := Nat.pow_le_pow_right (n := 2) (j := 12) (by omega) hI.nC
def fdv (a : AB) : Int32 × Int32 := fds a (2 ^ a.nC)
theorem x_seekPage {a : AB} {st : tST} (h : XR a st) (hI : Inv a) : ∃ st', f_X3_seekPage st = some st' ∧ tFr [2, 3] [] [] st st' ∧ tg_I st' 2 = (fdv a).1 ∧ tg_I st' 3 = (fdv a).2 := by
  have h2 := p2_le hI
  obtain ⟨o, ho1, ho⟩ := mkT_nat hI 0
  unfold f_X3_seekPage
  rw [x_inStatus h hI, pz_bs, x_inStatus h hI, pz_bs]
  simp only [tlet]
  have fin : fds a (o + 1) = fdv a := by
    unfold fdv
    rw [show 2 ^ a.nC = o + 1 + (2 ^ a.nC - o - 1) by omega]
    exact (fds_more ho (by omega) _ (by omega)).symm
  refine lp_q (F := fun n (x : tST) i => f_X3_seekPage_30 n (mkT a 1) (mkT a 0) i x) (J := fun s x => tFr [2, 3] [] [] st x ∧ tg_I x 2 = (fds a s).1 ∧ tg_I x 3 = (fds a s).2) (N := o + 1) (Q := fun q => ∃ st', q = some st' ∧ tFr [2, 3] [] [] st st' ∧ tg_I st' 2 = (fdv a).1 ∧ tg_I st' 3 = (fdv a).2) ?_ ?_ 0 tfu (tp_I (tp_I st 2 0) 3 (-1)) (Nat.zero_le _) (tfu_gt (by omega)) ⟨(tFr.putI (by decide)).tr (tFr.putI (by decide)), rfl, rfl⟩
  · intro n x ⟨h1, g2, g3⟩
    refine ⟨x, ?_, h1, by rw [g2, fin], by rw [g3, fin]⟩
    show f_X3_seekPage_30 (n + 1) (mkT a 1) (mkT a 0) (nI (o + 1)) x = _
    rw [f_X3_seekPage_30, ho, if_pos (nI_lt (by omega) (by omega))]
  · intro n x s hs ⟨h1, g2, g3⟩ ih
    show ∃ st', f_X3_seekPage_30 (n + 1) (mkT a 1) (mkT a 0) (nI s) x = _ ∧ _
    have hx := h.sc h1.sc
    rw [f_X3_seekPage_30, if_neg (by rw [ho]; exact nI_nlt (by omega) (by omega)), x_readsAsPage hx hI, pz_bs]
    simp only [tlet, nI_1]
    have no : ¬ fdP a s = true → ∃ st', f_X3_seekPage_30 n (mkT a 1) (mkT a 0) (nI (s + 1)) x = some st' ∧ tFr [2, 3] [] [] st st' ∧ tg_I st' 2 = (fdv a).1 ∧ tg_I st' 3 = (fdv a).2 := fun e => ih x ⟨h1, by rw [fds, if_neg e]; exact g2, by rw [fds, if_neg e]; exact g3⟩
    by_cases hsub : nI s &&& (mkT a 0 ^^^ (-1)) = 0
    · rw [if_pos hsub]
      cases hr : rp a (mkT a 1 ||| nI s)
      · rw [if_pos (by decide)]
        exact no (by unfold fdP; rw [hr]; simp)
      · rw [if_neg (by decide)]
        have hf : fdP a s = true := by unfold fdP; rw [hr, decide_eq_true hsub]; rfl
        rw [show tg_I (tp_I x 2 (tg_I x 2 + 1)) 3 = (fds a s).2 from g3]
        have yes : ∀ y : tST, tFr [2, 3] [] [] x y → tg_I y 2 = (fds a s).1 + 1 → tg_I y 3 = (if (fds a s).2 = -1 ∨ ¬ cnt (fds a s).2 ≤ cnt (nI s) then nI s else (fds a s).2) → ∃ st', f_X3_seekPage_30 n (mkT a 1) (mkT a 0) (nI (s + 1)) y = some st' ∧ tFr [2, 3] [] [] st st' ∧ tg_I st' 2 = (fdv a).1 ∧ tg_I st' 3 = (fdv a).2 := fun y k1 k2 k3 => ih y ⟨h1.tr k1, by rw [fds, if_pos hf]; exact k2, by rw [fds, if_pos hf]; exact k3⟩
        have e2 : tg_I (tp_I x 2 (tg_I x 2 + 1)) 2 = (fds a s).1 + 1 := by rw [st_II, if_pos rfl, g2]
        by_cases hb : (fds a s).2 = -1
        · rw [if_pos hb]
          refine yes _ ((tFr.putI (by decide)).tr (tFr.putI (by decide))) ?_ ?_
          · rw [st_II, if_neg (by decide)]; exact e2
          · rw [st_II, if_pos rfl, if_pos (Or.inl hb)]
        · rw [if_neg hb]
          obtain ⟨t, ht, hte⟩ := (fds_best a s (by omega)).resolve_left hb
          have c1 := fb_ct_le (bt (nI s)) 12
          have c2 := fb_ct_le (bt (fds a s).2) 12
          rw [j6_count (nI_small (by omega)), pz_bs, j6_count (by rw [hte]; exact nI_small ht), pz_bs]
          have ec : (nI (fb_ct (bt (fds a s).2) 12) ≤ nI (fb_ct (bt (nI s)) 12)) = (cnt (fds a s).2 ≤ cnt (nI s)) := pz_le (by omega) (by omega)
          rw [ite_p ec]
          by_cases hle : cnt (fds a s).2 ≤ cnt (nI s)
          · rw [if_pos hle]
            refine yes _ (tFr.putI (by decide)) e2 ?_
            rw [st_II, if_neg (by decide), g3, if_neg (by intro e; exact e.elim hb (fun e => e hle))]
          · rw [if_neg hle]
            refine yes _ ((tFr.putI (by decide)).tr (tFr.putI (by decide))) ?_ ?_
            · rw [st_II, if_neg (by decide)]; exact e2
            · rw [st_II, if_pos rfl, if_pos (Or.inr hle)]
    · rw [if_neg hsub]
      exact no (by unfold fdP; rw [decide_eq_false hsub]; simp)
theorem p2_shl : ∀ n, n < 13 → (1 : Int32) <<< (nI n &&& 31) = nI (2 ^ n) := by decide +kernel
theorem m_layFound {a : AB} {st : tST} (h : MR a st) (hI : Inv a) : ∃ st', f_X4_layFound st = some st' ∧ tFr [121, 129, 130] [] [35, 36] st st' ∧ tg_I st' 129 = (fdv a).1 ∧ tg_I st' 130 = (fdv a).2 := by
  have h2 := p2_le hI
  have hC := hI.nC
  unfold f_X4_layFound
  rw [m_inState h hI, pz_bs, m_inState h hI, pz_bs]
  simp only [tlet]
  refine lp_q (F := fun n (x : tST) i => f_X4_layFound_24 n (mkT a 0) (mkT a 1) i x) (J := fun s x => tFr [121, 129, 130] [] [35, 36] st x ∧ tg_I x 129 = (fds a s).1 ∧ tg_I x 130 = (fds a s).2) (N := 2 ^ a.nC) (Q := fun q => ∃ st', q = some st' ∧ tFr [121, 129, 130] [] [35, 36] st st' ∧ tg_I st' 129 = (fdv a).1 ∧ tg_I st' 130 = (fdv a).2) ?_ ?_ 0 tfu (tp_I (tp_I st 129 0) 130 (-1)) (Nat.zero_le _) (tfu_gt (by omega)) ⟨(tFr.putI (by decide)).tr (tFr.putI (by decide)), rfl, rfl⟩
  · intro n x ⟨h1, g2, g3⟩
    refine ⟨x, ?_, h1, g2, g3⟩
    show f_X4_layFound_24 (n + 1) (mkT a 0) (mkT a 1) (nI (2 ^ a.nC)) x = _
    rw [f_X4_layFound_24, h1.1 107 (by decide), h.nC, p2_shl _ (by omega), if_pos (nI_le (Nat.le_refl _) (by omega))]
  · intro n x s hs ⟨h1, g2, g3⟩ ih
    show ∃ st', f_X4_layFound_24 (n + 1) (mkT a 0) (mkT a 1) (nI s) x = _ ∧ _
    have hx := h.sc h1.sc
    obtain ⟨y, e1, e2⟩ := m_readsAsPage hx hI (nI s ||| mkT a 1)
    rw [f_X4_layFound_24, hx.nC, p2_shl _ (by omega), if_neg (nI_ge hs (by omega)), e1, pz_bd, or_comm32 (nI s)]
    simp only [tlet, nI_1]
    have e2' : tFr [121, 129, 130] [] [35, 36] x y := e2.mono (by decide) (by decide) (by decide)
    have y129 : tg_I y 129 = (fds a s).1 := (e2.1 129 (by decide)).trans g2
    have y130 : tg_I y 130 = (fds a s).2 := (e2.1 130 (by decide)).trans g3
    have no : ∀ z : tST, tFr [121, 129, 130] [] [35, 36] x z → tg_I z 129 = (fds a s).1 → tg_I z 130 = (fds a s).2 → ¬ fdP a s = true → ∃ st', f_X4_layFound_24 n (mkT a 0) (mkT a 1) (nI (s + 1)) z = some st' ∧ tFr [121, 129, 130] [] [35, 36] st st' ∧ tg_I st' 129 = (fdv a).1 ∧ tg_I st' 130 = (fdv a).2 := fun z k1 k2 k3 e => ih z ⟨h1.tr k1, by rw [fds, if_neg e]; exact k2, by rw [fds, if_neg e]; exact k3⟩
    by_cases hsub : nI s &&& (mkT a 0 ^^^ (-1)) = 0
    · rw [if_pos hsub]
      cases hr : rp a (mkT a 1 ||| nI s)
      · rw [if_pos (by decide)]
        exact no y e2' y129 y130 (by unfold fdP; rw [hr]; simp)
      · rw [if_neg (by decide)]
        have hf : fdP a s = true := by unfold fdP; rw [hr, decide_eq_true hsub]; rfl
        rw [show tg_I (tp_I y 129 (tg_I y 129 + 1)) 130 = (fds a s).2 from y130]
        have yes : ∀ z : tST, tFr [121, 129, 130] [] [35, 36] y z → tg_I z 129 = (fds a s).1 + 1 → tg_I z 130 = (if (fds a s).2 = -1 ∨ ¬ cnt (fds a s).2 ≤ cnt (nI s) then nI s else (fds a s).2) → ∃ st', f_X4_layFound_24 n (mkT a 0) (mkT a 1) (nI (s + 1)) z = some st' ∧ tFr [121, 129, 130] [] [35, 36] st st' ∧ tg_I st' 129 = (fdv a).1 ∧ tg_I st' 130 = (fdv a).2 := fun z k1 k2 k3 => ih z ⟨h1.tr (e2'.tr k1), by rw [fds, if_pos hf]; exact k2, by rw [fds, if_pos hf]; exact k3⟩
        have e3 : tg_I (tp_I y 129 (tg_I y 129 + 1)) 129 = (fds a s).1 + 1 := by rw [st_II, if_pos rfl, y129]
        by_cases hb : (fds a s).2 = -1
        · rw [if_pos hb]
          refine yes _ ((tFr.putI (by decide)).tr (tFr.putI (by decide))) ?_ ?_
          · rw [st_II, if_neg (by decide)]; exact e3
          · rw [st_II, if_pos rfl, if_pos (Or.inl hb)]
        · rw [if_neg hb]
          have c1 := fb_ct_le (bt (nI s)) 12
          have c2 := fb_ct_le (bt (fds a s).2) 12
          rw [m_ones, pz_bs, m_ones, pz_bs]
          have ec : (nI (fb_ct (bt (fds a s).2) 12) ≤ nI (fb_ct (bt (nI s)) 12)) = (cnt (fds a s).2 ≤ cnt (nI s)) := pz_le (by omega) (by omega)
          rw [ite_p ec]
          by_cases hle : cnt (fds a s).2 ≤ cnt (nI s)
          · rw [if_pos hle]
            refine yes _ ((tFr.putI (by decide)).tr (tFr.putI (by decide))) ?_ ?_
            · rw [st_II, if_neg (by decide)]; exact e3
            · rw [st_II, if_pos rfl, if_neg (by intro e; exact e.elim hb (fun e => e hle))]
          · rw [if_neg hle]
            refine yes _ ((tFr.putI (by decide)).tr (tFr.putI (by decide))) ?_ ?_
            · rw [st_II, if_neg (by decide)]; exact e3
            · rw [st_II, if_pos rfl, if_pos (Or.inr hle)]
    · rw [if_neg hsub]
      exact no x tFr.rf g2 g3 (by unfold fdP; rw [decide_eq_false hsub]; simp)
