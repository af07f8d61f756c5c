/-! ===== the digest ===== -/
def wi (h : Int64) (x : Int32) : Int64 := ((31 : Int64) * h) + x.toInt64
def fo (f : Nat → Int32) : Nat → Int64 → Int64
  | 0, h => h
  | n + 1, h => wi (fo f n h) (f n)
def fp (F : Nat → Int64 → Int64) : Nat → Int64 → Int64
  | 0, h => h
  | n + 1, h => F n (fp F n h)
theorem fo_block (g : Nat → Nat → Int32) {m : Nat} (hm : 0 < m) (h : Int64) : ∀ n, fo (fun k => g (k / m) (k % m)) (m * n) h = fp (fun i h => fo (g i) m h) n h := by
  have part : ∀ n j, j ≤ m → fo (fun k => g (k / m) (k % m)) (m * n + j) h = fo (g n) j (fo (fun k => g (k / m) (k % m)) (m * n) h) := by
    intro n j
    induction j with
    | zero => intro _; rfl
    | succ j ih =>
      intro hj
      rw [show m * n + (j + 1) = (m * n + j) + 1 by omega, fo, ih (by omega), fo]
      congr 2
      · rw [Nat.mul_add_div hm, Nat.div_eq_of_lt (by omega), Nat.add_zero]
      · rw [Nat.mul_add_mod, Nat.mod_eq_of_lt (by omega)]
  intro n
  induction n with
  | zero => rfl
  | succ n ih => rw [show m * (n + 1) = m * n + m by rw [Nat.mul_succ], part n m (Nat.le_refl _), ih, fp]
theorem x_with (h : Int64) (x : Int32) : f_X3_with h x = some (wi h x) := rfl
theorem m_mix (x : Int32) (st : tST) : f_X4_mix x.toInt64 st = some (tp_L st 1 (wi (tg_L st 1) x)) := rfl
/-- the position of the j-th that reads -/
def kp (a : AB) (S : Int32) (j : Nat) : Nat := (lst (fun i => hp a S i && decide (fb_ct (hp a S) i = j)) a.nP).getD 0
theorem kp_ok {a : AB} {S : Int32} {j : Nat} (hj : j < fb_ct (hp a S) a.nP) : kp a S j < a.nP ∧ hp a S (kp a S j) = true ∧ fb_ct (hp a S) (kp a S j) = j := by
  obtain ⟨i, h1, h2, h3⟩ := fb_ct_kth hj
  have : lst (fun i => hp a S i && decide (fb_ct (hp a S) i = j)) a.nP = some i := lst_of_some h1 (by rw [h2, decide_eq_true h3]; rfl) (fun k hk => by
    cases hz : (hp a S k && decide (fb_ct (hp a S) k = j))
    · rfl
    · simp only [Bool.and_eq_true, decide_eq_true_eq] at hz
      have := fb_ct_kth_one hz.1 h2 (hz.2.trans h3.symm)
      omega)
  unfold kp
  rw [this]
  exact ⟨h1, h2, h3⟩
def vwd (a : AB) (S : Int32) (h : Int64) : Int64 := fp (fun j h => fo (fun w => lfv a (kp a S j) (nI w)) 6 h) (fb_ct (hp a S) a.nP) (wi h (nI (fb_ct (hp a S) a.nP)))
theorem x_withView {a : AB} {st : tST} (h : XR a st) (hI : Inv a) (h0 : Int64) {v : Int32} (hv : 0 ≤ v) : ∃ st', f_X3_withView h0 v st = some (vwd a (mkV a v) h0, st') ∧ tFr [] [] [18] st st' := by
  have hP := hI.nP
  obtain ⟨s, e1, e2, e3⟩ := x_lineUp h hI (mkV a v)
  have hs := h.sc e2.sc
  have hle := fb_ct_le (hp a (mkV a v)) a.nP
  refine ⟨s, ?_, e2⟩
  unfold f_X3_withView
  rw [x_setOf h hI hv, pz_bs, e1, pz_bd, x_with, pz_bs]
  refine lp_q (F := fun n (x : Int64) i => f_X3_withView_22 n (nI (fb_ct (hp a (mkV a v)) a.nP)) x i s) (J := fun j x => x = fp (fun j h => fo (fun w => lfv a (kp a (mkV a v) j) (nI w)) 6 h) j (wi h0 (nI (fb_ct (hp a (mkV a v)) a.nP)))) (N := fb_ct (hp a (mkV a v)) a.nP) (Q := fun o => o = some (vwd a (mkV a v) h0, s)) ?_ ?_ 0 tfu _ (Nat.zero_le _) (tfu_gt (by omega)) rfl
  · intro n x hx
    show f_X3_withView_22 (n + 1) (nI (fb_ct (hp a (mkV a v)) a.nP)) x (nI (fb_ct (hp a (mkV a v)) a.nP)) s = _
    rw [f_X3_withView_22, if_pos (nI_le (Nat.le_refl _) (by omega)), hx]; rfl
  · intro n x j hj hx ih
    show f_X3_withView_22 (n + 1) (nI (fb_ct (hp a (mkV a v)) a.nP)) x (nI j) s = _
    rw [f_X3_withView_22, if_neg (nI_ge hj (by omega))]
    obtain ⟨k1, k2, k3⟩ := kp_ok hj
    have hr : tg_A s 18 j = nI (kp a (mkV a v) j) := by rw [← k3]; rw [k3]; have := e3 _ k1 k2; rw [k3] at this; exact this
    have inner : f_X3_withView_32 (f_X3_withView_22 n) tfu (nI (fb_ct (hp a (mkV a v)) a.nP)) x (nI j) 0 s = f_X3_withView_22 n (nI (fb_ct (hp a (mkV a v)) a.nP)) (fo (fun w => lfv a (kp a (mkV a v) j) (nI w)) 6 x) (nI (j + 1)) s := by
      refine lp_q (F := fun m (y : Int64) i => f_X3_withView_32 (f_X3_withView_22 n) m (nI (fb_ct (hp a (mkV a v)) a.nP)) y (nI j) i s) (J := fun w y => y = fo (fun w => lfv a (kp a (mkV a v) j) (nI w)) w x) (N := 6) (Q := fun o => o = f_X3_withView_22 n (nI (fb_ct (hp a (mkV a v)) a.nP)) (fo (fun w => lfv a (kp a (mkV a v) j) (nI w)) 6 x) (nI (j + 1)) s) ?_ ?_ 0 tfu x (Nat.zero_le _) (tfu_gt (by omega)) rfl
      · intro m y hy
        show f_X3_withView_32 (f_X3_withView_22 n) (m + 1) (nI (fb_ct (hp a (mkV a v)) a.nP)) y (nI j) (nI 6) s = _
        rw [f_X3_withView_32, if_pos (show (6 : Int32) ≤ nI 6 from nI_le (a := 6) (b := 6) (by omega) (by omega)), hy]
        simp only [tlet, nI_1]
      · intro m y w hw hy ihy
        show f_X3_withView_32 (f_X3_withView_22 n) (m + 1) (nI (fb_ct (hp a (mkV a v)) a.nP)) y (nI j) (nI w) s = _
        rw [f_X3_withView_32, if_neg (show ¬ (6 : Int32) ≤ nI w from nI_ge (a := w) (b := 6) hw (by omega)), pz_tal (by omega) (by omega), hr, x_letterFact hs hI k1, pz_bs, x_with, pz_bs]
        simp only [tlet, nI_1]
        exact ihy _ (by rw [fo, hy])
    rw [inner]
    exact ih _ (by rw [fp, hx])
theorem m_mixView {a : AB} {st : tST} (h : MR a st) (hI : Inv a) (v : Int32) : ∃ st', f_X4_mixView v st = some st' ∧ tFr [121] [1] [35, 36] st st' ∧ tg_L st' 1 = vwd a (mkV a v) (tg_L st 1) := by
  have hP := hI.nP
  have hL := hI.nL
  have hcnt := hp_count hI (mkV a v)
  obtain ⟨s, e1, e2, e3, e4⟩ := m_layRead h hI (mkV a v)
  have hs := h.sc e2.sc
  unfold f_X4_mixView f_X4_lengthOf
  rw [m_setOf h hI, pz_bs, e1, pz_bs, pz_bd, e3, m_mix, pz_bs]
  have hL1 : tg_L s 1 = tg_L st 1 := e2.2.1 1 (by decide)
  have e2' : tFr [121] [1] [35, 36] st s := e2.mono (by decide) (by decide) (by decide)
  rw [hL1]
  obtain ⟨s2, hs2⟩ : ∃ s2, s2 = tp_L s 1 (wi (tg_L st 1) (nI (fb_ct (hp a (mkV a v)) a.nP))) := ⟨_, rfl⟩
  have f2 : tFr [121] [1] [35, 36] s s2 := by rw [hs2]; exact tFr.putL (by decide)
  have l2 : tg_L s2 1 = wi (tg_L st 1) (nI (fb_ct (hp a (mkV a v)) a.nP)) := by rw [hs2]; rfl
  have r2 : tg_I s2 121 = nI (fb_ct (hp a (mkV a v)) a.nP) := by rw [hs2]; exact e3
  have a2 : tg_A s2 35 = tg_A s 35 := by rw [hs2]; rfl
  rw [← hs2]
  refine lp_q (F := fun n (x : tST) i => f_X4_mixView_12 n i x) (J := fun j x => tFr [] [1] [] s2 x ∧ tg_L x 1 = fp (fun j h => fo (fun w => lfv a (kp a (mkV a v) j) (nI w)) 6 h) j (wi (tg_L st 1) (nI (fb_ct (hp a (mkV a v)) a.nP)))) (N := fb_ct (hp a (mkV a v)) a.nP) (Q := fun o => ∃ st', o = some st' ∧ tFr [121] [1] [35, 36] st st' ∧ tg_L st' 1 = vwd a (mkV a v) (tg_L st 1)) ?_ ?_ 0 tfu s2 (Nat.zero_le _) (tfu_gt (by omega)) ⟨tFr.rf, l2⟩
  · intro n x ⟨hx, hl⟩
    refine ⟨x, ?_, e2'.tr (f2.tr (hx.mono (by decide) (by decide) (by decide))), hl⟩
    show f_X4_mixView_12 (n + 1) (nI (fb_ct (hp a (mkV a v)) a.nP)) x = _
    rw [f_X4_mixView_12, hx.1 121 (by decide), r2, if_pos (nI_le (Nat.le_refl _) (by omega))]
  · intro n x j hj ⟨hx, hl⟩ ih
    show ∃ st', f_X4_mixView_12 (n + 1) (nI j) x = _ ∧ _
    rw [f_X4_mixView_12, hx.1 121 (by decide), r2, if_neg (nI_ge hj (by omega))]
    obtain ⟨k1, k2, k3⟩ := kp_ok hj
    have hr : tg_A s2 35 j = nI (a.line (kp a (mkV a v) j)) := by rw [a2]; have := e4 _ k1 k2; rw [k3] at this; exact this
    have hms2 := hs.sc f2.sc
    have inner : ∃ y, f_X4_mixView_22 (f_X4_mixView_12 n) tfu (nI j) 0 x = f_X4_mixView_12 n (nI (j + 1)) y ∧ tFr [] [1] [] s2 y ∧ tg_L y 1 = fo (fun w => lfv a (kp a (mkV a v) j) (nI w)) 6 (tg_L x 1) := by
      refine lp_q (F := fun m (y : tST) i => f_X4_mixView_22 (f_X4_mixView_12 n) m (nI j) i y) (J := fun w y => tFr [] [1] [] s2 y ∧ tg_L y 1 = fo (fun w => lfv a (kp a (mkV a v) j) (nI w)) w (tg_L x 1)) (N := 6) (Q := fun o => ∃ y, o = f_X4_mixView_12 n (nI (j + 1)) y ∧ tFr [] [1] [] s2 y ∧ tg_L y 1 = fo (fun w => lfv a (kp a (mkV a v) j) (nI w)) 6 (tg_L x 1)) ?_ ?_ 0 tfu x (Nat.zero_le _) (tfu_gt (by omega)) ⟨hx, rfl⟩
      · intro m y ⟨hy, hly⟩
        refine ⟨y, ?_, hy, hly⟩
        show f_X4_mixView_22 (f_X4_mixView_12 n) (m + 1) (nI j) (nI 6) y = _
        rw [f_X4_mixView_22, if_pos (show (6 : Int32) ≤ nI 6 from nI_le (a := 6) (b := 6) (by omega) (by omega))]
        simp only [tlet, nI_1]
      · intro m y w hw ⟨hy, hly⟩ ihy
        show ∃ z, f_X4_mixView_22 (f_X4_mixView_12 n) (m + 1) (nI j) (nI w) y = _ ∧ _
        rw [f_X4_mixView_22, if_neg (show ¬ (6 : Int32) ≤ nI w from nI_ge (a := w) (b := 6) hw (by omega)), hy.2.2.1 35 (by decide), pz_tal (by omega) (by omega), hr, m_readNow (hms2.sc hy.sc) hI k1, pz_bs, m_mix, pz_bs]
        simp only [tlet, nI_1]
        exact ihy _ ⟨hy.tr (tFr.putL (by decide)), by rw [fo, st_LL, if_pos rfl, hly]⟩
    obtain ⟨y, i1, i2, i3⟩ := inner
    rw [i1]
    exact ih y ⟨i2, by rw [i3, hl, fp]⟩
def pld (a : AB) (h : Int64) : Int64 := fp (fun i h => fo (fun w => pfv a i (nI w)) 4 h) a.nP h
def chd (a : AB) (h : Int64) : Int64 := fp (fun c h => fo (fun w => cfv a c (nI w)) 7 h) a.nC h
theorem x_withPlaces {a : AB} {st : tST} (h : XR a st) (hI : Inv a) (h0 : Int64) : f_X3_withPlaces h0 st = some (pld a h0) := by
  have hP := hI.nP
  unfold f_X3_withPlaces
  refine lp_q (F := fun n (x : Int64) i => f_X3_withPlaces_5 st n x i) (J := fun j x => x = fp (fun i h => fo (fun w => pfv a i (nI w)) 4 h) j h0) (N := a.nP) (Q := fun o => o = some (pld a h0)) ?_ ?_ 0 tfu h0 (Nat.zero_le _) (tfu_gt (by omega)) rfl
  · intro n x hx
    show f_X3_withPlaces_5 st (n + 1) x (nI a.nP) = _
    rw [f_X3_withPlaces_5, h.nP, if_pos (nI_le (Nat.le_refl _) (by omega)), hx]; rfl
  · intro n x j hj hx ih
    show f_X3_withPlaces_5 st (n + 1) x (nI j) = _
    rw [f_X3_withPlaces_5, h.nP, if_neg (nI_ge hj (by omega))]
    have inner : f_X3_withPlaces_20 st (f_X3_withPlaces_5 st n) tfu x (nI j) 0 = f_X3_withPlaces_5 st n (fo (fun w => pfv a j (nI w)) 4 x) (nI (j + 1)) := by
      refine lp_q (F := fun m (y : Int64) i => f_X3_withPlaces_20 st (f_X3_withPlaces_5 st n) m y (nI j) i) (J := fun w y => y = fo (fun w => pfv a j (nI w)) w x) (N := 4) (Q := fun o => o = f_X3_withPlaces_5 st n (fo (fun w => pfv a j (nI w)) 4 x) (nI (j + 1))) ?_ ?_ 0 tfu x (Nat.zero_le _) (tfu_gt (by omega)) rfl
      · intro m y hy
        show f_X3_withPlaces_20 st (f_X3_withPlaces_5 st n) (m + 1) y (nI j) (nI 4) = _
        rw [f_X3_withPlaces_20, if_pos (show (4 : Int32) ≤ nI 4 from nI_le (a := 4) (b := 4) (by omega) (by omega)), hy]
        simp only [tlet, nI_1]
      · intro m y w hw hy ihy
        show f_X3_withPlaces_20 st (f_X3_withPlaces_5 st n) (m + 1) y (nI j) (nI w) = _
        rw [f_X3_withPlaces_20, if_neg (show ¬ (4 : Int32) ≤ nI w from nI_ge (a := w) (b := 4) hw (by omega)), x_placeFact h hI hj, pz_bs, x_with, pz_bs]
        simp only [tlet, nI_1]
        exact ihy _ (by rw [fo, hy])
    rw [inner]
    exact ih _ (by rw [fp, hx])
theorem x_withChanges {a : AB} {st : tST} (h : XR a st) (hI : Inv a) (h0 : Int64) : f_X3_withChanges h0 st = some (chd a h0) := by
  have hP := hI.nC
  unfold f_X3_withChanges
  refine lp_q (F := fun n (x : Int64) i => f_X3_withChanges_5 st n x i) (J := fun j x => x = fp (fun i h => fo (fun w => cfv a i (nI w)) 7 h) j h0) (N := a.nC) (Q := fun o => o = some (chd a h0)) ?_ ?_ 0 tfu h0 (Nat.zero_le _) (tfu_gt (by omega)) rfl
  · intro n x hx
    show f_X3_withChanges_5 st (n + 1) x (nI a.nC) = _
    rw [f_X3_withChanges_5, h.nC, if_pos (nI_le (Nat.le_refl _) (by omega)), hx]; rfl
  · intro n x j hj hx ih
    show f_X3_withChanges_5 st (n + 1) x (nI j) = _
    rw [f_X3_withChanges_5, h.nC, if_neg (nI_ge hj (by omega))]
    have inner : f_X3_withChanges_20 st (f_X3_withChanges_5 st n) tfu x (nI j) 0 = f_X3_withChanges_5 st n (fo (fun w => cfv a j (nI w)) 7 x) (nI (j + 1)) := by
      refine lp_q (F := fun m (y : Int64) i => f_X3_withChanges_20 st (f_X3_withChanges_5 st n) m y (nI j) i) (J := fun w y => y = fo (fun w => cfv a j (nI w)) w x) (N := 7) (Q := fun o => o = f_X3_withChanges_5 st n (fo (fun w => cfv a j (nI w)) 7 x) (nI (j + 1))) ?_ ?_ 0 tfu x (Nat.zero_le _) (tfu_gt (by omega)) rfl
      · intro m y hy
        show f_X3_withChanges_20 st (f_X3_withChanges_5 st n) (m + 1) y (nI j) (nI 7) = _
        rw [f_X3_withChanges_20, if_pos (show (7 : Int32) ≤ nI 7 from nI_le (a := 7) (b := 7) (by omega) (by omega)), hy]
        simp only [tlet, nI_1]
      · intro m y w hw hy ihy
        show f_X3_withChanges_20 st (f_X3_withChanges_5 st n) (m + 1) y (nI j) (nI w) = _
        rw [f_X3_withChanges_20, if_neg (show ¬ (7 : Int32) ≤ nI w from nI_ge (a := w) (b := 7) hw (by omega)), x_changeFact h hI hj, pz_bs, x_with, pz_bs]
        simp only [tlet, nI_1]
        exact ihy _ (by rw [fo, hy])
    rw [inner]
    exact ih _ (by rw [fp, hx])
def sp3 (s : SP) (k : Nat) (h : Int64) : Int64 := wi (wi (wi h (s.2.1 k)) (s.2.2.1 k)) (s.2.2.2 k)
def spd (a : AB) (h : Int64) : Int64 := fp (sp3 (sps a a.nP)) (sps a a.nP).1 (wi h (nI (sps a a.nP).1))
theorem x_factOf {st : tST} {s : SP} (h : SpX st s) (hs : s.1 ≤ 90) {k : Nat} (hk : k < s.1) (w : Int32) : f_X2_factOf (nI k) w st = some (if w = 1 then s.2.1 k else if w = 2 then s.2.2.1 k else s.2.2.2 k) := by
  obtain ⟨h1, h2, h3⟩ := h.2 k hk
  unfold f_X2_factOf
  simp only [pz_tal (show k < 90 by omega) (show 90 < 2 ^ 31 by omega), h1, h2, h3]
  repeat' split
  all_goals rfl
theorem x_withSpans {a : AB} {st : tST} (h : XR a st) (hI : Inv a) (h0 : Int64) : ∃ st', f_X3_withSpans h0 st = some (spd a h0, st') ∧ tFr [8] [] [15, 16, 17] st st' := by
  have hP := hI.nP
  obtain ⟨s, e1, e2, e3⟩ := x_cutSpans h hI
  have hle := sps_le a a.nP
  refine ⟨s, ?_, e2⟩
  unfold f_X3_withSpans
  rw [e1, pz_bs, e3.1, x_with, pz_bs]
  refine lp_q (F := fun n (x : Int64) i => f_X3_withSpans_19 n x i s) (J := fun j x => x = fp (sp3 (sps a a.nP)) j (wi h0 (nI (sps a a.nP).1))) (N := (sps a a.nP).1) (Q := fun o => o = some (spd a h0, s)) ?_ ?_ 0 tfu _ (Nat.zero_le _) (tfu_gt (by omega)) rfl
  · intro n x hx
    show f_X3_withSpans_19 (n + 1) x (nI (sps a a.nP).1) s = _
    rw [f_X3_withSpans_19, e3.1, if_pos (nI_le (Nat.le_refl _) (by omega)), hx]; rfl
  · intro n x j hj hx ih
    show f_X3_withSpans_19 (n + 1) x (nI j) s = _
    rw [f_X3_withSpans_19, e3.1, if_neg (nI_ge hj (by omega))]
    have step : ∀ m y (w : Nat), w < 4 → f_X3_withSpans_34 (f_X3_withSpans_19 n) (m + 1) y (nI j) (nI w) s = f_X3_withSpans_34 (f_X3_withSpans_19 n) m (wi y (if (nI w : Int32) = 1 then (sps a a.nP).2.1 j else if (nI w : Int32) = 2 then (sps a a.nP).2.2.1 j else (sps a a.nP).2.2.2 j)) (nI j) (nI (w + 1)) s := by
      intro m y w hw
      rw [f_X3_withSpans_34, if_neg (show ¬ (4 : Int32) ≤ nI w from nI_ge (a := w) (b := 4) hw (by omega)), x_factOf e3 (by omega) hj, pz_bs, x_with, pz_bs]
      simp only [tlet, nI_1]
    have inner : f_X3_withSpans_34 (f_X3_withSpans_19 n) tfu x (nI j) 1 s = f_X3_withSpans_19 n (sp3 (sps a a.nP) j x) (nI (j + 1)) s := by
      rw [show tfu = 4996 + 1 + 1 + 1 + 1 from rfl, show (1 : Int32) = nI 1 from rfl, step _ _ 1 (by omega), step _ _ 2 (by omega), step _ _ 3 (by omega), f_X3_withSpans_34, if_pos (show (4 : Int32) ≤ nI (3 + 1) from nI_le (a := 4) (b := 4) (by omega) (by omega))]
      simp only [tlet, nI_1]
      rfl
    rw [inner]
    exact ih _ (by rw [fp, hx])
theorem m_mixSpans {a : AB} {st : tST} (h : MR a st) (hI : Inv a) : ∃ st', f_X4_mixSpans st = some st' ∧ tFr [125] [1] [38, 39, 40] st st' ∧ tg_L st' 1 = spd a (tg_L st 1) := by
  have hP := hI.nP
  obtain ⟨s, e1, e2, e3⟩ := m_laySpans h hI
  have hle := sps_le a a.nP
  have hL1 : tg_L s 1 = tg_L st 1 := e2.2.1 1 (by decide)
  unfold f_X4_mixSpans
  rw [e1, pz_bs, e3.1, m_mix, pz_bs, hL1]
  obtain ⟨s2, hs2⟩ : ∃ s2, s2 = tp_L s 1 (wi (tg_L st 1) (nI (sps a a.nP).1)) := ⟨_, rfl⟩
  have f2 : tFr [125] [1] [38, 39, 40] st s2 := by rw [hs2]; exact (e2.mono (by decide) (by decide) (by decide)).tr (tFr.putL (by decide))
  have l2 : tg_L s2 1 = wi (tg_L st 1) (nI (sps a a.nP).1) := by rw [hs2]; rfl
  have g2 : SpM s2 (sps a a.nP) := by rw [hs2]; exact e3
  rw [← hs2]
  refine lp_q (F := fun n (x : tST) i => f_X4_mixSpans_15 n i x) (J := fun j x => tFr [] [1] [] s2 x ∧ tg_L x 1 = fp (sp3 (sps a a.nP)) j (wi (tg_L st 1) (nI (sps a a.nP).1))) (N := (sps a a.nP).1) (Q := fun o => ∃ st', o = some st' ∧ tFr [125] [1] [38, 39, 40] st st' ∧ tg_L st' 1 = spd a (tg_L st 1)) ?_ ?_ 0 tfu s2 (Nat.zero_le _) (tfu_gt (by omega)) ⟨tFr.rf, l2⟩
  · intro n x ⟨hx, hl⟩
    refine ⟨x, ?_, f2.tr (hx.mono (by decide) (by decide) (by decide)), hl⟩
    show f_X4_mixSpans_15 (n + 1) (nI (sps a a.nP).1) x = _
    rw [f_X4_mixSpans_15, hx.1 125 (by decide), g2.1, if_pos (nI_le (Nat.le_refl _) (by omega))]
  · intro n x j hj ⟨hx, hl⟩ ih
    show ∃ st', f_X4_mixSpans_15 (n + 1) (nI j) x = _ ∧ _
    obtain ⟨k1, k2, k3⟩ := g2.2 j hj
    rw [f_X4_mixSpans_15, hx.1 125 (by decide), g2.1, if_neg (nI_ge hj (by omega))]
    simp only [pz_tal (show j < 90 by omega) (show 90 < 2 ^ 31 by omega), m_mix, pz_bs, tlet, nI_1, st_AL, st_LL, if_true, hx.2.2.1 38 (by decide), hx.2.2.1 39 (by decide), hx.2.2.1 40 (by decide), k1, k2, k3]
    refine ih _ ⟨((hx.tr (tFr.putL (by decide))).tr (tFr.putL (by decide))).tr (tFr.putL (by decide)), ?_⟩
    rw [st_LL, if_pos rfl, hl, fp]; rfl
/-- the whole digest -/
def dgT (a : AB) (b s : Int32) (h : Int64) : Int64 := fo (fun w => cov a b s (nI w)) 9 (fo a.page a.pl (wi (wi (spd a (chd a (pld a h))) (fdv a).1) (fdv a).2))
def dig (a : AB) (b s : Int32) : Int64 := dgT a b s (fp (fun v h => vwd a (mkV a (nI v)) h) 6 1619)
theorem x_digest {a : AB} {st : tST} (h : XR a st) (hI : Inv a) : ∃ st', f_X3_digest st = some (dig a (tg_I st 4) (tg_I st 5), st') ∧ tSc st st' := by
  have hpl := hI.pl
  unfold f_X3_digest
  refine lp_q (F := fun n (x : Int64 × tST) i => f_X3_digest_6 n x.1 i x.2) (J := fun v x => tSc st x.2 ∧ x.1 = fp (fun v h => vwd a (mkV a (nI v)) h) v 1619) (N := 6) (Q := fun o => ∃ st', o = some (dig a (tg_I st 4) (tg_I st 5), st') ∧ tSc st st') ?_ ?_ 0 tfu (1619, st) (Nat.zero_le _) (tfu_gt (by omega)) ⟨tFr.rf, rfl⟩
  · intro n x ⟨hx, hv⟩
    obtain ⟨x1, x⟩ := x
    dsimp only at hx hv
    show ∃ st', f_X3_digest_6 (n + 1) x1 (nI 6) x = _ ∧ _
    have hs := h.sc hx
    obtain ⟨s4, e1, e2⟩ := x_withSpans hs hI (chd a (pld a x1))
    have hs4 := hs.sc e2.sc
    obtain ⟨s5, g1, g2, g3, g4⟩ := x_seekPage hs4 hI
    have hs5 := hs4.sc g2.sc
    have f5 : tSc st s5 := hx.tr (e2.sc.tr g2.sc)
    rw [f_X3_digest_6, if_pos (show (6 : Int32) ≤ nI 6 from nI_le (a := 6) (b := 6) (by omega) (by omega)), x_withPlaces hs hI, pz_bs, x_withChanges hs hI, pz_bs, e1, pz_bd, g1, pz_bs, g3, x_with, pz_bs, g4, x_with, pz_bs]
    refine ⟨s5, ?_, f5⟩
    obtain ⟨y, hy⟩ : ∃ y, y = wi (wi (spd a (chd a (pld a x1))) (fdv a).1) (fdv a).2 := ⟨_, rfl⟩
    have goal : f_X3_digest_67 tfu y 0 s5 = some (fo (fun w => cov a (tg_I st 4) (tg_I st 5) (nI w)) 9 (fo a.page a.pl y), s5) := by
      refine lp_q (F := fun n (z : Int64) i => f_X3_digest_67 n z i s5) (J := fun k z => z = fo a.page k y) (N := a.pl) (Q := fun o => o = some (fo (fun w => cov a (tg_I st 4) (tg_I st 5) (nI w)) 9 (fo a.page a.pl y), s5)) ?_ ?_ 0 tfu y (Nat.zero_le _) (tfu_gt (by omega)) rfl
      · intro n z hz
        show f_X3_digest_67 (n + 1) z (nI a.pl) s5 = _
        rw [f_X3_digest_67, hs5.pl, if_pos (nI_le (Nat.le_refl _) (by omega)), ← hz]
        refine lp_q (F := fun n (u : Int64) i => f_X3_digest_94 n u i s5) (J := fun w u => u = fo (fun w => cov a (tg_I st 4) (tg_I st 5) (nI w)) w z) (N := 9) (Q := fun o => o = some (fo (fun w => cov a (tg_I st 4) (tg_I st 5) (nI w)) 9 z, s5)) ?_ ?_ 0 tfu z (Nat.zero_le _) (tfu_gt (by omega)) rfl
        · intro n u hu
          show f_X3_digest_94 (n + 1) u (nI 9) s5 = _
          rw [f_X3_digest_94, if_pos (show (9 : Int32) ≤ nI 9 from nI_le (a := 9) (b := 9) (by omega) (by omega)), hu]
        · intro n u w hw hu ih
          show f_X3_digest_94 (n + 1) u (nI w) s5 = _
          rw [f_X3_digest_94, if_neg (show ¬ (9 : Int32) ≤ nI w from nI_ge (a := w) (b := 9) hw (by omega)), x_count hs5 hI, pz_bs, x_with, pz_bs, f5.1 4 (by decide), f5.1 5 (by decide)]
          simp only [tlet, nI_1]
          exact ih _ (by rw [fo, hu])
      · intro n z k hk hz ih
        show f_X3_digest_67 (n + 1) z (nI k) s5 = _
        rw [f_X3_digest_67, hs5.pl, if_neg (nI_ge hk (by omega)), pz_tal (by omega) (by omega), hs5.page hk, x_with, pz_bs]
        simp only [tlet, nI_1]
        exact ih _ (by rw [fo, hz])
    rw [← hy, goal, hy, hv]; rfl
  · intro n x v hvl ⟨hx, hv⟩ ih
    obtain ⟨x1, x⟩ := x
    dsimp only at hx hv
    show ∃ st', f_X3_digest_6 (n + 1) x1 (nI v) x = _ ∧ _
    have hs := h.sc hx
    obtain ⟨s, e1, e2⟩ := x_withView hs hI x1 (v := nI v) (nI_pos' (by omega))
    rw [f_X3_digest_6, if_neg (show ¬ (6 : Int32) ≤ nI v from nI_ge (a := v) (b := 6) hvl (by omega)), e1, pz_bd]
    simp only [tlet, nI_1]
    exact ih (vwd a (mkV a (nI v)) x1, s) ⟨hx.tr e2.sc, by rw [fp, ← hv]⟩
theorem m_digest {a : AB} {st : tST} (h : MR a st) (hI : Inv a) : ∃ st', f_X4_digest st = some (dig a (tg_I st 119) (tg_I st 120), st') ∧ tSc st st' := by
  have hpl := hI.pl
  have hP := hI.nP
  have hC := hI.nC
  unfold f_X4_digest
  simp only [tlet]
  refine lp_q (F := fun n (x : tST) i => f_X4_digest_9 n i x) (J := fun v x => tSc st x ∧ tg_L x 1 = fp (fun v h => vwd a (mkV a (nI v)) h) v 1619) (N := 6) (Q := fun o => ∃ st', o = some (dig a (tg_I st 119) (tg_I st 120), st') ∧ tSc st st') ?_ ?_ 0 tfu (tp_L st 1 1619) (Nat.zero_le _) (tfu_gt (by omega)) ⟨tFr.putL (by decide), rfl⟩
  · intro n x ⟨hx, hv⟩
    show ∃ st', f_X4_digest_9 (n + 1) (nI 6) x = _ ∧ _
    rw [f_X4_digest_9, if_pos (show (6 : Int32) ≤ nI 6 from nI_le (a := 6) (b := 6) (by omega) (by omega))]
    unfold dig
    rw [← hv]
    generalize hH : tg_L x 1 = H0
    clear hv
    refine lp_q (F := fun n (y : tST) i => f_X4_digest_28 n i y) (J := fun k y => tSc st y ∧ tg_L y 1 = fo (fun k => pfv a (k / 4) (nI (k % 4))) k H0) (N := 4 * a.nP) (Q := fun o => ∃ st', o = some (dgT a (tg_I st 119) (tg_I st 120) H0, st') ∧ tSc st st') ?_ ?_ 0 tfu x (Nat.zero_le _) (tfu_gt (by omega)) ⟨hx, hH⟩
    · intro n y ⟨hy, hl⟩
      show ∃ st', f_X4_digest_28 (n + 1) (nI (4 * a.nP)) y = _ ∧ _
      rw [f_X4_digest_28, hy.1 112 (by decide), h.nP, show (4 : Int32) = nI 4 from rfl, pk_mul, if_pos (nI_le (Nat.le_refl _) (by omega))]
      rw [fo_block (fun i w => pfv a i (nI w)) (by omega)] at hl
      have hl : tg_L y 1 = pld a H0 := hl
      unfold dgT
      rw [← hl]
      generalize hH1 : tg_L y 1 = H1
      clear hl
      refine lp_q (F := fun n (z : tST) i => f_X4_digest_66 n i z) (J := fun k z => tSc st z ∧ tg_L z 1 = fo (fun k => cfv a (k / 7) (nI (k % 7))) k H1) (N := 7 * a.nC) (Q := fun o => ∃ st', o = some (fo (fun w => cov a (tg_I st 119) (tg_I st 120) (nI w)) 9 (fo a.page a.pl (wi (wi (spd a (chd a H1)) (fdv a).1) (fdv a).2)), st') ∧ tSc st st') ?_ ?_ 0 tfu y (Nat.zero_le _) (tfu_gt (by omega)) ⟨hy, hH1⟩
      · intro n z ⟨hz, hl⟩
        show ∃ st', f_X4_digest_66 (n + 1) (nI (7 * a.nC)) z = _ ∧ _
        have hs := h.sc hz
        rw [f_X4_digest_66, hs.nC, show (7 : Int32) = nI 7 from rfl, pk_mul, if_pos (nI_le (Nat.le_refl _) (by omega))]
        rw [fo_block (fun i w => cfv a i (nI w)) (by omega)] at hl
        have hl : tg_L z 1 = chd a H1 := hl
        obtain ⟨s1, e1, e2, e3⟩ := m_mixSpans hs hI
        have hs1 := hs.sc e2.sc
        obtain ⟨s2, g1, g2, g3, g4⟩ := m_layFound hs1 hI
        have l2 : tg_L s2 1 = spd a (chd a H1) := by rw [g2.2.1 1 (by decide), e3, hl]
        rw [e1, pz_bs, g1, pz_bs, g3, m_mix, pz_bs, st_IL, g4, m_mix, pz_bs, st_LL, if_pos rfl, l2]
        obtain ⟨u, hu⟩ : ∃ u, u = tp_L (tp_L s2 1 (wi (spd a (chd a H1)) (fdv a).1)) 1 (wi (wi (spd a (chd a H1)) (fdv a).1) (fdv a).2) := ⟨_, rfl⟩
        have hul : tg_L u 1 = wi (wi (spd a (chd a H1)) (fdv a).1) (fdv a).2 := by rw [hu]; rfl
        have huf : tSc st u := by rw [hu]; exact hz.tr (e2.sc.tr (g2.sc.tr ((tFr.putL (by decide)).tr (tFr.putL (by decide)))))
        rw [← hu, ← hul]
        generalize hH2 : tg_L u 1 = H2
        clear hul
        refine lp_q (F := fun n (r : tST) i => f_X4_digest_128 n i r) (J := fun k r => tSc st r ∧ tg_L r 1 = fo a.page k H2) (N := a.pl) (Q := fun o => ∃ st', o = some (fo (fun w => cov a (tg_I st 119) (tg_I st 120) (nI w)) 9 (fo a.page a.pl H2), st') ∧ tSc st st') ?_ ?_ 0 tfu u (Nat.zero_le _) (tfu_gt (by omega)) ⟨huf, hH2⟩
        · intro n r ⟨hr, hl⟩
          show ∃ st', f_X4_digest_128 (n + 1) (nI a.pl) r = _ ∧ _
          have hs := h.sc hr
          rw [f_X4_digest_128, hs.pl, if_pos (nI_le (Nat.le_refl _) (by omega)), ← hl]
          generalize hH3 : tg_L r 1 = H3
          clear hl
          refine lp_q (F := fun n (q : tST) i => f_X4_digest_155 n i q) (J := fun w q => tSc st q ∧ tg_L q 1 = fo (fun w => cov a (tg_I st 119) (tg_I st 120) (nI w)) w H3) (N := 9) (Q := fun o => ∃ st', o = some (fo (fun w => cov a (tg_I st 119) (tg_I st 120) (nI w)) 9 H3, st') ∧ tSc st st') ?_ ?_ 0 tfu r (Nat.zero_le _) (tfu_gt (by omega)) ⟨hr, hH3⟩
          · intro n q ⟨hq, hl⟩
            show ∃ st', f_X4_digest_155 (n + 1) (nI 9) q = _ ∧ _
            rw [f_X4_digest_155, if_pos (show (9 : Int32) ≤ nI 9 from nI_le (a := 9) (b := 9) (by omega) (by omega)), hl]
            exact ⟨q, rfl, hq⟩
          · intro n q w hw ⟨hq, hl⟩ ih
            show ∃ st', f_X4_digest_155 (n + 1) (nI w) q = _ ∧ _
            rw [f_X4_digest_155, if_neg (show ¬ (9 : Int32) ≤ nI w from nI_ge (a := w) (b := 9) hw (by omega)), m_howMany (h.sc hq) hI, pz_bs, m_mix, pz_bs, hq.1 119 (by decide), hq.1 120 (by decide)]
            simp only [tlet, nI_1]
            exact ih _ ⟨hq.tr (tFr.putL (by decide)), by rw [st_LL, if_pos rfl, hl, fo]⟩
        · intro n r k hk ⟨hr, hl⟩ ih
          show ∃ st', f_X4_digest_128 (n + 1) (nI k) r = _ ∧ _
          have hs := h.sc hr
          rw [f_X4_digest_128, hs.pl, if_neg (nI_ge hk (by omega)), pz_tal (by omega) (by omega), hs.page hk, m_mix, pz_bs]
          simp only [tlet, nI_1]
          exact ih _ ⟨hr.tr (tFr.putL (by decide)), by rw [st_LL, if_pos rfl, hl, fo]⟩
      · intro n z k hk ⟨hz, hl⟩ ih
        show ∃ st', f_X4_digest_66 (n + 1) (nI k) z = _ ∧ _
        have hs := h.sc hz
        rw [f_X4_digest_66, hs.nC, show (7 : Int32) = nI 7 from rfl, pk_mul, if_neg (nI_ge hk (by omega)), pk_rem (by omega) (by omega) (by omega), pk_div (by omega) (by omega) (by omega), m_changeNow hs hI (by omega), pz_bs, m_mix, pz_bs]
        simp only [tlet, nI_1]
        exact ih _ ⟨hz.tr (tFr.putL (by decide)), by rw [st_LL, if_pos rfl, hl, fo]⟩
    · intro n y k hk ⟨hy, hl⟩ ih
      show ∃ st', f_X4_digest_28 (n + 1) (nI k) y = _ ∧ _
      have hs := h.sc hy
      rw [f_X4_digest_28, hs.nP, show (4 : Int32) = nI 4 from rfl, pk_mul, if_neg (nI_ge hk (by omega)), pk_rem (by omega) (by omega) (by omega), pk_div (by omega) (by omega) (by omega), pz_tal (by omega) (by omega), hs.line (by omega), m_placeNow hs hI (by omega), pz_bs, m_mix, pz_bs]
      simp only [tlet, nI_1]
      exact ih _ ⟨hy.tr (tFr.putL (by decide)), by rw [st_LL, if_pos rfl, hl, fo]⟩
  · intro n x v hvl ⟨hx, hv⟩ ih
    show ∃ st', f_X4_digest_9 (n + 1) (nI v) x = _ ∧ _
    obtain ⟨s, e1, e2, e3⟩ := m_mixView (h.sc hx) hI (nI v)
    rw [f_X4_digest_9, if_neg (show ¬ (6 : Int32) ≤ nI v from nI_ge (a := v) (b := 6) hvl (by omega)), e1, pz_bs]
    simp only [tlet, nI_1]
    exact ih s ⟨hx.tr e2.sc, by rw [e3, hv, fp]⟩
