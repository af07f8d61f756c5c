/-! ===== what is told: class and reference side by side ===== -/
def Rel (a : AB) (st : tST) : Prop := XR a st ∧ MR a st ∧ Inv a ∧ tg_I st 4 = tg_I st 119 ∧ tg_I st 5 = tg_I st 120
theorem Rel.sc {a : AB} {st st' : tST} (h : Rel a st) (f : tSc st st') : Rel a st' := ⟨h.1.sc f, h.2.1.sc f, h.2.2.1, by rw [f.1 4 (by decide), f.1 119 (by decide)]; exact h.2.2.2.1, by rw [f.1 5 (by decide), f.1 120 (by decide)]; exact h.2.2.2.2⟩
theorem wn_in {j n : Nat} (h : j < n) (hn : n ≤ 4096) : f_X4_within (nI j) 0 (nI n - 1) = some 1 := by
  obtain ⟨m, rfl⟩ : ∃ m, n = m + 1 := ⟨n - 1, by omega⟩
  unfold f_X4_within
  rw [if_neg (nI_pos (by omega)), nI_pred, if_neg (nI_nlt (by omega) (by omega))]; rfl
theorem wn_out {x : Int32} {n : Nat} (hn : n ≤ 4096) (h : x < 0 ∨ nI n ≤ x) : f_X4_within x 0 (nI n - 1) = some 0 := by
  unfold f_X4_within
  by_cases h0 : x < 0
  · rw [if_pos h0]; rfl
  · obtain ⟨k, hk, rfl⟩ := nI_of h0
    have h1 : n ≤ k := by
      have := h.resolve_left h0
      rw [nI_leI (by omega) hk] at this
      exact this
    rw [if_neg h0]
    have : nI n - 1 < nI k := by
      cases n with
      | zero =>
        rw [Int32.lt_iff_toInt_lt, nI_toInt hk]
        have : (nI 0 - 1 : Int32).toInt = -1 := by decide
        omega
      | succ m =>
        rw [nI_pred]
        exact nI_lt (by omega) hk
    rw [if_pos this]; rfl
theorem ix_out {x : Int32} {n : Nat} (hn : n ≤ 4096) (h : x < 0 ∨ nI n ≤ x) : x < 0 ∨ (¬ x < 0 ∧ ¬ x < nI n ∧ nI n ≤ x) := by
  by_cases h0 : x < 0
  · exact Or.inl h0
  · have h1 := h.resolve_left h0
    exact Or.inr ⟨h0, Int32.not_lt.mpr h1, h1⟩
theorem ix_all (x : Int32) {n : Nat} (hn : n ≤ 4096) : (x < 0 ∨ nI n ≤ x) ∨ ∃ j, j < n ∧ x = nI j := by
  rcases pk_ix x (n := n) (by omega) with h | h | h
  · exact Or.inl (Or.inl h)
  · exact Or.inl (Or.inr h)
  · exact Or.inr h
theorem x_isView_in {j : Nat} (h : j < 6) : f_X3_isView (nI j) = some 1 := by
  unfold f_X3_isView
  rw [if_neg (nI_pos (by omega)), if_neg (show ¬ (6 : Int32) ≤ nI j from nI_ge (a := j) (b := 6) h (by omega))]; rfl
theorem x_isView_out {x : Int32} (h : x < 0 ∨ nI 6 ≤ x) : f_X3_isView x = some 0 := by
  unfold f_X3_isView
  rcases ix_out (by omega) h with h | ⟨h1, h2, h3⟩
  · rw [if_pos h]; rfl
  · rw [if_neg h1, if_pos (show (6 : Int32) ≤ x from h3)]; rfl
theorem m_isView_in {j : Nat} (h : j < 6) : f_X4_isView (nI j) = some 1 := by
  unfold f_X4_isView
  rw [show (5 : Int32) = nI 6 - 1 by decide, wn_in h (by omega)]; rfl
theorem m_isView_out {x : Int32} (h : x < 0 ∨ nI 6 ≤ x) : f_X4_isView x = some 0 := by
  unfold f_X4_isView
  rw [show (5 : Int32) = nI 6 - 1 by decide, wn_out (by omega) h]; rfl
theorem m_lengthOf {a : AB} {st : tST} (h : MR a st) (hI : Inv a) (v : Int32) : ∃ st', f_X4_lengthOf v st = some (nI (fb_ct (hp a (mkV a v)) a.nP), st') ∧ tFr [121] [] [35, 36] st st' ∧ ∀ i, i < a.nP → hp a (mkV a v) i = true → tg_A st' 35 (fb_ct (hp a (mkV a v)) i) = nI (a.line i) := by
  obtain ⟨s, e1, e2, e3, e4⟩ := m_layRead h hI (mkV a v)
  refine ⟨s, ?_, e2, e4⟩
  unfold f_X4_lengthOf
  rw [m_setOf h hI, pz_bs, e1, pz_bs, e3]
/-- one step of both -/
def tStp {ρ : Type} (x : Option (ρ × tST)) (m : tST → Option (ρ × tST)) : Prop := ∃ r s1 s2, x = some (r, s1) ∧ m s1 = some (r, s2) ∧ ∃ a, Rel a s2
theorem s_length {a : AB} {st : tST} (h : Rel a st) (v : Int32) : tStp (f_X3_length v st) (f_X4_length v) := by
  obtain ⟨hX, hM, hI, -⟩ := id h
  rcases ix_all v (n := 6) (by omega) with hv | ⟨j, hj, rfl⟩
  · refine ⟨-1001, st, st, ?_, ?_, a, h⟩
    · unfold f_X3_length; rw [x_isView_out hv]; rfl
    · unfold f_X4_length; rw [m_isView_out hv]; rfl
  · obtain ⟨s1, e1, e2, -⟩ := x_lineUp hX hI (mkV a (nI j))
    obtain ⟨s2, g1, g2, -⟩ := m_lengthOf (hM.sc e2.sc) hI (nI j)
    refine ⟨nI (fb_ct (hp a (mkV a (nI j))) a.nP), s1, s2, ?_, ?_, a, (h.sc e2.sc).sc g2.sc⟩
    · unfold f_X3_length
      rw [x_isView_in hj, pz_bs, if_neg (show ¬ (1 : Int32) = 0 by decide), x_setOf hX hI (nI_pos' (by omega)), pz_bs, e1]; rfl
    · unfold f_X4_length
      rw [m_isView_in hj, pz_bs, if_neg (show ¬ (1 : Int32) = 0 by decide), g1]; rfl
theorem s_read {a : AB} {st : tST} (h : Rel a st) (v p w : Int32) : tStp (f_X3_read v p w st) (f_X4_read v p w) := by
  obtain ⟨hX, hM, hI, -⟩ := id h
  have hP := hI.nP
  rcases ix_all v (n := 6) (by omega) with hv | ⟨j, hj, rfl⟩
  · refine ⟨-1001, st, st, ?_, ?_, a, h⟩
    · unfold f_X3_read; rw [x_isView_out hv]; rfl
    · unfold f_X4_read; rw [m_isView_out hv]; rfl
  · obtain ⟨s1, e1, e2, e3⟩ := x_lineUp hX hI (mkV a (nI j))
    obtain ⟨s2, g1, g2, g3⟩ := m_lengthOf (hM.sc e2.sc) hI (nI j)
    have hle := fb_ct_le (hp a (mkV a (nI j))) a.nP
    have hcnt := hp_count hI (mkV a (nI j))
    have hL := hI.nL
    have hs1 := hX.sc e2.sc
    have hs2 := (hM.sc e2.sc).sc g2.sc
    have rel := (h.sc e2.sc).sc g2.sc
    unfold tStp f_X3_read f_X4_read
    rw [x_isView_in hj, pz_bs, if_neg (show ¬ (1 : Int32) = 0 by decide), x_setOf hX hI (nI_pos' (by omega)), pz_bs, e1, pz_bd]
    simp only [m_isView_in hj, pz_bs]
    rcases ix_all p (n := fb_ct (hp a (mkV a (nI j))) a.nP) (by omega) with hp | ⟨k, hk, rfl⟩
    · refine ⟨-1001, s1, s2, ?_, ?_, a, rel⟩
      · rcases ix_out (by omega) hp with q | ⟨q1, q2, q3⟩
        · rw [if_pos q]
        · rw [if_neg q1, if_neg q2]
      · rw [if_neg (show ¬ (1 : Int32) = 0 by decide), g1, pz_bd, wn_out (by omega) hp]; rfl
    · obtain ⟨i, k1, k2, k3⟩ := fb_ct_kth hk
      have r1 : tg_A s1 18 k = nI i := by rw [← k3]; exact e3 i k1 k2
      have r2 : tg_A s2 35 k = nI (a.line i) := by rw [← k3]; exact g3 i k1 k2
      rw [if_neg (nI_pos (by omega)), if_pos (nI_lt hk (by omega))]
      rcases ix_all w (n := 6) (by omega) with hw | ⟨m, hm, rfl⟩
      · refine ⟨-1002, s1, s2, ?_, ?_, a, rel⟩
        · rcases ix_out (by omega) hw with q | ⟨q1, q2, q3⟩
          · rw [if_pos q]
          · rw [if_neg q1, if_neg (show ¬ w < (6 : Int32) from q2)]
        · rw [if_neg (show ¬ (1 : Int32) = 0 by decide), g1, pz_bd, wn_in hk (by omega), pz_bs, if_neg (show ¬ (1 : Int32) = 0 by decide), show (5 : Int32) = nI 6 - 1 by decide, wn_out (by omega) hw]; rfl
      · refine ⟨lfv a i (nI m), s1, s2, ?_, ?_, a, rel⟩
        · rw [if_neg (nI_pos (by omega)), if_pos (show nI m < (6 : Int32) from nI_lt (a := m) (b := 6) hm (by omega)), pz_tal (by omega) (by omega), r1, x_letterFact hs1 hI k1]; rfl
        · rw [if_neg (show ¬ (1 : Int32) = 0 by decide), g1, pz_bd, wn_in hk (by omega), pz_bs, if_neg (show ¬ (1 : Int32) = 0 by decide), show (5 : Int32) = nI 6 - 1 by decide, wn_in hm (by omega), pz_bs, if_neg (show ¬ (1 : Int32) = 0 by decide), pz_tal (by omega) (by omega), r2, m_readNow hs2 hI k1]; rfl
theorem s_place {a : AB} {st : tST} (h : Rel a st) (p w : Int32) : ∃ r, f_X3_place p w st = some r ∧ f_X4_place p w st = some r := by
  obtain ⟨hX, hM, hI, -⟩ := id h
  have hP := hI.nP
  unfold f_X3_place f_X4_place
  rw [hX.nP, hM.nP]
  rcases ix_all p (n := a.nP) (by omega) with hp | ⟨i, hi, rfl⟩
  · refine ⟨-1001, ?_, ?_⟩
    · rcases ix_out (by omega) hp with q | ⟨q1, q2, q3⟩
      · rw [if_pos q]
      · rw [if_neg q1, if_neg q2]
    · rw [wn_out (by omega) hp]; rfl
  · rw [if_neg (nI_pos (by omega)), if_pos (nI_lt hi (by omega)), wn_in hi (by omega), pz_bs, if_neg (show ¬ (1 : Int32) = 0 by decide), show (3 : Int32) = nI 4 - 1 by decide]
    rcases ix_all w (n := 4) (by omega) with hw | ⟨m, hm, rfl⟩
    · refine ⟨-1002, ?_, ?_⟩
      · rcases ix_out (by omega) hw with q | ⟨q1, q2, q3⟩
        · rw [if_pos q]
        · rw [if_neg q1, if_neg (show ¬ w < (4 : Int32) from q2)]
      · rw [wn_out (by omega) hw]; rfl
    · refine ⟨pfv a i (nI m), ?_, ?_⟩
      · rw [if_neg (nI_pos (by omega)), if_pos (show nI m < (4 : Int32) from nI_lt (a := m) (b := 4) hm (by omega)), x_placeFact hX hI hi]; rfl
      · rw [wn_in hm (by omega), pz_bs, if_neg (show ¬ (1 : Int32) = 0 by decide), pz_tal (by omega) (by omega), hM.line hi, m_placeNow hM hI hi]; rfl
theorem x_names_in {a : AB} {st : tST} (h : XR a st) (hI : Inv a) {c : Nat} (hc : c < a.nC) : f_X0_names (nI c) st = some 1 := by
  have hC := hI.nC
  unfold f_X0_names
  rw [if_neg (nI_pos (by omega)), h.nC, if_neg (nI_ge hc (by omega))]; rfl
theorem x_names_out {a : AB} {st : tST} (h : XR a st) (hI : Inv a) {x : Int32} (hx : x < 0 ∨ nI a.nC ≤ x) : f_X0_names x st = some 0 := by
  have hC := hI.nC
  unfold f_X0_names
  rcases ix_out (by omega) hx with q | ⟨q1, q2, q3⟩
  · rw [if_pos q]; rfl
  · rw [if_neg q1, h.nC, if_pos q3]; rfl
theorem m_isChange_in {a : AB} {st : tST} (h : MR a st) (hI : Inv a) {c : Nat} (hc : c < a.nC) : f_X4_isChange (nI c) st = some 1 := by
  have hC := hI.nC
  unfold f_X4_isChange
  rw [h.nC, wn_in hc (by omega)]; rfl
theorem m_isChange_out {a : AB} {st : tST} (h : MR a st) (hI : Inv a) {x : Int32} (hx : x < 0 ∨ nI a.nC ≤ x) : f_X4_isChange x st = some 0 := by
  have hC := hI.nC
  unfold f_X4_isChange
  rw [h.nC, wn_out (by omega) hx]; rfl
theorem s_change {a : AB} {st : tST} (h : Rel a st) (c w : Int32) : ∃ r, f_X3_change c w st = some r ∧ f_X4_change c w st = some r := by
  obtain ⟨hX, hM, hI, -⟩ := id h
  have hC := hI.nC
  unfold f_X3_change f_X4_change
  rcases ix_all c (n := a.nC) (by omega) with hc | ⟨i, hi, rfl⟩
  · refine ⟨-1001, ?_, ?_⟩
    · rw [x_names_out hX hI hc]; rfl
    · rw [m_isChange_out hM hI hc]; rfl
  · rw [x_names_in hX hI hi, pz_bs, if_neg (show ¬ (1 : Int32) = 0 by decide), m_isChange_in hM hI hi, pz_bs, if_neg (show ¬ (1 : Int32) = 0 by decide), show (6 : Int32) = nI 7 - 1 by decide]
    rcases ix_all w (n := 7) (by omega) with hw | ⟨m, hm, rfl⟩
    · refine ⟨-1002, ?_, ?_⟩
      · rcases ix_out (by omega) hw with q | ⟨q1, q2, q3⟩
        · rw [if_pos q]
        · rw [if_neg q1, if_neg (show ¬ w < (7 : Int32) from q2)]
      · rw [wn_out (by omega) hw]; rfl
    · refine ⟨cfv a i (nI m), ?_, ?_⟩
      · rw [if_neg (nI_pos (by omega)), if_pos (show nI m < (7 : Int32) from nI_lt (a := m) (b := 7) hm (by omega)), x_changeFact hX hI hi]; rfl
      · rw [wn_in hm (by omega), pz_bs, if_neg (show ¬ (1 : Int32) = 0 by decide), m_changeNow hM hI hi]; rfl
theorem s_span {a : AB} {st : tST} (h : Rel a st) (k w : Int32) : tStp (f_X3_span k w st) (f_X4_span k w) := by
  obtain ⟨hX, hM, hI, -⟩ := id h
  have hP := hI.nP
  unfold tStp f_X3_span f_X4_span
  simp only [show (3 : Int32) = nI 4 - 1 by decide]
  rcases ix_all w (n := 4) (by omega) with hw | ⟨m, hm, rfl⟩
  · refine ⟨-1002, st, st, ?_, ?_, a, h⟩
    · rcases ix_out (by omega) hw with q | ⟨q1, q2, q3⟩
      · rw [if_pos q]
      · rw [if_neg q1, if_neg (show ¬ w < (4 : Int32) from q2)]
    · rw [wn_out (by omega) hw]; rfl
  · obtain ⟨s1, e1, e2, e3⟩ := x_cutSpans hX hI
    obtain ⟨s2, g1, g2, g3⟩ := m_laySpans (hM.sc e2.sc) hI
    have rel := (h.sc e2.sc).sc g2.sc
    have hle := sps_le a a.nP
    rw [if_neg (nI_pos (by omega)), if_pos (show nI m < (4 : Int32) from nI_lt (a := m) (b := 4) hm (by omega)), e1, pz_bs]
    simp only [wn_in hm (show 4 ≤ 4096 by omega), pz_bs]
    by_cases hm0 : (nI m : Int32) = 0
    · refine ⟨nI (sps a a.nP).1, s1, s2, ?_, ?_, a, rel⟩
      · rw [if_pos hm0, e3.1]
      · rw [if_neg (show ¬ (1 : Int32) = 0 by decide), g1, pz_bs, if_pos hm0, g3.1]
    · rw [if_neg hm0, e3.1]
      rcases ix_all k (n := (sps a a.nP).1) (by omega) with hk | ⟨j, hj, rfl⟩
      · refine ⟨-1001, s1, s2, ?_, ?_, a, rel⟩
        · rcases ix_out (by omega) hk with q | ⟨q1, q2, q3⟩
          · rw [if_pos q]
          · rw [if_neg q1, if_neg q2]
        · rw [if_neg (show ¬ (1 : Int32) = 0 by decide), g1, pz_bs, if_neg hm0, g3.1, wn_out (by omega) hk]; rfl
      · obtain ⟨k1, k2, k3⟩ := g3.2 j hj
        refine ⟨if (nI m : Int32) = 1 then (sps a a.nP).2.1 j else if (nI m : Int32) = 2 then (sps a a.nP).2.2.1 j else (sps a a.nP).2.2.2 j, s1, s2, ?_, ?_, a, rel⟩
        · rw [if_neg (nI_pos (by omega)), if_pos (nI_lt hj (by omega)), x_factOf e3 (by omega) hj]; rfl
        · rw [if_neg (show ¬ (1 : Int32) = 0 by decide), g1, pz_bs, if_neg hm0, g3.1, wn_in hj (by omega), pz_bs, if_neg (show ¬ (1 : Int32) = 0 by decide), pz_tal (by omega) (by omega), pz_tal (by omega) (by omega), pz_tal (by omega) (by omega), k1, k2, k3]
          repeat' split
          all_goals rfl
theorem s_found {a : AB} {st : tST} (h : Rel a st) (w : Int32) : tStp (f_X3_found w st) (f_X4_found w) := by
  obtain ⟨hX, hM, hI, -⟩ := id h
  unfold tStp f_X3_found f_X4_found
  simp only [show f_X4_within w 0 1 = f_X4_within w 0 (nI 2 - 1) from rfl]
  rcases ix_all w (n := 2) (by omega) with hw | ⟨m, hm, rfl⟩
  · refine ⟨-1002, st, st, ?_, ?_, a, h⟩
    · rcases ix_out (by omega) hw with q | ⟨q1, q2, q3⟩
      · rw [if_pos q]
      · rw [if_neg q1, if_neg (show ¬ w < (2 : Int32) from q2)]
    · rw [wn_out (by omega) hw]; rfl
  · obtain ⟨s1, e1, e2, e3, e4⟩ := x_seekPage hX hI
    obtain ⟨s2, g1, g2, g3, g4⟩ := m_layFound (hM.sc e2.sc) hI
    have rel := (h.sc e2.sc).sc g2.sc
    rw [if_neg (nI_pos (by omega)), if_pos (show nI m < (2 : Int32) from nI_lt (a := m) (b := 2) hm (by omega)), e1, pz_bs]
    simp only [wn_in hm (show 2 ≤ 4096 by omega), pz_bs]
    by_cases hm0 : (nI m : Int32) = 0
    · refine ⟨(fdv a).1, s1, s2, ?_, ?_, a, rel⟩
      · rw [if_pos hm0, e3]
      · rw [if_neg (show ¬ (1 : Int32) = 0 by decide), g1, pz_bs, if_pos hm0, g3]
    · refine ⟨(fdv a).2, s1, s2, ?_, ?_, a, rel⟩
      · rw [if_neg hm0, e4]
      · rw [if_neg (show ¬ (1 : Int32) = 0 by decide), g1, pz_bs, if_neg hm0, g4]
theorem s_count {a : AB} {st : tST} (h : Rel a st) (w : Int32) : ∃ r, f_X3_count w st = some r ∧ f_X4_count w st = some r := by
  obtain ⟨hX, hM, hI, h4, h5⟩ := id h
  refine ⟨_, x_count hX hI w, ?_⟩
  unfold f_X4_count
  rw [m_howMany hM hI, pz_bs, h4, h5]
theorem s_digest {a : AB} {st : tST} (h : Rel a st) : tStp (f_X3_digest st) f_X4_digest := by
  obtain ⟨hX, hM, hI, h4, h5⟩ := id h
  obtain ⟨s1, e1, e2⟩ := x_digest hX hI
  obtain ⟨s2, g1, g2⟩ := m_digest (hM.sc e2) hI
  refine ⟨dig a (tg_I st 4) (tg_I st 5), s1, s2, e1, ?_, a, (h.sc e2).sc g2⟩
  rw [g1, e2.1 119 (by decide), e2.1 120 (by decide), h4, h5]
