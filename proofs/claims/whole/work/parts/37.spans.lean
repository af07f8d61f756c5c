/-! ===== spans ===== -/
abbrev SP : Type := Nat × (Nat → Int32) × (Nat → Int32) × (Nat → Int32)
def spst (m : Int32) (i : Nat) (s : SP) : SP := if m = 3 then s else if s.1 = 0 ∨ ¬ s.2.1 (s.1 - 1) = m then (s.1 + 1, upd s.2.1 s.1 m, upd s.2.2.1 s.1 1, upd s.2.2.2 s.1 (nI i)) else (s.1, s.2.1, upd s.2.2.1 (s.1 - 1) (s.2.2.1 (s.1 - 1) + 1), s.2.2.2)
def sps (a : AB) : Nat → SP
  | 0 => (0, fun _ => 0, fun _ => 0, fun _ => 0)
  | i + 1 => spst (mkp a (a.line i)) i (sps a i)
theorem spst_le (m : Int32) (i : Nat) (s : SP) : (spst m i s).1 ≤ s.1 + 1 := by
  unfold spst
  split
  · omega
  · split
    · exact Nat.le_refl _
    · exact Nat.le_succ _
theorem sps_le (a : AB) : ∀ i, (sps a i).1 ≤ i
  | 0 => Nat.le_refl _
  | i + 1 => by
    have h1 := sps_le a i
    have h2 := spst_le (mkp a (a.line i)) i (sps a i)
    rw [sps]
    omega
def SpX (st : tST) (s : SP) : Prop := tg_I st 8 = nI s.1 ∧ ∀ k, k < s.1 → tg_A st 15 k = s.2.1 k ∧ tg_A st 16 k = s.2.2.1 k ∧ tg_A st 17 k = s.2.2.2 k
def SpM (st : tST) (s : SP) : Prop := tg_I st 125 = nI s.1 ∧ ∀ k, k < s.1 → tg_A st 38 k = s.2.1 k ∧ tg_A st 39 k = s.2.2.1 k ∧ tg_A st 40 k = s.2.2.2 k
theorem x_take {st : tST} {s : SP} {i : Nat} {m : Int32} (h : SpX st s) (hs : s.1 < 90) (hm : ¬ m = 3) : ∃ st', f_X2_take (nI i) m st = some st' ∧ tFr [8] [] [15, 16, 17] st st' ∧ SpX st' (spst m i s) := by
  have h0 := h.1
  unfold f_X2_take spst
  rw [if_neg hm]
  have ez : (tg_I st 8 = 0) = (s.1 = 0) := by rw [h0, show (0 : Int32) = nI 0 from rfl, pz_eq (by omega) (by omega)]
  rw [ite_p ez]
  by_cases hz : s.1 = 0
  · rw [if_pos hz, if_pos (Or.inl hz)]
    rw [h0, pz_tas (by omega) (by omega), nI_clamp (by omega)]
    rw [st_IA, h0, pz_tas (by omega) (by omega), nI_clamp (by omega)]
    rw [st_IA, st_IA, h0, pz_tas (by omega) (by omega), nI_clamp (by omega)]
    simp only [tlet]
    rw [st_II, if_pos rfl, st_IA, st_IA, st_IA, h0, nI_1, nI_pred, pz_tal (by omega) (by omega), pz_tas (by omega) (by omega), nI_clamp (by omega)]
    refine ⟨_, rfl, ((((tFr.putA (by decide)).tr (tFr.putA (by decide))).tr (tFr.putA (by decide))).tr (tFr.putI (by decide))).tr (tFr.putA (by decide)), ?_, fun k hk => ?_⟩
    · rw [st_IA, st_II, if_pos rfl]
    · by_cases hkz : k = s.1
      · subst hkz
        refine ⟨?_, ?_, ?_⟩
        · show upd (tg_A st 15) s.1 m s.1 = upd s.2.1 s.1 m s.1
          rw [pk_us, pk_us]
        · show upd (upd (tg_A st 16) s.1 0) s.1 (upd (tg_A st 16) s.1 0 s.1 + 1) s.1 = upd s.2.2.1 s.1 1 s.1
          rw [pk_us, pk_us, pk_us]; rfl
        · show upd (tg_A st 17) s.1 (nI i) s.1 = upd s.2.2.2 s.1 (nI i) s.1
          rw [pk_us, pk_us]
      · have hk' : k < s.1 := by
          have : k < s.1 + 1 := hk
          omega
        obtain ⟨k1, k2, k3⟩ := h.2 k hk'
        refine ⟨?_, ?_, ?_⟩
        · show upd (tg_A st 15) s.1 m k = upd s.2.1 s.1 m k
          rw [pk_un hkz, pk_un hkz, k1]
        · show upd (upd (tg_A st 16) s.1 0) s.1 (upd (tg_A st 16) s.1 0 s.1 + 1) k = upd s.2.2.1 s.1 1 k
          rw [pk_un hkz, pk_un hkz, pk_un hkz, k2]
        · show upd (tg_A st 17) s.1 (nI i) k = upd s.2.2.2 s.1 (nI i) k
          rw [pk_un hkz, pk_un hkz, k3]
  · rw [if_neg hz]
    obtain ⟨z, hz2⟩ : ∃ z, s.1 = z + 1 := ⟨s.1 - 1, by omega⟩
    have h0' : tg_I st 8 = nI (z + 1) := by rw [h0, hz2]
    have k0 := (h.2 z (by omega)).1
    rw [show tg_I st 8 - 1 = nI z by rw [h0', nI_pred], pz_tal (by omega) (by omega), k0]
    by_cases hq : s.2.1 z = m
    · rw [if_pos hq, if_neg (by rw [show s.1 - 1 = z by omega]; intro e; exact e.elim hz (fun e => e hq))]
      rw [pz_tal (by omega) (by omega), pz_tas (by omega) (by omega), nI_clamp (by omega)]
      refine ⟨_, rfl, tFr.putA (by decide), ?_, fun k hk => ?_⟩
      · rw [st_IA]; exact h0
      · obtain ⟨k1, k2, k3⟩ := h.2 k hk
        refine ⟨k1, ?_, k3⟩
        show upd (tg_A st 16) z (tg_A st 16 z + 1) k = upd s.2.2.1 (s.1 - 1) (s.2.2.1 (s.1 - 1) + 1) k
        rw [show s.1 - 1 = z by omega]
        by_cases hkz : k = z
        · subst hkz; rw [pk_us, pk_us, k2]
        · rw [pk_un hkz, pk_un hkz, k2]
    · rw [if_neg hq, if_pos (Or.inr (by rw [show s.1 - 1 = z by omega]; exact hq))]
      rw [h0, pz_tas (by omega) (by omega), nI_clamp (by omega)]
      rw [st_IA, h0, pz_tas (by omega) (by omega), nI_clamp (by omega)]
      rw [st_IA, st_IA, h0, pz_tas (by omega) (by omega), nI_clamp (by omega)]
      simp only [tlet]
      rw [st_II, if_pos rfl, st_IA, st_IA, st_IA, h0, nI_1, nI_pred, pz_tal (by omega) (by omega), pz_tas (by omega) (by omega), nI_clamp (by omega)]
      refine ⟨_, rfl, ((((tFr.putA (by decide)).tr (tFr.putA (by decide))).tr (tFr.putA (by decide))).tr (tFr.putI (by decide))).tr (tFr.putA (by decide)), ?_, fun k hk => ?_⟩
      · rw [st_IA, st_II, if_pos rfl]
      · by_cases hkz : k = s.1
        · subst hkz
          refine ⟨?_, ?_, ?_⟩
          · show upd (tg_A st 15) s.1 m s.1 = upd s.2.1 s.1 m s.1
            rw [pk_us, pk_us]
          · show upd (upd (tg_A st 16) s.1 0) s.1 (upd (tg_A st 16) s.1 0 s.1 + 1) s.1 = upd s.2.2.1 s.1 1 s.1
            rw [pk_us, pk_us, pk_us]; rfl
          · show upd (tg_A st 17) s.1 (nI i) s.1 = upd s.2.2.2 s.1 (nI i) s.1
            rw [pk_us, pk_us]
        · have hk' : k < s.1 := by
            have : k < s.1 + 1 := hk
            omega
          obtain ⟨k1, k2, k3⟩ := h.2 k hk'
          refine ⟨?_, ?_, ?_⟩
          · show upd (tg_A st 15) s.1 m k = upd s.2.1 s.1 m k
            rw [pk_un hkz, pk_un hkz, k1]
          · show upd (upd (tg_A st 16) s.1 0) s.1 (upd (tg_A st 16) s.1 0 s.1 + 1) k = upd s.2.2.1 s.1 1 k
            rw [pk_un hkz, pk_un hkz, pk_un hkz, k2]
          · show upd (tg_A st 17) s.1 (nI i) k = upd s.2.2.2 s.1 (nI i) k
            rw [pk_un hkz, pk_un hkz, k3]
theorem x_cutSpans {a : AB} {st : tST} (h : XR a st) (hI : Inv a) : ∃ st', f_X3_cutSpans st = some st' ∧ tFr [8] [] [15, 16, 17] st st' ∧ SpX st' (sps a a.nP) := by
  have hP := hI.nP
  unfold f_X3_cutSpans
  simp only [tlet]
  refine lp_q (F := fun n (x : tST) i => f_X3_cutSpans_10 n i x) (J := fun i x => tFr [8] [] [15, 16, 17] st x ∧ SpX x (sps a i)) (N := a.nP) (Q := fun o => ∃ st', o = some st' ∧ tFr [8] [] [15, 16, 17] st st' ∧ SpX st' (sps a a.nP)) ?_ ?_ 0 tfu (tp_I st 8 0) (Nat.zero_le _) (tfu_gt (by omega)) ⟨tFr.putI (by decide), rfl, fun k hk => absurd hk (Nat.not_lt_zero k)⟩
  · intro n x ⟨h1, h2⟩
    refine ⟨x, ?_, h1, h2⟩
    show f_X3_cutSpans_10 (n + 1) (nI a.nP) x = _
    rw [f_X3_cutSpans_10, h1.1 6 (by decide), h.nP, if_pos (nI_le (Nat.le_refl _) (by omega))]
  · intro n x i hi ⟨h1, h2⟩ ih
    show ∃ st', f_X3_cutSpans_10 (n + 1) (nI i) x = _ ∧ _
    have hs := h.sc h1.sc
    have hle := sps_le a i
    rw [f_X3_cutSpans_10, hs.nP, if_neg (nI_ge hi (by omega)), x_markOf hs hI hi, pz_bs]
    simp only [tlet, nI_1]
    by_cases hm : mkp a (a.line i) = 3
    · rw [if_pos hm]
      exact ih x ⟨h1, by rw [sps]; unfold spst; rw [if_pos hm]; exact h2⟩
    · rw [if_neg hm]
      obtain ⟨s', e1, e2, e3⟩ := x_take (i := i) h2 (by omega) hm
      rw [e1, pz_bs]
      exact ih s' ⟨h1.tr e2, e3⟩
theorem mkp_lt (a : AB) (p : Nat) : (3 ≤ mkp a p) = (mkp a p = 3) := by
  unfold mkp
  split <;> split <;> decide
theorem m_laySpans {a : AB} {st : tST} (h : MR a st) (hI : Inv a) : ∃ st', f_X4_laySpans st = some st' ∧ tFr [125] [] [38, 39, 40] st st' ∧ SpM st' (sps a a.nP) := by
  have hP := hI.nP
  unfold f_X4_laySpans
  simp only [tlet]
  refine lp_q (F := fun n (x : tST) i => f_X4_laySpans_7 n i x) (J := fun i x => tFr [125] [] [38, 39, 40] st x ∧ SpM x (sps a i)) (N := a.nP) (Q := fun o => ∃ st', o = some st' ∧ tFr [125] [] [38, 39, 40] st st' ∧ SpM st' (sps a a.nP)) ?_ ?_ 0 tfu (tp_I st 125 0) (Nat.zero_le _) (tfu_gt (by omega)) ⟨tFr.putI (by decide), rfl, fun k hk => absurd hk (Nat.not_lt_zero k)⟩
  · intro n x ⟨h1, h2⟩
    refine ⟨x, ?_, h1, h2⟩
    show f_X4_laySpans_7 (n + 1) (nI a.nP) x = _
    rw [f_X4_laySpans_7, h1.1 112 (by decide), h.nP, if_pos (nI_le (Nat.le_refl _) (by omega))]
  · intro n x i hi ⟨h1, h2⟩ ih
    show ∃ st', f_X4_laySpans_7 (n + 1) (nI i) x = _ ∧ _
    have hs := h.sc h1.sc
    have hle := sps_le a i
    have hli := hI.line hi
    rw [f_X4_laySpans_7, hs.nP, if_neg (nI_ge hi (by omega)), pz_tal (by omega) (by omega), hs.line hi, m_markOf hs hI hli, pz_bs]
    by_cases hm : mkp a (a.line i) = 3
    · rw [if_pos ((mkp_lt _ _).mpr hm), if_pos ((mkp_lt _ _).mpr hm)]
      simp only [tlet, nI_1]
      exact ih x ⟨h1, by rw [sps]; unfold spst; rw [if_pos hm]; exact h2⟩
    · have hm3 : ¬ 3 ≤ mkp a (a.line i) := fun e => hm ((mkp_lt _ _).mp e)
      simp only [if_neg hm3]
      obtain ⟨m, hme⟩ : ∃ m, m = mkp a (a.line i) := ⟨_, rfl⟩
      obtain ⟨s, hse⟩ : ∃ s, s = sps a i := ⟨_, rfl⟩
      have hnext : sps a (i + 1) = spst m i s := by rw [sps, ← hme, ← hse]
      rw [← hse] at h2 hle
      rw [← hme] at hm ⊢
      have ih : ∀ y, tFr [125] [] [38, 39, 40] x y ∧ SpM y (spst m i s) → ∃ st', f_X4_laySpans_7 n (nI (i + 1)) y = some st' ∧ tFr [125] [] [38, 39, 40] st st' ∧ SpM st' (sps a a.nP) := fun y hy => ih y ⟨h1.tr hy.1, by rw [hnext]; exact hy.2⟩
      have hs90 : s.1 < 90 := by omega
      have hA : ∃ st' : tST, (∀ k : tST → Option tST, (if tg_I x 125 = 0 then tas 90 (tg_I x 125) (tp_A x 38 (tg_I x 125).toNatClampNeg m) fun s7 => tas 90 (tg_I s7 125) (tp_A s7 39 (tg_I s7 125).toNatClampNeg 0) fun s8 => tas 90 (tg_I s8 125) (tp_A s8 40 (tg_I s8 125).toNatClampNeg (nI i)) fun s9 => tlet (tp_I s9 125 (tg_I s9 125 + 1)) fun s10 => tal 90 (tg_A s10 39) (tg_I s10 125 - 1) fun v12 => tas 90 (tg_I s10 125 - 1) (tp_A s10 39 (tg_I s10 125 - 1).toNatClampNeg (v12 + 1)) k else tal 90 (tg_A x 38) (tg_I x 125 - 1) fun v15 => if v15 = m then tal 90 (tg_A x 39) (tg_I x 125 - 1) fun v17 => tas 90 (tg_I x 125 - 1) (tp_A x 39 (tg_I x 125 - 1).toNatClampNeg (v17 + 1)) k else tas 90 (tg_I x 125) (tp_A x 38 (tg_I x 125).toNatClampNeg m) fun s20 => tas 90 (tg_I s20 125) (tp_A s20 39 (tg_I s20 125).toNatClampNeg 0) fun s21 => tas 90 (tg_I s21 125) (tp_A s21 40 (tg_I s21 125).toNatClampNeg (nI i)) fun s22 => tlet (tp_I s22 125 (tg_I s22 125 + 1)) fun s23 => tal 90 (tg_A s23 39) (tg_I s23 125 - 1) fun v25 => tas 90 (tg_I s23 125 - 1) (tp_A s23 39 (tg_I s23 125 - 1).toNatClampNeg (v25 + 1)) k) = k st') ∧ tFr [125] [] [38, 39, 40] x st' ∧ SpM st' (spst m i s) := by
        have h := h2
        have h0 := h.1
        obtain ⟨st, hst⟩ : ∃ st, st = x := ⟨_, rfl⟩
        rw [← hst] at h h0 ⊢
        unfold spst
        rw [if_neg hm]
        have ez : (tg_I st 125 = 0) = (s.1 = 0) := by rw [h0, show (0 : Int32) = nI 0 from rfl, pz_eq (by omega) (by omega)]
        by_cases hz : s.1 = 0
        · rw [if_pos (Or.inl hz)]
          refine ⟨_, fun k => by
            rw [ite_p ez, if_pos hz, h0, pz_tas (by omega) (by omega), nI_clamp (by omega), st_IA, h0, pz_tas (by omega) (by omega), nI_clamp (by omega), st_IA, st_IA, h0, pz_tas (by omega) (by omega), nI_clamp (by omega)]
            simp only [tlet]
            rw [st_II, if_pos rfl, st_IA, st_IA, st_IA, h0, nI_1, nI_pred, pz_tal (by omega) (by omega), pz_tas (by omega) (by omega), nI_clamp (by omega)], ((((tFr.putA (by decide)).tr (tFr.putA (by decide))).tr (tFr.putA (by decide))).tr (tFr.putI (by decide))).tr (tFr.putA (by decide)), ?_, fun k hk => ?_⟩
          · rw [st_IA, st_II, if_pos rfl]
          · by_cases hkz : k = s.1
            · subst hkz
              refine ⟨?_, ?_, ?_⟩
              · show upd (tg_A st 38) s.1 m s.1 = upd s.2.1 s.1 m s.1
                rw [pk_us, pk_us]
              · show upd (upd (tg_A st 39) s.1 0) s.1 (upd (tg_A st 39) s.1 0 s.1 + 1) s.1 = upd s.2.2.1 s.1 1 s.1
                rw [pk_us, pk_us, pk_us]; rfl
              · show upd (tg_A st 40) s.1 (nI i) s.1 = upd s.2.2.2 s.1 (nI i) s.1
                rw [pk_us, pk_us]
            · have hk' : k < s.1 := by
                have : k < s.1 + 1 := hk
                omega
              obtain ⟨k1, k2, k3⟩ := h.2 k hk'
              refine ⟨?_, ?_, ?_⟩
              · show upd (tg_A st 38) s.1 m k = upd s.2.1 s.1 m k
                rw [pk_un hkz, pk_un hkz, k1]
              · show upd (upd (tg_A st 39) s.1 0) s.1 (upd (tg_A st 39) s.1 0 s.1 + 1) k = upd s.2.2.1 s.1 1 k
                rw [pk_un hkz, pk_un hkz, pk_un hkz, k2]
              · show upd (tg_A st 40) s.1 (nI i) k = upd s.2.2.2 s.1 (nI i) k
                rw [pk_un hkz, pk_un hkz, k3]
        · obtain ⟨z, hz2⟩ : ∃ z, s.1 = z + 1 := ⟨s.1 - 1, by omega⟩
          have h0' : tg_I st 125 = nI (z + 1) := by rw [h0, hz2]
          have k0 := (h.2 z (by omega)).1
          have hpr : tg_I st 125 - 1 = nI z := by rw [h0', nI_pred]
          by_cases hq : s.2.1 z = m
          · rw [if_neg (by rw [show s.1 - 1 = z by omega]; intro e; exact e.elim hz (fun e => e hq))]
            refine ⟨_, fun k => by
              rw [ite_p ez, if_neg hz, hpr, pz_tal (by omega) (by omega), k0, if_pos hq, pz_tal (by omega) (by omega), pz_tas (by omega) (by omega), nI_clamp (by omega)], tFr.putA (by decide), ?_, fun k hk => ?_⟩
            · rw [st_IA]; exact h0
            · obtain ⟨k1, k2, k3⟩ := h.2 k hk
              refine ⟨k1, ?_, k3⟩
              show upd (tg_A st 39) z (tg_A st 39 z + 1) k = upd s.2.2.1 (s.1 - 1) (s.2.2.1 (s.1 - 1) + 1) k
              rw [show s.1 - 1 = z by omega]
              by_cases hkz : k = z
              · subst hkz; rw [pk_us, pk_us, k2]
              · rw [pk_un hkz, pk_un hkz, k2]
          · rw [if_pos (Or.inr (by rw [show s.1 - 1 = z by omega]; exact hq))]
            refine ⟨_, fun k => by
              rw [ite_p ez, if_neg hz, hpr, pz_tal (by omega) (by omega), k0, if_neg hq, h0, pz_tas (by omega) (by omega), nI_clamp (by omega), st_IA, h0, pz_tas (by omega) (by omega), nI_clamp (by omega), st_IA, st_IA, h0, pz_tas (by omega) (by omega), nI_clamp (by omega)]
              simp only [tlet]
              rw [st_II, if_pos rfl, st_IA, st_IA, st_IA, h0, nI_1, nI_pred, pz_tal (by omega) (by omega), pz_tas (by omega) (by omega), nI_clamp (by omega)], ((((tFr.putA (by decide)).tr (tFr.putA (by decide))).tr (tFr.putA (by decide))).tr (tFr.putI (by decide))).tr (tFr.putA (by decide)), ?_, fun k hk => ?_⟩
            · rw [st_IA, st_II, if_pos rfl]
            · by_cases hkz : k = s.1
              · subst hkz
                refine ⟨?_, ?_, ?_⟩
                · show upd (tg_A st 38) s.1 m s.1 = upd s.2.1 s.1 m s.1
                  rw [pk_us, pk_us]
                · show upd (upd (tg_A st 39) s.1 0) s.1 (upd (tg_A st 39) s.1 0 s.1 + 1) s.1 = upd s.2.2.1 s.1 1 s.1
                  rw [pk_us, pk_us, pk_us]; rfl
                · show upd (tg_A st 40) s.1 (nI i) s.1 = upd s.2.2.2 s.1 (nI i) s.1
                  rw [pk_us, pk_us]
              · have hk' : k < s.1 := by
                  have : k < s.1 + 1 := hk
                  omega
                obtain ⟨k1, k2, k3⟩ := h.2 k hk'
                refine ⟨?_, ?_, ?_⟩
                · show upd (tg_A st 38) s.1 m k = upd s.2.1 s.1 m k
                  rw [pk_un hkz, pk_un hkz, k1]
                · show upd (upd (tg_A st 39) s.1 0) s.1 (upd (tg_A st 39) s.1 0 s.1 + 1) k = upd s.2.2.1 s.1 1 k
                  rw [pk_un hkz, pk_un hkz, pk_un hkz, k2]
                · show upd (tg_A st 40) s.1 (nI i) k = upd s.2.2.2 s.1 (nI i) k
                  rw [pk_un hkz, pk_un hkz, k3]
      obtain ⟨st', e1, e2, e3⟩ := hA
      rw [e1]
      simp only [tlet, nI_1]
      exact ih st' ⟨e2, e3⟩
