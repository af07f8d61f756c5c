theorem one_ne : ¬ (1 : Int32) = 0 := by decide
theorem rel_end {a' : AB} {st sX s8 : tST} (hm : mSame st sX) (h4 : tg_I sX 4 = tg_I st 4) (h5 : tg_I sX 5 = tg_I st 5) (e4 : tg_I st 4 = tg_I st 119) (e5 : tg_I st 5 = tg_I st 120) (hx : xSame sX s8) (k1 : tg_I s8 119 = tg_I sX 119) (k2 : tg_I s8 120 = tg_I sX 120) (X : XR a' sX) (M : MR a' s8) (I : Inv a') : Rel a' s8 := by
  refine ⟨X.same hx, M, I, ?_, ?_⟩
  · rw [hx.1 4 (by decide), h4, e4, k1, hm.1 119 (by decide)]
  · rw [hx.1 5 (by decide), h5, e5, k2, hm.1 120 (by decide)]
theorem s_insert {a : AB} {st : tST} (h : Rel a st) (x y : Int32) : tStp (f_X3_insert x y st) (f_X4_insert x y) := by
  obtain ⟨hX, hM, hI, h4, h5⟩ := id h
  have hpl := hI.pl
  have hL := hI.nL
  have hC := hI.nC
  have hP := hI.nP
  rcases ix_all x (n := 4) (by omega) with hx | ⟨j, hj, rfl⟩
  · refine ⟨-1001, st, st, ?_, ?_, a, h⟩
    · unfold f_X3_insert; rw [x_isAuthor_out hx]; rfl
    · unfold f_X4_insert; rw [m_isAuthor_out hx]; rfl
  · obtain ⟨v1, s1, v2, v3, v4⟩ := x_sight hX hI hj
    have MM := fun (u : tST) (hu : MR a u) => m_sight hu hI j
    obtain ⟨S, hS⟩ : ∃ S, S = mkV a (nI (j + 2)) := ⟨_, rfl⟩
    rw [← hS] at v1 v2 v4 MM
    have hle := fb_ct_le (hp a S) a.nP
    have XA := fun (u : tST) (hu : XR a u) (i : Nat) hi hr => x_ahead (S := S) (j := i) hu hI hi hr
    have MA := fun (u : tST) (hu : MR a u) (i : Nat) hi h1 hr => m_ahead (S := S) (j := i) hu hI hi h1 hr
    obtain ⟨len, hlen⟩ : ∃ len, len = fb_ct (hp a S) a.nP := ⟨_, rfl⟩
    rw [← hlen] at v2 v4 MM hle XA MA
    obtain ⟨w1, s2, w2, w3, w4, w5⟩ := MM s1 (hM.sc v3.sc)
    have hs1 := hX.sc v3.sc
    have hs2 := (hM.sc v3.sc).sc w3.sc
    have rel := (h.sc v3.sc).sc w3.sc
    unfold tStp f_X3_insert f_X4_insert
    rw [x_isAuthor_in hj, pz_bs, if_neg one_ne, v1, pz_bs, v2, pz_bd]
    simp only [m_isAuthor_in hj, pz_bs, if_neg one_ne]
    rcases ix_all y (n := len + 1) (by omega) with hy | ⟨i, hi, rfl⟩
    · refine ⟨-1001, s1, s2, ?_, ?_, a, rel⟩
      · rcases ix_out (by omega) hy with q | ⟨q1, q2, q3⟩
        · rw [if_pos q]
        · rw [if_neg q1, if_neg (fun e => nI_ge (a := len) (b := len + 1) (by omega) (by omega) (Int32.le_trans q3 e))]
      · rw [w1, pz_bs, w2, pz_bs, w4, wn_no (by omega) hy]; rfl
    · rw [if_neg (nI_pos (by omega)), if_pos (nI_le (show i ≤ len by omega) (by omega))]
      have wn : f_X4_within (nI i) 0 (nI len) = some 1 := wn_to (by omega) (by omega)
      by_cases c0 : a.pl = 0
      · refine ⟨-1003, s1, s2, ?_, ?_, a, rel⟩
        · rw [if_pos (by rw [hs1.pl, c0]; rfl)]
        · rw [w1, pz_bs, w2, pz_bs, w4, wn, pz_bs, if_neg one_ne, if_pos (by rw [hs2.pl, c0]; rfl)]
      · have c0' : ∀ u, tg_I u 0 = nI a.pl → ¬ tg_I u 0 = 0 := fun u hu => by rw [hu]; exact nI_ne0 (by omega) (by omega)
        have c0'' : ∀ u, MR a u → ¬ tg_I u 100 = 0 := fun u hu => by rw [hu.pl]; exact nI_ne0 (by omega) (by omega)
        rw [if_neg (c0' s1 hs1.pl)]
        by_cases c1 : 64 < a.nL + a.pl
        · refine ⟨-1004, s1, s2, ?_, ?_, a, rel⟩
          · rw [if_pos (by rw [hs1.pl, hs1.nL, nI_add]; exact nI_lt (a := 64) c1 (by omega))]
          · rw [w1, pz_bs, w2, pz_bs, w4, wn, pz_bs, if_neg one_ne, if_neg (c0'' s2 hs2), if_pos (by rw [hs2.pl, hs2.nL, nI_add]; exact nI_lt (a := 64) c1 (by omega))]
        · rw [if_neg (by rw [hs1.pl, hs1.nL, nI_add]; exact nI_nlt (a := 64) (by omega) (by omega)), x_isFull hs1 hI, pz_bs]
          have c1' : ∀ u, MR a u → ¬ (64 : Int32) < tg_I u 102 + tg_I u 100 := fun u hu => by rw [hu.pl, hu.nL, nI_add]; exact nI_nlt (a := 64) (by omega) (by omega)
          by_cases c2 : a.nC < 12
          · rw [if_pos c2, if_pos rfl]
            have c2' : ∀ u, MR a u → ¬ tg_I u 107 = (12 : Int32) := fun u hu => by rw [m_full hu hI]; exact fun e => e c2
            by_cases c3 : a.nP + a.pl ≤ 90
            · rw [if_pos (by rw [hs1.pl, hs1.nP, nI_add]; exact nI_le (b := 90) c3 (by omega)), XA s1 hs1 i (by omega) v4, pz_bs]
              have hg := gA_le (a := a) (S := S) (j := i)
              obtain ⟨g, hgg⟩ : ∃ g, g = gA a S i := ⟨_, rfl⟩
              rw [← hgg] at hg ⊢
              obtain ⟨sa, a1, a2, a3, a4, a5, a6⟩ := x_add hs1 hI c2 0 (nI j)
              have hIb := Inv_addC hI (kind := 0) (nI j) c2 (Or.inl rfl)
              have kb : (addC a 0 (nI j)).kind a.nC = 0 := va_up_self _ _ _
              obtain ⟨sX, b1, b2, b3, b4, b5⟩ := x_insertPage (c := a.nC) (g := g) a6 hIb (Nat.lt_succ_self _) kb hg (show a.nL + a.pl ≤ 64 by omega) c3
              have ms : mSame st sX := ((mSame.fr v3 (by decide) (by decide)).tr a2).tr b2
              have hMX := hM.same ms
              obtain ⟨m1, s6, m2, m3, m4, m5⟩ := MM sX hMX
              have hM6 := hMX.sc m3.sc
              obtain ⟨s7, n1, n2, n3⟩ := m_add hM6 c2 0 (nI j)
              obtain ⟨s8, o1, o2, o3⟩ := m_insertPage (c := a.nC) (g := g) n3 hIb (Nat.lt_succ_self _) kb hg (show a.nL + a.pl ≤ 64 by omega) c3
              refine ⟨nI a.nC, sX, s8, ?_, ?_, _, rel_end ms ?_ ?_ h4 h5 (((xSame.fr m3 (by decide) (by decide) (by decide)).tr (xSame.fr n2 (by decide) (by decide) (by decide))).tr (xSame.fr o2 (by decide) (by decide) (by decide))) ?_ ?_ b5 o3 (Inv_setG (Inv_iA hIb (Nat.lt_succ_self _) kb hg a.pl (show a.nL + a.pl ≤ 64 by omega) c3) _ (Nat.zero_le _))⟩
              · unfold f_X3_insertPage
                rw [a1, pz_bd, b1, pz_bd]
              · rw [m1, pz_bs, m2, pz_bs, m4, wn, pz_bs, if_neg one_ne, if_neg (c0'' s6 hM6), if_neg (c1' s6 hM6), if_neg (c2' s6 hM6), if_pos (by rw [hM6.pl, hM6.nP, nI_add]; exact nI_le (b := 90) c3 (by omega)), MA s6 hM6 i (by omega) m4 m5, pz_bs, n1, pz_bd, ← hgg, o1]
              · rw [b3, a3, v3.1 4 (by decide)]
              · rw [b4, a4, v3.1 5 (by decide)]
              · rw [o2.1 119 (by decide), n2.1 119 (by decide), m3.1 119 (by decide)]
              · rw [o2.1 120 (by decide), n2.1 120 (by decide), m3.1 120 (by decide)]
            · refine ⟨-1004, s1, s2, ?_, ?_, a, rel⟩
              · rw [if_neg (by rw [hs1.pl, hs1.nP, nI_add]; exact nI_ge (a := 90) (by omega) (by omega))]
              · rw [w1, pz_bs, w2, pz_bs, w4, wn, pz_bs, if_neg one_ne, if_neg (c0'' s2 hs2), if_neg (c1' s2 hs2), if_neg (c2' s2 hs2), if_neg (by rw [hs2.pl, hs2.nP, nI_add]; exact nI_ge (a := 90) (by omega) (by omega))]
          · rw [if_neg c2, if_neg one_ne]
            refine ⟨-1004, s1, s2, rfl, ?_, a, rel⟩
            rw [w1, pz_bs, w2, pz_bs, w4, wn, pz_bs, if_neg one_ne, if_neg (c0'' s2 hs2), if_neg (c1' s2 hs2), if_pos (by rw [m_full hs2 hI]; exact c2)]
