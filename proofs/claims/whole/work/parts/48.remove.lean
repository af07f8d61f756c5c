/-! ===== remove ===== -/
def delU (a : AB) (c l : Nat) : AB := setD a (va_up a.del l (a.del l ||| ((1 : Int32) <<< (nI c &&& 31))))
theorem delU_bt {a : AB} {c l m d : Nat} (hc : c < 32) (hd : d < 32) : bt ((delU a c l).del m) d = (bt (a.del m) d || (decide (d = c) && decide (m = l))) := by
  show bt (va_up a.del l _ m) d = _
  by_cases e : m = l
  · rw [e, va_up_self, b_or, b_one hc hd, decide_eq_true rfl, Bool.and_true]
  · rw [va_up_ne _ _ e, decide_eq_false e, Bool.and_false, Bool.or_false]
theorem Inv_delU {a : AB} (h : Inv a) {c l : Nat} (hc : c < a.nC) (hk : a.kind c = 1) : Inv (delU a c l) := by
  have hC := h.nC
  refine Inv_setD h _ (fun m hm d hd => ?_)
  by_cases q : d < 32
  · have e := delU_bt (a := a) (c := c) (l := l) (m := m) (d := d) (by omega) q
    have e : bt (va_up a.del l (a.del l ||| ((1 : Int32) <<< (nI c &&& 31))) m) d = _ := e
    rw [e] at hd
    simp only [Bool.or_eq_true, Bool.and_eq_true, decide_eq_true_eq] at hd
    rcases hd with hd | hd
    · exact h.del hm hd
    · rw [hd.1]; exact ⟨hc, hk⟩
  · rw [b_big (by omega)] at hd; cases hd
theorem x_del1 {a : AB} {st : tST} (h : XR a st) (hI : Inv a) {c l : Nat} (hc : c < a.nC) (hl : l < a.nL) : XR (delU a c l) (tcS st c l) := by
  have hC := hI.nC
  have hL := hI.nL
  refine ⟨h.1, h.2.1, h.2.2.1, h.2.2.2.1, h.2.2.2.2.1, fun d hd => ?_⟩
  have hd : d < a.nC := hd
  refine ⟨h.kind hd, h.auth hd, h.stat hd, h.shwn hd, fun m hm => ?_⟩
  rw [tcS_bl (by omega) hm, h.tch hd hm]
  show _ = (decide (m < a.nL) && (decide (a.ins m = some d) || bt ((delU a c l).del m) d || mvd a m d))
  rw [delU_bt (by omega) (by omega)]
  unfold tch
  by_cases e : m < a.nL
  · rw [decide_eq_true e, Bool.true_and, Bool.true_and, Bool.or_assoc, Bool.or_assoc, Bool.or_assoc, Bool.or_assoc, Bool.or_comm (mvd a m d)]
  · rw [decide_eq_false e, decide_eq_false (show ¬ m = l by omega), Bool.false_and, Bool.false_and, Bool.and_false, Bool.or_false]
theorem m_del1 {a : AB} {st : tST} (h : MR a st) {c l : Nat} : MR (delU a c l) (tp_A st 24 l (a.del l ||| ((1 : Int32) <<< (nI c &&& 31)))) := by
  refine ⟨h.1, h.2.1, fun m hm => ⟨h.sign hm, h.ins hm, h.home hm, ?_⟩, h.2.2.2.1, h.2.2.2.2.1, h.2.2.2.2.2⟩
  have hm : m < a.nL := hm
  show upd (tg_A st 24) l _ m = va_up a.del l _ m
  by_cases e : m = l
  · rw [e, pk_us, va_up_self]
  · rw [pk_un e, va_up_ne _ _ e]; exact h.del hm
def dA (b : AB) (c : Nat) (f : Nat → Nat) : Nat → AB
  | 0 => b
  | k + 1 => delU (dA b c f k) c (f k)
theorem dA_n (b : AB) (c : Nat) (f : Nat → Nat) : ∀ k, (dA b c f k).nL = b.nL ∧ (dA b c f k).nP = b.nP ∧ (dA b c f k).nC = b.nC ∧ (dA b c f k).kind = b.kind ∧ (dA b c f k).lt = b.lt ∧ (dA b c f k).line = b.line
  | 0 => ⟨rfl, rfl, rfl, rfl, rfl, rfl⟩
  | k + 1 => dA_n b c f k
theorem Inv_dA {b : AB} (h : Inv b) {c : Nat} {f : Nat → Nat} (hc : c < b.nC) (hk : b.kind c = 1) : ∀ k, Inv (dA b c f k)
  | 0 => h
  | k + 1 => by
    obtain ⟨h1, h2, h3, h4, h5, h6⟩ := dA_n b c f k
    exact Inv_delU (Inv_dA h hc hk k) (by rw [h3]; exact hc) (by rw [h4]; exact hk)
theorem x_removeAll {b : AB} {st : tST} (h : XR b st) (hI : Inv b) {c i n : Nat} {kq : Nat → Nat} (hc : c < b.nC) (hk : b.kind c = 1) (hin : i + n ≤ 90) (hr : ∀ k, k < n → kq k < b.nP ∧ tg_A st 18 (i + k) = nI (kq k)) : ∃ st', f_X3_remove_69 tfu (nI i) (nI n) (nI c) (nI i) st = some (nI c, st') ∧ mSame st st' ∧ tg_I st' 4 = tg_I st 4 ∧ tg_I st' 5 = tg_I st 5 ∧ XR (dA b c (fun k => b.lt (b.line (kq k))) n) st' := by
  have hC := hI.nC
  have hP := hI.nP
  refine lp_q (F := fun m (x : tST) q => f_X3_remove_69 m (nI i) (nI n) (nI c) q x) (J := fun q x => ∃ k, q = i + k ∧ mSame st x ∧ tg_I x 4 = tg_I st 4 ∧ tg_I x 5 = tg_I st 5 ∧ tg_A x 18 = tg_A st 18 ∧ XR (dA b c (fun k => b.lt (b.line (kq k))) k) x) (N := i + n) (Q := fun o => ∃ st', o = some (nI c, st') ∧ mSame st st' ∧ tg_I st' 4 = tg_I st 4 ∧ tg_I st' 5 = tg_I st 5 ∧ XR (dA b c (fun k => b.lt (b.line (kq k))) n) st') ?_ ?_ i tfu st (by omega) (tfu_gt (by omega)) ⟨0, rfl, mSame.rf, rfl, rfl, rfl, h⟩
  · intro m x ⟨k, hq, h1, h2, h3, h4, h5⟩
    have hkn : k = n := by omega
    subst hkn
    show ∃ st', f_X3_remove_69 (m + 1) (nI i) (nI k) (nI c) (nI (i + k)) x = _ ∧ _
    rw [f_X3_remove_69, nI_add, if_pos (nI_le (Nat.le_refl _) (by omega))]
    exact ⟨x, rfl, h1, h2, h3, h5⟩
  · intro m x q hq2 ⟨k, hq, h1, h2, h3, h4, h5⟩ ih
    subst hq
    show ∃ st', f_X3_remove_69 (m + 1) (nI i) (nI n) (nI c) (nI (i + k)) x = _ ∧ _
    obtain ⟨q1, q2, q3, q4, q5, q6⟩ := dA_n b c (fun k => b.lt (b.line (kq k))) k
    obtain ⟨r1, r2⟩ := hr k (by omega)
    have hlt := hI.lt (hI.line r1)
    rw [f_X3_remove_69, nI_add, if_neg (nI_ge hq2 (by omega)), pz_tal (by omega) (by omega), h4, r2, pz_tal (by omega) (by omega), h5.lt (by omega), q5, q6, x_touch (by omega), pz_bs]
    simp only [tlet, nI_1]
    exact ih _ ⟨k + 1, rfl, h1.tr mSame.B, h2, h3, h4, x_del1 h5 (Inv_dA hI hc hk k) (by omega) (show b.lt (b.line (kq k)) < _ by omega)⟩
theorem m_removeAll {b : AB} {st : tST} (h : MR b st) (hI : Inv b) {c i n : Nat} {kq : Nat → Nat} (hc : c < b.nC) (hk : b.kind c = 1) (hin : i + n ≤ 64) (hr : ∀ k, k < n → kq k < b.nP ∧ tg_A st 35 (i + k) = nI (b.line (kq k))) : ∃ st', f_X4_remove_82 tfu (nI i) (nI n) (nI c) (nI i) st = some (nI c, st') ∧ tFr [] [] [24] st st' ∧ MR (dA b c (fun k => b.lt (b.line (kq k))) n) st' := by
  have hC := hI.nC
  have hP := hI.nP
  have hL := hI.nL
  refine lp_q (F := fun m (x : tST) q => f_X4_remove_82 m (nI i) (nI n) (nI c) q x) (J := fun q x => ∃ k, q = i + k ∧ tFr [] [] [24] st x ∧ MR (dA b c (fun k => b.lt (b.line (kq k))) k) x) (N := i + n) (Q := fun o => ∃ st', o = some (nI c, st') ∧ tFr [] [] [24] st st' ∧ MR (dA b c (fun k => b.lt (b.line (kq k))) n) st') ?_ ?_ i tfu st (by omega) (tfu_gt (by omega)) ⟨0, rfl, tFr.rf, h⟩
  · intro m x ⟨k, hq, h1, h5⟩
    have hkn : k = n := by omega
    subst hkn
    show ∃ st', f_X4_remove_82 (m + 1) (nI i) (nI k) (nI c) (nI (i + k)) x = _ ∧ _
    rw [f_X4_remove_82, nI_add, if_pos (nI_le (Nat.le_refl _) (by omega))]
    exact ⟨x, rfl, h1, h5⟩
  · intro m x q hq2 ⟨k, hq, h1, h5⟩ ih
    subst hq
    show ∃ st', f_X4_remove_82 (m + 1) (nI i) (nI n) (nI c) (nI (i + k)) x = _ ∧ _
    obtain ⟨q1, q2, q3, q4, q5, q6⟩ := dA_n b c (fun k => b.lt (b.line (kq k))) k
    obtain ⟨r1, r2⟩ := hr k (by omega)
    have hli := hI.line r1
    have hlt := hI.lt hli
    rw [f_X4_remove_82, nI_add, if_neg (nI_ge hq2 (by omega)), pz_tal (by omega) (by omega), h1.2.2.1 35 (by decide), r2, pz_tal (by omega) (by omega), h5.lt (by omega), q5, pz_tal (by omega) (by omega), h5.del (by omega), pz_tas (by omega) (by omega), nI_clamp (by omega)]
    simp only [tlet, nI_1]
    exact ih _ ⟨k + 1, rfl, h1.tr (tFr.putA (by decide)), m_del1 h5⟩
theorem s_remove {a : AB} {st : tST} (h : Rel a st) (x y z : Int32) : tStp (f_X3_remove x y z st) (f_X4_remove x y z) := by
  obtain ⟨hX, hM, hI, h4, h5⟩ := id h
  have hL := hI.nL
  have hC := hI.nC
  have hP := hI.nP
  rcases ix_all x (n := 4) (by omega) with hx | ⟨j, hj, rfl⟩
  · refine ⟨-1001, st, st, ?_, ?_, a, h⟩
    · unfold f_X3_remove; rw [x_isAuthor_out hx]; rfl
    · unfold f_X4_remove; rw [m_isAuthor_out hx]; rfl
  · obtain ⟨v1, s1, v2, v3, v4⟩ := x_sight hX hI hj
    have MM := fun (u : tST) (hu : MR a u) => m_sight hu hI j
    obtain ⟨S, hS⟩ : ∃ S, S = mkV a (nI (j + 2)) := ⟨_, rfl⟩
    rw [← hS] at v1 v2 v4 MM
    have hle := fb_ct_le (hp a S) a.nP
    have hcnt := hp_count hI S
    have kok := fun k (hk : k < fb_ct (hp a S) a.nP) => (kp_ok hk).1
    obtain ⟨len, hlen⟩ : ∃ len, len = fb_ct (hp a S) a.nP := ⟨_, rfl⟩
    rw [← hlen] at v2 v4 MM hle hcnt kok
    obtain ⟨w1, s2, w2, w3, w4, w5⟩ := MM s1 (hM.sc v3.sc)
    have hs1 := hX.sc v3.sc
    have hs2 := (hM.sc v3.sc).sc w3.sc
    have rel := (h.sc v3.sc).sc w3.sc
    unfold tStp f_X3_remove f_X4_remove
    rw [x_isAuthor_in hj, pz_bs, if_neg one_ne, v1, pz_bs, v2, pz_bd]
    simp only [m_isAuthor_in hj, pz_bs, if_neg one_ne]
    rcases range_all y z (n := len) (by omega) with ⟨r1, r2⟩ | ⟨r1, r2, r3⟩ | ⟨i, n, rfl, rfl, hn, hin, r1, r2, r3⟩
    · refine ⟨-1001, s1, s2, ?_, ?_, a, rel⟩
      · rw [r1]; rfl
      · rw [w1, pz_bs, w2, pz_bs, w4, r2]; rfl
    · refine ⟨-1002, s1, s2, ?_, ?_, a, rel⟩
      · rw [r1]; rfl
      · rw [w1, pz_bs, w2, pz_bs, w4, r2, pz_bs, if_neg one_ne, r3]; rfl
    · rw [r1, pz_bs, if_pos rfl, x_isFull hs1 hI, pz_bs]
      by_cases c2 : a.nC < 12
      · rw [if_pos c2, if_pos rfl]
        obtain ⟨sa, a1, a2, a3, a4, a5, a6⟩ := x_add hs1 hI c2 1 (nI j)
        have hIb := Inv_addC hI (kind := 1) (nI j) c2 (Or.inr (Or.inl rfl))
        have kb : (addC a 1 (nI j)).kind a.nC = 1 := va_up_self _ _ _
        obtain ⟨sX, b1, b2, b3, b4, b5⟩ := x_removeAll (c := a.nC) (i := i) (n := n) (kq := fun k => kp a S (i + k)) a6 hIb (Nat.lt_succ_self _) kb (by omega) (fun k hk => ⟨kok _ (by omega), by rw [a5, v4 _ (by omega)]⟩)
        have ms : mSame st sX := ((mSame.fr v3 (by decide) (by decide)).tr a2).tr b2
        have hMX := hM.same ms
        obtain ⟨m1, s6, m2, m3, m4, m5⟩ := MM sX hMX
        have hM6 := hMX.sc m3.sc
        obtain ⟨s7, n1, n2, n3⟩ := m_add hM6 c2 1 (nI j)
        obtain ⟨s8, o1, o2, o3⟩ := m_removeAll (c := a.nC) (i := i) (n := n) (kq := fun k => kp a S (i + k)) n3 hIb (Nat.lt_succ_self _) kb (by omega) (fun k hk => ⟨kok _ (by omega), by rw [n2.2.2.1 35 (by decide), m5 _ (by omega)]; rfl⟩)
        refine ⟨nI a.nC, sX, s8, ?_, ?_, _, rel_end ms ?_ ?_ h4 h5 (((xSame.fr m3 (by decide) (by decide) (by decide)).tr (xSame.fr n2 (by decide) (by decide) (by decide))).tr (xSame.fr o2 (by decide) (by decide) (by decide))) ?_ ?_ b5 o3 (Inv_dA hIb (Nat.lt_succ_self _) kb n)⟩
        · rw [a1, pz_bd, b1]
        · rw [m1, pz_bs, m2, pz_bs, m4, r2, pz_bs, if_neg one_ne, r3, pz_bs, if_neg one_ne, if_neg (by rw [m_full hM6 hI]; exact fun e => e c2), n1, pz_bd, o1]
        · rw [b3, a3, v3.1 4 (by decide)]
        · rw [b4, a4, v3.1 5 (by decide)]
        · rw [o2.1 119 (by decide), n2.1 119 (by decide), m3.1 119 (by decide)]
        · rw [o2.1 120 (by decide), n2.1 120 (by decide), m3.1 120 (by decide)]
      · rw [if_neg c2, if_neg one_ne]
        refine ⟨-1004, s1, s2, rfl, ?_, a, rel⟩
        rw [w1, pz_bs, w2, pz_bs, w4, r2, pz_bs, if_neg one_ne, r3, pz_bs, if_neg one_ne, if_pos (by rw [m_full hs2 hI]; exact c2)]
