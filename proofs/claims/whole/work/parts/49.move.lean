/-! ===== move ===== -/
theorem mvd_addP {a : AB} {l q c g m d : Nat} : mvd (addP a l (some q) (some c) g) m d = (mvd a m d || (decide (d = c) && decide (m = l))) := by
  show exs (fun r => decide (va_up a.lt a.nP l r = m) && (va_up a.fr a.nP (some q) r).isSome && decide (va_up a.by_ a.nP (some c) r = some d)) (a.nP + 1) = _
  rw [exs, va_up_self, va_up_self, va_up_self]
  congr 1
  · exact exs_cong (fun q hq => by rw [va_up_ne _ _ (by omega), va_up_ne _ _ (by omega), va_up_ne _ _ (by omega)])
  · rw [Option.isSome_some, Bool.and_true, Bool.and_comm]
    congr 1
    · exact decide_eq_decide.mpr ⟨fun e => by cases e; rfl, fun e => by rw [e]⟩
    · exact decide_eq_decide.mpr ⟨fun e => e.symm, fun e => e.symm⟩
def XQ (a : AB) (st : tST) : Prop :=
  (tg_I st 0 = nI a.pl ∧ tg_I st 1 = nI a.nL ∧ tg_I st 7 = nI a.nC) ∧
  (∀ j, j < a.pl → tg_A st 1 j = a.page j) ∧ (∀ l, l < a.nL → tg_A st 2 l = a.sign l) ∧
  (∀ l, l < 64 → bl (tg_L st 0) l = (decide (l < a.nL) && decide (a.ins l = none))) ∧
  (∀ c, c < a.nC → tg_A st 9 c = a.kind c ∧ tg_A st 10 c = a.auth c ∧ tg_A st 11 c = a.stat c ∧ tg_A st 12 c = a.shwn c ∧ ∀ l, l < 64 → bl (tg_B st 13 c) l = (decide (l < a.nL) && tch a l c))
theorem XQ_of {a : AB} {st : tST} (h : XR a st) : XQ a st := ⟨⟨h.pl, h.nL, h.nC⟩, h.2.1, h.2.2.1, h.2.2.2.1, h.2.2.2.2.2⟩
theorem XQ_to {a : AB} {st : tST} {g : Nat} (h : XQ a st) (p : XP a st g 0) : XR a st := by
  obtain ⟨p1, p2⟩ := XP_to p
  exact ⟨⟨h.1.1, h.1.2.1, p1, h.1.2.2⟩, h.2.1, h.2.2.1, h.2.2.2.1, p2, h.2.2.2.2⟩
theorem XQ_fr {a : AB} {st st' : tST} (h : XQ a st) (f : tFr [6] [] [4, 5, 6, 7] st st') : XQ a st' := by
  unfold XQ
  rw [f.1 0 (by decide), f.1 1 (by decide), f.1 7 (by decide), f.2.1 0 (by decide), f.2.2.1 1 (by decide), f.2.2.1 2 (by decide), f.2.2.1 9 (by decide), f.2.2.1 10 (by decide), f.2.2.1 11 (by decide), f.2.2.1 12 (by decide), f.2.2.2 13]
  exact h
theorem x_mv1 {a : AB} {st : tST} {g w q l c : Nat} (h : XQ a st) (p : XP a st g (w + 1)) (hI : Inv a) (hq : q < a.nP) (hl : l = a.lt q) (hc : c < a.nC) (hg : g ≤ a.nP) (hN : a.nP + w + 1 ≤ 90) : ∃ st', f_X1_put (nI g) (nI l) (nI (xi g (w + 1) (a.pos q))) (nI c) (tcS st c l) = some st' ∧ mSame st st' ∧ tg_I st' 4 = tg_I st 4 ∧ tg_I st' 5 = tg_I st 5 ∧ tg_A st' 18 = tg_A st 18 ∧ XQ (addP a l (some q) (some c) g) st' ∧ XP (addP a l (some q) (some c) g) st' (g + 1) w := by
  have hC := hI.nC
  have hL := hI.nL
  have hlt : l < a.nL := by rw [hl]; exact hI.lt hq
  have p2 : XP a (tcS st c l) g (w + 1) := p
  obtain ⟨s, e1, e2, e3⟩ := x_put (l := l) (f := some q) (b := some c) p2 (fun i hi => hI.line hi) (fun i hi => hI.pl_ hi) (fun i hi => hI.lp hi) (fun r t hr ht => by have := (hI.fr hr ht).1; omega) hg hN (fun t ht => by cases ht; exact ⟨hq, hI.pos hq, c, rfl, by omega⟩)
  refine ⟨s, e1, mSame.B.tr (mSame.fr e2 (by decide) (by decide)), e2.1 4 (by decide), e2.1 5 (by decide), e2.2.2.1 18 (by decide), ?_, e3⟩
  refine XQ_fr (st := tcS st c l) ?_ (e2.mono (by decide) (by decide) (by decide))
  refine ⟨h.1, h.2.1, h.2.2.1, h.2.2.2.1, fun d hd => ?_⟩
  have hd : d < a.nC := hd
  obtain ⟨k1, k2, k3, k4, k5⟩ := h.2.2.2.2 d hd
  refine ⟨k1, k2, k3, k4, fun m hm => ?_⟩
  rw [tcS_bl (by omega) hm, k5 m hm]
  show _ = (decide (m < a.nL) && (decide (a.ins m = some d) || bt (a.del m) d || mvd (addP a l (some q) (some c) g) m d))
  rw [mvd_addP]
  unfold tch
  by_cases e : m < a.nL
  · rw [decide_eq_true e, Bool.true_and, Bool.true_and]
    simp only [Bool.or_assoc]
  · rw [decide_eq_false e, decide_eq_false (show ¬ m = l by omega), Bool.false_and, Bool.false_and, Bool.and_false, Bool.or_false]
theorem m_mv1 {a : AB} {st : tST} {g q l c : Nat} (h : MR a st) (hI : Inv a) (hq : q < a.nP) (hg : g ≤ a.nP) (hN : a.nP < 90) : ∃ st', f_X4_layPlace (nI l) (nI q) (nI c) (nI g) st = some st' ∧ tFr [112] [] [29, 30, 31, 32, 33, 34] st st' ∧ MR (addP a l (some q) (some c) g) st' := by
  obtain ⟨s, e1, e2, e3⟩ := m_layPlace (st := st) (l := l) (f := some q) (b := some c) (g := g) ⟨h.nP, h.2.2.2.2.1, h.2.2.2.2.2⟩ (fun r t hr ht => by have := (hI.fr hr ht).1; omega) hg hN (fun t ht => by cases ht; exact hq)
  refine ⟨s, e1, e2, ⟨(e2.1 100 (by decide)).trans h.pl, (e2.1 102 (by decide)).trans h.nL, (e2.1 107 (by decide)).trans h.nC, e3.1⟩, ?_, ?_, ?_, e3.2.1, e3.2.2⟩
  · rw [e2.2.2.1 20 (by decide)]; exact h.2.1
  · rw [e2.2.2.1 21 (by decide), e2.2.2.1 22 (by decide), e2.2.2.1 23 (by decide), e2.2.2.1 24 (by decide)]; exact h.2.2.1
  · rw [e2.2.2.1 25 (by decide), e2.2.2.1 26 (by decide), e2.2.2.1 27 (by decide), e2.2.2.1 28 (by decide)]; exact h.2.2.2.1
def vA (b : AB) (c g : Nat) (f : Nat → Nat) : Nat → AB
  | 0 => b
  | k + 1 => addP (vA b c g f k) (b.lt (f k)) (some (f k)) (some c) (g + k)
theorem vA_n (b : AB) (c g : Nat) (f : Nat → Nat) : ∀ k, (vA b c g f k).nL = b.nL ∧ (vA b c g f k).nP = b.nP + k ∧ (vA b c g f k).nC = b.nC ∧ (vA b c g f k).kind = b.kind
  | 0 => ⟨rfl, rfl, rfl, rfl⟩
  | k + 1 => by
    obtain ⟨h1, h2, h3, h4⟩ := vA_n b c g f k
    exact ⟨h1, congrArg (· + 1) h2, h3, h4⟩
theorem vA_old (b : AB) (c g : Nat) (f : Nat → Nat) : ∀ k p, p < b.nP → (vA b c g f k).lt p = b.lt p ∧ (vA b c g f k).fr p = b.fr p ∧ (vA b c g f k).by_ p = b.by_ p
  | 0, p, _ => ⟨rfl, rfl, rfl⟩
  | k + 1, p, hp => by
    obtain ⟨h1, h2, h3, h4⟩ := vA_n b c g f k
    obtain ⟨g1, g2, g3⟩ := vA_old b c g f k p hp
    show va_up (vA b c g f k).lt (vA b c g f k).nP _ p = _ ∧ va_up (vA b c g f k).fr (vA b c g f k).nP _ p = _ ∧ va_up (vA b c g f k).by_ (vA b c g f k).nP _ p = _
    rw [va_up_ne _ _ (by omega), va_up_ne _ _ (by omega), va_up_ne _ _ (by omega)]
    exact ⟨g1, g2, g3⟩
theorem vA_new (b : AB) (c g : Nat) (f : Nat → Nat) : ∀ k j, j < k → (vA b c g f k).fr (b.nP + j) = some (f j)
  | 0, j, hj => by omega
  | k + 1, j, hj => by
    obtain ⟨h1, h2, h3, h4⟩ := vA_n b c g f k
    show va_up (vA b c g f k).fr (vA b c g f k).nP (some (f k)) (b.nP + j) = _
    by_cases e : j = k
    · rw [e, ← h2, va_up_self]
    · rw [va_up_ne _ _ (by omega)]; exact vA_new b c g f k j (by omega)
theorem vA_pos (b : AB) (c g : Nat) (f : Nat → Nat) : ∀ k w q, q < b.nP → xi (g + k) w ((vA b c g f k).pos q) = xi g (w + k) (b.pos q)
  | 0, w, q, _ => rfl
  | k + 1, w, q, hq => by
    obtain ⟨h1, h2, h3, h4⟩ := vA_n b c g f k
    show xi (g + k + 1) w (insP (vA b c g f k).pos (vA b c g f k).nP (g + k) q) = _
    rw [xi_ins (by omega), vA_pos b c g f k (w + 1) q hq, show w + 1 + k = w + (k + 1) by omega]
theorem Inv_vA {b : AB} (h : Inv b) {c g n : Nat} {f : Nat → Nat} (hc : c < b.nC) (hk : b.kind c = 2) (hg : g ≤ b.nP) (hN : b.nP + n ≤ 90) (hf : ∀ j, j < n → f j < b.nP) (hd : ∀ i j, i < j → j < n → ¬ f i = f j) (hb : ∀ p d, p < b.nP → b.by_ p = some d → d < c) : ∀ k, k ≤ n → Inv (vA b c g f k)
  | 0, _ => h
  | k + 1, q => by
    obtain ⟨h1, h2, h3, h4⟩ := vA_n b c g f k
    have hfk := hf k (by omega)
    obtain ⟨g1, g2, g3⟩ := vA_old b c g f k (f k) hfk
    refine Inv_addP (Inv_vA h hc hk hg hN hf hd hb k (by omega)) (by omega) (by omega) (by omega) g1.symm (by omega) (by rw [h4]; exact hk) (fun p d hp e1 e2 => ?_) (fun e => ?_)
    · by_cases hpb : p < b.nP
      · obtain ⟨-, -, o3⟩ := vA_old b c g f k p hpb
        rw [o3] at e2
        exact hb p d hpb e2
      · have := vA_new b c g f k (p - b.nP) (by omega)
        rw [show b.nP + (p - b.nP) = p by omega, e1] at this
        have e3 : f k = f (p - b.nP) := Option.some.inj this
        exact absurd e3.symm (hd _ _ (by omega) (by omega))
    · rw [g3] at e
      have := hb _ _ hfk e
      omega
theorem x_moveAll {b : AB} {st : tST} (hQ : XQ b st) {c g i n : Nat} {kq : Nat → Nat} (hP : XP b st g n) (hI : ∀ k, k ≤ n → Inv (vA b c g (fun k => b.line (kq k)) k)) (hc : c < b.nC) (hg : g ≤ b.nP) (hN : b.nP + n ≤ 90) (hin : i + n ≤ 90) (hr : ∀ k, k < n → kq k < b.nP ∧ tg_A st 18 (i + k) = nI (kq k)) : ∃ st', f_X3_moveLetters_24 tfu (nI i) (nI n) (nI g) (nI c) 0 st = some (nI c, st') ∧ mSame st st' ∧ tg_I st' 4 = tg_I st 4 ∧ tg_I st' 5 = tg_I st 5 ∧ XR (vA b c g (fun k => b.line (kq k)) n) st' := by
  have hIb : Inv b := hI 0 (Nat.zero_le _)
  have hC := hIb.nC
  have hP9 := hIb.nP
  refine lp_q (F := fun m (x : tST) q => f_X3_moveLetters_24 m (nI i) (nI n) (nI g) (nI c) q x) (J := fun k x => mSame st x ∧ tg_I x 4 = tg_I st 4 ∧ tg_I x 5 = tg_I st 5 ∧ tg_A x 18 = tg_A st 18 ∧ XQ (vA b c g (fun k => b.line (kq k)) k) x ∧ XP (vA b c g (fun k => b.line (kq k)) k) x (g + k) (n - k)) (N := n) (Q := fun o => ∃ st', o = some (nI c, st') ∧ mSame st st' ∧ tg_I st' 4 = tg_I st 4 ∧ tg_I st' 5 = tg_I st 5 ∧ XR (vA b c g (fun k => b.line (kq k)) n) st') ?_ ?_ 0 tfu st (Nat.zero_le _) (tfu_gt (by omega)) ⟨mSame.rf, rfl, rfl, rfl, hQ, hP⟩
  · intro m x ⟨h1, h2, h3, h4, h5, h6⟩
    show ∃ st', f_X3_moveLetters_24 (m + 1) (nI i) (nI n) (nI g) (nI c) (nI n) x = _ ∧ _
    rw [f_X3_moveLetters_24, if_pos (nI_le (Nat.le_refl _) (by omega))]
    rw [Nat.sub_self] at h6
    exact ⟨x, rfl, h1, h2, h3, XQ_to h5 h6⟩
  · intro m x k hk ⟨h1, h2, h3, h4, h5, h6⟩ ih
    show ∃ st', f_X3_moveLetters_24 (m + 1) (nI i) (nI n) (nI g) (nI c) (nI k) x = _ ∧ _
    obtain ⟨r1, r2⟩ := hr k hk
    have hIk := hI k (by omega)
    obtain ⟨q1, q2, q3, q4⟩ := vA_n b c g (fun k => b.line (kq k)) k
    have hf := hIb.line r1
    obtain ⟨o1, -, -⟩ := vA_old b c g (fun k => b.line (kq k)) k (b.line (kq k)) hf
    have hps := vA_pos b c g (fun k => b.line (kq k)) k (n - k) (b.line (kq k)) hf
    rw [show n - k + k = n by omega, hIb.pl_ r1] at hps
    have hsrc := xi_lt (g := g) (n := n) r1
    have hfk : b.line (kq k) < (vA b c g (fun k => b.line (kq k)) k).nP := by omega
    obtain ⟨t1, -⟩ := h6.2 _ (hIk.pos hfk)
    rw [hps, hIk.lp hfk, o1] at t1
    obtain ⟨s, e1, e2, e3, e4, e5, e6, e7⟩ := x_mv1 (g := g + k) (w := n - k - 1) (q := b.line (kq k)) (l := b.lt (b.line (kq k))) (c := c) h5 (by rw [show n - k - 1 + 1 = n - k by omega]; exact h6) hIk hfk o1.symm (by omega) (by omega) (by omega)
    rw [show n - k - 1 + 1 = n - k by omega, hps] at e1
    have core : ∀ src : Int32, src = nI (xi g n (kq k)) → ∃ st', tal 90 (tg_A x 4) src (fun v2 => (f_X0_touch (nI c) v2 x).bind fun s3 => tal 90 (tg_A s3 4) src fun v4 => (f_X1_put (nI g + nI k) v4 src (nI c) s3).bind fun s5 => tlet (nI k + 1) fun i6 => f_X3_moveLetters_24 m (nI i) (nI n) (nI g) (nI c) i6 s5) = some (nI c, st') ∧ mSame st st' ∧ tg_I st' 4 = tg_I st 4 ∧ tg_I st' 5 = tg_I st 5 ∧ XR (vA b c g (fun k => b.line (kq k)) n) st' := by
      intro src hsr
      rw [hsr, pz_tal (by omega) (by omega), t1, x_touch (by omega), pz_bs, pz_tal (by omega) (by omega), show tg_A (tcS x c (b.lt (b.line (kq k)))) 4 (xi g n (kq k)) = nI (b.lt (b.line (kq k))) from t1, nI_add, e1, pz_bs]
      simp only [tlet, nI_1]
      refine ih s ⟨h1.tr e2, e3.trans h2, e4.trans h3, e5.trans h4, e6, ?_⟩
      rw [show n - (k + 1) = n - k - 1 by omega]
      exact e7
    rw [f_X3_moveLetters_24, if_neg (nI_ge hk (by omega)), nI_add, pz_tal (by omega) (by omega), h4, r2]
    by_cases cc : kq k < g
    · rw [if_pos (nI_lt cc (by omega))]
      exact core _ (by unfold xi; rw [if_pos cc])
    · rw [if_neg (nI_nlt (by omega) (by omega)), nI_add]
      exact core _ (by unfold xi; rw [if_neg cc])
theorem m_moveAll {b : AB} {st : tST} (h : MR b st) {c g i n : Nat} {kq : Nat → Nat} (hI : ∀ k, k ≤ n → Inv (vA b c g (fun k => b.line (kq k)) k)) (hc : c < b.nC) (hg : g ≤ b.nP) (hN : b.nP + n ≤ 90) (hin : i + n ≤ 64) (hr : ∀ k, k < n → kq k < b.nP ∧ tg_A st 35 (i + k) = nI (b.line (kq k))) : ∃ st', f_X4_move_136 tfu (nI i) (nI n) (nI g) (nI c) 0 st = some (nI c, st') ∧ tFr [112] [] [29, 30, 31, 32, 33, 34] st st' ∧ MR (vA b c g (fun k => b.line (kq k)) n) st' := by
  have hIb : Inv b := hI 0 (Nat.zero_le _)
  refine lp_q (F := fun m (x : tST) q => f_X4_move_136 m (nI i) (nI n) (nI g) (nI c) q x) (J := fun k x => tFr [112] [] [29, 30, 31, 32, 33, 34] st x ∧ MR (vA b c g (fun k => b.line (kq k)) k) x) (N := n) (Q := fun o => ∃ st', o = some (nI c, st') ∧ tFr [112] [] [29, 30, 31, 32, 33, 34] st st' ∧ MR (vA b c g (fun k => b.line (kq k)) n) st') ?_ ?_ 0 tfu st (Nat.zero_le _) (tfu_gt (by omega)) ⟨tFr.rf, h⟩
  · intro m x ⟨h1, h5⟩
    show ∃ st', f_X4_move_136 (m + 1) (nI i) (nI n) (nI g) (nI c) (nI n) x = _ ∧ _
    rw [f_X4_move_136, if_pos (nI_le (Nat.le_refl _) (by omega))]
    exact ⟨x, rfl, h1, h5⟩
  · intro m x k hk ⟨h1, h5⟩ ih
    show ∃ st', f_X4_move_136 (m + 1) (nI i) (nI n) (nI g) (nI c) (nI k) x = _ ∧ _
    obtain ⟨r1, r2⟩ := hr k hk
    obtain ⟨q1, q2, q3, q4⟩ := vA_n b c g (fun k => b.line (kq k)) k
    have hf := hIb.line r1
    obtain ⟨o1, -, -⟩ := vA_old b c g (fun k => b.line (kq k)) k (b.line (kq k)) hf
    obtain ⟨s, e1, e2, e3⟩ := m_mv1 (g := g + k) (q := b.line (kq k)) (l := b.lt (b.line (kq k))) (c := c) h5 (hI k (by omega)) (by omega) (by omega) (by omega)
    rw [f_X4_move_136, if_neg (nI_ge hk (by omega)), nI_add, pz_tal (by omega) (by omega), h1.2.2.1 35 (by decide), r2, pz_tal (by omega) (by omega), h5.lt (by omega), o1, pz_tal (by omega) (by omega), r2, nI_add, e1, pz_bs]
    simp only [tlet, nI_1]
    exact ih s ⟨h1.tr e2, e3⟩
theorem s_move {a : AB} {st : tST} (h : Rel a st) (x y z t : Int32) : tStp (f_X3_move x y z t st) (f_X4_move x y z t) := by
  obtain ⟨hX, hM, hI, h4, h5⟩ := id h
  have hL := hI.nL
  have hC := hI.nC
  have hP := hI.nP
  rcases ix_all x (n := 4) (by omega) with hx | ⟨j, hj, rfl⟩
  · refine ⟨-1001, st, st, ?_, ?_, a, h⟩
    · unfold f_X3_move; rw [x_isAuthor_out hx]; rfl
    · unfold f_X4_move; rw [m_isAuthor_out hx]; rfl
  · obtain ⟨v1, s1, v2, v3, v4⟩ := x_sight hX hI hj
    have MM := fun (u : tST) (hu : MR a u) => m_sight hu hI j
    obtain ⟨S, hS⟩ : ∃ S, S = mkV a (nI (j + 2)) := ⟨_, rfl⟩
    rw [← hS] at v1 v2 v4 MM
    have hle := fb_ct_le (hp a S) a.nP
    have hcnt := hp_count hI S
    have kok := fun k (hk : k < fb_ct (hp a S) a.nP) => kp_ok hk
    have XA := fun (u : tST) (hu : XR a u) (i : Nat) hi hr => x_ahead (S := S) (j := i) hu hI hi hr
    have MA := fun (u : tST) (hu : MR a u) (i : Nat) hi h1 hr => m_ahead (S := S) (j := i) hu hI hi h1 hr
    obtain ⟨len, hlen⟩ : ∃ len, len = fb_ct (hp a S) a.nP := ⟨_, rfl⟩
    rw [← hlen] at v2 v4 MM hle hcnt kok XA MA
    obtain ⟨w1, s2, w2, w3, w4, w5⟩ := MM s1 (hM.sc v3.sc)
    have hs1 := hX.sc v3.sc
    have hs2 := (hM.sc v3.sc).sc w3.sc
    have rel := (h.sc v3.sc).sc w3.sc
    unfold tStp f_X3_move f_X4_move
    rw [x_isAuthor_in hj, pz_bs, if_neg one_ne, v1, pz_bs, v2, pz_bd]
    simp only [m_isAuthor_in hj, pz_bs, if_neg one_ne]
    rcases range_all y z (n := len) (by omega) with ⟨r1, r2⟩ | ⟨r1, r2, r3⟩ | ⟨i, n, rfl, rfl, hn, hin, r1, r2, r3⟩
    · refine ⟨-1001, s1, s2, ?_, ?_, a, rel⟩
      · rw [r1]; rfl
      · rw [w1, pz_bs, w2, pz_bs, w4, r2]; rfl
    · refine ⟨-1002, s1, s2, ?_, ?_, a, rel⟩
      · rw [r1]; rfl
      · rw [w1, pz_bs, w2, pz_bs, w4, r2, pz_bs, if_neg one_ne, r3]; rfl
    · rw [r1, pz_bs, if_pos rfl]
      rcases ix_all t (n := len + 1) (by omega) with ht | ⟨o, ho, rfl⟩
      · refine ⟨-1001, s1, s2, ?_, ?_, a, rel⟩
        · rcases ix_out (by omega) ht with q | ⟨q1, q2, q3⟩
          · rw [if_pos q]
          · rw [if_neg q1, if_neg (fun e => nI_ge (a := len) (b := len + 1) (by omega) (by omega) (Int32.le_trans q3 e))]
        · rw [w1, pz_bs, w2, pz_bs, w4, r2, pz_bs, if_neg one_ne, r3, pz_bs, if_neg one_ne, wn_no (by omega) ht]; rfl
      · rw [if_neg (nI_pos (by omega)), if_pos (nI_le (show o ≤ len by omega) (by omega))]
        have wn : f_X4_within (nI o) 0 (nI len) = some 1 := wn_to (by omega) (by omega)
        have c2' : a.nC < 12 → ∀ u, MR a u → ¬ tg_I u 107 = (12 : Int32) := fun c2 u hu => by rw [m_full hu hI]; exact fun e => e c2
        have go : a.nC < 12 → a.nP + n ≤ 90 → ∃ sX, f_X3_moveLetters (nI j) (nI i) (nI n) (nI (gA a S o)) s1 = some (nI a.nC, sX) ∧ MR a sX ∧ ∀ s6, tFr [121] [] [35, 36] sX s6 → (∀ k, k < len → tg_A s6 35 k = nI (a.line (kp a S k))) → ∃ s7 s8, f_X4_layChange 2 (nI j) s6 = some (nI a.nC, s7) ∧ f_X4_move_136 tfu (nI i) (nI n) (nI (gA a S o)) (nI a.nC) 0 s7 = some (nI a.nC, s8) ∧ ∃ a', Rel a' s8 := by
          intro c2 c3
          have hg := gA_le (a := a) (S := S) (j := o)
          obtain ⟨g, hgg⟩ : ∃ g, g = gA a S o := ⟨_, rfl⟩
          rw [← hgg] at hg ⊢
          obtain ⟨sa, a1, a2, a3, a4, a5, a6⟩ := x_add hs1 hI c2 2 (nI j)
          have hIb := Inv_addC hI (kind := 2) (nI j) c2 (Or.inr (Or.inr rfl))
          have kb : (addC a 2 (nI j)).kind a.nC = 2 := va_up_self _ _ _
          obtain ⟨sg, p1, p2, p3⟩ := x_openGap (g := g) (n := n) (XP_of a6 0) (fun p hp => hIb.line hp) (fun p q hp hq => by have := (hIb.fr hp hq).1; omega) (fun p hp => hIb.pos hp) hg hn c3
          have hIv := Inv_vA (f := fun k => (addC a 2 (nI j)).line (kp a S (i + k))) (n := n) (g := g) (c := a.nC) hIb (Nat.lt_succ_self _) kb hg c3 (fun k hk => hIb.line (kok _ (by omega)).1) (fun k1 k2 h1 h2 e => by
            obtain ⟨u1, u2, u3⟩ := kok (i + k1) (by omega)
            obtain ⟨t1, t2, t3⟩ := kok (i + k2) (by omega)
            have e : a.line (kp a S (i + k1)) = a.line (kp a S (i + k2)) := e
            have e2 := hI.pl_ u1
            rw [e, hI.pl_ t1] at e2
            rw [e2, u3] at t3
            omega) (fun p d hp hd => hI.by_ hp hd)
          obtain ⟨sX, b1, b2, b3, b4, b5⟩ := x_moveAll (c := a.nC) (g := g) (i := i) (n := n) (kq := fun k => kp a S (i + k)) (XQ_fr (XQ_of a6) p2) p3 hIv (Nat.lt_succ_self _) hg c3 (by omega) (fun k hk => ⟨(kok _ (by omega)).1, by rw [p2.2.2.1 18 (by decide), a5, v4 _ (by omega)]⟩)
          have ms : mSame st sX := (((mSame.fr v3 (by decide) (by decide)).tr a2).tr (mSame.fr p2 (by decide) (by decide))).tr b2
          refine ⟨sX, ?_, hM.same ms, fun s6 m3 m5 => ?_⟩
          · unfold f_X3_moveLetters
            rw [a1, pz_bd, p1, pz_bs, b1]
          · have hM6 := (hM.same ms).sc m3.sc
            obtain ⟨s7, n1, n2, n3⟩ := m_add hM6 c2 2 (nI j)
            obtain ⟨s8, o1, o2, o3⟩ := m_moveAll (c := a.nC) (g := g) (i := i) (n := n) (kq := fun k => kp a S (i + k)) n3 hIv (Nat.lt_succ_self _) hg c3 (by omega) (fun k hk => ⟨(kok _ (by omega)).1, by rw [n2.2.2.1 35 (by decide), m5 _ (by omega)]; rfl⟩)
            refine ⟨s7, s8, n1, o1, _, rel_end ms ?_ ?_ h4 h5 (((xSame.fr m3 (by decide) (by decide) (by decide)).tr (xSame.fr n2 (by decide) (by decide) (by decide))).tr (xSame.fr o2 (by decide) (by decide) (by decide))) ?_ ?_ b5 o3 (hIv n (Nat.le_refl _))⟩
            · rw [b3, p2.1 4 (by decide), a3, v3.1 4 (by decide)]
            · rw [b4, p2.1 5 (by decide), a4, v3.1 5 (by decide)]
            · rw [o2.1 119 (by decide), n2.1 119 (by decide), m3.1 119 (by decide)]
            · rw [o2.1 120 (by decide), n2.1 120 (by decide), m3.1 120 (by decide)]
        by_cases c1 : nI o ≤ nI i
        · rw [if_pos c1, x_isFull hs1 hI, pz_bs]
          by_cases c2 : a.nC < 12
          · rw [if_pos c2, if_pos rfl]
            by_cases c3 : a.nP + n ≤ 90
            · rw [if_pos (by rw [hs1.nP, nI_add]; exact nI_le (b := 90) c3 (by omega)), XA s1 hs1 o (by omega) v4, pz_bs]
              obtain ⟨sX, z1, z2, z3⟩ := go c2 c3
              obtain ⟨m1, s6, m2, m3, m4, m5⟩ := MM sX z2
              have hM6 := z2.sc m3.sc
              obtain ⟨s7, s8, z4, z5, z6⟩ := z3 s6 m3 m5
              refine ⟨nI a.nC, sX, s8, ?_, ?_, z6⟩
              · rw [z1, pz_bd]
              · rw [m1, pz_bs, m2, pz_bs, m4, r2, pz_bs, if_neg one_ne, r3, pz_bs, if_neg one_ne, wn, pz_bs, if_neg one_ne, if_pos c1, if_neg (c2' c2 s6 hM6), if_pos (by rw [hM6.nP, nI_add]; exact nI_le (b := 90) c3 (by omega)), MA s6 hM6 o (by omega) m4 m5, pz_bs, z4, pz_bd, z5]
            · refine ⟨-1004, s1, s2, ?_, ?_, a, rel⟩
              · rw [if_neg (by rw [hs1.nP, nI_add]; exact nI_ge (a := 90) (by omega) (by omega))]
              · rw [w1, pz_bs, w2, pz_bs, w4, r2, pz_bs, if_neg one_ne, r3, pz_bs, if_neg one_ne, wn, pz_bs, if_neg one_ne, if_pos c1, if_neg (c2' c2 s2 hs2), if_neg (by rw [hs2.nP, nI_add]; exact nI_ge (a := 90) (by omega) (by omega))]
          · rw [if_neg c2, if_neg one_ne]
            refine ⟨-1004, s1, s2, rfl, ?_, a, rel⟩
            rw [w1, pz_bs, w2, pz_bs, w4, r2, pz_bs, if_neg one_ne, r3, pz_bs, if_neg one_ne, wn, pz_bs, if_neg one_ne, if_pos c1, if_pos (by rw [m_full hs2 hI]; exact c2)]
        · rw [if_neg c1]
          by_cases c1b : nI i + nI n ≤ nI o
          · rw [if_pos c1b, x_isFull hs1 hI, pz_bs]
            by_cases c2 : a.nC < 12
            · rw [if_pos c2, if_pos rfl]
              by_cases c3 : a.nP + n ≤ 90
              · rw [if_pos (by rw [hs1.nP, nI_add]; exact nI_le (b := 90) c3 (by omega)), XA s1 hs1 o (by omega) v4, pz_bs]
                obtain ⟨sX, z1, z2, z3⟩ := go c2 c3
                obtain ⟨m1, s6, m2, m3, m4, m5⟩ := MM sX z2
                have hM6 := z2.sc m3.sc
                obtain ⟨s7, s8, z4, z5, z6⟩ := z3 s6 m3 m5
                refine ⟨nI a.nC, sX, s8, ?_, ?_, z6⟩
                · rw [z1, pz_bd]
                · rw [m1, pz_bs, m2, pz_bs, m4, r2, pz_bs, if_neg one_ne, r3, pz_bs, if_neg one_ne, wn, pz_bs, if_neg one_ne, if_neg c1, if_pos c1b, if_neg (c2' c2 s6 hM6), if_pos (by rw [hM6.nP, nI_add]; exact nI_le (b := 90) c3 (by omega)), MA s6 hM6 o (by omega) m4 m5, pz_bs, z4, pz_bd, z5]
              · refine ⟨-1004, s1, s2, ?_, ?_, a, rel⟩
                · rw [if_neg (by rw [hs1.nP, nI_add]; exact nI_ge (a := 90) (by omega) (by omega))]
                · rw [w1, pz_bs, w2, pz_bs, w4, r2, pz_bs, if_neg one_ne, r3, pz_bs, if_neg one_ne, wn, pz_bs, if_neg one_ne, if_neg c1, if_pos c1b, if_neg (c2' c2 s2 hs2), if_neg (by rw [hs2.nP, nI_add]; exact nI_ge (a := 90) (by omega) (by omega))]
            · rw [if_neg c2, if_neg one_ne]
              refine ⟨-1004, s1, s2, rfl, ?_, a, rel⟩
              rw [w1, pz_bs, w2, pz_bs, w4, r2, pz_bs, if_neg one_ne, r3, pz_bs, if_neg one_ne, wn, pz_bs, if_neg one_ne, if_neg c1, if_pos c1b, if_pos (by rw [m_full hs2 hI]; exact c2)]
          · rw [if_neg c1b]
            refine ⟨-1003, s1, s2, rfl, ?_, a, rel⟩
            rw [w1, pz_bs, w2, pz_bs, w4, r2, pz_bs, if_neg one_ne, r3, pz_bs, if_neg one_ne, wn, pz_bs, if_neg one_ne, if_neg c1, if_neg c1b]
