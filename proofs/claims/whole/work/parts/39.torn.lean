/-! ===== torn letters, counts ===== -/
def opd (a : AB) (l c : Nat) : Bool := decide (a.stat c = 0) && bt (a.del l) c
def opo (a : AB) (p c : Nat) : Bool := decide (a.stat c = 0) && onw a p c
def tpl (a : AB) (p : Nat) : Bool := decide (2 ≤ fb_ct (opo a p) a.nC)
def trn (a : AB) (l : Nat) : Bool := decide (2 ≤ fb_ct (opd a l) a.nC) || exs (fun p => decide (a.lt p = l) && tpl a p) a.nP
theorem x_tornBy {a : AB} {st : tST} (h : XR a st) (hI : Inv a) : ∃ r, f_X1_tornBy (mkT a 0) st = some r ∧ ∀ l, l < 64 → bl r l = exs (fun p => decide (a.lt p = l) && tpl a p) a.nP := by
  have hP := hI.nP
  have hC := hI.nC
  have hL := hI.nL
  unfold f_X1_tornBy
  refine lp_q (F := fun n (x : Int64) i => f_X1_tornBy_5 st n (mkT a 0) x i) (J := fun k x => ∀ l, l < 64 → bl x l = exs (fun i => decide (a.lt (a.line i) = l) && tpl a (a.line i)) k) (N := a.nP) (Q := fun o => ∃ r, o = some r ∧ ∀ l, l < 64 → bl r l = exs (fun p => decide (a.lt p = l) && tpl a p) a.nP) ?_ ?_ 0 tfu 0 (Nat.zero_le _) (tfu_gt (by omega)) (fun l _ => l_0 l)
  · intro n x hx
    refine ⟨x, ?_, fun l hl => by rw [hx l hl]; exact exs_line hI (fun p => decide (a.lt p = l) && tpl a p)⟩
    show f_X1_tornBy_5 st (n + 1) (mkT a 0) x (nI a.nP) = _
    rw [f_X1_tornBy_5, h.nP, if_pos (nI_le (Nat.le_refl _) (by omega))]
  · intro n x i hi hx ih
    show ∃ r, f_X1_tornBy_5 st (n + 1) (mkT a 0) x (nI i) = _ ∧ _
    have hl := hI.lt (hI.line hi)
    have hbig : ∀ j, 12 ≤ j → bt (tg_A st 7 i &&& mkT a 0) j = false := by
      intro j hj
      by_cases h32 : j < 32
      · rw [b_and, mkT, mk_bt _ _ (by omega) j h32, decide_eq_false (by omega)]; simp
      · exact b_big (by omega)
    have ec : fb_ct (bt (tg_A st 7 i &&& mkT a 0)) 12 = fb_ct (opo a (a.line i)) a.nC := by
      rw [ct_open hI]
      exact fb_ct_cong (fun c hc => by unfold opo; rw [h.onw hi (by omega)])
    have hle := fb_ct_le (opo a (a.line i)) a.nC
    rw [f_X1_tornBy_5, h.nP, if_neg (nI_ge hi (by omega)), pz_tal (by omega) (by omega), j6_count hbig, pz_bs, ec, pz_tal (by omega) (by omega), h.lt hi]
    simp only [tlet, nI_1]
    have e2 : (nI (fb_ct (opo a (a.line i)) a.nC) < 2) = (tpl a (a.line i) = false) := by
      rw [show (2 : Int32) = nI 2 from rfl, pz_lt (by omega) (by omega)]
      unfold tpl
      rw [decide_eq_false_iff_not]
      exact propext ⟨fun e => by omega, fun e => by omega⟩
    rw [ite_p e2]
    by_cases ht : tpl a (a.line i) = false
    · rw [if_pos ht]
      exact ih _ (fun l hl => by rw [exs, ht, Bool.and_false, Bool.or_false]; exact hx l hl)
    · rw [if_neg ht]
      refine ih _ (fun l hl2 => ?_)
      rw [l_or, hx l hl2, l_one (by omega) hl2, exs, bl_not _ ht, Bool.and_true]
      congr 1
      exact decide_eq_decide.mpr ⟨fun e => e.symm, fun e => e.symm⟩
theorem x_deletedTwice {a : AB} {st : tST} (h : XR a st) (hI : Inv a) : ∃ r, f_X0_deletedTwice st = some r ∧ ∀ l, l < 64 → bl r l = (decide (l < a.nL) && decide (2 ≤ fb_ct (opd a l) a.nC)) := by
  have hC := hI.nC
  have hL := hI.nL
  unfold f_X0_deletedTwice
  refine lp_q (F := fun n (x : Int64 × Int64) i => f_X0_deletedTwice_7 st n x.1 x.2 i) (J := fun k x => ∀ l, l < 64 → bl x.1 l = (decide (l < a.nL) && decide (1 ≤ fb_ct (opd a l) k)) ∧ bl x.2 l = (decide (l < a.nL) && decide (2 ≤ fb_ct (opd a l) k))) (N := a.nC) (Q := fun o => ∃ r, o = some r ∧ ∀ l, l < 64 → bl r l = (decide (l < a.nL) && decide (2 ≤ fb_ct (opd a l) a.nC))) ?_ ?_ 0 tfu (0, 0) (Nat.zero_le _) (tfu_gt (by omega)) (fun l _ => ⟨by rw [l_0]; simp [fb_ct], by rw [l_0]; simp [fb_ct]⟩)
  · intro n x hx
    refine ⟨x.2, ?_, fun l hl => (hx l hl).2⟩
    show f_X0_deletedTwice_7 st (n + 1) x.1 x.2 (nI a.nC) = _
    rw [f_X0_deletedTwice_7, h.nC, if_pos (nI_le (Nat.le_refl _) (by omega))]
  · intro n x c hc hx ih
    show ∃ r, f_X0_deletedTwice_7 st (n + 1) x.1 x.2 (nI c) = _ ∧ _
    rw [f_X0_deletedTwice_7, h.nC, if_neg (nI_ge hc (by omega))]
    simp only [pz_tal (show c < 12 by omega) (show 12 < 2 ^ 31 by omega), h.stat hc, h.kind hc, tlet, nI_1]
    have no : (∀ l, l < a.nL → opd a l c = false) → ∃ r, f_X0_deletedTwice_7 st n x.1 x.2 (nI (c + 1)) = some r ∧ ∀ l, l < 64 → bl r l = (decide (l < a.nL) && decide (2 ≤ fb_ct (opd a l) a.nC)) := by
      intro e
      refine ih x (fun l hl => ?_)
      by_cases hn : l < a.nL
      · rw [fb_ct_succ, if_neg (by rw [e l hn]; decide), Nat.add_zero]; exact hx l hl
      · have := hx l hl
        rw [decide_eq_false hn] at this ⊢
        exact this
    by_cases s0 : a.stat c = 0
    · rw [if_pos s0]
      by_cases k1 : a.kind c = 1
      · rw [if_pos k1]
        refine ih (x.1 ||| tg_B st 13 c, x.2 ||| (x.1 &&& tg_B st 13 c)) (fun l hl => ?_)
        have ht := h.tch hc hl
        obtain ⟨h1, h2⟩ := hx l hl
        show bl (x.1 ||| tg_B st 13 c) l = _ ∧ bl (x.2 ||| (x.1 &&& tg_B st 13 c)) l = _
        rw [l_or, l_or, l_and, h1, h2, ht, fb_ct_succ]
        by_cases hn : l < a.nL
        · rw [decide_eq_true hn, tch_1 hI hn k1]
          have e : opd a l c = bt (a.del l) c := by unfold opd; rw [decide_eq_true s0, Bool.true_and]
          rw [e]
          generalize fb_ct (opd a l) c = z
          cases bt (a.del l) c
          · simp
          · simp only [Bool.true_and, if_true, Bool.and_true]
            constructor
            · rw [Bool.or_true, decide_eq_true (by omega)]
            · apply bool_ext
              simp only [Bool.or_eq_true, decide_eq_true_eq]
              omega
        · rw [decide_eq_false hn]; exact ⟨rfl, rfl⟩
      · rw [if_neg k1]
        refine no (fun l hn => ?_)
        unfold opd
        cases hq : bt (a.del l) c
        · simp
        · exact absurd (hI.del hn hq).2 k1
    · rw [if_neg s0]
      exact no (fun l _ => by unfold opd; rw [decide_eq_false s0]; rfl)
theorem m_openFrom_loop {a : AB} {st : tST} (h : MR a st) (hI : Inv a) (S : Int32) (p : Nat) : ∀ d n q, a.nP - q ≤ d → d < n → q < a.nP → a.fr q = some p → f_X4_openFrom_10 st n S (nI (fb_ct (fun r => decide (a.fr r = some p) && byS a S r) q)) (nI q) = some (nI (fb_ct (fun r => decide (a.fr r = some p) && byS a S r) a.nP)) := by
  intro d
  have hP := hI.nP
  have hC := hI.nC
  have gap : ∀ q m, q < a.nP → m ≤ a.nP → q < m → (∀ r, q < r → r < m → ¬ a.fr r = some p) → fb_ct (fun r => decide (a.fr r = some p) && byS a S r) m = fb_ct (fun r => decide (a.fr r = some p) && byS a S r) (q + 1) := fun q m _ _ hqm hno => ct_cut hqm (fun i h1 h2 => by rw [decide_eq_false (hno i (by omega) h2)]; rfl)
  induction d with
  | zero => intro n q h1 h2 h3; omega
  | succ d ih =>
    intro n q h1 h2 h3 h4
    obtain ⟨m, rfl⟩ : ∃ m, n = m + 1 := ⟨n - 1, by omega⟩
    obtain ⟨-, -, c, hc, hc2, -⟩ := hI.fr h3 h4
    have hb : byS a S q = bt S c := byS_eq hc
    rw [f_X4_openFrom_10, if_neg (by rw [pz_m1 (by omega)]; exact id), pz_tal (by omega) (by omega), h.by_ h3, hc, en_some, m_has (by omega), pz_bs, ite_p (pz_b01 _)]
    simp only [tlet, pz_tal (show q < 90 by omega) (show 90 < 2 ^ 31 by omega), h.nxt h3]
    have next : ∀ x : Int32, x = nI (fb_ct (fun r => decide (a.fr r = some p) && byS a S r) (q + 1)) → f_X4_openFrom_10 st m S x (en (nxq a q)) = some (nI (fb_ct (fun r => decide (a.fr r = some p) && byS a S r) a.nP)) := by
      intro x hx
      unfold nxq
      rw [if_neg (by rw [h4]; simp)]
      cases hn : lst (fun r => decide (q < r) && decide (a.fr r = a.fr q)) a.nP with
      | none =>
        obtain ⟨k, rfl⟩ : ∃ k, m = k + 1 := ⟨m - 1, by omega⟩
        rw [en_none, f_X4_openFrom_10, if_pos rfl, hx, gap q a.nP h3 (Nat.le_refl _) h3 (fun r g1 g2 g3 => by
          have := lst_none hn r g2
          rw [h4, g3] at this
          simp at this
          omega)]
      | some r =>
        obtain ⟨g1, g2, g3⟩ := lst_some hn
        simp only [Bool.and_eq_true, decide_eq_true_eq] at g2
        rw [en_some, hx, ← gap q r h3 (by omega) g2.1 (fun j k1 k2 k3 => by
          have := g3 j k2
          rw [h4, k3] at this
          simp at this
          omega)]
        exact ih m r (by omega) (by omega) g1 (g2.2.trans h4)
    by_cases hs : bt S c = false
    · rw [if_pos hs]
      refine next _ ?_
      rw [show (0 : Int32) = nI 0 from rfl, nI_add, Nat.add_zero, fb_ct_succ, if_neg (by rw [hb, hs]; simp)]
      rfl
    · rw [if_neg hs]
      refine next _ ?_
      rw [nI_1, fb_ct_succ, if_pos (by rw [hb, bl_not _ hs, h4]; simp)]
theorem m_openFrom {a : AB} {st : tST} (h : MR a st) (hI : Inv a) (S : Int32) {p : Nat} (hp : p < a.nP) : f_X4_openFrom (nI p) S st = some (nI (fb_ct (fun r => decide (a.fr r = some p) && byS a S r) a.nP)) := by
  have hP := hI.nP
  unfold f_X4_openFrom
  rw [pz_tal (by omega) (by omega), h.fst hp]
  cases hn : lst (fun q => decide (a.fr q = some p)) a.nP with
  | none =>
    rw [en_none, show tfu = 4999 + 1 from rfl, f_X4_openFrom_10, if_pos rfl]
    rw [fb_ct_zero.mpr (fun k hk => by rw [lst_none hn k hk]; rfl)]; rfl
  | some q =>
    obtain ⟨g1, g2, g3⟩ := lst_some hn
    rw [en_some]
    have := m_openFrom_loop h hI S p 90 tfu q (by omega) (tfu_gt (by omega)) g1 (by simpa using g2)
    rw [fb_ct_zero.mpr (fun k hk => by rw [g3 k hk]; rfl)] at this
    exact this
theorem from_count {a : AB} (hI : Inv a) {p : Nat} : fb_ct (fun r => decide (a.fr r = some p) && byS a (mkT a 0) r) a.nP = fb_ct (opo a p) a.nC := by
  have hC := hI.nC
  have bs : ∀ c, c < a.nC → bt (mkT a 0) c = decide (a.stat c = 0) := fun c hc => by rw [mkT, mk_bt _ _ (by omega) c (by omega), decide_eq_true hc, Bool.true_and]
  refine ct_bij (f := fun r => (a.by_ r).getD 0) (g := fun c => (lst (fun q => decide (a.fr q = some p) && decide (a.by_ q = some c)) a.nP).getD 0) (fun r hr h => ?_) (fun c hc h => ?_)
  · rw [Bool.and_eq_true, decide_eq_true_eq] at h
    obtain ⟨-, -, c, h1, h2, -⟩ := hI.fr hr h.1
    rw [byS_eq h1, bs c h2] at h
    rw [h1, Option.getD_some]
    refine ⟨h2, ?_, ?_⟩
    · unfold opo
      rw [h.2, onw_iff.mpr ⟨r, hr, h.1, h1⟩]; rfl
    · rw [lst_of_some (q := r) hr (by rw [h.1, h1]; simp) (fun j hj => ?_)]
      · rfl
      · cases hz : (decide (a.fr j = some p) && decide (a.by_ j = some c))
        · rfl
        · simp only [Bool.and_eq_true, decide_eq_true_eq] at hz
          have := hI.ord hj hr hz.1 h.1 hz.2 h1
          omega
  · unfold opo at h
    rw [Bool.and_eq_true, decide_eq_true_eq] at h
    obtain ⟨q, h1, h2, h3⟩ := onw_iff.mp h.2
    have hl : lst (fun q => decide (a.fr q = some p) && decide (a.by_ q = some c)) a.nP = some q := lst_of_some h1 (by rw [h2, h3]; simp) (fun j hj => by
      cases hz : (decide (a.fr j = some p) && decide (a.by_ j = some c))
      · rfl
      · simp only [Bool.and_eq_true, decide_eq_true_eq] at hz
        have := hI.ord hj h1 hz.1 h2 hz.2 h3
        omega)
    rw [hl, Option.getD_some]
    refine ⟨h1, ?_, by rw [h3]; rfl⟩
    rw [byS_eq h3, bs c hc, h2, decide_eq_true h.1]; simp
theorem m_isTorn {a : AB} {st : tST} (h : MR a st) (hI : Inv a) {l : Nat} (hl : l < a.nL) : f_X4_isTorn (nI l) st = some (if trn a l = true then 1 else 0) := by
  have hP := hI.nP
  have hC := hI.nC
  have hL := hI.nL
  have hle := fb_ct_le (opd a l) a.nC
  have e1 : fb_ct (bt (a.del l &&& mkT a 0)) 12 = fb_ct (opd a l) a.nC := ct_open hI (a.del l)
  have main : ∀ b : Bool, b = decide (2 ≤ fb_ct (opd a l) a.nC) → f_X4_isTorn_30 st tfu (nI l) (mkT a 0) (if b = true then 1 else 0) 0 = some (if trn a l = true then 1 else 0) := by
    intro b hb
    refine lp_q (F := fun n (x : Bool) i => f_X4_isTorn_30 st n (nI l) (mkT a 0) (if x = true then 1 else 0) i) (J := fun k x => x = (b || exs (fun p => decide (a.lt p = l) && tpl a p) k)) (N := a.nP) (Q := fun o => o = some (if trn a l = true then 1 else 0)) ?_ ?_ 0 tfu b (Nat.zero_le _) (tfu_gt (by omega)) (by simp [exs])
    · intro n x hx
      show f_X4_isTorn_30 st (n + 1) (nI l) (mkT a 0) (if x = true then 1 else 0) (nI a.nP) = _
      rw [f_X4_isTorn_30, h.nP, if_pos (nI_le (Nat.le_refl _) (by omega))]
      have : x = trn a l := by rw [hx, hb]; rfl
      rw [this]
      cases trn a l <;> rfl
    · intro n x p hp hx ih
      show f_X4_isTorn_30 st (n + 1) (nI l) (mkT a 0) (if x = true then 1 else 0) (nI p) = _
      have hlt := hI.lt hp
      have hle2 := fb_ct_le (opo a p) a.nC
      rw [f_X4_isTorn_30, h.nP, if_neg (nI_ge hp (by omega)), pz_tal (by omega) (by omega), h.lt hp, m_openFrom h hI _ hp, pz_bs, from_count hI]
      simp only [tlet, nI_1]
      have ihf : x = false → ¬ (decide (a.lt p = l) && tpl a p) = true → f_X4_isTorn_30 st n (nI l) (mkT a 0) 0 (nI (p + 1)) = some (if trn a l = true then 1 else 0) := by
        intro hx0 e
        have := ih false (by rw [exs, ← Bool.or_assoc, ← hx, hx0]; cases hz : (decide (a.lt p = l) && tpl a p) <;> simp_all)
        exact this
      have iht : (x || (decide (a.lt p = l) && tpl a p)) = true → f_X4_isTorn_30 st n (nI l) (mkT a 0) 1 (nI (p + 1)) = some (if trn a l = true then 1 else 0) := by
        intro e
        have := ih true (by rw [exs, ← Bool.or_assoc, ← hx, e])
        exact this
      cases x
      · rw [if_pos (by decide)]
        by_cases he : a.lt p = l
        · rw [if_pos (by rw [he])]
          have e2 : (nI (fb_ct (opo a p) a.nC) ≤ 1) = (tpl a p = false) := by
            rw [show (1 : Int32) = nI 1 from rfl, pz_le (by omega) (by omega)]
            unfold tpl
            rw [decide_eq_false_iff_not]
            exact propext ⟨fun e => by omega, fun e => by omega⟩
          rw [ite_p e2]
          by_cases ht : tpl a p = false
          · rw [if_pos ht]; exact ihf rfl (by rw [ht]; simp)
          · rw [if_neg ht]; exact iht (by rw [bl_not _ ht, decide_eq_true he]; rfl)
        · rw [if_neg (by rw [pz_eq (by omega) (by omega)]; exact he)]
          exact ihf rfl (by rw [decide_eq_false he]; simp)
      · rw [if_neg (by decide)]
        exact iht rfl
  unfold f_X4_isTorn
  rw [m_inState h hI, pz_bs, pz_tal (by omega) (by omega), h.del hl, m_ones, pz_bs, e1]
  have e2 : (nI (fb_ct (opd a l) a.nC) ≤ 1) = ¬ (2 ≤ fb_ct (opd a l) a.nC) := by
    rw [show (1 : Int32) = nI 1 from rfl, pz_le (by omega) (by omega)]
    exact propext ⟨fun e => by omega, fun e => by omega⟩
  rw [ite_p e2]
  by_cases h2 : 2 ≤ fb_ct (opd a l) a.nC
  · rw [if_neg (fun e => e h2)]
    exact main true (by rw [decide_eq_true h2])
  · rw [if_pos h2]
    exact main false (by rw [decide_eq_false h2])
theorem m_tornMany {a : AB} {st : tST} (h : MR a st) (hI : Inv a) : f_X4_tornMany st = some (nI (fb_ct (trn a) a.nL)) := by
  have hL := hI.nL
  unfold f_X4_tornMany
  refine lp_q (F := fun n (x : Int32) i => f_X4_tornMany_4 st n x i) (J := fun k x => x = nI (fb_ct (trn a) k)) (N := a.nL) (Q := fun o => o = some (nI (fb_ct (trn a) a.nL))) ?_ ?_ 0 tfu 0 (Nat.zero_le _) (tfu_gt (by omega)) rfl
  · intro n x hx
    show f_X4_tornMany_4 st (n + 1) x (nI a.nL) = _
    rw [f_X4_tornMany_4, h.nL, if_pos (nI_le (Nat.le_refl _) (by omega)), hx]
  · intro n x l hl hx ih
    show f_X4_tornMany_4 st (n + 1) x (nI l) = _
    rw [f_X4_tornMany_4, h.nL, if_neg (nI_ge hl (by omega)), m_isTorn h hI hl, pz_bs, ite_p (pz_b01 _)]
    simp only [tlet, nI_1]
    by_cases ht : trn a l = false
    · rw [if_pos ht]
      refine ih _ ?_
      rw [hx, show (0 : Int32) = nI 0 from rfl, nI_add, Nat.add_zero, fb_ct_succ, ht]; rfl
    · rw [if_neg ht]
      refine ih _ ?_
      rw [hx, nI_1, fb_ct_succ, bl_not _ ht]; rfl
/-- what count tells -/
def cov (a : AB) (b s : Int32) (w : Int32) : Int32 :=
  if w = 0 then nI a.pl else if w = 1 then nI a.nL else if w = 2 then nI a.nP else if w = 3 then nI a.nC else if w = 4 then nI (cnt (mkT a 0)) else if w = 5 then nI (cnt (mkT a 1))
  else if w = 6 then nI (fb_ct (trn a) a.nL) else if w = 7 then b else if w = 8 then s else -1002
theorem mkT_big {a : AB} (hI : Inv a) (s : Int32) : ∀ i, 12 ≤ i → bt (mkT a s) i = false := okS_big hI (okS_mk hI _)
theorem x_count {a : AB} {st : tST} (h : XR a st) (hI : Inv a) (w : Int32) : f_X3_count w st = some (cov a (tg_I st 4) (tg_I st 5) w) := by
  have hL := hI.nL
  obtain ⟨r6, e6, b6⟩ := x_tornBy h hI
  obtain ⟨r7, e7, b7⟩ := x_deletedTwice h hI
  have e8 : fb_ct (bl (r6 ||| r7)) 64 = fb_ct (trn a) a.nL := by
    rw [fb_ct_cong (n := 64) (q := fun l => decide (l < a.nL) && trn a l) (fun l hl => ?_), ct_cut hL (fun i h1 _ => by rw [decide_eq_false (by omega)]; rfl)]
    · exact fb_ct_cong (fun l hl => by rw [decide_eq_true hl, Bool.true_and])
    · rw [l_or, b6 l hl, b7 l hl]
      unfold trn
      by_cases hn : l < a.nL
      · rw [decide_eq_true hn, Bool.true_and, Bool.true_and, Bool.or_comm]
      · rw [decide_eq_false hn, Bool.false_and, Bool.or_false, Bool.false_and]
        cases hz : exs (fun p => decide (a.lt p = l) && tpl a p) a.nP
        · rfl
        · obtain ⟨p, g1, g2⟩ := exs_iff.mp hz
          simp only [Bool.and_eq_true, decide_eq_true_eq] at g2
          have := hI.lt g1
          omega
  unfold f_X3_count cov
  rw [x_inStatus h hI, x_inStatus h hI]
  simp only [pz_bs, j6_count (mkT_big hI _), e6, e7, j13_count, e8, h.pl, h.nL, h.nP, h.nC]
  repeat' split
  all_goals rfl
theorem m_howMany {a : AB} {st : tST} (h : MR a st) (hI : Inv a) (w : Int32) : f_X4_howMany w st = some (cov a (tg_I st 119) (tg_I st 120) w) := by
  unfold f_X4_howMany cov
  rw [m_inState h hI, m_inState h hI]
  simp only [pz_bs, m_ones, m_tornMany h hI, h.pl, h.nL, h.nP, h.nC]
  repeat' split
  all_goals rfl
