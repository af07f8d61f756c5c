/-! ===== counting along an injection ===== -/
theorem ct_inj {f : Nat → Nat} {m : Nat} : ∀ {n : Nat} {P Q : Nat → Bool}, (∀ i, i < n → P i = true → f i < m ∧ Q (f i) = true) → (∀ i j, i < n → j < n → P i = true → P j = true → f i = f j → i = j) → fb_ct P n ≤ fb_ct Q m
  | 0, P, Q, _, _ => Nat.zero_le _
  | n + 1, P, Q, h1, h2 => by
    rw [fb_ct_succ]
    by_cases hp : P n = true
    · rw [if_pos hp]
      obtain ⟨g1, g2⟩ := h1 n (by omega) hp
      have h3 := fb_ct_upd Q false g1
      rw [if_pos g2, if_neg (by decide)] at h3
      have h4 := ct_inj (n := n) (P := P) (Q := fun k => if k = f n then false else Q k) (fun i hi hpi => ⟨(h1 i (by omega) hpi).1, by
        have hne : ¬ f i = f n := fun e => by have := h2 i n (by omega) (by omega) hpi hp e; omega
        show (if f i = f n then false else Q (f i)) = true
        rw [if_neg hne]; exact (h1 i (by omega) hpi).2⟩) (fun i j hi hj => h2 i j (by omega) (by omega))
      omega
    · rw [if_neg hp]
      exact ct_inj (n := n) (fun i hi => h1 i (by omega)) (fun i j hi hj => h2 i j (by omega) (by omega))
theorem ct_bij {f g : Nat → Nat} {n m : Nat} {P Q : Nat → Bool} (h1 : ∀ i, i < n → P i = true → f i < m ∧ Q (f i) = true ∧ g (f i) = i) (h2 : ∀ j, j < m → Q j = true → g j < n ∧ P (g j) = true ∧ f (g j) = j) : fb_ct P n = fb_ct Q m := by
  apply Nat.le_antisymm
  · exact ct_inj (fun i hi hp => ⟨(h1 i hi hp).1, (h1 i hi hp).2.1⟩) (fun i j hi hj pi pj e => by rw [← (h1 i hi pi).2.2, ← (h1 j hj pj).2.2, e])
  · exact ct_inj (fun i hi hp => ⟨(h2 i hi hp).1, (h2 i hi hp).2.1⟩) (fun i j hi hj pi pj e => by rw [← (h2 i hi pi).2.2, ← (h2 j hj pj).2.2, e])
theorem ct_cut {P : Nat → Bool} {n m : Nat} (hn : n ≤ m) (h : ∀ i, n ≤ i → i < m → P i = false) : fb_ct P m = fb_ct P n := by
  rw [show m = n + (m - n) by omega, fb_ct_split, fb_ct_zero.mpr (fun k hk => h (n + k) (by omega) (by omega)), Nat.add_zero]
/-! ===== facts of a letter ===== -/
theorem x_openOnes {a : AB} {st : tST} (h : XR a st) (hI : Inv a) {l : Nat} (hl : l < a.nL) (k : Int32) : f_X0_openOnes k (nI l) st = some (nI (fb_ct (fun c => decide (a.stat c = 0) && decide (a.kind c = k) && tch a l c) a.nC)) := by
  have hC := hI.nC
  have hL := hI.nL
  unfold f_X0_openOnes
  refine lp_q (F := fun n (x : Int32) i => f_X0_openOnes_5 st n k (nI l) x i) (J := fun c x => x = nI (fb_ct (fun c => decide (a.stat c = 0) && decide (a.kind c = k) && tch a l c) c)) (N := a.nC) (Q := fun o => o = some (nI (fb_ct (fun c => decide (a.stat c = 0) && decide (a.kind c = k) && tch a l c) a.nC))) ?_ ?_ 0 tfu 0 (Nat.zero_le _) (tfu_gt (by omega)) rfl
  · intro n x hx
    show f_X0_openOnes_5 st (n + 1) k (nI l) x (nI a.nC) = _
    rw [f_X0_openOnes_5, h.nC, if_pos (nI_le (Nat.le_refl _) (by omega)), hx]
  · intro n x c hc hx ih
    show f_X0_openOnes_5 st (n + 1) k (nI l) x (nI c) = _
    rw [f_X0_openOnes_5, h.nC, if_neg (nI_ge hc (by omega))]
    simp only [pz_tal (show c < 12 by omega) (show 12 < 2 ^ 31 by omega), h.stat hc, h.kind hc, tlet, nI_1]
    by_cases h0 : a.stat c = 0
    · rw [if_pos h0]
      by_cases hk : a.kind c = k
      · rw [if_pos hk, ite_p (l_look (by omega)), h.tch hc (by omega), decide_eq_true hl, Bool.true_and]
        by_cases ht : tch a l c = false
        · rw [if_pos ht]
          exact ih _ (by rw [fb_ct_succ, hx, ht]; simp)
        · have ht1 : tch a l c = true := by cases hz : tch a l c <;> simp_all
          rw [if_neg ht]
          exact ih _ (by rw [fb_ct_succ, hx, ht1, h0, hk]; simp [nI_1])
      · rw [if_neg hk]
        exact ih _ (by rw [fb_ct_succ, hx]; simp [hk])
    · rw [if_neg h0]
      exact ih _ (by rw [fb_ct_succ, hx]; simp [h0])
theorem m_movedBy {a : AB} {st : tST} (h : MR a st) (hI : Inv a) {l : Nat} (hl : l < a.nL) : f_X4_movedBy (nI l) st = some (mk (mvd a l) 32) := by
  have hP := hI.nP
  have hC := hI.nC
  have hL := hI.nL
  obtain ⟨R, hR, hRe⟩ : ∃ R, (∀ c, c < 32 → bt R c = mvd a l c) ∧ R = mk (mvd a l) 32 := ⟨_, fun c hc => by rw [mk_bt _ _ (Nat.le_refl _) c hc, decide_eq_true hc, Bool.true_and], rfl⟩
  rw [← hRe]
  clear hRe
  unfold f_X4_movedBy
  refine lp_q (F := fun n (x : Int32) i => f_X4_movedBy_4 st n (nI l) x i) (J := fun p x => ∀ c, c < 32 → bt x c = exs (fun q => decide (a.lt q = l) && (a.fr q).isSome && decide (a.by_ q = some c)) p) (N := a.nP) (Q := fun o => o = some R) ?_ ?_ 0 tfu 0 (Nat.zero_le _) (tfu_gt (by omega)) (fun c _ => b_0 c)
  · intro n x hx
    show f_X4_movedBy_4 st (n + 1) (nI l) x (nI a.nP) = _
    rw [f_X4_movedBy_4, h.nP, if_pos (nI_le (Nat.le_refl _) (by omega))]
    congr 1
    exact b_ext (fun c hc => by rw [hx c hc, hR c hc]; rfl)
  · intro n x p hp hx ih
    show f_X4_movedBy_4 st (n + 1) (nI l) x (nI p) = _
    have hlt := hI.lt hp
    rw [f_X4_movedBy_4, h.nP, if_neg (nI_ge hp (by omega))]
    simp only [pz_tal (show p < 90 by omega) (show 90 < 2 ^ 31 by omega), h.lt hp, h.fr hp, h.by_ hp, tlet, nI_1, or_0]
    by_cases he : a.lt p = l
    · rw [if_pos (by rw [he])]
      cases hf : a.fr p with
      | none =>
        rw [if_pos en_none]
        exact ih _ (fun c hc => by rw [hx c hc, exs, hf]; simp)
      | some q =>
        obtain ⟨g1, g2, d, g3, g4, g5⟩ := hI.fr hp hf
        rw [en_some, if_neg (by rw [pz_m1 (by omega)]; exact id), g3, en_some]
        refine ih _ (fun c hc => ?_)
        rw [b_or, hx c hc, b_one (by omega) hc, exs, hf, g3, he]
        congr 1
        simp only [decide_true, Option.isSome_some, Bool.true_and, Option.some.injEq]
        exact decide_eq_decide.mpr ⟨fun e => e.symm, fun e => e.symm⟩
    · rw [if_neg (by rw [pz_eq (by omega) (by omega)]; exact he)]
      exact ih _ (fun c hc => by rw [hx c hc, exs, decide_eq_false he]; simp)
/-- facts of the letter at position i -/
def lfv (a : AB) (i : Nat) (w : Int32) : Int32 :=
  if w = 0 then a.sign (a.lt (a.line i)) else if w = 1 then nI (a.lt (a.line i)) else if w = 2 then nI i else if w = 3 then en (a.by_ (a.line i))
  else if w = 4 then nI (fb_ct (fun c => decide (a.stat c = 0) && bt (a.del (a.lt (a.line i))) c) a.nC) else nI (fb_ct (fun c => decide (a.stat c = 0) && mvd a (a.lt (a.line i)) c) a.nC)
theorem ones_del {a : AB} (hI : Inv a) {l : Nat} (hl : l < a.nL) : fb_ct (fun c => decide (a.stat c = 0) && decide (a.kind c = 1) && tch a l c) a.nC = fb_ct (fun c => decide (a.stat c = 0) && bt (a.del l) c) a.nC := by
  refine fb_ct_cong (fun c hc => ?_)
  by_cases k1 : a.kind c = 1
  · rw [decide_eq_true k1, Bool.and_true, tch_1 hI hl k1]
  · have : bt (a.del l) c = false := by
      cases hq : bt (a.del l) c
      · rfl
      · exact absurd (hI.del hl hq).2 k1
    rw [decide_eq_false k1, this]; simp
theorem mvd_kind {a : AB} (hI : Inv a) {l c : Nat} (h : mvd a l c = true) : c < a.nC ∧ a.kind c = 2 := by
  obtain ⟨q, hq1, hq2⟩ := exs_iff.mp h
  simp only [Bool.and_eq_true, decide_eq_true_eq] at hq2
  obtain ⟨⟨-, h3⟩, h4⟩ := hq2
  obtain ⟨r, hr⟩ := Option.isSome_iff_exists.mp h3
  obtain ⟨-, -, d, hd, h6, h5⟩ := hI.fr hq1 hr
  rw [h4] at hd; cases hd
  exact ⟨h6, h5⟩
theorem ones_mov {a : AB} (hI : Inv a) {l : Nat} (hl : l < a.nL) : fb_ct (fun c => decide (a.stat c = 0) && decide (a.kind c = 2) && tch a l c) a.nC = fb_ct (fun c => decide (a.stat c = 0) && mvd a l c) a.nC := by
  refine fb_ct_cong (fun c hc => ?_)
  by_cases k1 : a.kind c = 2
  · rw [decide_eq_true k1, Bool.and_true, tch_2 hI hl k1]
  · have : mvd a l c = false := by
      cases hq : mvd a l c
      · rfl
      · exact absurd (mvd_kind hI hq).2 k1
    rw [decide_eq_false k1, this]; simp
theorem ct_open {a : AB} (hI : Inv a) (x : Int32) : fb_ct (bt (x &&& mkT a 0)) 12 = fb_ct (fun c => decide (a.stat c = 0) && bt x c) a.nC := by
  have hC := hI.nC
  have e : ∀ c, c < 12 → bt (x &&& mkT a 0) c = (decide (c < a.nC) && (decide (a.stat c = 0) && bt x c)) := by
    intro c hc
    rw [b_and, mkT, mk_bt _ _ (by omega) c (by omega)]
    cases bt x c <;> cases decide (c < a.nC) <;> cases decide (a.stat c = 0) <;> rfl
  rw [fb_ct_cong (n := 12) e, ct_cut hC (fun i h1 _ => by rw [decide_eq_false (by omega)]; rfl)]
  exact fb_ct_cong (fun c hc => by rw [decide_eq_true hc, Bool.true_and])
theorem x_letterFact {a : AB} {st : tST} (h : XR a st) (hI : Inv a) {i : Nat} (hi : i < a.nP) (w : Int32) : f_X3_letterFact (nI i) w st = some (lfv a i w) := by
  have hP := hI.nP
  have hL := hI.nL
  have hl := hI.lt (hI.line hi)
  unfold f_X3_letterFact lfv
  simp only [pz_tal (show i < 90 by omega) (show 90 < 2 ^ 31 by omega), h.lt hi, h.by_ hi, pz_tal (show a.lt (a.line i) < 64 by omega) (show 64 < 2 ^ 31 by omega), h.sign hl, x_openOnes h hI hl, pz_bs, ones_del hI hl, ones_mov hI hl]
  repeat' split
  all_goals rfl
theorem m_readNow {a : AB} {st : tST} (h : MR a st) (hI : Inv a) {i : Nat} (hi : i < a.nP) (w : Int32) : f_X4_readNow (nI (a.line i)) w st = some (lfv a i w) := by
  have hP := hI.nP
  have hL := hI.nL
  have hC := hI.nC
  have hli := hI.line hi
  have hl := hI.lt hli
  have hm : fb_ct (fun c => decide (a.stat c = 0) && bt (mk (mvd a (a.lt (a.line i))) 32) c) a.nC = fb_ct (fun c => decide (a.stat c = 0) && mvd a (a.lt (a.line i)) c) a.nC := fb_ct_cong (fun c hc => by rw [mk_bt _ _ (Nat.le_refl _) c (by omega), decide_eq_true (show c < 32 by omega), Bool.true_and])
  unfold f_X4_readNow lfv
  simp only [pz_tal (show a.line i < 90 by omega) (show 90 < 2 ^ 31 by omega), h.lt hli, h.by_ hli, pz_tal (show a.lt (a.line i) < 64 by omega) (show 64 < 2 ^ 31 by omega), h.sign hl, h.del hl, m_inLine h hI hli, hI.pl_ hi, m_inState h hI, m_movedBy h hI hl, m_ones, pz_bs, ct_open hI, hm]
  repeat' split
  all_goals rfl
/-! ===== marks ===== -/
def mkp (a : AB) (p : Nat) : Int32 := if hd a (mkV a 0) p = true then (if hd a (mkV a 1) p = true then 0 else 2) else (if hd a (mkV a 1) p = true then 1 else 3)
theorem x_hd {a : AB} {st : tST} (h : XR a st) (hI : Inv a) {i : Nat} (hi : i < a.nP) (S : Int32) : f_X1_holds (nI i) (mkB (thP a S) 64) S st = some (if hp a S i = true then 1 else 0) := by
  have hL := hI.nL
  have hl := hI.lt (hI.line hi)
  rw [x_holds h hI _ S hi, mkB_bl _ _ (Nat.le_refl _) _ (by omega), decide_eq_true (show a.lt (a.line i) < 64 by omega), Bool.true_and]
  unfold thP hp hd
  rw [decide_eq_true hl, Bool.true_and]
theorem x_markOf {a : AB} {st : tST} (h : XR a st) (hI : Inv a) {i : Nat} (hi : i < a.nP) : f_X3_markOf (nI i) st = some (mkp a (a.line i)) := by
  unfold f_X3_markOf
  rw [x_setOf h hI (by decide), pz_bs, x_setOf h hI (by decide), pz_bs, x_thereBy h hI, pz_bs, x_hd h hI hi, pz_bs, x_thereBy h hI, pz_bs, x_hd h hI hi, pz_bs]
  unfold mkp
  show _ = some (if hp a (mkV a 0) i = true then (if hp a (mkV a 1) i = true then 0 else 2) else (if hp a (mkV a 1) i = true then 1 else 3))
  cases hp a (mkV a 0) i <;> cases hp a (mkV a 1) i <;> rfl
theorem m_isAt {a : AB} {st : tST} (h : MR a st) (hI : Inv a) {p : Nat} (hp : p < a.nP) (S : Int32) : f_X4_isAt (nI p) S st = some (if hd a S p = true then 1 else 0) := by
  have hP := hI.nP
  have hl := hI.lt hp
  have hf := (fw_in hI (S := S) 90 (a.home (a.lt p)) (hI.home hl)).1
  unfold f_X4_isAt hd on
  rw [pz_tal (by omega) (by omega), h.lt hp, m_isThere h hI hl, pz_bs]
  cases thB a S (a.lt p)
  · rfl
  · rw [if_neg (by decide), m_standsAt h hI S hl, pz_bs, Bool.true_and]
    by_cases he : fw a S 90 (a.home (a.lt p)) = p
    · rw [if_pos (by rw [he]), if_pos (decide_eq_true he)]; rfl
    · rw [if_neg (by rw [pz_eq (by omega) (by omega)]; exact he), if_neg (by simpa using he)]; rfl
theorem m_markOf {a : AB} {st : tST} (h : MR a st) (hI : Inv a) {p : Nat} (hp : p < a.nP) : f_X4_markOf (nI p) st = some (mkp a p) := by
  unfold f_X4_markOf
  rw [m_setOf h hI, pz_bs, m_isAt h hI hp, pz_bs, m_setOf h hI, pz_bs, m_isAt h hI hp, pz_bs]
  unfold mkp
  cases hd a (mkV a 0) p <;> cases hd a (mkV a 1) p <;> rfl
/-! ===== facts of a place ===== -/
def pfv (a : AB) (i : Nat) (w : Int32) : Int32 :=
  if w = 0 then nI (a.lt (a.line i)) else if w = 1 then en ((a.fr (a.line i)).map a.pos) else if w = 2 then en (a.by_ (a.line i)) else mkp a (a.line i)
theorem x_placeFact {a : AB} {st : tST} (h : XR a st) (hI : Inv a) {i : Nat} (hi : i < a.nP) (w : Int32) : f_X3_placeFact (nI i) w st = some (pfv a i w) := by
  have hP := hI.nP
  unfold f_X3_placeFact pfv
  simp only [pz_tal (show i < 90 by omega) (show 90 < 2 ^ 31 by omega), h.lt hi, h.fr hi, h.by_ hi, x_markOf h hI hi, pz_bs]
  repeat' split
  all_goals rfl
theorem m_placeNow {a : AB} {st : tST} (h : MR a st) (hI : Inv a) {i : Nat} (hi : i < a.nP) (w : Int32) : f_X4_placeNow (nI (a.line i)) w st = some (pfv a i w) := by
  have hP := hI.nP
  have hli := hI.line hi
  have h1 : (if en (a.fr (a.line i)) = -1 then some (-1 : Int32) else (f_X4_inLine (en (a.fr (a.line i))) st).bind fun r4 => some r4) = some (en ((a.fr (a.line i)).map a.pos)) := by
    cases hf : a.fr (a.line i) with
    | none => rw [if_pos en_none]; rfl
    | some q =>
      obtain ⟨g1, -⟩ := hI.fr hli hf
      rw [en_some, if_neg (by rw [pz_m1 (by omega)]; exact id), m_inLine h hI (by omega)]; rfl
  unfold f_X4_placeNow pfv
  simp only [pz_tal (show a.line i < 90 by omega) (show 90 < 2 ^ 31 by omega), h.lt hli, h.fr hli, h.by_ hli, m_markOf h hI hli, pz_bs, h1]
  repeat' split
  all_goals rfl
