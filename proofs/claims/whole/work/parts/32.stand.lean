/-! ===== which letters are there ===== -/
def mkB (P : Nat → Bool) : Nat → Int64
  | 0 => 0
  | n + 1 => mkB P n ||| (if P n then (1 : Int64) <<< ((nI n).toInt64 &&& 63) else 0)
theorem mkB_bl (P : Nat → Bool) : ∀ n, n ≤ 64 → ∀ i, i < 64 → bl (mkB P n) i = (decide (i < n) && P i)
  | 0, _, i, _ => by rw [mkB, l_0]; rfl
  | n + 1, hn, i, hi => by
    rw [mkB, l_or, mkB_bl P n (by omega) i hi]
    by_cases hp : P n = true
    · rw [if_pos hp, l_one (by omega) hi]
      by_cases h1 : i = n
      · subst h1
        simp [hp]
      · rw [decide_eq_false h1, Bool.or_false]
        congr 1
        exact decide_eq_decide.mpr ⟨fun e => by omega, fun e => by omega⟩
    · rw [if_neg hp, l_0, Bool.or_false]
      by_cases h1 : i = n
      · subst h1
        have : P i = false := by cases hq : P i <;> simp_all
        rw [this, Bool.and_false, Bool.and_false]
      · congr 1
        exact decide_eq_decide.mpr ⟨fun e => by omega, fun e => by omega⟩
def inS (S : Int32) (o : Option Nat) : Bool := match o with
  | none => true
  | some c => bt S c
def thB (a : AB) (S : Int32) (l : Nat) : Bool := inS S (a.ins l) && decide (a.del l &&& S = 0)
theorem tch_0 {a : AB} (hI : Inv a) {l c : Nat} (hl : l < a.nL) (hk : a.kind c = 0) : tch a l c = decide (a.ins l = some c) := by
  unfold tch
  have h1 : bt (a.del l) c = false := by
    cases hq : bt (a.del l) c
    · rfl
    · have := (hI.del hl hq).2; rw [hk] at this; exact absurd this (by decide)
  have h2 : mvd a l c = false := by
    cases hq : mvd a l c
    · rfl
    · obtain ⟨q, hq1, hq2⟩ := exs_iff.mp hq
      simp only [Bool.and_eq_true, decide_eq_true_eq] at hq2
      obtain ⟨⟨-, h3⟩, h4⟩ := hq2
      obtain ⟨r, hr⟩ := Option.isSome_iff_exists.mp h3
      obtain ⟨-, -, d, hd, -, h5⟩ := hI.fr hq1 hr
      rw [h4] at hd; cases hd
      rw [hk] at h5; exact absurd h5 (by decide)
  rw [h1, h2, Bool.or_false, Bool.or_false]
theorem tch_1 {a : AB} (hI : Inv a) {l c : Nat} (hl : l < a.nL) (hk : a.kind c = 1) : tch a l c = bt (a.del l) c := by
  unfold tch
  have h1 : decide (a.ins l = some c) = false := decide_eq_false (fun h => by have := (hI.ins hl h).2; rw [hk] at this; exact absurd this (by decide))
  have h2 : mvd a l c = false := by
    cases hq : mvd a l c
    · rfl
    · obtain ⟨q, hq1, hq2⟩ := exs_iff.mp hq
      simp only [Bool.and_eq_true, decide_eq_true_eq] at hq2
      obtain ⟨⟨-, h3⟩, h4⟩ := hq2
      obtain ⟨r, hr⟩ := Option.isSome_iff_exists.mp h3
      obtain ⟨-, -, d, hd, -, h5⟩ := hI.fr hq1 hr
      rw [h4] at hd; cases hd
      rw [hk] at h5; exact absurd h5 (by decide)
  rw [h1, h2, Bool.or_false, Bool.false_or]
theorem tch_2 {a : AB} (hI : Inv a) {l c : Nat} (hl : l < a.nL) (hk : a.kind c = 2) : tch a l c = mvd a l c := by
  unfold tch
  have h1 : decide (a.ins l = some c) = false := decide_eq_false (fun h => by have := (hI.ins hl h).2; rw [hk] at this; exact absurd this (by decide))
  have h2 : bt (a.del l) c = false := by
    cases hq : bt (a.del l) c
    · rfl
    · have := (hI.del hl hq).2; rw [hk] at this; exact absurd this (by decide)
  rw [h1, h2, Bool.false_or, Bool.false_or]
theorem m_has {S : Int32} {c : Nat} (hc : c < 31) : f_X4_has S (nI c) = some (if bt S c = true then 1 else 0) := by
  unfold f_X4_has
  rw [b_look hc]
  cases bt S c <;> rfl
theorem m_isThere {a : AB} {st : tST} (h : MR a st) (hI : Inv a) {l : Nat} (hl : l < a.nL) (S : Int32) : f_X4_isThere (nI l) S st = some (if thB a S l = true then 1 else 0) := by
  unfold f_X4_isThere
  have hL := hI.nL
  have hC := hI.nC
  simp only [pz_tal (show l < 64 by omega) (show 64 < 2 ^ 31 by omega), h.ins hl, h.del hl]
  unfold thB
  cases hi : a.ins l with
  | none =>
    rw [if_pos en_none]
    by_cases hd : a.del l &&& S = 0
    · rw [if_pos hd, decide_eq_true hd]; rfl
    · rw [if_neg hd, decide_eq_false hd]; rfl
  | some c =>
    have hc := (hI.ins hl hi).1
    rw [en_some, if_neg (by rw [pz_m1 (by omega)]; exact id), m_has (by omega), pz_bs]
    show _ = some (if (bt S c && decide (a.del l &&& S = 0)) = true then 1 else 0)
    cases bt S c
    · rfl
    · rw [if_neg (by decide)]
      by_cases hd : a.del l &&& S = 0
      · rw [if_pos hd, decide_eq_true hd]; rfl
      · rw [if_neg hd, decide_eq_false hd]; rfl
theorem exs_one {P : Nat → Bool} {n c : Nat} (hc : c < n) : exs (fun j => P j && decide (some c = some j)) n = P c := by
  apply bool_ext
  rw [exs_iff]
  constructor
  · rintro ⟨j, h1, h2⟩
    simp only [Bool.and_eq_true, decide_eq_true_eq, Option.some.injEq] at h2
    rw [h2.2]; exact h2.1
  · intro h
    exact ⟨c, hc, by simp [h]⟩
theorem del_zero {a : AB} (hI : Inv a) {l : Nat} (hl : l < a.nL) (S : Int32) : decide (a.del l &&& S = 0) = !exs (fun c => bt S c && bt (a.del l) c) a.nC := by
  apply bool_ext
  rw [decide_eq_true_eq, b_zero, Bool.not_eq_true', ← Bool.not_eq_true, exs_iff]
  constructor
  · intro h ⟨c, h1, h2⟩
    simp only [Bool.and_eq_true] at h2
    have hC := hI.nC
    have := h c (by omega)
    rw [b_and, h2.1, h2.2] at this
    cases this
  · intro h i hi
    rw [b_and]
    cases hd : bt (a.del l) i
    · rfl
    · cases hs : bt S i
      · rfl
      · exact absurd ⟨i, (hI.del hl hd).1, by rw [hs, hd]; rfl⟩ h
def thP (a : AB) (S : Int32) (l : Nat) : Bool := decide (l < a.nL) && thB a S l
theorem x_thereBy {a : AB} {st : tST} (h : XR a st) (hI : Inv a) (S : Int32) : f_X3_thereBy S st = some (mkB (thP a S) 64) := by
  unfold f_X3_thereBy
  have hC := hI.nC
  have hL := hI.nL
  simp only [tlet]
  obtain ⟨R, hR, hRe⟩ : ∃ R, (∀ l, l < 64 → bl R l = thP a S l) ∧ R = mkB (thP a S) 64 := ⟨_, fun l hl => by rw [mkB_bl _ _ (Nat.le_refl _) l hl, decide_eq_true hl, Bool.true_and], rfl⟩
  rw [← hRe]
  clear hRe
  refine lp_q (F := fun n (x : Int64 × Int64) i => f_X3_thereBy_11 st n S x.1 x.2 i) (J := fun c x => ∀ l, l < 64 → bl x.1 l = (decide (l < a.nL) && (decide (a.ins l = none) || exs (fun c' => bt S c' && decide (a.ins l = some c')) c)) ∧ bl x.2 l = (decide (l < a.nL) && exs (fun c' => bt S c' && bt (a.del l) c') c)) (N := a.nC) (Q := fun o => o = some R) ?_ ?_ 0 tfu (tg_L st 0, 0) (Nat.zero_le _) (tfu_gt (by omega)) ?_
  · intro n x hx
    show f_X3_thereBy_11 st (n + 1) S x.1 x.2 (nI a.nC) = _
    rw [f_X3_thereBy_11, h.nC, if_pos (nI_le (Nat.le_refl _) (by omega))]
    congr 1
    refine l_ext (fun l hl => ?_)
    rw [l_and, l_not hl, (hx l hl).1, (hx l hl).2, hR l hl]
    unfold thP
    by_cases hn : l < a.nL
    · rw [decide_eq_true hn, Bool.true_and, Bool.true_and, Bool.true_and]
      unfold thB
      rw [del_zero hI hn]
      congr 1
      cases hi : a.ins l with
      | none => simp [inS]
      | some c =>
        rw [exs_one (hI.ins hn hi).1]
        simp [inS]
    · rw [decide_eq_false hn]; rfl
  · intro n x c hc hx ih
    show f_X3_thereBy_11 st (n + 1) S x.1 x.2 (nI c) = _
    rw [f_X3_thereBy_11, h.nC, if_neg (nI_ge hc (by omega)), b_look (by omega), ite_p (pz_b01 _)]
    simp only [pz_tal (show c < 12 by omega) (show 12 < 2 ^ 31 by omega), h.kind hc, tlet, nI_1]
    by_cases hs : bt S c = true
    · rw [if_neg (by rw [hs]; decide)]
      by_cases k0 : a.kind c = 0
      · rw [if_pos k0]
        refine ih (x.1 ||| tg_B st 13 c, x.2) (fun l hl => ⟨?_, ?_⟩)
        · show bl (x.1 ||| tg_B st 13 c) l = _
          rw [l_or, (hx l hl).1, h.tch hc hl, exs, hs]
          by_cases hn : l < a.nL
          · rw [decide_eq_true hn, tch_0 hI hn k0]
            simp [Bool.or_assoc]
          · rw [decide_eq_false hn]; rfl
        · show bl x.2 l = _
          rw [(hx l hl).2, exs, hs]
          by_cases hn : l < a.nL
          · have h1 := tch_0 hI hn k0
            have : bt (a.del l) c = false := by
              cases hq : bt (a.del l) c
              · rfl
              · have := (hI.del hn hq).2; rw [k0] at this; exact absurd this (by decide)
            rw [this]; simp
          · rw [decide_eq_false hn]; rfl
      · rw [if_neg k0]
        have ni : ∀ l, l < a.nL → decide (a.ins l = some c) = false := fun l hn => decide_eq_false (fun e => k0 (hI.ins hn e).2)
        by_cases k1 : a.kind c = 1
        · rw [if_pos k1]
          refine ih (x.1, x.2 ||| tg_B st 13 c) (fun l hl => ⟨?_, ?_⟩)
          · show bl x.1 l = _
            rw [(hx l hl).1, exs, hs]
            by_cases hn : l < a.nL
            · rw [ni l hn]; simp
            · rw [decide_eq_false hn]; rfl
          · show bl (x.2 ||| tg_B st 13 c) l = _
            rw [l_or, (hx l hl).2, h.tch hc hl, exs, hs]
            by_cases hn : l < a.nL
            · rw [decide_eq_true hn, tch_1 hI hn k1]; simp
            · rw [decide_eq_false hn]; rfl
        · rw [if_neg k1]
          refine ih x (fun l hl => ⟨?_, ?_⟩)
          · rw [(hx l hl).1, exs, hs]
            by_cases hn : l < a.nL
            · rw [ni l hn]; simp
            · rw [decide_eq_false hn]; rfl
          · rw [(hx l hl).2, exs, hs]
            by_cases hn : l < a.nL
            · have : bt (a.del l) c = false := by
                cases hq : bt (a.del l) c
                · rfl
                · exact absurd (hI.del hn hq).2 k1
              rw [this]; simp
            · rw [decide_eq_false hn]; rfl
    · have hs0 : bt S c = false := by cases hq : bt S c <;> simp_all
      rw [if_pos hs0]
      refine ih x (fun l hl => ⟨?_, ?_⟩)
      · rw [(hx l hl).1, exs, hs0]; simp
      · rw [(hx l hl).2, exs, hs0]; simp
  · intro l hl
    refine ⟨?_, ?_⟩
    · show bl (tg_L st 0) l = _
      rw [h.first hl]; simp [exs]
    · show bl 0 l = _
      rw [l_0]; simp [exs]
/-! ===== where letters stand ===== -/
def byS (a : AB) (S : Int32) (q : Nat) : Bool := match a.by_ q with
  | none => false
  | some c => bt S c
theorem byS_eq {a : AB} {S : Int32} {q c : Nat} (h : a.by_ q = some c) : byS a S q = bt S c := by unfold byS; rw [h]
def nx (a : AB) (S : Int32) (p : Nat) : Option Nat := lst (fun q => decide (a.fr q = some p) && byS a S q) a.nP
def fw (a : AB) (S : Int32) : Nat → Nat → Nat
  | 0, p => p
  | n + 1, p => match nx a S p with
    | none => p
    | some q => fw a S n q
def on (a : AB) (S : Int32) (p : Nat) : Bool := decide (fw a S 90 (a.home (a.lt p)) = p)
theorem nx_some {a : AB} (hI : Inv a) {S : Int32} {p q : Nat} (h : nx a S p = some q) : q < a.nP ∧ a.fr q = some p ∧ byS a S q = true ∧ p < q ∧ a.lt p = a.lt q := by
  obtain ⟨h1, h2, -⟩ := lst_some h
  simp only [Bool.and_eq_true, decide_eq_true_eq] at h2
  obtain ⟨g1, g2, -⟩ := hI.fr h1 h2.1
  exact ⟨h1, h2.1, h2.2, g1, g2⟩
theorem m_leadsOn_loop {a : AB} {st : tST} (h : MR a st) (hI : Inv a) (S : Int32) (p : Nat) : ∀ d n q, a.nP - q ≤ d → d < n → q < a.nP → a.fr q = some p → (∀ q', q' < q → a.fr q' = some p → byS a S q' = false) → f_X4_leadsOn_7 st n S (nI q) = some (en (nx a S p)) := by
  intro d
  have hP := hI.nP
  have hC := hI.nC
  induction d with
  | zero => intro n q h1 h2 h3; omega
  | succ d ih =>
    intro n q h1 h2 h3 h4 h5
    obtain ⟨m, rfl⟩ : ∃ m, n = m + 1 := ⟨n - 1, by omega⟩
    obtain ⟨-, -, c, hc, hc2, -⟩ := hI.fr h3 h4
    rw [f_X4_leadsOn_7, if_neg (by rw [pz_m1 (by omega)]; exact id), pz_tal (by omega) (by omega), h.by_ h3, hc, en_some, m_has (by omega), pz_bs, ite_p (pz_b01 _)]
    have hb : byS a S q = bt S c := by unfold byS; rw [hc]
    by_cases hs : bt S c = false
    · rw [if_pos hs, pz_tal (by omega) (by omega), h.nxt h3]
      unfold nxq
      rw [if_neg (by rw [h4]; simp)]
      cases hn : lst (fun r => decide (q < r) && decide (a.fr r = a.fr q)) a.nP with
      | none =>
        rw [en_none]
        obtain ⟨k, rfl⟩ : ∃ k, m = k + 1 := ⟨m - 1, by omega⟩
        rw [f_X4_leadsOn_7, if_pos rfl]
        have : nx a S p = none := by
          refine lst_of_none (fun j hj => ?_)
          have h6 := lst_none hn j hj
          cases hf : decide (a.fr j = some p)
          · rfl
          · rw [decide_eq_true_eq] at hf
            simp only [h4, hf, decide_true, Bool.and_true, decide_eq_false_iff_not] at h6
            by_cases hjq : j = q
            · subst hjq; rw [hb, hs]; rfl
            · rw [h5 j (by omega) hf]; rfl
        rw [this]; rfl
      | some r =>
        obtain ⟨g1, g2, g3⟩ := lst_some hn
        simp only [Bool.and_eq_true, decide_eq_true_eq] at g2
        rw [en_some]
        refine ih m r (by omega) (by omega) g1 (g2.2.trans h4) (fun j hj hf => ?_)
        by_cases hjq : j = q
        · subst hjq; rw [hb, hs]
        · by_cases hlt : j < q
          · exact h5 j hlt hf
          · have h6 := g3 j hj
            rw [h4, hf] at h6
            simp at h6
            omega
    · rw [if_neg hs]
      have hs1 : bt S c = true := by cases hq : bt S c <;> simp_all
      have : nx a S p = some q := lst_of_some h3 (by rw [hb, hs1, h4]; simp) (fun j hj => by
        cases hf : decide (a.fr j = some p)
        · rfl
        · rw [decide_eq_true_eq] at hf
          rw [h5 j hj hf]; rfl)
      rw [this, en_some]
theorem m_leadsOn {a : AB} {st : tST} (h : MR a st) (hI : Inv a) (S : Int32) {p : Nat} (hp : p < a.nP) : f_X4_leadsOn (nI p) S st = some (en (nx a S p)) := by
  have hP := hI.nP
  unfold f_X4_leadsOn
  rw [pz_tal (by omega) (by omega), h.fst hp]
  cases hn : lst (fun q => decide (a.fr q = some p)) a.nP with
  | none =>
    rw [en_none, show tfu = 4999 + 1 from rfl, f_X4_leadsOn_7, if_pos rfl]
    have : nx a S p = none := lst_of_none (fun j hj => by rw [lst_none hn j hj]; rfl)
    rw [this]; rfl
  | some q =>
    obtain ⟨g1, g2, g3⟩ := lst_some hn
    rw [en_some]
    refine m_leadsOn_loop h hI S p 90 tfu q (by omega) (tfu_gt (by omega)) g1 (by simpa using g2) (fun j hj hf => ?_)
    have := g3 j hj
    rw [hf] at this
    simp at this
theorem m_stands_loop {a : AB} {st : tST} (h : MR a st) (hI : Inv a) (S : Int32) : ∀ d n p, p < a.nP → a.nP - p ≤ d → d < n → f_X4_standsAt_15 st n S (nI p) (en (nx a S p)) = some (nI (fw a S d p)) := by
  intro d
  have hP := hI.nP
  induction d with
  | zero => intro n p h1 h2; omega
  | succ d ih =>
    intro n p h1 h2 h3
    obtain ⟨m, rfl⟩ : ∃ m, n = m + 1 := ⟨n - 1, by omega⟩
    rw [f_X4_standsAt_15, fw]
    cases hn : nx a S p with
    | none => rw [en_none, if_pos rfl]
    | some q =>
      obtain ⟨g1, g2, g3, g4, g5⟩ := nx_some hI hn
      rw [en_some, if_neg (by rw [pz_m1 (by omega)]; exact id), m_leadsOn h hI S g1, pz_bs]
      exact ih m q g1 (by omega) (by omega)
theorem m_standsAt {a : AB} {st : tST} (h : MR a st) (hI : Inv a) (S : Int32) {l : Nat} (hl : l < a.nL) : f_X4_standsAt (nI l) S st = some (nI (fw a S 90 (a.home l))) := by
  have hP := hI.nP
  have hL := hI.nL
  unfold f_X4_standsAt
  rw [pz_tal (by omega) (by omega), h.home hl, m_leadsOn h hI S (hI.home hl), pz_bs]
  exact m_stands_loop h hI S 90 tfu _ (hI.home hl) (by omega) (tfu_gt (by omega))
theorem fw_in {a : AB} (hI : Inv a) {S : Int32} : ∀ d p, p < a.nP → fw a S d p < a.nP ∧ a.lt (fw a S d p) = a.lt p ∧ p ≤ fw a S d p := by
  intro d
  induction d with
  | zero => intro p hp; exact ⟨hp, rfl, Nat.le_refl _⟩
  | succ d ih =>
    intro p hp
    rw [fw]
    cases hn : nx a S p with
    | none => exact ⟨hp, rfl, Nat.le_refl _⟩
    | some q =>
      obtain ⟨g1, g2, g3, g4, g5⟩ := nx_some hI hn
      obtain ⟨k1, k2, k3⟩ := ih q g1
      exact ⟨k1, k2.trans g5.symm, Nat.le_trans (Nat.le_of_lt g4) k3⟩
theorem fw_end {a : AB} (hI : Inv a) {S : Int32} : ∀ d p, p < a.nP → a.nP - p ≤ d → nx a S (fw a S d p) = none := by
  intro d
  induction d with
  | zero => intro p hp h; omega
  | succ d ih =>
    intro p hp h
    rw [fw]
    cases hn : nx a S p with
    | none => exact hn
    | some q =>
      obtain ⟨g1, g2, g3, g4, g5⟩ := nx_some hI hn
      exact ih q g1 (by omega)
theorem fw_stop {a : AB} {S : Int32} {p : Nat} (h : nx a S p = none) : ∀ d, fw a S d p = p
  | 0 => rfl
  | d + 1 => by rw [fw, h]
theorem fw_more {a : AB} (hI : Inv a) {S : Int32} : ∀ d p, p < a.nP → a.nP - p ≤ d → fw a S (d + 1) p = fw a S d p := by
  intro d
  induction d with
  | zero => intro p hp h; omega
  | succ d ih =>
    intro p hp h
    rw [fw, fw]
    cases hn : nx a S p with
    | none => rfl
    | some q =>
      obtain ⟨g1, g2, g3, g4, g5⟩ := nx_some hI hn
      exact ih q g1 (by omega)
/-- back from a place to where its letter came -/
def bk (a : AB) (S : Int32) : Nat → Nat → Bool
  | 0, _ => true
  | n + 1, p => match a.fr p with
    | none => true
    | some q => decide (nx a S q = some p) && bk a S n q
theorem bk_fuel {a : AB} (hI : Inv a) {S : Int32} : ∀ p, p < a.nP → ∀ n m, p ≤ n → p ≤ m → bk a S n p = bk a S m p := by
  intro p
  induction p using Nat.strongRecOn with
  | ind p ih =>
    intro hp n m hn hm
    have base : ∀ k, p ≤ k → bk a S k p = (match a.fr p with | none => true | some q => decide (nx a S q = some p) && bk a S (k - 1) q) := by
      intro k hk
      cases k with
      | zero =>
        have : p = 0 := by omega
        cases hf : a.fr p with
        | none => rfl
        | some q => have := (hI.fr hp hf).1; omega
      | succ k => rw [bk]; rfl
    rw [base n hn, base m hm]
    cases hf : a.fr p with
    | none => rfl
    | some q =>
      have hq := (hI.fr hp hf).1
      show (decide _ && bk a S (n - 1) q) = (decide _ && bk a S (m - 1) q)
      rw [ih q hq (by omega) (n - 1) (m - 1) (by omega) (by omega)]
theorem bk_eq {a : AB} (hI : Inv a) {S : Int32} {p : Nat} (hp : p < a.nP) : bk a S 90 p = (match a.fr p with | none => true | some q => decide (nx a S q = some p) && bk a S 90 q) := by
  have hP := hI.nP
  rw [show (90 : Nat) = 89 + 1 from rfl, bk]
  cases hf : a.fr p with
  | none => rfl
  | some q =>
    have hq := (hI.fr hp hf).1
    show (decide _ && bk a S 89 q) = (decide _ && bk a S (89 + 1) q)
    rw [bk_fuel hI q (by omega) 89 (89 + 1) (by omega) (by omega)]
theorem bk_fw {a : AB} (hI : Inv a) {S : Int32} : ∀ d p, p < a.nP → bk a S 90 p = true → bk a S 90 (fw a S d p) = true := by
  intro d
  induction d with
  | zero => intro p _ h; exact h
  | succ d ih =>
    intro p hp h
    rw [fw]
    cases hn : nx a S p with
    | none => exact h
    | some q =>
      obtain ⟨g1, g2, g3, g4, g5⟩ := nx_some hI hn
      refine ih q g1 ?_
      rw [bk_eq hI g1, g2]
      show (decide _ && bk a S 90 p) = true
      rw [hn, h]; simp
theorem bk_home {a : AB} (hI : Inv a) {S : Int32} : ∀ p, p < a.nP → bk a S 90 p = true → fw a S 90 (a.home (a.lt p)) = fw a S 90 p := by
  have hP := hI.nP
  intro p
  induction p using Nat.strongRecOn with
  | ind p ih =>
    intro hp h
    rw [bk_eq hI hp] at h
    cases hf : a.fr p with
    | none => rw [hI.hm hp hf]
    | some q =>
      rw [hf] at h
      have h : (decide (nx a S q = some p) && bk a S 90 q) = true := h
      simp only [Bool.and_eq_true, decide_eq_true_eq] at h
      obtain ⟨g1, g2, -⟩ := hI.fr hp hf
      have h1 := ih q g1 (by omega) h.2
      rw [g2] at h1
      rw [h1, show (90 : Nat) = 89 + 1 from rfl]
      rw [show fw a S (89 + 1) q = fw a S 89 p by rw [fw, h.1]]
      exact (fw_more hI 89 p hp (by omega)).symm
theorem on_iff {a : AB} (hI : Inv a) {S : Int32} {p : Nat} (hp : p < a.nP) : on a S p = (decide (nx a S p = none) && bk a S 90 p) := by
  have hP := hI.nP
  apply bool_ext
  unfold on
  rw [decide_eq_true_eq, Bool.and_eq_true, decide_eq_true_eq]
  have hl := hI.lt hp
  constructor
  · intro h
    refine ⟨?_, ?_⟩
    · have := fw_end hI (S := S) 90 (a.home (a.lt p)) (hI.home hl) (by omega)
      rw [h] at this; exact this
    · have := bk_fw hI (S := S) 90 (a.home (a.lt p)) (hI.home hl) (by rw [bk_eq hI (hI.home hl), hI.frh hl])
      rw [h] at this; exact this
  · intro ⟨h1, h2⟩
    rw [bk_home hI p hp h2, fw_stop h1]
/-! ===== the class: back along the line ===== -/
theorem b_neg (x : Int32) {i : Nat} (hi : i < 32) : bt (-x) i = (bt x i ^^ decide (∃ j, j < i ∧ bt x j = true)) := by
  unfold bt
  rw [Int32.toBitVec_neg, BitVec.getLsbD_neg]
  simp [hi]
theorem b_low (w : Int32) {i : Nat} (hi : i < 32) : bt (w &&& -w) i = (bt w i && !decide (∃ j, j < i ∧ bt w j = true)) := by
  rw [b_and, b_neg w hi]
  cases bt w i <;> simp
theorem low_iff (w : Int32) {c : Nat} (hc : c < 32) : (w &&& -w = (1 : Int32) <<< (nI c &&& 31)) = (bt w c = true ∧ ∀ j, j < c → bt w j = false) := by
  apply propext
  constructor
  · intro h
    have h1 : bt (w &&& -w) c = true := by rw [h, b_one hc hc]; simp
    rw [b_low w hc, Bool.and_eq_true, Bool.not_eq_true', decide_eq_false_iff_not] at h1
    refine ⟨h1.1, fun j hj => ?_⟩
    cases hb : bt w j
    · rfl
    · exact absurd ⟨j, hj, hb⟩ h1.2
  · intro ⟨h1, h2⟩
    refine b_ext (fun i hi => ?_)
    rw [b_low w hi, b_one hc hi]
    rcases Nat.lt_trichotomy i c with g | g | g
    · rw [h2 i g, decide_eq_false (show ¬ i = c by omega)]; rfl
    · subst g
      rw [h1, decide_eq_false (fun ⟨j, hj, hb⟩ => by rw [h2 j hj] at hb; cases hb)]; simp
    · rw [decide_eq_true (⟨c, g, h1⟩ : ∃ j, j < i ∧ bt w j = true), decide_eq_false (show ¬ i = c by omega)]; simp
theorem onw_iff {a : AB} {p c : Nat} : onw a p c = true ↔ ∃ q, q < a.nP ∧ a.fr q = some p ∧ a.by_ q = some c := by
  unfold onw
  rw [exs_iff]
  simp only [Bool.and_eq_true, decide_eq_true_eq]
theorem way_iff {a : AB} {st : tST} (h : XR a st) (hI : Inv a) (S : Int32) {i p c : Nat} (hi : i < a.nP) (hp : p < a.nP) (hf : a.fr p = some (a.line i)) (hb : a.by_ p = some c) : ((tg_A st 7 i &&& S) &&& -(tg_A st 7 i &&& S) = (1 : Int32) <<< (nI c &&& 31)) = (nx a S (a.line i) = some p) := by
  have hC := hI.nC
  have hc := hI.by_ hp hb
  rw [low_iff _ (by omega)]
  apply propext
  have bit : ∀ d, d < 32 → bt (tg_A st 7 i &&& S) d = (onw a (a.line i) d && bt S d) := fun d hd => by rw [b_and, h.onw hi hd]
  rw [bit c (by omega)]
  constructor
  · intro ⟨h1, h2⟩
    rw [Bool.and_eq_true] at h1
    refine lst_of_some hp (by rw [byS_eq hb, hf, h1.2]; simp) (fun q hq => ?_)
    cases hfq : decide (a.fr q = some (a.line i))
    · rfl
    · rw [decide_eq_true_eq] at hfq
      obtain ⟨-, -, d, hd, hd2, -⟩ := hI.fr (by omega : q < a.nP) hfq
      have hlt := hI.ord hq hp hfq hf hd hb
      have h3 := h2 d hlt
      rw [bit d (by omega), onw_iff.mpr ⟨q, by omega, hfq, hd⟩, Bool.true_and] at h3
      rw [byS_eq hd, h3]; rfl
  · intro h1
    obtain ⟨-, g2, g3⟩ := lst_some h1
    simp only [Bool.and_eq_true, decide_eq_true_eq] at g2
    have hs : bt S c = true := by rw [← byS_eq hb]; exact g2.2
    refine ⟨by rw [onw_iff.mpr ⟨p, hp, hf, hb⟩, hs]; rfl, fun d hd => ?_⟩
    rw [bit d (by omega)]
    cases ho : onw a (a.line i) d
    · rfl
    · obtain ⟨q, k1, k2, k3⟩ := onw_iff.mp ho
      rw [Bool.true_and]
      rcases Nat.lt_trichotomy q p with g | g | g
      · have := g3 q g
        rw [k2, byS_eq k3] at this
        simpa using this
      · subst g; rw [hb] at k3; cases k3; omega
      · have := hI.ord g k1 hf k2 hb k3; omega
theorem none_iff {a : AB} {st : tST} (h : XR a st) (hI : Inv a) (S : Int32) {i : Nat} (hi : i < a.nP) : (tg_A st 7 i &&& S = 0) = (nx a S (a.line i) = none) := by
  have hC := hI.nC
  rw [b_zero]
  apply propext
  constructor
  · intro h1
    refine lst_of_none (fun q hq => ?_)
    cases hfq : decide (a.fr q = some (a.line i))
    · rfl
    · rw [decide_eq_true_eq] at hfq
      obtain ⟨-, -, d, hd, hd2, -⟩ := hI.fr hq hfq
      have h3 := h1 d (by omega)
      rw [b_and, h.onw hi (by omega), onw_iff.mpr ⟨q, hq, hfq, hd⟩, Bool.true_and] at h3
      rw [byS_eq hd, h3]; rfl
  · intro h1 d hd
    rw [b_and, h.onw hi hd]
    cases ho : onw a (a.line i) d
    · rfl
    · obtain ⟨q, k1, k2, k3⟩ := onw_iff.mp ho
      have := lst_none h1 q k1
      rw [k2, byS_eq k3] at this
      simpa using this
theorem x_leadsTo_loop {a : AB} {st : tST} (h : XR a st) (hI : Inv a) (S : Int32) : ∀ d n i, d ≤ 90 → d < n → i < a.nP → f_X1_leadsTo_5 st n S (nI i) (nI (90 - d)) = some (if bk a S d (a.line i) = true then 1 else 0) := by
  intro d
  have hP := hI.nP
  have hC := hI.nC
  induction d with
  | zero =>
    intro n i h1 h2 h3
    obtain ⟨m, rfl⟩ : ∃ m, n = m + 1 := ⟨n - 1, by omega⟩
    rw [f_X1_leadsTo_5, if_pos (show (90 : Int32) ≤ nI (90 - 0) from nI_le (a := 90) (b := 90 - 0) (by omega) (by omega)), bk]; rfl
  | succ d ih =>
    intro n i h1 h2 h3
    obtain ⟨m, rfl⟩ : ∃ m, n = m + 1 := ⟨n - 1, by omega⟩
    have hli := hI.line h3
    rw [f_X1_leadsTo_5, if_neg (show ¬ (90 : Int32) ≤ nI (90 - (d + 1)) from nI_ge (a := 90 - (d + 1)) (b := 90) (by omega) (by omega)), bk]
    simp only [pz_tal (show i < 90 by omega) (show 90 < 2 ^ 31 by omega), h.fr h3]
    cases hf : a.fr (a.line i) with
    | none => rw [Option.map_none, if_pos en_none]; rfl
    | some q =>
      obtain ⟨g1, g2, c, g3, g4, g5⟩ := hI.fr hli hf
      have hq : q < a.nP := by omega
      have hpq := hI.pos hq
      rw [Option.map_some, en_some, if_neg (by rw [pz_m1 (by omega)]; exact id), pz_tal (show a.pos q < 90 by omega) (by omega)]
      simp only [tlet, h.by_ h3, g3, en_some]
      rw [ite_p (way_iff h hI S hpq hli (by rw [hI.lp hq]; exact hf) g3), hI.lp hq]
      by_cases hn : nx a S q = some (a.line i)
      · rw [if_pos hn, nI_1, show 90 - (d + 1) + 1 = 90 - d by omega, ih m (a.pos q) (by omega) (by omega) hpq, hI.lp hq]
        show _ = some (if (decide _ && bk a S d q) = true then 1 else 0)
        rw [decide_eq_true hn, Bool.true_and]
      · rw [if_neg hn]
        show _ = some (if (decide _ && bk a S d q) = true then 1 else 0)
        rw [decide_eq_false hn]; rfl
theorem x_leadsTo {a : AB} {st : tST} (h : XR a st) (hI : Inv a) (S : Int32) {i : Nat} (hi : i < a.nP) : f_X1_leadsTo (nI i) S st = some (if bk a S 90 (a.line i) = true then 1 else 0) := by
  unfold f_X1_leadsTo
  exact x_leadsTo_loop h hI S 90 tfu i (Nat.le_refl _) (tfu_gt (by omega)) hi
theorem x_holds {a : AB} {st : tST} (h : XR a st) (hI : Inv a) (T : Int64) (S : Int32) {i : Nat} (hi : i < a.nP) : f_X1_holds (nI i) T S st = some (if (bl T (a.lt (a.line i)) && on a S (a.line i)) = true then 1 else 0) := by
  have hP := hI.nP
  have hL := hI.nL
  have hli := hI.line hi
  have hlt := hI.lt hli
  unfold f_X1_holds
  rw [pz_tal (by omega) (by omega), h.lt hi, ite_p (l_look (by omega)), on_iff hI hli]
  by_cases hb : bl T (a.lt (a.line i)) = false
  · rw [if_pos hb, hb]; rfl
  · have hb1 : bl T (a.lt (a.line i)) = true := by cases hq : bl T (a.lt (a.line i)) <;> simp_all
    rw [if_neg hb, hb1, Bool.true_and, pz_tal (by omega) (by omega), ite_p (none_iff h hI S hi)]
    by_cases hn : nx a S (a.line i) = none
    · rw [if_pos hn, decide_eq_true hn, Bool.true_and, x_leadsTo h hI S hi, pz_bs]
      cases bk a S 90 (a.line i) <;> rfl
    · rw [if_neg hn, decide_eq_false hn]; rfl
