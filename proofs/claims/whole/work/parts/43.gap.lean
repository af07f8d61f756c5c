/-! ===== the class's line with a gap ===== -/
def xi (g w i : Nat) : Nat := if i < g then i else i + w
def XP (a : AB) (st : tST) (g w : Nat) : Prop := tg_I st 6 = nI (a.nP + w) ∧ ∀ i, i < a.nP → tg_A st 4 (xi g w i) = nI (a.lt (a.line i)) ∧ tg_A st 5 (xi g w i) = en ((a.fr (a.line i)).map (fun q => xi g w (a.pos q))) ∧ tg_A st 6 (xi g w i) = en (a.by_ (a.line i)) ∧ ∀ c, c < 32 → bt (tg_A st 7 (xi g w i)) c = onw a (a.line i) c
theorem xi_0 (g i : Nat) : xi g 0 i = i := by unfold xi; split <;> rfl
theorem XP_of {a : AB} {st : tST} (h : XR a st) (g : Nat) : XP a st g 0 := by
  refine ⟨h.nP, fun i hi => ?_⟩
  rw [xi_0, show (fun q => xi g 0 (a.pos q)) = a.pos from funext (fun q => xi_0 _ _)]
  exact h.2.2.2.2.1 i hi
theorem XP_to {a : AB} {st : tST} {g : Nat} (h : XP a st g 0) : tg_I st 6 = nI a.nP ∧ ∀ i, i < a.nP → tg_A st 4 i = nI (a.lt (a.line i)) ∧ tg_A st 5 i = en ((a.fr (a.line i)).map a.pos) ∧ tg_A st 6 i = en (a.by_ (a.line i)) ∧ ∀ c, c < 32 → bt (tg_A st 7 i) c = onw a (a.line i) c := by
  refine ⟨h.1, fun i hi => ?_⟩
  have := h.2 i hi
  rw [xi_0, show (fun q => xi g 0 (a.pos q)) = a.pos from funext (fun q => xi_0 _ _)] at this
  exact this
def cpA (f : Nat → Int32) (k n N : Nat) : Nat → Int32 := fun j => if k + n ≤ j ∧ j < N + n then f (j - n) else f j
theorem cpA_N (f : Nat → Int32) (n N : Nat) : cpA f N n N = f := by
  funext j
  unfold cpA
  rw [if_neg (by omega)]
theorem cpA_at (f : Nat → Int32) {k n N : Nat} (hn : 0 < n) : cpA f (k + 1) n N k = f k := by
  unfold cpA
  rw [if_neg (by omega)]
theorem cpA_step (f : Nat → Int32) {k n N : Nat} (hk : k < N) : upd (cpA f (k + 1) n N) (k + n) (f k) = cpA f k n N := by
  funext j
  by_cases e : j = k + n
  · rw [e, pk_us]
    unfold cpA
    rw [if_pos (by omega), show k + n - n = k by omega]
  · rw [pk_un e]
    unfold cpA
    by_cases c : k + n ≤ j ∧ j < N + n
    · rw [if_pos c, if_pos (by omega)]
    · rw [if_neg c, if_neg (by omega)]
theorem m1_lt (k : Nat) (hk : k < 2 ^ 31) : nI k - 1 < nI k := by
  cases k with
  | zero => decide
  | succ k => rw [nI_pred]; exact nI_lt (by omega) hk
theorem gap_1 {st : tST} {g n N : Nat} (hn : 0 < n) (hN : N + n ≤ 90) : ∀ d k m x, k = g + d → k ≤ N → d < m → tFr [] [] [4, 5, 6, 7] st x → tg_A x 4 = cpA (tg_A st 4) k n N → tg_A x 5 = cpA (tg_A st 5) k n N → tg_A x 6 = cpA (tg_A st 6) k n N → tg_A x 7 = cpA (tg_A st 7) k n N → ∃ y, f_X1_openGap_7 m (nI g) (nI n) (nI k - 1) x = f_X1_openGap_86 tfu (nI g) (nI n) 0 (tp_I y 6 (tg_I y 6 + nI n)) ∧ tFr [] [] [4, 5, 6, 7] st y ∧ tg_A y 4 = cpA (tg_A st 4) g n N ∧ tg_A y 5 = cpA (tg_A st 5) g n N ∧ tg_A y 6 = cpA (tg_A st 6) g n N ∧ tg_A y 7 = cpA (tg_A st 7) g n N := by
  intro d
  induction d with
  | zero =>
    intro k m x hk hkN hm h0 h4 h5 h6 h7
    obtain ⟨m, rfl⟩ : ∃ q, m = q + 1 := ⟨m - 1, by omega⟩
    have hk : k = g := hk
    subst hk
    refine ⟨x, ?_, h0, h4, h5, h6, h7⟩
    rw [f_X1_openGap_7, if_pos (m1_lt k (by omega))]
    rfl
  | succ d ih =>
    intro k m x hk hkN hm h0 h4 h5 h6 h7
    obtain ⟨m, rfl⟩ : ∃ q, m = q + 1 := ⟨m - 1, by omega⟩
    obtain ⟨k, rfl⟩ : ∃ q, k = q + 1 := ⟨k - 1, by omega⟩
    rw [f_X1_openGap_7, nI_pred, if_neg (nI_nlt (by omega) (by omega)), nI_add]
    rw [pz_tal (by omega) (by omega), pz_tas (by omega) (by omega), nI_clamp (by omega)]
    rw [pz_tal (by omega) (by omega), pz_tas (by omega) (by omega)]
    rw [pz_tal (by omega) (by omega), pz_tas (by omega) (by omega)]
    rw [pz_tal (by omega) (by omega), pz_tas (by omega) (by omega)]
    simp only [tlet]
    rw [show nI k + (-1 : Int32) = nI k - 1 from (Int32.sub_eq_add_neg _ _).symm]
    refine ih k m _ (by omega) (by omega) (by omega) ((((h0.tr (tFr.putA (by decide))).tr (tFr.putA (by decide))).tr (tFr.putA (by decide))).tr (tFr.putA (by decide))) ?_ ?_ ?_ ?_
    · show upd (tg_A x 4) (k + n) (tg_A x 4 k) = _
      rw [h4, cpA_at _ hn, cpA_step _ (by omega)]
    · show upd (tg_A x 5) (k + n) (tg_A x 5 k) = _
      rw [h5, cpA_at _ hn, cpA_step _ (by omega)]
    · show upd (tg_A x 6) (k + n) (tg_A x 6 k) = _
      rw [h6, cpA_at _ hn, cpA_step _ (by omega)]
    · show upd (tg_A x 7) (k + n) (tg_A x 7 k) = _
      rw [h7, cpA_at _ hn, cpA_step _ (by omega)]
theorem cpA_xi (f : Nat → Int32) {g n N i : Nat} (hi : i < N) : cpA f g n N (xi g n i) = f i := by
  unfold cpA xi
  by_cases c : i < g
  · rw [if_pos c, if_neg (by omega)]
  · rw [if_neg c, if_pos (by omega), show i + n - n = i by omega]
theorem xi_lt {g n N i : Nat} (hi : i < N) : xi g n i < N + n := by
  unfold xi
  split <;> omega
theorem x_openGap {a : AB} {st : tST} {g0 g n : Nat} (h : XP a st g0 0) (hb : ∀ p, p < a.nP → a.line p < a.nP) (hf : ∀ p q, p < a.nP → a.fr p = some q → q < a.nP) (hpos : ∀ p, p < a.nP → a.pos p < a.nP) (hg : g ≤ a.nP) (hn : 0 < n) (hN : a.nP + n ≤ 90) : ∃ st', f_X1_openGap (nI g) (nI n) st = some st' ∧ tFr [6] [] [4, 5, 6, 7] st st' ∧ XP a st' g n := by
  obtain ⟨h6, hp⟩ := XP_to h
  unfold f_X1_openGap
  simp only [tlet]
  rw [h6]
  obtain ⟨y, e1, e2, e4, e5, e6, e7⟩ := gap_1 (st := st) (g := g) (n := n) (N := a.nP) hn hN (a.nP - g) a.nP tfu st (by omega) (Nat.le_refl _) (tfu_gt (by omega)) tFr.rf (cpA_N _ _ _).symm (cpA_N _ _ _).symm (cpA_N _ _ _).symm (cpA_N _ _ _).symm
  rw [e1, e2.1 6 (by decide), h6, nI_add]
  obtain ⟨z, hz⟩ : ∃ z, z = tp_I y 6 (nI (a.nP + n)) := ⟨_, rfl⟩
  have z6 : tg_I z 6 = nI (a.nP + n) := by rw [hz]; rfl
  have z4 : tg_A z 4 = cpA (tg_A st 4) g n a.nP := by rw [hz]; exact e4
  have z5 : tg_A z 5 = cpA (tg_A st 5) g n a.nP := by rw [hz]; exact e5
  have zA6 : tg_A z 6 = cpA (tg_A st 6) g n a.nP := by rw [hz]; exact e6
  have z7 : tg_A z 7 = cpA (tg_A st 7) g n a.nP := by rw [hz]; exact e7
  have zf : tFr [6] [] [4, 5, 6, 7] st z := by rw [hz]; exact (e2.mono (by decide) (by decide) (by decide)).tr (tFr.putI (by decide))
  rw [← hz]
  refine lp_q (F := fun m (x : tST) i => f_X1_openGap_86 m (nI g) (nI n) i x) (J := fun p x => tFr [] [] [5] z x ∧ tg_A x 5 = fun j => if j < p then (if tg_A z 5 j < nI g then tg_A z 5 j else tg_A z 5 j + nI n) else tg_A z 5 j) (N := a.nP + n) (Q := fun o => ∃ st', o = some st' ∧ tFr [6] [] [4, 5, 6, 7] st st' ∧ XP a st' g n) ?_ ?_ 0 tfu z (Nat.zero_le _) (tfu_gt (by omega)) ⟨tFr.rf, by funext j; rw [if_neg (by omega)]⟩
  · intro m x ⟨h1, h2⟩
    refine ⟨x, ?_, zf.tr (h1.mono (by decide) (by decide) (by decide)), ?_, fun i hi => ?_⟩
    · show f_X1_openGap_86 (m + 1) (nI g) (nI n) (nI (a.nP + n)) x = _
      rw [f_X1_openGap_86, h1.1 6 (by decide), z6, if_pos (nI_le (Nat.le_refl _) (by omega))]
    · rw [h1.1 6 (by decide), z6]
    · obtain ⟨k1, k2, k3, k4⟩ := hp i hi
      have hx := xi_lt (g := g) (n := n) hi
      refine ⟨?_, ?_, ?_, fun c hc => ?_⟩
      · rw [h1.2.2.1 4 (by decide), z4, cpA_xi _ hi, k1]
      · rw [h2]
        show (if xi g n i < a.nP + n then _ else _) = _
        rw [if_pos hx, z5, cpA_xi _ hi, k2]
        cases hfr : a.fr (a.line i) with
        | none =>
          show (if (-1 : Int32) < nI g then (-1 : Int32) else _) = -1
          rw [if_pos]
          rw [Int32.lt_iff_toInt_lt, nI_toInt (by omega)]
          have : (-1 : Int32).toInt = -1 := by decide
          omega
        | some q =>
          have hq := hpos q (hf _ q (hb i hi) hfr)
          show (if nI (a.pos q) < nI g then nI (a.pos q) else nI (a.pos q) + nI n) = nI (xi g n (a.pos q))
          unfold xi
          by_cases c : a.pos q < g
          · rw [if_pos (nI_lt c (by omega)), if_pos c]
          · rw [if_neg (nI_nlt (by omega) (by omega)), if_neg c, nI_add]
      · rw [h1.2.2.1 6 (by decide), zA6, cpA_xi _ hi, k3]
      · rw [h1.2.2.1 7 (by decide), z7, cpA_xi _ hi, k4 c hc]
  · intro m x p hp2 ⟨h1, h2⟩ ih
    show ∃ st', f_X1_openGap_86 (m + 1) (nI g) (nI n) (nI p) x = _ ∧ _
    have v : tg_A x 5 p = tg_A z 5 p := by rw [h2]; show (if p < p then _ else _) = _; rw [if_neg (by omega)]
    rw [f_X1_openGap_86, h1.1 6 (by decide), z6, if_neg (nI_ge hp2 (by omega))]
    simp only [pz_tal (show p < 90 by omega) (show 90 < 2 ^ 31 by omega), v, tlet, nI_1]
    by_cases c : tg_A z 5 p < nI g
    · rw [if_pos c]
      refine ih x ⟨h1, ?_⟩
      rw [h2]
      funext j
      by_cases e : j = p
      · rw [e, if_neg (by omega), if_pos (by omega), if_pos c]
      · by_cases e2 : j < p
        · rw [if_pos e2, if_pos (show j < p + 1 by omega)]
        · rw [if_neg e2, if_neg (show ¬ j < p + 1 by omega)]
    · rw [if_neg c, pz_tas (by omega) (by omega), nI_clamp (by omega)]
      refine ih _ ⟨h1.tr (tFr.putA (by decide)), ?_⟩
      rw [st_AA, if_pos rfl, h2]
      funext j
      by_cases e : j = p
      · rw [e, pk_us, if_pos (by omega), if_neg c]
      · rw [pk_un e]
        by_cases e2 : j < p
        · rw [if_pos e2, if_pos (show j < p + 1 by omega)]
        · rw [if_neg e2, if_neg (show ¬ j < p + 1 by omega)]
theorem onw_add {a : AB} {l g : Nat} {f b : Option Nat} {p c : Nat} : onw (addP a l f b g) p c = (onw a p c || (decide (f = some p) && decide (b = some c))) := by
  show exs (fun q => decide (va_up a.fr a.nP f q = some p) && decide (va_up a.by_ a.nP b q = some c)) (a.nP + 1) = _
  rw [exs, va_up_self, va_up_self]
  congr 1
  exact exs_cong (fun q hq => by rw [va_up_ne _ _ (by omega), va_up_ne _ _ (by omega)])
theorem xi_ne (g w i : Nat) : ¬ xi g (w + 1) i = g := by
  unfold xi
  split <;> omega
theorem xi_inj {g w i j : Nat} (h : xi g w i = xi g w j) : i = j := by
  unfold xi at h
  split at h <;> split at h <;> omega
theorem xi_ins {a : AB} {g w q : Nat} (hq : q < a.nP) : xi (g + 1) w (insP a.pos a.nP g q) = xi g (w + 1) (a.pos q) := by
  unfold insP xi
  rw [if_neg (show ¬ q = a.nP by omega)]
  by_cases c : a.pos q < g
  · rw [if_pos c, if_pos (show a.pos q < g + 1 by omega), if_pos c]
  · rw [if_neg c, if_neg (show ¬ a.pos q + 1 < g + 1 by omega), if_neg c]
    omega
theorem x_put {a : AB} {st : tST} {g w l : Nat} {f b : Option Nat} (h : XP a st g (w + 1)) (hI2 : ∀ i, i < a.nP → a.line i < a.nP) (hpl : ∀ i, i < a.nP → a.pos (a.line i) = i) (hlp : ∀ p, p < a.nP → a.line (a.pos p) = p) (hf2 : ∀ p q, p < a.nP → a.fr p = some q → q < a.nP) (hg : g ≤ a.nP) (hN : a.nP + w + 1 ≤ 90) (hf : ∀ q, f = some q → q < a.nP ∧ a.pos q < a.nP ∧ ∃ c, b = some c ∧ c < 31) : ∃ st', f_X1_put (nI g) (nI l) (en (f.map (fun q => xi g (w + 1) (a.pos q)))) (en b) st = some st' ∧ tFr [] [] [4, 5, 6, 7] st st' ∧ XP (addP a l f b g) st' (g + 1) w := by
  unfold f_X1_put
  rw [pz_tas (by omega) (by omega), nI_clamp (by omega), pz_tas (by omega) (by omega), pz_tas (by omega) (by omega), pz_tas (by omega) (by omega)]
  obtain ⟨s4, hs4⟩ : ∃ s4, s4 = tp_A (tp_A (tp_A (tp_A st 4 g (nI l)) 5 g (en (f.map (fun q => xi g (w + 1) (a.pos q))))) 6 g (en b)) 7 g 0 := ⟨_, rfl⟩
  have f4 : tFr [] [] [4, 5, 6, 7] st s4 := by rw [hs4]; exact (((tFr.putA (by decide)).tr (tFr.putA (by decide))).tr (tFr.putA (by decide))).tr (tFr.putA (by decide))
  have a4 : tg_A s4 4 = upd (tg_A st 4) g (nI l) := by rw [hs4]; rfl
  have a5 : tg_A s4 5 = upd (tg_A st 5) g (en (f.map (fun q => xi g (w + 1) (a.pos q)))) := by rw [hs4]; rfl
  have a6 : tg_A s4 6 = upd (tg_A st 6) g (en b) := by rw [hs4]; rfl
  have a7 : tg_A s4 7 = upd (tg_A st 7) g 0 := by rw [hs4]; rfl
  have i6 : tg_I s4 6 = nI (a.nP + 1 + w) := by rw [hs4]; show tg_I st 6 = _; rw [h.1, show a.nP + (w + 1) = a.nP + 1 + w by omega]
  rw [← hs4]
  have main : ∀ s5 : tST, tFr [] [] [4, 5, 6, 7] st s5 → tg_I s5 6 = nI (a.nP + 1 + w) → tg_A s5 4 = tg_A s4 4 → tg_A s5 5 = tg_A s4 5 → tg_A s5 6 = tg_A s4 6 → (∀ c, c < 32 → bt (tg_A s5 7 g) c = false) → (∀ q, q < a.nP → ∀ c, c < 32 → bt (tg_A s5 7 (xi g (w + 1) (a.pos q))) c = (bt (tg_A st 7 (xi g (w + 1) (a.pos q))) c || (decide (f = some q) && decide (b = some c)))) → XP (addP a l f b g) s5 (g + 1) w := by
    intro s5 _ k6 k4 k5 kA6 k7 k8
    refine ⟨k6, fun i hi => ?_⟩
    have hi : i < a.nP + 1 := hi
    have old : ∀ j, j < a.nP → xi (g + 1) w i = xi g (w + 1) j → insL a.line a.nP g i = a.line j → tg_A s5 4 (xi (g + 1) w i) = nI (va_up a.lt a.nP l (insL a.line a.nP g i)) ∧ tg_A s5 5 (xi (g + 1) w i) = en ((va_up a.fr a.nP f (insL a.line a.nP g i)).map (fun q => xi (g + 1) w (insP a.pos a.nP g q))) ∧ tg_A s5 6 (xi (g + 1) w i) = en (va_up a.by_ a.nP b (insL a.line a.nP g i)) ∧ ∀ c, c < 32 → bt (tg_A s5 7 (xi (g + 1) w i)) c = onw (addP a l f b g) (insL a.line a.nP g i) c := by
      intro j hj e1 e2
      obtain ⟨g1, g2, g3, g4⟩ := h.2 j hj
      have hlj := hI2 j hj
      rw [e1, e2, k4, k5, kA6, a4, a5, a6, pk_un (xi_ne _ _ _), pk_un (xi_ne _ _ _), pk_un (xi_ne _ _ _), va_up_ne _ _ (by omega), va_up_ne _ _ (by omega), va_up_ne _ _ (by omega)]
      refine ⟨g1, ?_, g3, fun c hc => ?_⟩
      · rw [g2]
        cases hfr : a.fr (a.line j) with
        | none => rfl
        | some q =>
          rw [Option.map_some, Option.map_some, xi_ins (hf2 _ q hlj hfr)]
      · have := k8 (a.line j) hlj c hc
        rw [hpl j hj] at this
        rw [this, g4 c hc, onw_add]
    show tg_A s5 4 (xi (g + 1) w i) = nI (va_up a.lt a.nP l (insL a.line a.nP g i)) ∧ tg_A s5 5 (xi (g + 1) w i) = en ((va_up a.fr a.nP f (insL a.line a.nP g i)).map (fun q => xi (g + 1) w (insP a.pos a.nP g q))) ∧ tg_A s5 6 (xi (g + 1) w i) = en (va_up a.by_ a.nP b (insL a.line a.nP g i)) ∧ ∀ c, c < 32 → bt (tg_A s5 7 (xi (g + 1) w i)) c = onw (addP a l f b g) (insL a.line a.nP g i) c
    by_cases c1 : i < g
    · exact old i (by omega) (by unfold xi; rw [if_pos (by omega), if_pos c1]) (by unfold insL; rw [if_pos c1])
    · by_cases c2 : i = g
      · have e1 : xi (g + 1) w i = g := by unfold xi; rw [if_pos (by omega), c2]
        have e2 : insL a.line a.nP g i = a.nP := by unfold insL; rw [if_neg c1, if_pos c2]
        rw [e1, e2, k4, k5, kA6, a4, a5, a6, pk_us, pk_us, pk_us, va_up_self, va_up_self, va_up_self]
        refine ⟨rfl, ?_, rfl, fun c hc => ?_⟩
        · cases hfc : f with
          | none => rfl
          | some q => rw [Option.map_some, Option.map_some, xi_ins (hf q hfc).1]
        · rw [k7 c hc, onw_add]
          have o1 : onw a a.nP c = false := by
            cases ho : onw a a.nP c
            · rfl
            · obtain ⟨q, q1, q2, -⟩ := onw_iff.mp ho
              have := hf2 q a.nP q1 q2
              omega
          rw [o1, decide_eq_false (fun e => by have := (hf _ e).1; omega)]
          rfl
      · exact old (i - 1) (by omega) (by unfold xi; rw [if_neg (by omega), if_neg (by omega)]; omega) (by unfold insL; rw [if_neg c1, if_neg c2])
  cases hfc : f with
  | none =>
    rw [Option.map_none, if_pos en_none]
    refine ⟨s4, rfl, f4, ?_⟩
    rw [← hfc]
    refine main s4 f4 i6 rfl rfl rfl (fun c _ => by rw [a7, pk_us, b_0]) (fun q hq c hc => ?_)
    rw [a7, pk_un (xi_ne _ _ _), hfc]
    simp
  | some q =>
    obtain ⟨hq, hpq, c, hbc, hc31⟩ := hf q hfc
    have hx := xi_lt (g := g) (n := w + 1) hpq
    rw [Option.map_some, en_some, if_neg (by rw [pz_m1 (by omega)]; exact id), pz_tal (by omega) (by omega), pz_tas (by omega) (by omega), nI_clamp (by omega), hbc, en_some]
    refine ⟨_, rfl, f4.tr (tFr.putA (by decide)), ?_⟩
    rw [← hfc, ← hbc]
    refine main _ (f4.tr (tFr.putA (by decide))) i6 rfl rfl rfl (fun d hd => ?_) (fun q' hq' d hd => ?_)
    · rw [st_AA, if_pos rfl, pk_un (fun e => xi_ne _ _ _ e.symm), a7, pk_us, b_0]
    · rw [st_AA, if_pos rfl, hfc, hbc]
      by_cases e : xi g (w + 1) (a.pos q') = xi g (w + 1) (a.pos q)
      · rw [e, pk_us, b_or, a7, pk_un (xi_ne _ _ _), b_one (by omega) hd]
        have eq : q' = q := by rw [← hlp q' hq', ← hlp q hq, xi_inj e]
        have : (decide (some q = some q') && decide (some c = some d)) = decide (d = c) := by
          rw [eq, decide_eq_true rfl, Bool.true_and]
          exact decide_eq_decide.mpr ⟨fun e => by cases e; rfl, fun e => by rw [e]⟩
        rw [this]
      · rw [pk_un e, a7, pk_un (xi_ne _ _ _), decide_eq_false (fun e2 => by cases e2; exact e rfl)]
        simp
