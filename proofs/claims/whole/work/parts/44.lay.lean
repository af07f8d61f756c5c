/-! ===== the reference lays a place ===== -/
def orN (o x : Option Nat) : Option Nat := match o with
  | some q => some q
  | none => x
def MP (a : AB) (st : tST) : Prop := tg_I st 112 = nI a.nP ∧ (∀ p, p < a.nP → tg_A st 29 p = nI (a.lt p) ∧ tg_A st 30 p = en (a.fr p) ∧ tg_A st 31 p = en (a.by_ p) ∧ tg_A st 33 p = en (lst (fun q => decide (a.fr q = some p)) a.nP) ∧ tg_A st 34 p = en (nxq a p)) ∧ (∀ i, i < a.nP → tg_A st 32 i = nI (a.line i))
theorem m_layOn_loop {a : AB} {st : tST} {v : Nat} (hP : a.nP ≤ 90) (hnx : ∀ p, p < a.nP → tg_A st 34 p = en (nxq a p)) {q : Nat} : ∀ d n z, a.nP - z ≤ d → d < n → z < a.nP → a.fr z = some q → ∃ y, f_X4_layOn_20 n (nI v) (nI z) st = some (tp_A st 34 y (nI v)) ∧ y < a.nP ∧ a.fr y = some q ∧ nxq a y = none := by
  intro d
  induction d with
  | zero => intro n z h1 h2 h3; omega
  | succ d ih =>
    intro n z h1 h2 h3 h4
    obtain ⟨m, rfl⟩ : ∃ m, n = m + 1 := ⟨n - 1, by omega⟩
    rw [f_X4_layOn_20, pz_tal (by omega) (by omega), hnx z h3]
    cases hn : nxq a z with
    | none =>
      rw [if_pos en_none, pz_tas (by omega) (by omega), nI_clamp (by omega)]
      exact ⟨z, rfl, h3, h4, hn⟩
    | some r =>
      unfold nxq at hn
      rw [if_neg (by rw [h4]; simp)] at hn
      obtain ⟨g1, g2, g3⟩ := lst_some hn
      simp only [Bool.and_eq_true, decide_eq_true_eq] at g2
      rw [en_some, if_neg (by rw [pz_m1 (by omega)]; exact id), pz_tal (by omega) (by omega), hnx z h3, show nxq a z = some r by unfold nxq; rw [if_neg (by rw [h4]; simp)]; exact hn, en_some]
      exact ih m r (by omega) (by omega) g1 (g2.2.trans h4)
theorem m_layOn {a : AB} {st : tST} {v : Nat} (hP : a.nP ≤ 90) (hft : ∀ p, p < a.nP → tg_A st 33 p = en (lst (fun q => decide (a.fr q = some p)) a.nP)) (hnx : ∀ p, p < a.nP → tg_A st 34 p = en (nxq a p)) {q : Nat} (hq : q < a.nP) : (lst (fun r => decide (a.fr r = some q)) a.nP = none ∧ f_X4_layOn (nI q) (nI v) st = some (tp_A st 33 q (nI v))) ∨ ∃ y, f_X4_layOn (nI q) (nI v) st = some (tp_A st 34 y (nI v)) ∧ y < a.nP ∧ a.fr y = some q ∧ nxq a y = none := by
  unfold f_X4_layOn
  rw [pz_tal (by omega) (by omega), hft q hq]
  cases hn : lst (fun r => decide (a.fr r = some q)) a.nP with
  | none =>
    left
    rw [if_pos en_none, pz_tas (by omega) (by omega), nI_clamp (by omega)]
    exact ⟨rfl, rfl⟩
  | some r =>
    right
    obtain ⟨g1, g2, g3⟩ := lst_some hn
    rw [en_some, if_neg (by rw [pz_m1 (by omega)]; exact id)]
    exact m_layOn_loop hP hnx 90 tfu r (by omega) (tfu_gt (by omega)) g1 (by simpa using g2)
theorem fst_add {a : AB} {l g : Nat} {f b : Option Nat} (p : Nat) : lst (fun q => decide ((addP a l f b g).fr q = some p)) (a.nP + 1) = (orN (lst (fun q => decide (a.fr q = some p)) a.nP) (if decide (f = some p) = true then some a.nP else none)) := by
  show lst (fun q => decide (va_up a.fr a.nP f q = some p)) (a.nP + 1) = _
  rw [lst, va_up_self, lst_cong (Q := fun q => decide (a.fr q = some p)) (fun j hj => by rw [va_up_ne _ _ (by omega)])]
  cases lst (fun q => decide (a.fr q = some p)) a.nP <;> rfl
theorem nxq_add {a : AB} {l g : Nat} {f b : Option Nat} {p : Nat} (hp : p < a.nP) (hf : ∃ r, a.fr p = some r) : nxq (addP a l f b g) p = (orN (nxq a p) (if decide (f = a.fr p) = true then some a.nP else none)) := by
  obtain ⟨r, hr⟩ := hf
  unfold nxq
  show (if va_up a.fr a.nP f p = none then none else lst (fun q => decide (p < q) && decide (va_up a.fr a.nP f q = va_up a.fr a.nP f p)) (a.nP + 1)) = _
  rw [va_up_ne _ _ (show ¬ p = a.nP by omega), if_neg (by rw [hr]; simp), if_neg (by rw [hr]; simp), lst, va_up_self, decide_eq_true hp, Bool.true_and, lst_cong (Q := fun q => decide (p < q) && decide (a.fr q = a.fr p)) (fun j hj => by rw [va_up_ne _ _ (by omega)])]
  cases lst (fun q => decide (p < q) && decide (a.fr q = a.fr p)) a.nP <;> rfl
theorem last_one {a : AB} {p z q : Nat} (hp : p < a.nP) (hz : z < a.nP) (h1 : a.fr p = some q) (h2 : a.fr z = some q) (h3 : nxq a p = none) (h4 : nxq a z = none) : p = z := by
  unfold nxq at h3 h4
  rw [if_neg (by rw [h1]; simp)] at h3
  rw [if_neg (by rw [h2]; simp)] at h4
  rcases Nat.lt_trichotomy p z with c | c | c
  · have := lst_none h3 z hz
    rw [h1, h2, decide_eq_true c] at this
    simp at this
  · exact c
  · have := lst_none h4 p hp
    rw [h1, h2, decide_eq_true c] at this
    simp at this
theorem lay_1 {st : tST} {g N : Nat} {x1 x2 x3 : Int32} (hN : N < 90) (h112 : tg_I st 112 = nI N) : ∀ d k m x, k = g + d → k ≤ N → d < m → tFr [] [] [32] st x → tg_A x 32 = (fun j => if k < j ∧ j ≤ N then tg_A st 32 (j - 1) else tg_A st 32 j) → ∃ y, f_X4_layPlace_6 m x1 x2 x3 (nI g) (nI k) x = f_X4_layPlace_6 1 x1 x2 x3 (nI g) (nI g) y ∧ tFr [] [] [32] st y ∧ tg_A y 32 = (fun j => if g < j ∧ j ≤ N then tg_A st 32 (j - 1) else tg_A st 32 j) := by
  intro d
  induction d with
  | zero =>
    intro k m x hk hkN hm h0 h1
    obtain ⟨m, rfl⟩ : ∃ q, m = q + 1 := ⟨m - 1, by omega⟩
    have hk : k = g := hk
    subst hk
    refine ⟨x, ?_, h0, h1⟩
    rw [f_X4_layPlace_6, f_X4_layPlace_6, if_pos (nI_le (Nat.le_refl _) (by omega)), if_pos (nI_le (Nat.le_refl _) (by omega))]
  | succ d ih =>
    intro k m x hk hkN hm h0 h1
    obtain ⟨m, rfl⟩ : ∃ q, m = q + 1 := ⟨m - 1, by omega⟩
    obtain ⟨k, rfl⟩ : ∃ q, k = q + 1 := ⟨k - 1, by omega⟩
    rw [f_X4_layPlace_6, if_neg (nI_ge (by omega) (by omega)), nI_pred, pz_tal (by omega) (by omega), pz_tas (by omega) (by omega), nI_clamp (by omega)]
    simp only [tlet]
    rw [pk_m1]
    refine ih k m _ (by omega) (by omega) (by omega) (h0.tr (tFr.putA (by decide))) ?_
    show upd (tg_A x 32) (k + 1) (tg_A x 32 k) = _
    rw [h1]
    funext j
    by_cases e : j = k + 1
    · rw [e, pk_us]
      show (if k + 1 < k ∧ k ≤ N then tg_A st 32 (k - 1) else tg_A st 32 k) = (if k < k + 1 ∧ k + 1 ≤ N then tg_A st 32 (k + 1 - 1) else tg_A st 32 (k + 1))
      rw [if_neg (show ¬ (k + 1 < k ∧ k ≤ N) by omega), if_pos (show k < k + 1 ∧ k + 1 ≤ N by omega), show k + 1 - 1 = k by omega]
    · rw [pk_un e]
      show (if k + 1 < j ∧ j ≤ N then tg_A st 32 (j - 1) else tg_A st 32 j) = (if k < j ∧ j ≤ N then tg_A st 32 (j - 1) else tg_A st 32 j)
      by_cases c : k < j ∧ j ≤ N
      · rw [if_pos (show k + 1 < j ∧ j ≤ N by omega), if_pos c]
      · rw [if_neg (show ¬ (k + 1 < j ∧ j ≤ N) by omega), if_neg c]
theorem m_layPlace {a : AB} {st : tST} {l g : Nat} {f b : Option Nat} (h : MP a st) (hfr : ∀ p q, p < a.nP → a.fr p = some q → q < a.nP) (hg : g ≤ a.nP) (hN : a.nP < 90) (hf : ∀ q, f = some q → q < a.nP) : ∃ st', f_X4_layPlace (nI l) (en f) (en b) (nI g) st = some st' ∧ tFr [112] [] [29, 30, 31, 32, 33, 34] st st' ∧ MP (addP a l f b g) st' := by
  obtain ⟨h0, hp, hl⟩ := h
  unfold f_X4_layPlace
  simp only [tlet]
  rw [h0]
  obtain ⟨y, e1, e2, e3⟩ := lay_1 (st := st) (g := g) (N := a.nP) (x1 := nI l) (x2 := en f) (x3 := en b) hN h0 (a.nP - g) a.nP tfu st (by omega) (Nat.le_refl _) (tfu_gt (by omega)) tFr.rf (by funext j; rw [if_neg (by omega)])
  rw [e1]
  have y0 : tg_I y 112 = nI a.nP := (e2.1 112 (by decide)).trans h0
  rw [show (1 : Nat) = 0 + 1 from rfl, f_X4_layPlace_6, if_pos (nI_le (Nat.le_refl _) (by omega)), pz_tas (by omega) (by omega), nI_clamp (by omega)]
  simp only [st_IA, y0, pz_tas hN (show 90 < 2 ^ 31 by omega), nI_clamp (show a.nP < 2 ^ 31 by omega), tlet, nI_1]
  obtain ⟨s, hs⟩ : ∃ s, s = tp_A (tp_A (tp_A (tp_A (tp_A (tp_A y 32 g (nI a.nP)) 29 a.nP (nI l)) 30 a.nP (en f)) 31 a.nP (en b)) 33 a.nP (-1)) 34 a.nP (-1) := ⟨_, rfl⟩
  have sf : tFr [112] [] [29, 30, 31, 32, 33, 34] st s := by rw [hs]; exact (e2.mono (by decide) (by decide) (by decide)).tr ((((((tFr.putA (by decide)).tr (tFr.putA (by decide))).tr (tFr.putA (by decide))).tr (tFr.putA (by decide))).tr (tFr.putA (by decide))).tr (tFr.putA (by decide)))
  have s0 : tg_I s 112 = nI a.nP := by rw [hs]; exact y0
  have s32 : tg_A s 32 = upd (tg_A y 32) g (nI a.nP) := by rw [hs]; rfl
  have s29 : tg_A s 29 = upd (tg_A st 29) a.nP (nI l) := by rw [hs]; show upd (tg_A y 29) _ _ = _; rw [e2.2.2.1 29 (by decide)]
  have s30 : tg_A s 30 = upd (tg_A st 30) a.nP (en f) := by rw [hs]; show upd (tg_A y 30) _ _ = _; rw [e2.2.2.1 30 (by decide)]
  have s31 : tg_A s 31 = upd (tg_A st 31) a.nP (en b) := by rw [hs]; show upd (tg_A y 31) _ _ = _; rw [e2.2.2.1 31 (by decide)]
  have s33 : tg_A s 33 = upd (tg_A st 33) a.nP (-1) := by rw [hs]; show upd (tg_A y 33) _ _ = _; rw [e2.2.2.1 33 (by decide)]
  have s34 : tg_A s 34 = upd (tg_A st 34) a.nP (-1) := by rw [hs]; show upd (tg_A y 34) _ _ = _; rw [e2.2.2.1 34 (by decide)]
  rw [← hs]
  have main : ∀ u : tST, tg_I u 112 = nI (a.nP + 1) → tg_A u 29 = tg_A s 29 → tg_A u 30 = tg_A s 30 → tg_A u 31 = tg_A s 31 → tg_A u 32 = tg_A s 32 → tg_A u 33 a.nP = -1 → tg_A u 34 a.nP = -1 → (∀ p, p < a.nP → tg_A u 33 p = en (orN (lst (fun q => decide (a.fr q = some p)) a.nP) (if decide (f = some p) = true then some a.nP else none))) → (∀ p, p < a.nP → ∀ r, a.fr p = some r → tg_A u 34 p = en (orN (nxq a p) (if decide (f = a.fr p) = true then some a.nP else none))) → (∀ p, p < a.nP → a.fr p = none → tg_A u 34 p = -1) → MP (addP a l f b g) u := by
    intro u u0 u29 u30 u31 u32 u33n u34n u33 u34 u34'
    refine ⟨u0, fun p hp2 => ?_, fun i hi => ?_⟩
    · have hp2 : p < a.nP + 1 := hp2
      have F1 := fst_add (a := a) (l := l) (g := g) (f := f) (b := b) p
      show tg_A u 29 p = nI (va_up a.lt a.nP l p) ∧ tg_A u 30 p = en (va_up a.fr a.nP f p) ∧ tg_A u 31 p = en (va_up a.by_ a.nP b p) ∧ tg_A u 33 p = en (lst (fun q => decide ((addP a l f b g).fr q = some p)) (a.nP + 1)) ∧ tg_A u 34 p = en (nxq (addP a l f b g) p)
      rw [F1, u29, u30, u31, s29, s30, s31]
      by_cases e : p = a.nP
      · rw [e, pk_us, pk_us, pk_us, va_up_self, va_up_self, va_up_self, u33n, u34n]
        refine ⟨rfl, rfl, rfl, ?_, ?_⟩
        · rw [lst_of_none (fun j hj => decide_eq_false (fun e => by have := hfr j _ hj e; omega))]
          show -1 = en (if decide (f = some a.nP) = true then some a.nP else none)
          rw [decide_eq_false (fun e => by have := hf _ e; omega)]; rfl
        · unfold nxq
          show -1 = en (if va_up a.fr a.nP f a.nP = none then none else lst (fun q => decide (a.nP < q) && decide (va_up a.fr a.nP f q = va_up a.fr a.nP f a.nP)) (a.nP + 1))
          rw [lst_of_none (fun j hj => by rw [decide_eq_false (by omega)]; rfl)]
          split <;> rfl
      · have hp' : p < a.nP := by omega
        obtain ⟨k1, k2, k3, k4, k5⟩ := hp p hp'
        rw [pk_un e, pk_un e, pk_un e, va_up_ne _ _ e, va_up_ne _ _ e, va_up_ne _ _ e, u33 p hp']
        refine ⟨k1, k2, k3, rfl, ?_⟩
        cases hfp : a.fr p with
        | none =>
          rw [u34' p hp' hfp]
          unfold nxq
          show -1 = en (if va_up a.fr a.nP f p = none then none else _)
          rw [va_up_ne _ _ e, hfp, if_pos rfl]; rfl
        | some r => rw [u34 p hp' r hfp, nxq_add hp' ⟨r, hfp⟩]
    · have hi : i < a.nP + 1 := hi
      show tg_A u 32 i = nI (insL a.line a.nP g i)
      rw [u32, s32, e3]
      unfold insL
      by_cases c1 : i < g
      · rw [pk_un (by omega), if_neg (by omega), if_pos c1, hl i (by omega)]
      · by_cases c2 : i = g
        · rw [c2, pk_us, if_neg (by omega), if_pos rfl]
        · rw [pk_un c2, if_pos (by omega), if_neg c1, if_neg c2, hl (i - 1) (by omega)]
  cases hfc : f with
  | none =>
    rw [if_pos en_none]
    refine ⟨_, rfl, sf.tr (tFr.putI (by decide)), ?_⟩
    rw [← hfc]
    refine main _ rfl rfl rfl rfl rfl ?_ ?_ (fun p hp2 => ?_) (fun p hp2 r hr => ?_) (fun p hp2 hr => ?_)
    · rw [st_AI, s33, pk_us]
    · rw [st_AI, s34, pk_us]
    · rw [st_AI, s33, pk_un (by omega), (hp p hp2).2.2.2.1, hfc]
      cases lst (fun q => decide (a.fr q = some p)) a.nP <;> rfl
    · rw [st_AI, s34, pk_un (by omega), (hp p hp2).2.2.2.2, hfc, hr]
      cases nxq a p <;> rfl
    · rw [st_AI, s34, pk_un (by omega), (hp p hp2).2.2.2.2]
      unfold nxq
      rw [if_pos hr]; rfl
  | some q =>
    have hq := hf q hfc
    rw [en_some, if_neg (by rw [pz_m1 (by omega)]; exact id)]
    have hft' : ∀ p, p < a.nP → tg_A s 33 p = en (lst (fun q => decide (a.fr q = some p)) a.nP) := fun p hp2 => by rw [s33, pk_un (by omega)]; exact (hp p hp2).2.2.2.1
    have hnx' : ∀ p, p < a.nP → tg_A s 34 p = en (nxq a p) := fun p hp2 => by rw [s34, pk_un (by omega)]; exact (hp p hp2).2.2.2.2
    rcases m_layOn (v := a.nP) (show a.nP ≤ 90 by omega) hft' hnx' hq with ⟨k1, k2⟩ | ⟨z, k1, k2, k3, k4⟩
    · rw [k2, pz_bs, st_IA, s0, nI_1]
      refine ⟨_, rfl, sf.tr ((tFr.putA (by decide)).tr (tFr.putI (by decide))), ?_⟩
      rw [← hfc]
      refine main _ rfl rfl rfl rfl rfl ?_ ?_ (fun p hp2 => ?_) (fun p hp2 r hr => ?_) (fun p hp2 hr => ?_)
      · rw [st_AI, st_AA, if_pos rfl, pk_un (by omega), s33, pk_us]
      · rw [st_AI, st_AA, if_neg (by decide), s34, pk_us]
      · rw [st_AI, st_AA, if_pos rfl, hfc]
        by_cases e : p = q
        · rw [e, pk_us, k1]
          show _ = en (if decide (some q = some q) = true then some a.nP else none)
          rw [decide_eq_true rfl]; rfl
        · rw [pk_un e, hft' p hp2]
          cases lst (fun q => decide (a.fr q = some p)) a.nP with
          | some _ => rfl
          | none =>
            show _ = en (if decide (some q = some p) = true then some a.nP else none)
            rw [decide_eq_false (fun e2 => by cases e2; exact e rfl)]; rfl
      · rw [st_AI, st_AA, if_neg (by decide), hnx' p hp2, hfc]
        cases nxq a p with
        | some _ => rfl
        | none =>
          show _ = en (if decide (some q = a.fr p) = true then some a.nP else none)
          rw [decide_eq_false (fun e2 => by have := lst_none k1 p hp2; rw [← e2] at this; simp at this)]; rfl
      · rw [st_AI, st_AA, if_neg (by decide), hnx' p hp2]
        unfold nxq
        rw [if_pos hr]; rfl
    · rw [k1, pz_bs, st_IA, s0, nI_1]
      refine ⟨_, rfl, sf.tr ((tFr.putA (by decide)).tr (tFr.putI (by decide))), ?_⟩
      rw [← hfc]
      refine main _ rfl rfl rfl rfl rfl ?_ ?_ (fun p hp2 => ?_) (fun p hp2 r hr => ?_) (fun p hp2 hr => ?_)
      · rw [st_AI, st_AA, if_neg (by decide), s33, pk_us]
      · rw [st_AI, st_AA, if_pos rfl, pk_un (by omega), s34, pk_us]
      · rw [st_AI, st_AA, if_neg (by decide), hft' p hp2, hfc]
        cases hz : lst (fun q => decide (a.fr q = some p)) a.nP with
        | some _ => rfl
        | none =>
          show _ = en (if decide (some q = some p) = true then some a.nP else none)
          rw [decide_eq_false (fun e2 => by cases e2; have := lst_none hz z k2; rw [k3] at this; simp at this)]; rfl
      · rw [st_AI, st_AA, if_pos rfl, hfc]
        by_cases e : p = z
        · rw [e, pk_us, k4, k3]
          show _ = en (if decide (some q = some q) = true then some a.nP else none)
          rw [decide_eq_true rfl]; rfl
        · rw [pk_un e, hnx' p hp2]
          cases hz : nxq a p with
          | some _ => rfl
          | none =>
            show _ = en (if decide (some q = a.fr p) = true then some a.nP else none)
            rw [decide_eq_false (fun e2 => e (last_one hp2 k2 e2.symm k3 hz k4))]; rfl
      · rw [st_AI, st_AA, if_pos rfl]
        have : ¬ p = z := fun e => by rw [e, k3] at hr; cases hr
        rw [pk_un this, hnx' p hp2]
        unfold nxq
        rw [if_pos hr]; rfl
