/-! ===== places and letters that come ===== -/
def insL (line : Nat → Nat) (p g : Nat) : Nat → Nat := fun i => if i < g then line i else if i = g then p else line (i - 1)
def insP (pos : Nat → Nat) (p g : Nat) : Nat → Nat := fun q => if q = p then g else if pos q < g then pos q else pos q + 1
theorem ins_bij {line pos : Nat → Nat} {n g : Nat} (hg : g ≤ n) (h1 : ∀ i, i < n → line i < n ∧ pos (line i) = i) (h2 : ∀ p, p < n → pos p < n ∧ line (pos p) = p) : (∀ i, i < n + 1 → insL line n g i < n + 1 ∧ insP pos n g (insL line n g i) = i) ∧ (∀ p, p < n + 1 → insP pos n g p < n + 1 ∧ insL line n g (insP pos n g p) = p) := by
  constructor
  · intro i hi
    unfold insL insP
    by_cases c1 : i < g
    · obtain ⟨k1, k2⟩ := h1 i (by omega)
      rw [if_pos c1, if_neg (by omega), k2, if_pos c1]
      exact ⟨by omega, rfl⟩
    · by_cases c2 : i = g
      · rw [if_neg c1, if_pos c2, if_pos rfl]
        exact ⟨by omega, c2.symm⟩
      · obtain ⟨k1, k2⟩ := h1 (i - 1) (by omega)
        rw [if_neg c1, if_neg c2, if_neg (by omega), k2, if_neg (by omega)]
        exact ⟨by omega, by omega⟩
  · intro p hp
    unfold insL insP
    by_cases c1 : p = n
    · rw [if_pos c1, if_neg (by omega), if_pos rfl]
      exact ⟨by omega, c1.symm⟩
    · obtain ⟨k1, k2⟩ := h2 p (by omega)
      rw [if_neg c1]
      by_cases c2 : pos p < g
      · rw [if_pos c2, if_pos c2]
        exact ⟨by omega, k2⟩
      · rw [if_neg c2, if_neg (by omega), if_neg (by omega), show pos p + 1 - 1 = pos p by omega]
        exact ⟨by omega, k2⟩
def addP (a : AB) (l : Nat) (f b : Option Nat) (g : Nat) : AB := mkA a.pl a.nL a.nC (a.nP + 1) a.page a.sign a.kind a.auth a.stat a.shwn a.del a.home (va_up a.lt a.nP l) (insL a.line a.nP g) (insP a.pos a.nP g) a.ins (va_up a.fr a.nP f) (va_up a.by_ a.nP b)
def addL (a : AB) (code : Int32) (o : Option Nat) (g : Nat) : AB := mkA a.pl (a.nL + 1) a.nC (a.nP + 1) a.page (va_up a.sign a.nL code) a.kind a.auth a.stat a.shwn (va_up a.del a.nL 0) (va_up a.home a.nL a.nP) (va_up a.lt a.nP a.nL) (insL a.line a.nP g) (insP a.pos a.nP g) (va_up a.ins a.nL o) (va_up a.fr a.nP none) (va_up a.by_ a.nP o)
def addC (a : AB) (kind auth : Int32) : AB := mkA a.pl a.nL (a.nC + 1) a.nP a.page a.sign (va_up a.kind a.nC kind) (va_up a.auth a.nC auth) (va_up a.stat a.nC 0) (va_up a.shwn a.nC 0) a.del a.home a.lt a.line a.pos a.ins a.fr a.by_
def setG (a : AB) (pl : Nat) (page : Nat → Int32) : AB := mkA pl a.nL a.nC a.nP page a.sign a.kind a.auth a.stat a.shwn a.del a.home a.lt a.line a.pos a.ins a.fr a.by_
def setS (a : AB) (stat : Nat → Int32) : AB := mkA a.pl a.nL a.nC a.nP a.page a.sign a.kind a.auth stat a.shwn a.del a.home a.lt a.line a.pos a.ins a.fr a.by_
def setW (a : AB) (shwn : Nat → Int32) : AB := mkA a.pl a.nL a.nC a.nP a.page a.sign a.kind a.auth a.stat shwn a.del a.home a.lt a.line a.pos a.ins a.fr a.by_
def setD (a : AB) (del : Nat → Int32) : AB := mkA a.pl a.nL a.nC a.nP a.page a.sign a.kind a.auth a.stat a.shwn del a.home a.lt a.line a.pos a.ins a.fr a.by_
def emp (pl : Nat) (page : Nat → Int32) : AB := mkA pl 0 0 0 page (fun _ => 0) (fun _ => 0) (fun _ => 0) (fun _ => 0) (fun _ => 0) (fun _ => 0) (fun _ => 0) (fun _ => 0) (fun _ => 0) (fun _ => 0) (fun _ => none) (fun _ => none) (fun _ => none)
theorem Inv_emp {pl : Nat} (page : Nat → Int32) (h : pl ≤ 40) : Inv (emp pl page) := by
  refine ⟨⟨h, Nat.zero_le _, Nat.zero_le _, Nat.zero_le _⟩, fun i hi => absurd hi (Nat.not_lt_zero _), fun i hi => absurd hi (Nat.not_lt_zero _), fun i hi => absurd hi (Nat.not_lt_zero _), fun i hi => absurd hi (Nat.not_lt_zero _), fun p q r c d _ hq => absurd hq (Nat.not_lt_zero _), fun i hi => absurd hi (Nat.not_lt_zero _), fun p q c hp => absurd hp (Nat.not_lt_zero _)⟩
theorem Inv_setG {a : AB} (h : Inv a) {pl : Nat} (page : Nat → Int32) (hp : pl ≤ 40) : Inv (setG a pl page) := ⟨⟨hp, h.nL, h.nC, h.nP⟩, h.2⟩
theorem Inv_setS {a : AB} (h : Inv a) (stat : Nat → Int32) (hs : ∀ c, c < a.nC → stat c = 0 ∨ stat c = 1 ∨ stat c = 2) : Inv (setS a stat) := ⟨h.1, h.2.1, h.2.2.1, h.2.2.2.1, h.2.2.2.2.1, h.2.2.2.2.2.1, fun c hc => ⟨h.kind hc, hs c hc, h.shwn hc⟩, h.2.2.2.2.2.2.2⟩
theorem Inv_setW {a : AB} (h : Inv a) (shwn : Nat → Int32) (hs : ∀ c, c < a.nC → shwn c = 0 ∨ shwn c = 1) : Inv (setW a shwn) := ⟨h.1, h.2.1, h.2.2.1, h.2.2.2.1, h.2.2.2.2.1, h.2.2.2.2.2.1, fun c hc => ⟨h.kind hc, h.stat hc, hs c hc⟩, h.2.2.2.2.2.2.2⟩
theorem Inv_setD {a : AB} (h : Inv a) (del : Nat → Int32) (hs : ∀ l, l < a.nL → ∀ c, bt (del l) c = true → c < a.nC ∧ a.kind c = 1) : Inv (setD a del) := ⟨h.1, h.2.1, h.2.2.1, fun l hl => ⟨h.home hl, h.lth hl, h.frh hl, h.byh hl, fun _ hc => h.ins hl hc, hs l hl⟩, h.2.2.2.2.1, h.2.2.2.2.2.1, h.2.2.2.2.2.2.1, h.2.2.2.2.2.2.2⟩
theorem Inv_addC {a : AB} (h : Inv a) {kind : Int32} (auth : Int32) (hn : a.nC < 12) (hk : kind = 0 ∨ kind = 1 ∨ kind = 2) : Inv (addC a kind auth) := by
  have kk : ∀ c, c < a.nC → va_up a.kind a.nC kind c = a.kind c := fun c hc => va_up_ne _ _ (by omega)
  refine ⟨⟨h.pl, h.nL, hn, h.nP⟩, h.2.1, h.2.2.1, fun l hl => ⟨h.home hl, h.lth hl, h.frh hl, h.byh hl, fun c hc => ?_, fun c hc => ?_⟩, fun p hp => ⟨h.lt hp, fun e => h.hm hp e, fun q hq => ?_⟩, h.2.2.2.2.2.1, fun c hc => ?_, h.2.2.2.2.2.2.2⟩
  · obtain ⟨k1, k2⟩ := h.ins hl hc
    exact ⟨Nat.lt_succ_of_lt k1, (kk c k1).trans k2⟩
  · obtain ⟨k1, k2⟩ := h.del hl hc
    exact ⟨Nat.lt_succ_of_lt k1, (kk c k1).trans k2⟩
  · obtain ⟨k1, k2, c, k3, k4, k5⟩ := h.fr hp hq
    exact ⟨k1, k2, c, k3, Nat.lt_succ_of_lt k4, (kk c k4).trans k5⟩
  · have hc : c < a.nC + 1 := hc
    show (va_up a.kind a.nC kind c = 0 ∨ va_up a.kind a.nC kind c = 1 ∨ va_up a.kind a.nC kind c = 2) ∧ (va_up a.stat a.nC 0 c = 0 ∨ va_up a.stat a.nC 0 c = 1 ∨ va_up a.stat a.nC 0 c = 2) ∧ (va_up a.shwn a.nC 0 c = 0 ∨ va_up a.shwn a.nC 0 c = 1)
    by_cases e : c = a.nC
    · rw [e, va_up_self, va_up_self, va_up_self]
      exact ⟨hk, Or.inl rfl, Or.inl rfl⟩
    · rw [va_up_ne _ _ e, va_up_ne _ _ e, va_up_ne _ _ e]
      exact ⟨h.kind (by omega), h.stat (by omega), h.shwn (by omega)⟩
theorem Inv_addP {a : AB} (h : Inv a) {l q c g : Nat} (hn : a.nP < 90) (hg : g ≤ a.nP) (hq : q < a.nP) (hl : l = a.lt q) (hc : c < a.nC) (hk : a.kind c = 2) (ho : ∀ p d, p < a.nP → a.fr p = some q → a.by_ p = some d → d < c) (hb : ¬ a.by_ q = some c) : Inv (addP a l (some q) (some c) g) := by
  have bij := ins_bij hg h.2.1 h.2.2.1
  have fo : ∀ p, p < a.nP → va_up a.fr a.nP (some q) p = a.fr p := fun p hp => va_up_ne _ _ (by omega)
  have bo : ∀ p, p < a.nP → va_up a.by_ a.nP (some c) p = a.by_ p := fun p hp => va_up_ne _ _ (by omega)
  have lo : ∀ p, p < a.nP → va_up a.lt a.nP l p = a.lt p := fun p hp => va_up_ne _ _ (by omega)
  refine ⟨⟨h.pl, h.nL, h.nC, hn⟩, bij.1, bij.2, fun m hm => ?_, fun p hp => ?_, fun p p' r d e h1 h2 h3 h4 h5 h6 => ?_, h.2.2.2.2.2.2.1, fun p r d h1 h2 h3 h4 => ?_⟩
  · have k := h.home hm
    refine ⟨Nat.lt_succ_of_lt k, (lo _ k).trans (h.lth hm), (fo _ k).trans (h.frh hm), (bo _ k).trans (h.byh hm), fun _ e => h.ins hm e, fun _ e => h.del hm e⟩
  · have hp : p < a.nP + 1 := hp
    show va_up a.lt a.nP l p < a.nL ∧ (va_up a.fr a.nP (some q) p = none → a.home (va_up a.lt a.nP l p) = p) ∧ ∀ r, va_up a.fr a.nP (some q) p = some r → r < p ∧ va_up a.lt a.nP l r = va_up a.lt a.nP l p ∧ ∃ d, va_up a.by_ a.nP (some c) p = some d ∧ d < a.nC ∧ a.kind d = 2
    by_cases e : p = a.nP
    · rw [e, va_up_self, va_up_self, va_up_self, hl]
      refine ⟨h.lt hq, (fun e => by cases e), fun r hr => ?_⟩
      cases hr
      exact ⟨hq, va_up_ne _ _ (by omega), c, rfl, hc, hk⟩
    · have hp' : p < a.nP := by omega
      rw [fo p hp', bo p hp', lo p hp']
      refine ⟨h.lt hp', fun e => h.hm hp' e, fun r hr => ?_⟩
      obtain ⟨k1, k2, k3⟩ := h.fr hp' hr
      exact ⟨k1, (lo r (by omega)).trans k2, k3⟩
  · have h2 : p' < a.nP + 1 := h2
    have h3 : va_up a.fr a.nP (some q) p = some r := h3
    have h4 : va_up a.fr a.nP (some q) p' = some r := h4
    have h5 : va_up a.by_ a.nP (some c) p = some d := h5
    have h6 : va_up a.by_ a.nP (some c) p' = some e := h6
    rw [fo p (by omega)] at h3
    rw [bo p (by omega)] at h5
    by_cases e1 : p' = a.nP
    · rw [e1, va_up_self] at h4 h6
      cases h4; cases h6
      exact ho p d (by omega) h3 h5
    · rw [fo p' (by omega)] at h4
      rw [bo p' (by omega)] at h6
      exact h.ord h1 (by omega) h3 h4 h5 h6
  · have h1 : p < a.nP + 1 := h1
    have h2 : va_up a.fr a.nP (some q) p = some r := h2
    have h3 : va_up a.by_ a.nP (some c) p = some d := h3
    have h4 : va_up a.by_ a.nP (some c) r = some d := h4
    by_cases e1 : p = a.nP
    · rw [e1, va_up_self] at h2 h3
      cases h2; cases h3
      rw [bo q hq] at h4
      exact hb h4
    · have hp' : p < a.nP := by omega
      rw [fo p hp'] at h2
      rw [bo p hp'] at h3
      have := (h.fr hp' h2).1
      rw [bo r (by omega)] at h4
      exact h.lead hp' h2 h3 h4
theorem Inv_addL {a : AB} (h : Inv a) {code : Int32} {o : Option Nat} {g : Nat} (hn : a.nP < 90) (hl : a.nL < 64) (hg : g ≤ a.nP) (ho : ∀ c, o = some c → c < a.nC ∧ a.kind c = 0) : Inv (addL a code o g) := by
  have bij := ins_bij hg h.2.1 h.2.2.1
  have fo : ∀ p, p < a.nP → va_up a.fr a.nP none p = a.fr p := fun p hp => va_up_ne _ _ (by omega)
  have bo : ∀ p, p < a.nP → va_up a.by_ a.nP o p = a.by_ p := fun p hp => va_up_ne _ _ (by omega)
  have lo : ∀ p, p < a.nP → va_up a.lt a.nP a.nL p = a.lt p := fun p hp => va_up_ne _ _ (by omega)
  have ho' : ∀ m, m < a.nL → va_up a.home a.nL a.nP m = a.home m := fun m hm => va_up_ne _ _ (by omega)
  have io : ∀ m, m < a.nL → va_up a.ins a.nL o m = a.ins m := fun m hm => va_up_ne _ _ (by omega)
  refine ⟨⟨h.pl, hl, h.nC, hn⟩, bij.1, bij.2, fun m hm => ?_, fun p hp => ?_, fun p p' r d e h1 h2 h3 h4 h5 h6 => ?_, h.2.2.2.2.2.2.1, fun p r d h1 h2 h3 h4 => ?_⟩
  · have hm : m < a.nL + 1 := hm
    show va_up a.home a.nL a.nP m < a.nP + 1 ∧ va_up a.lt a.nP a.nL (va_up a.home a.nL a.nP m) = m ∧ va_up a.fr a.nP none (va_up a.home a.nL a.nP m) = none ∧ va_up a.by_ a.nP o (va_up a.home a.nL a.nP m) = va_up a.ins a.nL o m ∧ (∀ c, va_up a.ins a.nL o m = some c → c < a.nC ∧ a.kind c = 0) ∧ ∀ c, bt (va_up a.del a.nL 0 m) c = true → c < a.nC ∧ a.kind c = 1
    by_cases e : m = a.nL
    · rw [e]
      simp only [va_up_self]
      exact ⟨by omega, trivial, trivial, trivial, ho, fun c hc => by rw [b_0] at hc; cases hc⟩
    · have hm' : m < a.nL := by omega
      have k := h.home hm'
      rw [ho' m hm', io m hm', lo _ k, fo _ k, bo _ k, va_up_ne _ _ e]
      exact ⟨by omega, h.lth hm', h.frh hm', h.byh hm', fun _ e => h.ins hm' e, fun _ e => h.del hm' e⟩
  · have hp : p < a.nP + 1 := hp
    show va_up a.lt a.nP a.nL p < a.nL + 1 ∧ (va_up a.fr a.nP none p = none → va_up a.home a.nL a.nP (va_up a.lt a.nP a.nL p) = p) ∧ ∀ r, va_up a.fr a.nP none p = some r → r < p ∧ va_up a.lt a.nP a.nL r = va_up a.lt a.nP a.nL p ∧ ∃ d, va_up a.by_ a.nP o p = some d ∧ d < a.nC ∧ a.kind d = 2
    by_cases e : p = a.nP
    · rw [e]
      simp only [va_up_self]
      exact ⟨by omega, fun _ => trivial, fun r hr => by cases hr⟩
    · have hp' : p < a.nP := by omega
      have hlt := h.lt hp'
      rw [fo p hp', bo p hp', lo p hp', ho' _ hlt]
      refine ⟨by omega, fun e => h.hm hp' e, fun r hr => ?_⟩
      obtain ⟨k1, k2, k3⟩ := h.fr hp' hr
      exact ⟨k1, (lo r (by omega)).trans k2, k3⟩
  · have h2 : p' < a.nP + 1 := h2
    have h3 : va_up a.fr a.nP none p = some r := h3
    have h4 : va_up a.fr a.nP none p' = some r := h4
    have h5 : va_up a.by_ a.nP o p = some d := h5
    have h6 : va_up a.by_ a.nP o p' = some e := h6
    rw [fo p (by omega)] at h3
    rw [bo p (by omega)] at h5
    by_cases e1 : p' = a.nP
    · rw [e1, va_up_self] at h4
      cases h4
    · rw [fo p' (by omega)] at h4
      rw [bo p' (by omega)] at h6
      exact h.ord h1 (by omega) h3 h4 h5 h6
  · have h1 : p < a.nP + 1 := h1
    have h2 : va_up a.fr a.nP none p = some r := h2
    have h3 : va_up a.by_ a.nP o p = some d := h3
    have h4 : va_up a.by_ a.nP o r = some d := h4
    by_cases e1 : p = a.nP
    · rw [e1, va_up_self] at h2
      cases h2
    · have hp' : p < a.nP := by omega
      rw [fo p hp'] at h2
      rw [bo p hp'] at h3
      have := (h.fr hp' h2).1
      rw [bo r (by omega)] at h4
      exact h.lead hp' h2 h3 h4
/-! ===== what stays: the reference's parts, the class's parts ===== -/
def mSame (st st' : tST) : Prop := (∀ k, 100 ≤ k → tg_I st' k = tg_I st k) ∧ (∀ k, 20 ≤ k → tg_A st' k = tg_A st k)
def xSame (st st' : tST) : Prop := (∀ k, k < 100 → tg_I st' k = tg_I st k) ∧ (∀ k, k < 20 → tg_A st' k = tg_A st k) ∧ tg_L st' 0 = tg_L st 0 ∧ (∀ k, tg_B st' k = tg_B st k)
theorem mSame.rf {st : tST} : mSame st st := ⟨fun _ _ => rfl, fun _ _ => rfl⟩
theorem xSame.rf {st : tST} : xSame st st := ⟨fun _ _ => rfl, fun _ _ => rfl, rfl, fun _ => rfl⟩
theorem mSame.tr {s1 s2 s3 : tST} (h : mSame s1 s2) (g : mSame s2 s3) : mSame s1 s3 := ⟨fun k q => (g.1 k q).trans (h.1 k q), fun k q => (g.2 k q).trans (h.2 k q)⟩
theorem xSame.tr {s1 s2 s3 : tST} (h : xSame s1 s2) (g : xSame s2 s3) : xSame s1 s3 := ⟨fun k q => (g.1 k q).trans (h.1 k q), fun k q => (g.2.1 k q).trans (h.2.1 k q), g.2.2.1.trans h.2.2.1, fun k => (g.2.2.2 k).trans (h.2.2.2 k)⟩
theorem mSame.I {st : tST} {k : Nat} {v : Int32} (h : k < 100) : mSame st (tp_I st k v) := ⟨fun j hj => by rw [st_II, if_neg (by omega)], fun _ _ => rfl⟩
theorem mSame.A {st : tST} {k i : Nat} {v : Int32} (h : k < 20) : mSame st (tp_A st k i v) := ⟨fun _ _ => rfl, fun j hj => by rw [st_AA, if_neg (by omega)]⟩
theorem mSame.L {st : tST} {k : Nat} {v : Int64} : mSame st (tp_L st k v) := ⟨fun _ _ => rfl, fun _ _ => rfl⟩
theorem mSame.B {st : tST} {k i : Nat} {v : Int64} : mSame st (tp_B st k i v) := ⟨fun _ _ => rfl, fun _ _ => rfl⟩
theorem xSame.I {st : tST} {k : Nat} {v : Int32} (h : 100 ≤ k) : xSame st (tp_I st k v) := ⟨fun j hj => by rw [st_II, if_neg (by omega)], fun _ _ => rfl, rfl, fun _ => rfl⟩
theorem xSame.A {st : tST} {k i : Nat} {v : Int32} (h : 20 ≤ k) : xSame st (tp_A st k i v) := ⟨fun _ _ => rfl, fun j hj => by rw [st_AA, if_neg (by omega)], rfl, fun _ => rfl⟩
theorem mSame.fr {ks ls as : List Nat} {s1 s2 : tST} (h : tFr ks ls as s1 s2) (h1 : ks.all (fun k => decide (k < 100)) = true) (h3 : as.all (fun k => decide (k < 20)) = true) : mSame s1 s2 := ⟨fun k hk => h.1 k (fun e => by have := List.all_eq_true.mp h1 k e; simp at this; omega), fun k hk => h.2.2.1 k (fun e => by have := List.all_eq_true.mp h3 k e; simp at this; omega)⟩
theorem xSame.fr {ks ls as : List Nat} {s1 s2 : tST} (h : tFr ks ls as s1 s2) (h1 : ks.all (fun k => decide (100 ≤ k)) = true) (h2 : ls.all (fun k => decide (0 < k)) = true) (h3 : as.all (fun k => decide (20 ≤ k)) = true) : xSame s1 s2 := ⟨fun k hk => h.1 k (fun e => by have := List.all_eq_true.mp h1 k e; simp at this; omega), fun k hk => h.2.2.1 k (fun e => by have := List.all_eq_true.mp h3 k e; simp at this; omega), h.2.1 0 (fun e => by have := List.all_eq_true.mp h2 0 e; simp at this), h.2.2.2⟩
theorem MR.same {a : AB} {st st' : tST} (h : MR a st) (f : mSame st st') : MR a st' := by
  unfold MR
  rw [f.1 100 (by decide), f.1 102 (by decide), f.1 107 (by decide), f.1 112 (by decide), f.2 20 (by decide), f.2 21 (by decide), f.2 22 (by decide), f.2 23 (by decide), f.2 24 (by decide), f.2 25 (by decide), f.2 26 (by decide), f.2 27 (by decide), f.2 28 (by decide), f.2 29 (by decide), f.2 30 (by decide), f.2 31 (by decide), f.2 32 (by decide), f.2 33 (by decide), f.2 34 (by decide)]
  exact h
theorem XR.same {a : AB} {st st' : tST} (h : XR a st) (f : xSame st st') : XR a st' := by
  unfold XR
  rw [f.1 0 (by decide), f.1 1 (by decide), f.1 6 (by decide), f.1 7 (by decide), f.2.2.1, f.2.1 1 (by decide), f.2.1 2 (by decide), f.2.1 4 (by decide), f.2.1 5 (by decide), f.2.1 6 (by decide), f.2.1 7 (by decide), f.2.1 9 (by decide), f.2.1 10 (by decide), f.2.1 11 (by decide), f.2.1 12 (by decide), f.2.2.2 13]
  exact h
/-! ===== the small writers ===== -/
theorem s_letter {a : AB} {st : tST} (h : Rel a st) (code : Int32) : tStp (f_X3_letter code st) (f_X4_letter code) := by
  obtain ⟨hX, hM, hI, h4, h5⟩ := id h
  have hpl := hI.pl
  unfold tStp f_X3_letter f_X4_letter f_X4_within
  by_cases c1 : code < 32
  · refine ⟨-1002, st, st, ?_, ?_, a, h⟩
    · rw [if_pos c1]
    · rw [if_pos c1]; rfl
  · rw [if_neg c1]
    simp only [if_neg c1]
    by_cases c2 : code ≤ 126
    · have c3 : ¬ (126 : Int32) < code := Int32.not_lt.mpr c2
      rw [if_pos c2, hX.pl]
      simp only [if_neg c3, pz_zr1, pz_bs]
      by_cases c4 : a.pl < 40
      · rw [if_pos (show nI a.pl < (40 : Int32) from nI_lt (a := a.pl) (b := 40) c4 (by omega)), pz_tas (by omega) (by omega), nI_clamp (by omega)]
        simp only [tlet, st_IA, hX.pl, nI_1]
        obtain ⟨s1, hs1⟩ : ∃ s1, s1 = tp_I (tp_A st 1 a.pl code) 0 (nI (a.pl + 1)) := ⟨_, rfl⟩
        have ms : mSame st s1 := by rw [hs1]; exact (mSame.A (by decide)).tr (mSame.I (by decide))
        have hM1 := hM.same ms
        have hX1 : XR (setG a (a.pl + 1) (va_up a.page a.pl code)) s1 := by
          rw [hs1]
          refine ⟨⟨rfl, hX.nL, hX.nP, hX.nC⟩, fun j hj => ?_, hX.2.2.1, hX.2.2.2.1, hX.2.2.2.2.1, hX.2.2.2.2.2⟩
          have hj : j < a.pl + 1 := hj
          show upd (tg_A st 1) a.pl code j = va_up a.page a.pl code j
          by_cases e : j = a.pl
          · rw [e, pk_us, va_up_self]
          · rw [pk_un e, va_up_ne _ _ e, hX.page (by omega)]
        obtain ⟨s2, hs2⟩ : ∃ s2, s2 = tp_I (tp_A s1 20 a.pl code) 100 (nI (a.pl + 1)) := ⟨_, rfl⟩
        have xs : xSame s1 s2 := by rw [hs2]; exact (xSame.A (by decide)).tr (xSame.I (by decide))
        have hM2 : MR (setG a (a.pl + 1) (va_up a.page a.pl code)) s2 := by
          rw [hs2]
          refine ⟨⟨rfl, hM1.nL, hM1.nC, hM1.nP⟩, fun j hj => ?_, hM1.2.2.1, hM1.2.2.2.1, hM1.2.2.2.2.1, hM1.2.2.2.2.2⟩
          have hj : j < a.pl + 1 := hj
          show upd (tg_A s1 20) a.pl code j = va_up a.page a.pl code j
          by_cases e : j = a.pl
          · rw [e, pk_us, va_up_self]
          · rw [pk_un e, va_up_ne _ _ e, hM1.page (by omega)]
        refine ⟨nI (a.pl + 1), s1, s2, ?_, ?_, setG a (a.pl + 1) (va_up a.page a.pl code), hX1.same xs, hM2, Inv_setG hI _ (by omega), ?_, ?_⟩
        · rw [hs1]; rfl
        · rw [if_neg (by decide), hM1.pl, if_neg (by rw [show (40 : Int32) = nI 40 from rfl, pz_eq (by omega) (by omega)]; omega), pz_tas (by omega) (by omega), nI_clamp (by omega), st_IA, hM1.pl, nI_1, hs2]; rfl
        · rw [hs2, hs1]; exact h4
        · rw [hs2, hs1]; exact h5
      · have c5 : a.pl = 40 := by omega
        rw [if_neg (show ¬ nI a.pl < (40 : Int32) from nI_nlt (a := a.pl) (b := 40) (by omega) (by omega))]
        refine ⟨-1004, st, st, rfl, ?_, a, h⟩
        rw [if_neg (by decide), hM.pl, if_pos (by rw [c5]; rfl)]
    · have c3 : (126 : Int32) < code := Int32.not_le.mp c2
      refine ⟨-1002, st, st, ?_, ?_, a, h⟩
      · rw [if_neg c2]
      · rw [if_pos c3]; rfl
theorem s_blank {a : AB} {st : tST} (h : Rel a st) : tStp (f_X3_blank st) f_X4_blank := by
  obtain ⟨hX, hM, hI, h4, h5⟩ := id h
  refine ⟨nI a.pl, tp_I st 0 0, tp_I (tp_I st 0 0) 100 0, ?_, ?_, setG a 0 a.page, ?_, ?_, Inv_setG hI _ (by omega), h4, h5⟩
  · unfold f_X3_blank
    simp only [tlet, hX.pl]
  · unfold f_X4_blank
    simp only [tlet]
    rw [show tg_I (tp_I st 0 0) 100 = nI a.pl from hM.pl]
  · exact ⟨⟨rfl, hX.nL, hX.nP, hX.nC⟩, fun j hj => absurd hj (Nat.not_lt_zero _), hX.2.2.1, hX.2.2.2.1, hX.2.2.2.2.1, hX.2.2.2.2.2⟩
  · exact ⟨⟨rfl, hM.nL, hM.nC, hM.nP⟩, fun j hj => absurd hj (Nat.not_lt_zero _), hM.2.2.1, hM.2.2.2.1, hM.2.2.2.2.1, hM.2.2.2.2.2⟩
theorem s_show {a : AB} {st : tST} (h : Rel a st) (c : Int32) (b : Bool) : tStp (f_X3_show c (if b = true then 1 else 0) st) (f_X4_show c (if b = true then 1 else 0)) := by
  obtain ⟨hX, hM, hI, h4, h5⟩ := id h
  have hC := hI.nC
  unfold tStp f_X3_show f_X4_show
  rcases ix_all c (n := a.nC) (by omega) with hc | ⟨i, hi, rfl⟩
  · refine ⟨-1001, st, st, ?_, ?_, a, h⟩
    · rw [x_names_out hX hI hc]; rfl
    · rw [m_isChange_out hM hI hc]; rfl
  · obtain ⟨v, hv⟩ : ∃ v : Int32, v = (if b = true then 1 else 0) := ⟨_, rfl⟩
    have hv01 : v = 0 ∨ v = 1 := by rw [hv]; cases b <;> simp
    have hnar : vp_nar .boolean v = v := by rcases hv01 with e | e <;> rw [e] <;> rfl
    rw [← hv]
    have ms : mSame st (tp_A st 12 i v) := mSame.A (by decide)
    have hM1 := hM.same ms
    refine ⟨a.shwn i, tp_A st 12 i v, tp_A (tp_A st 12 i v) 28 i v, ?_, ?_, setW a (va_up a.shwn i v), ?_, ?_, Inv_setW hI _ (fun k hk => ?_), h4, h5⟩
    · rw [x_names_in hX hI hi, pz_bs, if_neg (show ¬ (1 : Int32) = 0 by decide), pz_tal (by omega) (by omega), hX.shwn hi, pz_tas (by omega) (by omega), pz_tas (by omega) (by omega), nI_clamp (by omega)]
      rcases hv01 with e | e
      · rw [e, if_pos rfl]
      · rw [e, if_neg (by decide)]
    · rw [m_isChange_in hM1 hI hi, pz_bs, if_neg (show ¬ (1 : Int32) = 0 by decide), pz_tal (by omega) (by omega), hM1.shwn hi, pz_tas (by omega) (by omega), pz_tas (by omega) (by omega), nI_clamp (by omega), hnar]
      rcases hI.shwn hi with e | e <;> rw [e] <;> rfl
    · refine ⟨hX.1, hX.2.1, hX.2.2.1, hX.2.2.2.1, hX.2.2.2.2.1, fun k hk => ⟨hX.kind hk, hX.auth hk, hX.stat hk, ?_, fun l hl => hX.tch hk hl⟩⟩
      show upd (tg_A st 12) i v k = va_up a.shwn i v k
      by_cases e : k = i
      · rw [e, pk_us, va_up_self]
      · rw [pk_un e, va_up_ne _ _ e, hX.shwn hk]
    · refine ⟨hM1.1, hM1.2.1, hM1.2.2.1, fun k hk => ⟨hM1.kind hk, hM1.auth hk, hM1.stat hk, ?_⟩, hM1.2.2.2.2.1, hM1.2.2.2.2.2⟩
      show upd (tg_A (tp_A st 12 i v) 28) i v k = va_up a.shwn i v k
      by_cases e : k = i
      · rw [e, pk_us, va_up_self]
      · rw [pk_un e, va_up_ne _ _ e, hM1.shwn hk]
    · by_cases e : k = i
      · rw [e, va_up_self]; exact hv01
      · rw [va_up_ne _ _ e]; exact hI.shwn hk
theorem s_decide {a : AB} {st : tST} (h : Rel a st) (c w : Int32) : tStp (f_X3_decide c w st) (f_X4_decide c w) := by
  obtain ⟨hX, hM, hI, h4, h5⟩ := id h
  have hC := hI.nC
  unfold tStp f_X3_decide f_X4_decide
  rcases ix_all c (n := a.nC) (by omega) with hc | ⟨i, hi, rfl⟩
  · refine ⟨-1001, st, st, ?_, ?_, a, h⟩
    · rw [x_names_out hX hI hc]; rfl
    · rw [m_isChange_out hM hI hc]; rfl
  · rcases ix_all w (n := 3) (by omega) with hw | ⟨m, hm, rfl⟩
    · refine ⟨-1002, st, st, ?_, ?_, a, h⟩
      · rw [x_names_in hX hI hi, pz_bs, if_neg (show ¬ (1 : Int32) = 0 by decide)]
        rcases ix_out (by omega) hw with q | ⟨q1, q2, q3⟩
        · rw [if_pos q]
        · have : ¬ w ≤ 2 := by
            intro e
            have q3 : (3 : Int32) ≤ w := q3
            rw [Int32.le_iff_toInt_le] at e q3
            have e2 : (2 : Int32).toInt = 2 := by decide
            have e3 : (3 : Int32).toInt = 3 := by decide
            omega
          rw [if_neg q1, if_neg this]
      · rw [m_isChange_in hM hI hi, pz_bs, if_neg (show ¬ (1 : Int32) = 0 by decide), show (2 : Int32) = nI 3 - 1 by decide, wn_out (by omega) hw]; rfl
    · have ms : mSame st (tp_A st 11 i (nI m)) := mSame.A (by decide)
      have hM1 := hM.same ms
      refine ⟨a.stat i, tp_A st 11 i (nI m), tp_A (tp_A st 11 i (nI m)) 27 i (nI m), ?_, ?_, setS a (va_up a.stat i (nI m)), ?_, ?_, Inv_setS hI _ (fun k hk => ?_), h4, h5⟩
      · rw [x_names_in hX hI hi, pz_bs, if_neg (show ¬ (1 : Int32) = 0 by decide), if_neg (nI_pos (by omega)), if_pos (show nI m ≤ (2 : Int32) from nI_le (a := m) (b := 2) (by omega) (by omega)), pz_tal (by omega) (by omega), hX.stat hi, pz_tas (by omega) (by omega), nI_clamp (by omega)]
      · rw [m_isChange_in hM1 hI hi, pz_bs, if_neg (show ¬ (1 : Int32) = 0 by decide), show (2 : Int32) = nI 3 - 1 by decide, wn_in hm (by omega), pz_bs, if_neg (show ¬ (1 : Int32) = 0 by decide), pz_tal (by omega) (by omega), hM1.stat hi, pz_tas (by omega) (by omega), nI_clamp (by omega)]
      · refine ⟨hX.1, hX.2.1, hX.2.2.1, hX.2.2.2.1, hX.2.2.2.2.1, fun k hk => ⟨hX.kind hk, hX.auth hk, ?_, hX.shwn hk, fun l hl => hX.tch hk hl⟩⟩
        show upd (tg_A st 11) i (nI m) k = va_up a.stat i (nI m) k
        by_cases e : k = i
        · rw [e, pk_us, va_up_self]
        · rw [pk_un e, va_up_ne _ _ e, hX.stat hk]
      · refine ⟨hM1.1, hM1.2.1, hM1.2.2.1, fun k hk => ⟨hM1.kind hk, hM1.auth hk, ?_, hM1.shwn hk⟩, hM1.2.2.2.2.1, hM1.2.2.2.2.2⟩
        show upd (tg_A (tp_A st 11 i (nI m)) 27) i (nI m) k = va_up a.stat i (nI m) k
        by_cases e : k = i
        · rw [e, pk_us, va_up_self]
        · rw [pk_un e, va_up_ne _ _ e, hM1.stat hk]
      · by_cases e : k = i
        · rw [e, va_up_self]
          match m, hm with
          | 0, _ => exact Or.inl rfl
          | 1, _ => exact Or.inr (Or.inl rfl)
          | 2, _ => exact Or.inr (Or.inr rfl)
        · rw [va_up_ne _ _ e]; exact hI.stat hk
