/-! ===== the abstract state ===== -/
abbrev AB : Type := (Nat → Nat) × (Nat → Nat → Int32) × (Nat → Nat → Nat) × (Nat → Nat → Option Nat)
def AB.pl (a : AB) : Nat := a.1 0
def AB.nL (a : AB) : Nat := a.1 1
def AB.nC (a : AB) : Nat := a.1 2
def AB.nP (a : AB) : Nat := a.1 3
def AB.page (a : AB) : Nat → Int32 := a.2.1 0
def AB.sign (a : AB) : Nat → Int32 := a.2.1 1
def AB.kind (a : AB) : Nat → Int32 := a.2.1 2
def AB.auth (a : AB) : Nat → Int32 := a.2.1 3
def AB.stat (a : AB) : Nat → Int32 := a.2.1 4
def AB.shwn (a : AB) : Nat → Int32 := a.2.1 5
def AB.del (a : AB) : Nat → Int32 := a.2.1 6
def AB.home (a : AB) : Nat → Nat := a.2.2.1 0
def AB.lt (a : AB) : Nat → Nat := a.2.2.1 1
def AB.line (a : AB) : Nat → Nat := a.2.2.1 2
def AB.pos (a : AB) : Nat → Nat := a.2.2.1 3
def AB.ins (a : AB) : Nat → Option Nat := a.2.2.2 0
def AB.fr (a : AB) : Nat → Option Nat := a.2.2.2 1
def AB.by_ (a : AB) : Nat → Option Nat := a.2.2.2 2
def mkA (pl nL nC nP : Nat) (page sign kind auth stat shwn del : Nat → Int32) (home lt line pos : Nat → Nat) (ins fr by_ : Nat → Option Nat) : AB := (fun k => match k with
  | 0 => pl
  | 1 => nL
  | 2 => nC
  | _ => nP, fun k => match k with
  | 0 => page
  | 1 => sign
  | 2 => kind
  | 3 => auth
  | 4 => stat
  | 5 => shwn
  | _ => del, fun k => match k with
  | 0 => home
  | 1 => lt
  | 2 => line
  | _ => pos, fun k => match k with
  | 0 => ins
  | 1 => fr
  | _ => by_)
def exs (P : Nat → Bool) : Nat → Bool
  | 0 => false
  | n + 1 => exs P n || P n
theorem exs_iff {P : Nat → Bool} : ∀ {n : Nat}, exs P n = true ↔ ∃ j, j < n ∧ P j = true
  | 0 => ⟨fun h => absurd h (by simp [exs]), fun ⟨j, h, _⟩ => by omega⟩
  | n + 1 => by
    rw [exs, Bool.or_eq_true, exs_iff]
    constructor
    · rintro (⟨j, h1, h2⟩ | h)
      · exact ⟨j, by omega, h2⟩
      · exact ⟨n, by omega, h⟩
    · rintro ⟨j, h1, h2⟩
      by_cases hj : j = n
      · subst hj; exact Or.inr h2
      · exact Or.inl ⟨j, by omega, h2⟩
theorem exs_cong {P Q : Nat → Bool} : ∀ {n : Nat}, (∀ i, i < n → P i = Q i) → exs P n = exs Q n
  | 0, _ => rfl
  | n + 1, h => by rw [exs, exs, exs_cong (fun i hi => h i (by omega)), h n (by omega)]
theorem bool_ext {x y : Bool} (h : x = true ↔ y = true) : x = y := by cases x <;> cases y <;> simp_all
/-- some MOVE with number c leads from p -/
def onw (a : AB) (p c : Nat) : Bool := exs (fun q => decide (a.fr q = some p) && decide (a.by_ q = some c)) a.nP
/-- c moved the letter l -/
def mvd (a : AB) (l c : Nat) : Bool := exs (fun q => decide (a.lt q = l) && (a.fr q).isSome && decide (a.by_ q = some c)) a.nP
def tch (a : AB) (l c : Nat) : Bool := decide (a.ins l = some c) || bt (a.del l) c || mvd a l c
def nxq (a : AB) (p : Nat) : Option Nat := if a.fr p = none then none else lst (fun q => decide (p < q) && decide (a.fr q = a.fr p)) a.nP
def XR (a : AB) (st : tST) : Prop :=
  (tg_I st 0 = nI a.pl ∧ tg_I st 1 = nI a.nL ∧ tg_I st 6 = nI a.nP ∧ tg_I st 7 = nI a.nC) ∧
  (∀ j, j < a.pl → tg_A st 1 j = a.page j) ∧ (∀ l, l < a.nL → tg_A st 2 l = a.sign l) ∧
  (∀ l, l < 64 → bl (tg_L st 0) l = (decide (l < a.nL) && decide (a.ins l = none))) ∧
  (∀ i, i < a.nP → tg_A st 4 i = nI (a.lt (a.line i)) ∧ tg_A st 5 i = en ((a.fr (a.line i)).map a.pos) ∧ tg_A st 6 i = en (a.by_ (a.line i)) ∧ ∀ c, c < 32 → bt (tg_A st 7 i) c = onw a (a.line i) c) ∧
  (∀ c, c < a.nC → tg_A st 9 c = a.kind c ∧ tg_A st 10 c = a.auth c ∧ tg_A st 11 c = a.stat c ∧ tg_A st 12 c = a.shwn c ∧ ∀ l, l < 64 → bl (tg_B st 13 c) l = (decide (l < a.nL) && tch a l c))
def MR (a : AB) (st : tST) : Prop :=
  (tg_I st 100 = nI a.pl ∧ tg_I st 102 = nI a.nL ∧ tg_I st 107 = nI a.nC ∧ tg_I st 112 = nI a.nP) ∧
  (∀ j, j < a.pl → tg_A st 20 j = a.page j) ∧
  (∀ l, l < a.nL → tg_A st 21 l = a.sign l ∧ tg_A st 22 l = en (a.ins l) ∧ tg_A st 23 l = nI (a.home l) ∧ tg_A st 24 l = a.del l) ∧
  (∀ c, c < a.nC → tg_A st 25 c = a.kind c ∧ tg_A st 26 c = a.auth c ∧ tg_A st 27 c = a.stat c ∧ tg_A st 28 c = a.shwn c) ∧
  (∀ p, p < a.nP → tg_A st 29 p = nI (a.lt p) ∧ tg_A st 30 p = en (a.fr p) ∧ tg_A st 31 p = en (a.by_ p) ∧ tg_A st 33 p = en (lst (fun q => decide (a.fr q = some p)) a.nP) ∧ tg_A st 34 p = en (nxq a p)) ∧
  (∀ i, i < a.nP → tg_A st 32 i = nI (a.line i))
def Inv (a : AB) : Prop :=
  (a.pl ≤ 40 ∧ a.nL ≤ 64 ∧ a.nC ≤ 12 ∧ a.nP ≤ 90) ∧
  (∀ i, i < a.nP → a.line i < a.nP ∧ a.pos (a.line i) = i) ∧
  (∀ p, p < a.nP → a.pos p < a.nP ∧ a.line (a.pos p) = p) ∧
  (∀ l, l < a.nL → a.home l < a.nP ∧ a.lt (a.home l) = l ∧ a.fr (a.home l) = none ∧ a.by_ (a.home l) = a.ins l ∧ (∀ c, a.ins l = some c → c < a.nC ∧ a.kind c = 0) ∧ ∀ c, bt (a.del l) c = true → c < a.nC ∧ a.kind c = 1) ∧
  (∀ p, p < a.nP → a.lt p < a.nL ∧ (a.fr p = none → a.home (a.lt p) = p) ∧ ∀ q, a.fr p = some q → q < p ∧ a.lt q = a.lt p ∧ ∃ c, a.by_ p = some c ∧ c < a.nC ∧ a.kind c = 2) ∧
  (∀ p q r c d, p < q → q < a.nP → a.fr p = some r → a.fr q = some r → a.by_ p = some c → a.by_ q = some d → c < d) ∧
  (∀ c, c < a.nC → (a.kind c = 0 ∨ a.kind c = 1 ∨ a.kind c = 2) ∧ (a.stat c = 0 ∨ a.stat c = 1 ∨ a.stat c = 2) ∧ (a.shwn c = 0 ∨ a.shwn c = 1)) ∧
  (∀ p q c, p < a.nP → a.fr p = some q → a.by_ p = some c → ¬ a.by_ q = some c)
theorem XR.pl {a : AB} {st : tST} (h : XR a st) : tg_I st 0 = nI a.pl := h.1.1
theorem XR.nL {a : AB} {st : tST} (h : XR a st) : tg_I st 1 = nI a.nL := h.1.2.1
theorem XR.nP {a : AB} {st : tST} (h : XR a st) : tg_I st 6 = nI a.nP := h.1.2.2.1
theorem XR.nC {a : AB} {st : tST} (h : XR a st) : tg_I st 7 = nI a.nC := h.1.2.2.2
theorem XR.page {a : AB} {st : tST} (h : XR a st) {j : Nat} (hj : j < a.pl) : tg_A st 1 j = a.page j := h.2.1 j hj
theorem XR.sign {a : AB} {st : tST} (h : XR a st) {j : Nat} (hj : j < a.nL) : tg_A st 2 j = a.sign j := h.2.2.1 j hj
theorem XR.first {a : AB} {st : tST} (h : XR a st) {l : Nat} (hj : l < 64) : bl (tg_L st 0) l = (decide (l < a.nL) && decide (a.ins l = none)) := h.2.2.2.1 l hj
theorem XR.lt {a : AB} {st : tST} (h : XR a st) {i : Nat} (hj : i < a.nP) : tg_A st 4 i = nI (a.lt (a.line i)) := (h.2.2.2.2.1 i hj).1
theorem XR.fr {a : AB} {st : tST} (h : XR a st) {i : Nat} (hj : i < a.nP) : tg_A st 5 i = en ((a.fr (a.line i)).map a.pos) := (h.2.2.2.2.1 i hj).2.1
theorem XR.by_ {a : AB} {st : tST} (h : XR a st) {i : Nat} (hj : i < a.nP) : tg_A st 6 i = en (a.by_ (a.line i)) := (h.2.2.2.2.1 i hj).2.2.1
theorem XR.onw {a : AB} {st : tST} (h : XR a st) {i : Nat} (hj : i < a.nP) {c : Nat} (hc : c < 32) : bt (tg_A st 7 i) c = onw a (a.line i) c := (h.2.2.2.2.1 i hj).2.2.2 c hc
theorem XR.kind {a : AB} {st : tST} (h : XR a st) {c : Nat} (hj : c < a.nC) : tg_A st 9 c = a.kind c := (h.2.2.2.2.2 c hj).1
theorem XR.auth {a : AB} {st : tST} (h : XR a st) {c : Nat} (hj : c < a.nC) : tg_A st 10 c = a.auth c := (h.2.2.2.2.2 c hj).2.1
theorem XR.stat {a : AB} {st : tST} (h : XR a st) {c : Nat} (hj : c < a.nC) : tg_A st 11 c = a.stat c := (h.2.2.2.2.2 c hj).2.2.1
theorem XR.shwn {a : AB} {st : tST} (h : XR a st) {c : Nat} (hj : c < a.nC) : tg_A st 12 c = a.shwn c := (h.2.2.2.2.2 c hj).2.2.2.1
theorem XR.tch {a : AB} {st : tST} (h : XR a st) {c : Nat} (hj : c < a.nC) {l : Nat} (hl : l < 64) : bl (tg_B st 13 c) l = (decide (l < a.nL) && tch a l c) := (h.2.2.2.2.2 c hj).2.2.2.2 l hl
theorem MR.pl {a : AB} {st : tST} (h : MR a st) : tg_I st 100 = nI a.pl := h.1.1
theorem MR.nL {a : AB} {st : tST} (h : MR a st) : tg_I st 102 = nI a.nL := h.1.2.1
theorem MR.nC {a : AB} {st : tST} (h : MR a st) : tg_I st 107 = nI a.nC := h.1.2.2.1
theorem MR.nP {a : AB} {st : tST} (h : MR a st) : tg_I st 112 = nI a.nP := h.1.2.2.2
theorem MR.page {a : AB} {st : tST} (h : MR a st) {j : Nat} (hj : j < a.pl) : tg_A st 20 j = a.page j := h.2.1 j hj
theorem MR.sign {a : AB} {st : tST} (h : MR a st) {l : Nat} (hj : l < a.nL) : tg_A st 21 l = a.sign l := (h.2.2.1 l hj).1
theorem MR.ins {a : AB} {st : tST} (h : MR a st) {l : Nat} (hj : l < a.nL) : tg_A st 22 l = en (a.ins l) := (h.2.2.1 l hj).2.1
theorem MR.home {a : AB} {st : tST} (h : MR a st) {l : Nat} (hj : l < a.nL) : tg_A st 23 l = nI (a.home l) := (h.2.2.1 l hj).2.2.1
theorem MR.del {a : AB} {st : tST} (h : MR a st) {l : Nat} (hj : l < a.nL) : tg_A st 24 l = a.del l := (h.2.2.1 l hj).2.2.2
theorem MR.kind {a : AB} {st : tST} (h : MR a st) {c : Nat} (hj : c < a.nC) : tg_A st 25 c = a.kind c := (h.2.2.2.1 c hj).1
theorem MR.auth {a : AB} {st : tST} (h : MR a st) {c : Nat} (hj : c < a.nC) : tg_A st 26 c = a.auth c := (h.2.2.2.1 c hj).2.1
theorem MR.stat {a : AB} {st : tST} (h : MR a st) {c : Nat} (hj : c < a.nC) : tg_A st 27 c = a.stat c := (h.2.2.2.1 c hj).2.2.1
theorem MR.shwn {a : AB} {st : tST} (h : MR a st) {c : Nat} (hj : c < a.nC) : tg_A st 28 c = a.shwn c := (h.2.2.2.1 c hj).2.2.2
theorem MR.lt {a : AB} {st : tST} (h : MR a st) {p : Nat} (hj : p < a.nP) : tg_A st 29 p = nI (a.lt p) := (h.2.2.2.2.1 p hj).1
theorem MR.fr {a : AB} {st : tST} (h : MR a st) {p : Nat} (hj : p < a.nP) : tg_A st 30 p = en (a.fr p) := (h.2.2.2.2.1 p hj).2.1
theorem MR.by_ {a : AB} {st : tST} (h : MR a st) {p : Nat} (hj : p < a.nP) : tg_A st 31 p = en (a.by_ p) := (h.2.2.2.2.1 p hj).2.2.1
theorem MR.fst {a : AB} {st : tST} (h : MR a st) {p : Nat} (hj : p < a.nP) : tg_A st 33 p = en (lst (fun q => decide (a.fr q = some p)) a.nP) := (h.2.2.2.2.1 p hj).2.2.2.1
theorem MR.nxt {a : AB} {st : tST} (h : MR a st) {p : Nat} (hj : p < a.nP) : tg_A st 34 p = en (nxq a p) := (h.2.2.2.2.1 p hj).2.2.2.2
theorem MR.line {a : AB} {st : tST} (h : MR a st) {i : Nat} (hj : i < a.nP) : tg_A st 32 i = nI (a.line i) := h.2.2.2.2.2 i hj
theorem Inv.pl {a : AB} (h : Inv a) : a.pl ≤ 40 := h.1.1
theorem Inv.nL {a : AB} (h : Inv a) : a.nL ≤ 64 := h.1.2.1
theorem Inv.nC {a : AB} (h : Inv a) : a.nC ≤ 12 := h.1.2.2.1
theorem Inv.nP {a : AB} (h : Inv a) : a.nP ≤ 90 := h.1.2.2.2
theorem Inv.line {a : AB} (h : Inv a) {i : Nat} (hi : i < a.nP) : a.line i < a.nP := (h.2.1 i hi).1
theorem Inv.pl_ {a : AB} (h : Inv a) {i : Nat} (hi : i < a.nP) : a.pos (a.line i) = i := (h.2.1 i hi).2
theorem Inv.pos {a : AB} (h : Inv a) {p : Nat} (hi : p < a.nP) : a.pos p < a.nP := (h.2.2.1 p hi).1
theorem Inv.lp {a : AB} (h : Inv a) {p : Nat} (hi : p < a.nP) : a.line (a.pos p) = p := (h.2.2.1 p hi).2
theorem Inv.home {a : AB} (h : Inv a) {l : Nat} (hi : l < a.nL) : a.home l < a.nP := (h.2.2.2.1 l hi).1
theorem Inv.lth {a : AB} (h : Inv a) {l : Nat} (hi : l < a.nL) : a.lt (a.home l) = l := (h.2.2.2.1 l hi).2.1
theorem Inv.frh {a : AB} (h : Inv a) {l : Nat} (hi : l < a.nL) : a.fr (a.home l) = none := (h.2.2.2.1 l hi).2.2.1
theorem Inv.byh {a : AB} (h : Inv a) {l : Nat} (hi : l < a.nL) : a.by_ (a.home l) = a.ins l := (h.2.2.2.1 l hi).2.2.2.1
theorem Inv.ins {a : AB} (h : Inv a) {l : Nat} (hi : l < a.nL) {c : Nat} (hc : a.ins l = some c) : c < a.nC ∧ a.kind c = 0 := (h.2.2.2.1 l hi).2.2.2.2.1 c hc
theorem Inv.del {a : AB} (h : Inv a) {l : Nat} (hi : l < a.nL) {c : Nat} (hc : bt (a.del l) c = true) : c < a.nC ∧ a.kind c = 1 := (h.2.2.2.1 l hi).2.2.2.2.2 c hc
theorem Inv.lt {a : AB} (h : Inv a) {p : Nat} (hi : p < a.nP) : a.lt p < a.nL := (h.2.2.2.2.1 p hi).1
theorem Inv.hm {a : AB} (h : Inv a) {p : Nat} (hi : p < a.nP) (hf : a.fr p = none) : a.home (a.lt p) = p := (h.2.2.2.2.1 p hi).2.1 hf
theorem Inv.fr {a : AB} (h : Inv a) {p : Nat} (hi : p < a.nP) {q : Nat} (hf : a.fr p = some q) : q < p ∧ a.lt q = a.lt p ∧ ∃ c, a.by_ p = some c ∧ c < a.nC ∧ a.kind c = 2 := (h.2.2.2.2.1 p hi).2.2 q hf
theorem Inv.ord {a : AB} (h : Inv a) {p q r c d : Nat} (h1 : p < q) (h2 : q < a.nP) (h3 : a.fr p = some r) (h4 : a.fr q = some r) (h5 : a.by_ p = some c) (h6 : a.by_ q = some d) : c < d := h.2.2.2.2.2.1 p q r c d h1 h2 h3 h4 h5 h6
theorem Inv.kind {a : AB} (h : Inv a) {c : Nat} (hc : c < a.nC) : a.kind c = 0 ∨ a.kind c = 1 ∨ a.kind c = 2 := (h.2.2.2.2.2.2.1 c hc).1
theorem Inv.stat {a : AB} (h : Inv a) {c : Nat} (hc : c < a.nC) : a.stat c = 0 ∨ a.stat c = 1 ∨ a.stat c = 2 := (h.2.2.2.2.2.2.1 c hc).2.1
theorem Inv.shwn {a : AB} (h : Inv a) {c : Nat} (hc : c < a.nC) : a.shwn c = 0 ∨ a.shwn c = 1 := (h.2.2.2.2.2.2.1 c hc).2.2
theorem Inv.lead {a : AB} (h : Inv a) {p q c : Nat} (h1 : p < a.nP) (h2 : a.fr p = some q) (h3 : a.by_ p = some c) : ¬ a.by_ q = some c := h.2.2.2.2.2.2.2 p q c h1 h2 h3
/-- by of any place names a change -/
theorem Inv.by_ {a : AB} (h : Inv a) {p c : Nat} (hi : p < a.nP) (hb : a.by_ p = some c) : c < a.nC := by
  cases hf : a.fr p with
  | none =>
    have h1 := h.hm hi hf
    have h2 := h.byh (h.lt hi)
    rw [h1, hb] at h2
    exact (h.ins (h.lt hi) h2.symm).1
  | some q =>
    obtain ⟨-, -, d, hd, h3, -⟩ := h.fr hi hf
    rw [hb] at hd
    cases hd
    exact h3
/-- loops that count up -/
theorem lp_q {σ ρ : Type} {F : Nat → σ → Int32 → Option ρ} {J : Nat → σ → Prop} {N : Nat} {Q : Option ρ → Prop} (h0 : ∀ n x, J N x → Q (F (n + 1) x (nI N))) (hs : ∀ n x c, c < N → J c x → (∀ y, J (c + 1) y → Q (F n y (nI (c + 1)))) → Q (F (n + 1) x (nI c))) : ∀ c n x, c ≤ N → N - c < n → J c x → Q (F n x (nI c)) := by
  have key : ∀ d c n x, c + d = N → d < n → J c x → Q (F n x (nI c)) := by
    intro d
    induction d with
    | zero =>
      intro c n x hc hn hj
      obtain ⟨m, rfl⟩ : ∃ m, n = m + 1 := ⟨n - 1, by omega⟩
      have : c = N := by omega
      subst this
      exact h0 m x hj
    | succ d ih =>
      intro c n x hc hn hj
      obtain ⟨m, rfl⟩ : ∃ m, n = m + 1 := ⟨n - 1, by omega⟩
      exact hs m x c (by omega) hj (fun y hy => ih (c + 1) m y (by omega) (by omega) hy)
  intro c n x h1 h2 h3
  exact key (N - c) c n x (by omega) h2 h3
/-! ===== sets of changes ===== -/
def mkT (a : AB) (s : Int32) : Int32 := mk (fun c => decide (a.stat c = s)) a.nC
def seen (a : AB) (v : Int32) (c : Nat) : Bool := decide (v = 1) || (decide (1 < v) && (decide (a.auth c = v - 2) || decide (a.shwn c = 1)))
def vwP (a : AB) (v : Int32) (c : Nat) : Bool := decide (a.stat c = 1) || (decide (a.stat c = 0) && seen a v c)
def mkV (a : AB) (v : Int32) : Int32 := mk (vwP a v) a.nC
theorem tfu_gt {n : Nat} (h : n < 5000) : n < tfu := h
theorem x_inStatus {a : AB} {st : tST} (h : XR a st) (hI : Inv a) (s : Int32) : f_X0_inStatus s st = some (mkT a s) := by
  unfold f_X0_inStatus
  have hC := hI.nC
  refine lp_q (F := fun n (x : Int32) i => f_X0_inStatus_4 st n s x i) (J := fun c x => x = mk (fun c => decide (a.stat c = s)) c) (N := a.nC) (Q := fun o => o = some (mkT a s)) ?_ ?_ 0 tfu 0 (Nat.zero_le _) (tfu_gt (by omega)) rfl
  · intro n x hx
    show f_X0_inStatus_4 st (n + 1) s x (nI a.nC) = _
    rw [f_X0_inStatus_4, h.nC, if_pos (nI_le (Nat.le_refl _) (by omega)), hx]
    rfl
  · intro n x c hc hx ih
    show f_X0_inStatus_4 st (n + 1) s x (nI c) = _
    rw [f_X0_inStatus_4, h.nC, if_neg (nI_ge hc (by omega)), pz_tal (by omega) (by omega), h.stat hc]
    by_cases hp : a.stat c = s
    · rw [if_pos hp]
      simp only [tlet]
      rw [nI_1]
      exact ih _ (by rw [mk, if_pos (decide_eq_true hp), hx])
    · rw [if_neg hp]
      simp only [tlet]
      rw [nI_1]
      exact ih _ (by rw [mk, if_neg (by simpa using hp), or_0, hx])
theorem m_inState {a : AB} {st : tST} (h : MR a st) (hI : Inv a) (s : Int32) : f_X4_inState s st = some (mkT a s) := by
  unfold f_X4_inState
  have hC := hI.nC
  refine lp_q (F := fun n (x : Int32) i => f_X4_inState_4 st n s x i) (J := fun c x => x = mk (fun c => decide (a.stat c = s)) c) (N := a.nC) (Q := fun o => o = some (mkT a s)) ?_ ?_ 0 tfu 0 (Nat.zero_le _) (tfu_gt (by omega)) rfl
  · intro n x hx
    show f_X4_inState_4 st (n + 1) s x (nI a.nC) = _
    rw [f_X4_inState_4, h.nC, if_pos (nI_le (Nat.le_refl _) (by omega)), hx]
    rfl
  · intro n x c hc hx ih
    show f_X4_inState_4 st (n + 1) s x (nI c) = _
    rw [f_X4_inState_4, h.nC, if_neg (nI_ge hc (by omega)), pz_tal (by omega) (by omega), h.stat hc]
    by_cases hp : a.stat c = s
    · rw [if_pos hp]
      simp only [tlet]
      rw [nI_1]
      exact ih _ (by rw [mk, if_pos (decide_eq_true hp), hx])
    · rw [if_neg hp]
      simp only [tlet]
      rw [nI_1]
      exact ih _ (by rw [mk, if_neg (by simpa using hp), hx])
theorem x_seenBy {a : AB} {st : tST} (h : XR a st) (hI : Inv a) (s : Int32) : f_X0_seenBy s st = some (mk (fun c => decide (a.auth c = s) || decide (a.shwn c = 1)) a.nC) := by
  unfold f_X0_seenBy
  have hC := hI.nC
  refine lp_q (F := fun n (x : Int32) i => f_X0_seenBy_4 st n s x i) (J := fun c x => x = mk (fun c => decide (a.auth c = s) || decide (a.shwn c = 1)) c) (N := a.nC) (Q := fun o => o = some (mk (fun c => decide (a.auth c = s) || decide (a.shwn c = 1)) a.nC)) ?_ ?_ 0 tfu 0 (Nat.zero_le _) (tfu_gt (by omega)) rfl
  · intro n x hx
    show f_X0_seenBy_4 st (n + 1) s x (nI a.nC) = _
    rw [f_X0_seenBy_4, h.nC, if_pos (nI_le (Nat.le_refl _) (by omega)), hx]
  · intro n x c hc hx ih
    show f_X0_seenBy_4 st (n + 1) s x (nI c) = _
    rw [f_X0_seenBy_4, h.nC, if_neg (nI_ge hc (by omega)), pz_tal (by omega) (by omega), h.auth hc]
    by_cases hp : a.auth c = s
    · rw [if_pos hp]
      simp only [tlet]
      rw [nI_1]
      exact ih _ (by rw [mk, if_pos (by simp [hp]), hx])
    · rw [if_neg hp, pz_tal (by omega) (by omega), h.shwn hc]
      by_cases hq : a.shwn c = 1
      · rw [if_pos hq]
        simp only [tlet]
        rw [nI_1]
        exact ih _ (by rw [mk, if_pos (by simp [hq]), hx])
      · rw [if_neg hq]
        simp only [tlet]
        rw [nI_1]
        exact ih _ (by rw [mk, if_neg (by simp [hp, hq]), or_0, hx])
theorem x_setOf {a : AB} {st : tST} (h : XR a st) (hI : Inv a) {v : Int32} (hv : 0 ≤ v) : f_X3_setOf v st = some (mkV a v) := by
  unfold f_X3_setOf
  have hC := hI.nC
  rw [x_inStatus h hI, pz_bs, x_inStatus h hI, pz_bs]
  by_cases h0 : v = 0
  · rw [if_pos h0]
    congr 1
    refine mk_cong (fun c hc => ?_)
    subst h0
    simp [vwP, seen]
  · rw [if_neg h0]
    by_cases h1 : v = 1
    · rw [if_pos h1]
      congr 1
      refine mk_ext (by omega) (fun i hi => ?_)
      rw [b_or, mkT, mkT, mk_bt _ _ (by omega) i hi, mk_bt _ _ (by omega) i hi]
      subst h1
      simp only [vwP, seen, decide_true, Bool.true_or, Bool.and_true]
      cases decide (i < a.nC) <;> rfl
    · rw [if_neg h1, x_seenBy h hI, pz_bs]
      congr 1
      refine mk_ext (by omega) (fun i hi => ?_)
      have h2 : 1 < v := by
        rw [Int32.lt_iff_toInt_lt]
        have e1 : (1 : Int32).toInt = 1 := by decide
        have e0 : (0 : Int32).toInt = 0 := by decide
        rw [Int32.le_iff_toInt_le, e0] at hv
        have h3 : v.toInt ≠ 0 := fun e => h0 (Int32.toInt_inj.mp (by rw [e, e0]))
        have h4 : v.toInt ≠ 1 := fun e => h1 (Int32.toInt_inj.mp (by rw [e, e1]))
        omega
      rw [b_or, b_and, mkT, mkT, mk_bt _ _ (by omega) i hi, mk_bt _ _ (by omega) i hi, mk_bt _ _ (by omega) i hi]
      simp only [vwP, seen, decide_eq_false h1, decide_eq_true h2, Bool.false_or, Bool.true_and]
      cases decide (i < a.nC) <;> simp
theorem m_setOf {a : AB} {st : tST} (h : MR a st) (hI : Inv a) {v : Int32} : f_X4_setOf v st = some (mkV a v) := by
  unfold f_X4_setOf
  have hC := hI.nC
  refine lp_q (F := fun n (x : Int32) i => f_X4_setOf_4 st n v x i) (J := fun c x => x = mk (vwP a v) c) (N := a.nC) (Q := fun o => o = some (mkV a v)) ?_ ?_ 0 tfu 0 (Nat.zero_le _) (tfu_gt (by omega)) rfl
  · intro n x hx
    show f_X4_setOf_4 st (n + 1) v x (nI a.nC) = _
    rw [f_X4_setOf_4, h.nC, if_pos (nI_le (Nat.le_refl _) (by omega)), hx]
    rfl
  · intro n x c hc hx ih
    show f_X4_setOf_4 st (n + 1) v x (nI c) = _
    rw [f_X4_setOf_4, h.nC, if_neg (nI_ge hc (by omega))]
    simp only [pz_tal (show c < 12 by omega) (show 12 < 2 ^ 31 by omega), h.stat hc, h.auth hc, h.shwn hc, tlet, nI_1, or_0]
    have yes : vwP a v c = true → f_X4_setOf_4 st n v (x ||| (1 : Int32) <<< (nI c &&& 31)) (nI (c + 1)) = some (mkV a v) := fun hp => ih _ (by rw [mk, if_pos hp, hx])
    have no : ¬ vwP a v c = true → f_X4_setOf_4 st n v x (nI (c + 1)) = some (mkV a v) := fun hp => ih _ (by rw [mk, if_neg hp, or_0, hx])
    by_cases h1 : v = 1
    · rw [if_pos h1]
      by_cases s1 : a.stat c = 1
      · rw [if_pos s1]; exact yes (by simp [vwP, s1])
      · rw [if_neg s1]
        by_cases s0 : a.stat c = 0
        · rw [if_pos s0]; exact yes (by simp [vwP, s0, seen, h1])
        · rw [if_neg s0]; exact no (by simp [vwP, s0, s1])
    · rw [if_neg h1]
      by_cases h2 : v ≤ 1
      · rw [if_pos h2]
        have h3 : ¬ 1 < v := Int32.not_lt.mpr h2
        by_cases s1 : a.stat c = 1
        · rw [if_pos s1]; exact yes (by simp [vwP, s1])
        · rw [if_neg s1]
          by_cases s0 : a.stat c = 0
          · rw [if_pos s0]; exact no (by simp [vwP, s0, seen, h1, h3])
          · rw [if_neg s0]; exact no (by simp [vwP, s0, s1])
      · rw [if_neg h2]
        have h3 : 1 < v := Int32.not_le.mp h2
        by_cases ha : a.auth c = v - 2
        · rw [if_pos ha]
          by_cases s1 : a.stat c = 1
          · rw [if_pos s1]; exact yes (by simp [vwP, s1])
          · rw [if_neg s1]
            by_cases s0 : a.stat c = 0
            · rw [if_pos s0]; exact yes (by simp [vwP, s0, seen, h3, ha])
            · rw [if_neg s0]; exact no (by simp [vwP, s0, s1])
        · rw [if_neg ha]
          by_cases hw : a.shwn c = 0
          · rw [if_pos hw]
            by_cases s1 : a.stat c = 1
            · rw [if_pos s1]; exact yes (by simp [vwP, s1])
            · rw [if_neg s1]
              by_cases s0 : a.stat c = 0
              · rw [if_pos s0]; exact no (by simp [vwP, s0, seen, h1, h3, ha, hw])
              · rw [if_neg s0]; exact no (by simp [vwP, s0, s1])
          · rw [if_neg hw]
            have hw1 : a.shwn c = 1 := (hI.shwn hc).resolve_left hw
            by_cases s1 : a.stat c = 1
            · rw [if_pos s1]; exact yes (by simp [vwP, s1])
            · rw [if_neg s1]
              by_cases s0 : a.stat c = 0
              · rw [if_pos s0]; exact yes (by simp [vwP, s0, seen, h3, hw1])
              · rw [if_neg s0]; exact no (by simp [vwP, s0, s1])
/-- a set in use: only changes that there are -/
def okS (a : AB) (S : Int32) : Prop := ∀ c, bt S c = true → c < a.nC
theorem okS_mk {a : AB} (hI : Inv a) (P : Nat → Bool) : okS a (mk P a.nC) := by
  intro c hc
  by_cases h : c < 32
  · rw [mk_bt P a.nC (by have := hI.nC; omega) c h] at hc
    simp at hc
    exact hc.1
  · rw [b_big (by omega)] at hc
    cases hc
