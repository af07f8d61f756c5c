/-! ===== Int32 by its bits: bt x i ===== -/
def bt (x : Int32) (i : Nat) : Bool := x.toBitVec.getLsbD i
theorem b_ext {x y : Int32} (h : ∀ i, i < 32 → bt x i = bt y i) : x = y := Int32.toBitVec_inj.mp (BitVec.eq_of_getLsbD_eq (fun i hi => h i hi))
theorem b_or (x y : Int32) (i : Nat) : bt (x ||| y) i = (bt x i || bt y i) := by unfold bt; rw [Int32.toBitVec_or, BitVec.getLsbD_or]
theorem b_and (x y : Int32) (i : Nat) : bt (x &&& y) i = (bt x i && bt y i) := by unfold bt; rw [Int32.toBitVec_and, BitVec.getLsbD_and]
theorem b_xor (x y : Int32) (i : Nat) : bt (x ^^^ y) i = (bt x i ^^ bt y i) := by unfold bt; rw [Int32.toBitVec_xor, BitVec.getLsbD_xor]
theorem b_big {x : Int32} {i : Nat} (h : 32 ≤ i) : bt x i = false := BitVec.getLsbD_of_ge _ _ h
theorem b_255 (i : Nat) : bt 255 i = decide (i < 8) := by
  rcases Nat.lt_or_ge i 32 with h | h
  · exact (by decide +kernel : ∀ i, i < 32 → bt 255 i = decide (i < 8)) i h
  · rw [b_big h, decide_eq_false (by omega)]
theorem b_65535 (i : Nat) : bt 65535 i = decide (i < 16) := by
  rcases Nat.lt_or_ge i 32 with h | h
  · exact (by decide +kernel : ∀ i, i < 32 → bt 65535 i = decide (i < 16)) i h
  · rw [b_big h, decide_eq_false (by omega)]
theorem b_m1 : ∀ i, i < 32 → bt (-1) i = true := by decide +kernel
theorem b_0 (i : Nat) : bt 0 i = false := BitVec.getLsbD_zero
theorem s_l : ∀ n, n < 32 → ((nI n &&& 31).toBitVec.smod 32).toNat = n := by decide +kernel
theorem s_u : ∀ n, n < 32 → (((nI n).toUInt32 &&& Int32.toUInt32 31).toBitVec % 32).toNat = n := by decide +kernel
theorem b_shl (n : Nat) (hn : n < 32) (x : Int32) {i : Nat} (hi : i < 32) : bt (x <<< (nI n &&& 31)) i = (decide (n ≤ i) && bt x (i - n)) := by
  unfold bt
  rw [Int32.toBitVec_shiftLeft]
  show (x.toBitVec <<< ((nI n &&& 31).toBitVec.smod 32).toNat).getLsbD i = _
  rw [s_l n hn, BitVec.getLsbD_shiftLeft]
  rcases Nat.lt_or_ge i n with h | h
  · simp [h, Nat.not_le.mpr h]
  · simp [hi, h, Nat.not_lt.mpr h]
theorem b_ushr (n : Nat) (hn : n < 32) (x : Int32) (i : Nat) : bt ((x.toUInt32 >>> ((nI n).toUInt32 &&& Int32.toUInt32 31)).toInt32) i = bt x (n + i) := by
  show (x.toUInt32 >>> ((nI n).toUInt32 &&& Int32.toUInt32 31)).toBitVec.getLsbD i = x.toUInt32.toBitVec.getLsbD (n + i)
  rw [UInt32.toBitVec_shiftRight]
  show (x.toUInt32.toBitVec >>> (((nI n).toUInt32 &&& Int32.toUInt32 31).toBitVec % 32).toNat).getLsbD i = _
  rw [s_u n hn, BitVec.getLsbD_ushiftRight]
theorem b_sshr (n : Nat) (hn : n < 32) (x : Int32) {i : Nat} (hi : i < 32) : bt (x >>> (nI n &&& 31)) i = if n + i < 32 then bt x (n + i) else bt x 31 := by
  unfold bt
  rw [Int32.toBitVec_shiftRight]
  show (x.toBitVec.sshiftRight ((nI n &&& 31).toBitVec.smod 32).toNat).getLsbD i = _
  rw [s_l n hn, BitVec.getLsbD_sshiftRight, BitVec.msb_eq_getLsbD_last]
  simp [hi]
theorem b_shl8 (x : Int32) {i : Nat} (hi : i < 32) : bt (x <<< ((8 : Int32) &&& 31)) i = (decide (8 ≤ i) && bt x (i - 8)) := b_shl 8 (by omega) x hi
theorem b_shl16 (x : Int32) {i : Nat} (hi : i < 32) : bt (x <<< ((16 : Int32) &&& 31)) i = (decide (16 ≤ i) && bt x (i - 16)) := b_shl 16 (by omega) x hi
theorem b_shl24 (x : Int32) {i : Nat} (hi : i < 32) : bt (x <<< ((24 : Int32) &&& 31)) i = (decide (24 ≤ i) && bt x (i - 24)) := b_shl 24 (by omega) x hi
theorem b_sshr8 (x : Int32) {i : Nat} (hi : i < 32) : bt (x >>> ((8 : Int32) &&& 31)) i = if 8 + i < 32 then bt x (8 + i) else bt x 31 := b_sshr 8 (by omega) x hi
/-! ===== drawers: more things than places ===== -/
theorem fb_holes : ∀ (m n : Nat) (f : Nat → Nat), (∀ i, i < n → f i < m) → (∀ i j, i < j → j < n → f i ≠ f j) → n ≤ m := by
  intro m
  induction m with
  | zero =>
    intro n f h1 _
    rcases Nat.eq_zero_or_pos n with h | h
    · omega
    · exact absurd (h1 0 h) (Nat.not_lt_zero _)
  | succ m ih =>
    intro n f h1 h2
    by_cases hx : ∃ i, i < n ∧ f i = m
    · obtain ⟨a, ha, hfa⟩ := hx
      have hg := ih (n - 1) (fun i => if i < a then f i else f (i + 1)) (by
        intro i hi
        by_cases q : i < a
        · simp only [if_pos q]
          have b1 := h1 i (by omega)
          have b2 := h2 i a q ha
          omega
        · simp only [if_neg q]
          have b1 := h1 (i + 1) (by omega)
          have b2 := h2 a (i + 1) (by omega) (by omega)
          omega) (by
        intro i j hij hj
        by_cases q : i < a
        · by_cases r : j < a
          · simp only [if_pos q, if_pos r]
            exact h2 i j hij (by omega)
          · simp only [if_pos q, if_neg r]
            exact h2 i (j + 1) (by omega) (by omega)
        · have r : ¬ j < a := by omega
          simp only [if_neg q, if_neg r]
          exact h2 (i + 1) (j + 1) (by omega) (by omega))
      omega
    · have hg := ih n f (fun i hi => by
        have b1 := h1 i hi
        have b2 : f i ≠ m := fun e => hx ⟨i, hi, e⟩
        omega) h2
      omega
/-- two of them in one place -/
theorem fb_twice {m n : Nat} {f : Nat → Nat} (h : ∀ i, i < n → f i < m) (hm : m < n) : ∃ i j, i < j ∧ j < n ∧ f i = f j := by
  refine Classical.byContradiction fun hx => ?_
  have := fb_holes m n f h (fun i j hij hj e => hx ⟨i, j, hij, hj, e⟩)
  omega
/-- as many as places, none twice: each place is taken -/
theorem fb_onto {n : Nat} {f : Nat → Nat} (h : ∀ i, i < n → f i < n) (h2 : ∀ i j, i < j → j < n → f i ≠ f j) {y : Nat} (hy : y < n) : ∃ i, i < n ∧ f i = y := by
  refine Classical.byContradiction fun hx => ?_
  have hne : ∀ i, i < n → f i ≠ y := fun i hi e => hx ⟨i, hi, e⟩
  have := fb_holes (n - 1) n (fun i => if f i < y then f i else f i - 1) (by
    intro i hi
    have b1 := h i hi
    have b2 := hne i hi
    by_cases q : f i < y
    · simp only [if_pos q]; omega
    · simp only [if_neg q]; omega) (by
    intro i j hij hj
    have b1 := hne i (by omega)
    have b2 := hne j hj
    have b3 := h2 i j hij hj
    by_cases q : f i < y
    · by_cases r : f j < y
      · simp only [if_pos q, if_pos r]; exact b3
      · simp only [if_pos q, if_neg r]; omega
    · by_cases r : f j < y
      · simp only [if_neg q, if_pos r]; omega
      · simp only [if_neg q, if_neg r]; omega)
  omega
/-! ===== how many places have a property ===== -/
def fb_ct (p : Nat → Bool) : Nat → Nat
  | 0 => 0
  | n + 1 => fb_ct p n + (if p n then 1 else 0)
theorem fb_ct_succ (p : Nat → Bool) (n : Nat) : fb_ct p (n + 1) = fb_ct p n + (if p n then 1 else 0) := rfl
theorem fb_ct_le (p : Nat → Bool) : ∀ n, fb_ct p n ≤ n
  | 0 => Nat.le_refl _
  | n + 1 => by
    have h := fb_ct_le p n
    rw [fb_ct_succ]
    split <;> omega
theorem fb_ct_step (p : Nat → Bool) (m : Nat) : ∀ n, fb_ct p m ≤ fb_ct p (m + n)
  | 0 => Nat.le_refl _
  | n + 1 => by
    have h := fb_ct_step p m n
    show fb_ct p m ≤ fb_ct p (m + n + 1)
    rw [fb_ct_succ]
    omega
theorem fb_ct_mono (p : Nat → Bool) {m n : Nat} (h : m ≤ n) : fb_ct p m ≤ fb_ct p n := by
  have := fb_ct_step p m (n - m)
  rwa [Nat.add_sub_cancel' h] at this
theorem fb_ct_cong {p q : Nat → Bool} : ∀ {n : Nat}, (∀ k, k < n → p k = q k) → fb_ct p n = fb_ct q n
  | 0, _ => rfl
  | n + 1, h => by
    rw [fb_ct_succ, fb_ct_succ, fb_ct_cong (fun k hk => h k (by omega)), h n (by omega)]
/-- one place changed -/
theorem fb_ct_out (p : Nat → Bool) (b : Bool) {i n : Nat} (h : n ≤ i) : fb_ct (fun k => if k = i then b else p k) n = fb_ct p n :=
  fb_ct_cong fun k hk => if_neg (by omega)
theorem fb_ct_upd (p : Nat → Bool) (b : Bool) {i : Nat} : ∀ {n : Nat}, i < n → fb_ct (fun k => if k = i then b else p k) n + (if p i then 1 else 0) = fb_ct p n + (if b then 1 else 0)
  | 0, h => absurd h (Nat.not_lt_zero i)
  | n + 1, h => by
    rw [fb_ct_succ, fb_ct_succ]
    rcases Nat.lt_or_ge i n with q | q
    · have := fb_ct_upd p b q
      have e : (if n = i then b else p n) = p n := if_neg (by omega)
      rw [e]
      omega
    · have e : i = n := by omega
      subst e
      rw [fb_ct_out p b (Nat.le_refl _)]
      simp only [if_true]
      omega
theorem fb_ct_sub {p q : Nat → Bool} : ∀ {n : Nat}, (∀ k, k < n → p k = true → q k = true) → fb_ct p n ≤ fb_ct q n
  | 0, _ => Nat.le_refl _
  | n + 1, h => by
    have h1 := fb_ct_sub (n := n) (p := p) (q := q) (fun k hk => h k (by omega))
    have h2 := h n (by omega)
    rw [fb_ct_succ, fb_ct_succ]
    cases hp : p n <;> cases hq : q n <;> simp_all <;> omega
theorem fb_ct_or {p q : Nat → Bool} : ∀ {n : Nat}, (∀ k, k < n → ¬ (p k = true ∧ q k = true)) → fb_ct (fun k => p k || q k) n = fb_ct p n + fb_ct q n
  | 0, _ => rfl
  | n + 1, h => by
    have h1 := fb_ct_or (n := n) (p := p) (q := q) (fun k hk => h k (by omega))
    have h2 := h n (by omega)
    rw [fb_ct_succ, fb_ct_succ, fb_ct_succ, h1]
    cases hp : p n <;> cases hq : q n <;> simp_all <;> omega
theorem fb_ct_not (p : Nat → Bool) : ∀ n, fb_ct p n + fb_ct (fun k => !p k) n = n
  | 0 => rfl
  | n + 1 => by
    have h := fb_ct_not p n
    rw [fb_ct_succ, fb_ct_succ]
    cases p n <;> simp <;> omega
theorem fb_ct_split (p : Nat → Bool) (m : Nat) : ∀ n, fb_ct p (m + n) = fb_ct p m + fb_ct (fun k => p (m + k)) n
  | 0 => rfl
  | n + 1 => by
    have h := fb_ct_split p m n
    show fb_ct p (m + n + 1) = _
    rw [fb_ct_succ, fb_ct_succ, h, Nat.add_assoc]
theorem fb_ct_zero {p : Nat → Bool} : ∀ {n : Nat}, fb_ct p n = 0 ↔ ∀ k, k < n → p k = false
  | 0 => ⟨fun _ k hk => absurd hk (Nat.not_lt_zero k), fun _ => rfl⟩
  | n + 1 => by
    have h := fb_ct_zero (p := p) (n := n)
    rw [fb_ct_succ]
    constructor
    · intro e k hk
      have e1 : fb_ct p n = 0 := by omega
      rcases Nat.lt_or_ge k n with q | q
      · exact h.mp e1 k q
      · have ek : k = n := by omega
        subst ek
        cases hp : p k
        · rfl
        · simp [hp] at e
    · intro a
      rw [h.mpr (fun k hk => a k (by omega)), a n (by omega)]
      rfl
theorem fb_ct_pos {p : Nat → Bool} {n : Nat} : 0 < fb_ct p n ↔ ∃ k, k < n ∧ p k = true := by
  constructor
  · intro h
    refine Classical.byContradiction fun hx => ?_
    have := fb_ct_zero.mpr (fun k hk => by
      cases hp : p k
      · rfl
      · exact absurd ⟨k, hk, hp⟩ hx : ∀ k, k < n → p k = false)
    omega
  · rintro ⟨k, hk, hp⟩
    rcases Nat.eq_zero_or_pos (fb_ct p n) with e | e
    · have := fb_ct_zero.mp e k hk
      rw [this] at hp
      cases hp
    · exact e
theorem fb_ct_all {p : Nat → Bool} {n : Nat} : fb_ct p n = n ↔ ∀ k, k < n → p k = true := by
  have h := fb_ct_not p n
  constructor
  · intro e k hk
    have z : fb_ct (fun k => !p k) n = 0 := by omega
    have := fb_ct_zero.mp z k hk
    cases hp : p k
    · simp [hp] at this
    · rfl
  · intro a
    have z : fb_ct (fun k => !p k) n = 0 := fb_ct_zero.mpr (fun k hk => by simp [a k hk])
    omega
/-- the k-th place with the property -/
theorem fb_ct_kth {p : Nat → Bool} {k : Nat} : ∀ {n : Nat}, k < fb_ct p n → ∃ i, i < n ∧ p i = true ∧ fb_ct p i = k
  | 0, h => absurd h (Nat.not_lt_zero k)
  | n + 1, h => by
    rcases Nat.lt_or_ge k (fb_ct p n) with q | q
    · obtain ⟨i, h1, h2⟩ := fb_ct_kth q
      exact ⟨i, by omega, h2⟩
    · rw [fb_ct_succ] at h
      cases hp : p n
      · simp [hp] at h; omega
      · simp [hp] at h
        exact ⟨n, by omega, hp, by omega⟩
theorem fb_ct_kth_one {p : Nat → Bool} {i j : Nat} (hi : p i = true) (hj : p j = true) (e : fb_ct p i = fb_ct p j) : i = j := by
  have key : ∀ a b : Nat, a < b → p a = true → fb_ct p a < fb_ct p b := by
    intro a b hab ha
    have h := fb_ct_mono p (show a + 1 ≤ b from hab)
    rw [fb_ct_succ, ha] at h
    simp at h
    omega
  rcases Nat.lt_trichotomy i j with q | q | q
  · have := key i j q hi; omega
  · exact q
  · have := key j i q hj; omega
/-! ===== the least, the first, the best so far; that there is one alone ===== -/
theorem fb_first {p : Nat → Prop} [DecidablePred p] : ∀ {n : Nat}, (∃ i, i < n ∧ p i) → ∃ i, i < n ∧ p i ∧ ∀ j, j < i → ¬ p j
  | 0, h => by obtain ⟨i, hi, -⟩ := h; exact absurd hi (Nat.not_lt_zero i)
  | n + 1, h => by
    by_cases q : ∃ i, i < n ∧ p i
    · obtain ⟨i, h1, h2⟩ := fb_first q
      exact ⟨i, by omega, h2⟩
    · obtain ⟨i, h1, h2⟩ := h
      have e : i = n := by
        rcases Nat.lt_or_ge i n with r | r
        · exact absurd ⟨i, r, h2⟩ q
        · omega
      subst e
      exact ⟨i, by omega, h2, fun j hj hp => q ⟨j, hj, hp⟩⟩
theorem fb_first_one {p : Nat → Prop} {i j : Nat} (hi : p i) (hi2 : ∀ k, k < i → ¬ p k) (hj : p j) (hj2 : ∀ k, k < j → ¬ p k) : i = j := by
  rcases Nat.lt_trichotomy i j with q | q | q
  · exact absurd hi (hj2 i q)
  · exact q
  · exact absurd hj (hi2 j q)
/-! ===== own: combinators of the mirrors ===== -/
theorem pz_tal {α β : Type} {n j : Nat} {f : Nat → α} {k : α → Option β} (h : j < n) (hn : n < 2 ^ 31) : tal n f (nI j) k = k (f j) := by
  unfold tal
  rw [if_neg (nI_in h hn), nI_clamp (by omega)]
theorem pz_tas {β : Type} {n j : Nat} {s : tST} {k : tST → Option β} (h : j < n) (hn : n < 2 ^ 31) : tas n (nI j) s k = k s := by
  unfold tas
  rw [if_neg (nI_in h hn)]
theorem pz_zr0 {α : Type} (x : Option α) : tzr 0 x = x := rfl
theorem pz_zr1 {α : Type} (x : Option α) : tzr 1 x = x := rfl
theorem pz_bs {α β : Type} (a : α) (k : α → Option β) : (some a).bind k = k a := rfl
theorem pz_bd {α β : Type} (a : α) (s : tST) (k : α → tST → Option β) : tbd (some (a, s)) k = k a s := rfl
theorem pz_le {a b : Nat} (ha : a < 2 ^ 31) (hb : b < 2 ^ 31) : (nI a ≤ nI b) = (a ≤ b) := propext (nI_leI ha hb)
theorem pz_lt {a b : Nat} (ha : a < 2 ^ 31) (hb : b < 2 ^ 31) : (nI a < nI b) = (a < b) := propext (nI_ltI ha hb)
theorem pz_eq {a b : Nat} (ha : a < 2 ^ 31) (hb : b < 2 ^ 31) : (nI a = nI b) = (a = b) := propext (nI_eq ha hb)
theorem pz_m1 {a : Nat} (ha : a < 2 ^ 31) : (nI a = -1) = False := eq_false (fun h => by
  have h1 : (nI a).toInt = (-1 : Int32).toInt := by rw [h]
  rw [nI_toInt ha] at h1
  have h2 : (-1 : Int32).toInt = -1 := by decide
  omega)
theorem pz_b01 (c : Bool) : ((if c = true then (1 : Int32) else 0) = 0) = (c = false) := by cases c <;> decide
theorem pz_b1 (c : Bool) : ((if c = true then (1 : Int32) else 0) = 1) = (c = true) := by cases c <;> decide
theorem ite_p {α : Sort _} {p q : Prop} [Decidable p] [Decidable q] (h : p = q) (x y : α) : (if p then x else y) = (if q then x else y) := by
  by_cases hp : p
  · rw [if_pos hp, if_pos (h.mp hp)]
  · rw [if_neg hp, if_neg (fun hq => hp (h.mpr hq))]
/-- an optional number as the programs write it: -1 for none -/
def en (o : Option Nat) : Int32 := match o with
  | none => -1
  | some k => nI k
theorem en_none : en none = -1 := rfl
theorem en_some (k : Nat) : en (some k) = nI k := rfl
theorem en_m1 {o : Option Nat} (h : ∀ k, o = some k → k < 2 ^ 31) : (en o = -1) = (o = none) := by
  cases o with
  | none => exact propext ⟨fun _ => rfl, fun _ => rfl⟩
  | some k => rw [en_some, pz_m1 (h k rfl)]; exact propext ⟨fun h => h.elim, fun h => by cases h⟩
theorem en_inj {o p : Option Nat} (ho : ∀ k, o = some k → k < 2 ^ 31) (hp : ∀ k, p = some k → k < 2 ^ 31) : (en o = en p) = (o = p) := by
  cases o with
  | none =>
    cases p with
    | none => exact propext ⟨fun _ => rfl, fun _ => rfl⟩
    | some k =>
      rw [en_none, en_some]
      exact propext ⟨fun h => ((pz_m1 (hp k rfl)).mp h.symm).elim, fun h => by cases h⟩
  | some j =>
    cases p with
    | none =>
      rw [en_none, en_some, pz_m1 (ho j rfl)]
      exact propext ⟨fun h => h.elim, fun h => by cases h⟩
    | some k =>
      rw [en_some, en_some, pz_eq (ho j rfl) (hp k rfl)]
      exact propext ⟨fun h => by rw [h], fun h => by cases h; rfl⟩
/-! ===== own: the state's parts ===== -/
theorem st_II (st : tST) (k j : Nat) (v : Int32) : tg_I (tp_I st k v) j = if j = k then v else tg_I st j := rfl
theorem st_IL (st : tST) (k j : Nat) (v : Int64) : tg_I (tp_L st k v) j = tg_I st j := rfl
theorem st_IA (st : tST) (k i j : Nat) (v : Int32) : tg_I (tp_A st k i v) j = tg_I st j := rfl
theorem st_IB (st : tST) (k i j : Nat) (v : Int64) : tg_I (tp_B st k i v) j = tg_I st j := rfl
theorem st_LI (st : tST) (k j : Nat) (v : Int32) : tg_L (tp_I st k v) j = tg_L st j := rfl
theorem st_LL (st : tST) (k j : Nat) (v : Int64) : tg_L (tp_L st k v) j = if j = k then v else tg_L st j := rfl
theorem st_LA (st : tST) (k i j : Nat) (v : Int32) : tg_L (tp_A st k i v) j = tg_L st j := rfl
theorem st_LB (st : tST) (k i j : Nat) (v : Int64) : tg_L (tp_B st k i v) j = tg_L st j := rfl
theorem st_AI (st : tST) (k j : Nat) (v : Int32) : tg_A (tp_I st k v) j = tg_A st j := rfl
theorem st_AL (st : tST) (k j : Nat) (v : Int64) : tg_A (tp_L st k v) j = tg_A st j := rfl
theorem st_AA (st : tST) (k i j : Nat) (v : Int32) : tg_A (tp_A st k i v) j = if j = k then upd (tg_A st k) i v else tg_A st j := rfl
theorem st_AB (st : tST) (k i j : Nat) (v : Int64) : tg_A (tp_B st k i v) j = tg_A st j := rfl
theorem st_BI (st : tST) (k j : Nat) (v : Int32) : tg_B (tp_I st k v) j = tg_B st j := rfl
theorem st_BL (st : tST) (k j : Nat) (v : Int64) : tg_B (tp_L st k v) j = tg_B st j := rfl
theorem st_BA (st : tST) (k i j : Nat) (v : Int32) : tg_B (tp_A st k i v) j = tg_B st j := rfl
theorem st_BB (st : tST) (k i j : Nat) (v : Int64) : tg_B (tp_B st k i v) j = if j = k then vp_updL (tg_B st k) i v else tg_B st j := rfl
/-- nothing changed but the named int parts ks, long parts ls, int arrays as -/
def tFr (ks ls as : List Nat) (st st' : tST) : Prop := (∀ k, k ∉ ks → tg_I st' k = tg_I st k) ∧ (∀ k, k ∉ ls → tg_L st' k = tg_L st k) ∧ (∀ k, k ∉ as → tg_A st' k = tg_A st k) ∧ (∀ k, tg_B st' k = tg_B st k)
theorem tFr.rf {ks ls as : List Nat} {st : tST} : tFr ks ls as st st := ⟨fun _ _ => rfl, fun _ _ => rfl, fun _ _ => rfl, fun _ => rfl⟩
theorem tFr.tr {ks ls as : List Nat} {s1 s2 s3 : tST} (h : tFr ks ls as s1 s2) (g : tFr ks ls as s2 s3) : tFr ks ls as s1 s3 := ⟨fun k q => (g.1 k q).trans (h.1 k q), fun k q => (g.2.1 k q).trans (h.2.1 k q), fun k q => (g.2.2.1 k q).trans (h.2.2.1 k q), fun k => (g.2.2.2 k).trans (h.2.2.2 k)⟩
theorem tFr.mono {ks ls as ks' ls' as' : List Nat} {s1 s2 : tST} (h : tFr ks ls as s1 s2) (h1 : ∀ k ∈ ks, k ∈ ks') (h2 : ∀ k ∈ ls, k ∈ ls') (h3 : ∀ k ∈ as, k ∈ as') : tFr ks' ls' as' s1 s2 := ⟨fun k q => h.1 k (fun z => q (h1 k z)), fun k q => h.2.1 k (fun z => q (h2 k z)), fun k q => h.2.2.1 k (fun z => q (h3 k z)), h.2.2.2⟩
theorem tFr.I {ks ls as : List Nat} {s1 s2 : tST} (h : tFr ks ls as s1 s2) (k : Nat) (q : (k ∈ ks) = False) : tg_I s2 k = tg_I s1 k := h.1 k (fun z => q.mp z)
theorem tFr.putI {ks ls as : List Nat} {st : tST} {k : Nat} {v : Int32} (h : k ∈ ks) : tFr ks ls as st (tp_I st k v) := ⟨fun j q => by rw [st_II, if_neg (fun e => q (by rw [e]; exact h))], fun _ _ => rfl, fun _ _ => rfl, fun _ => rfl⟩
theorem tFr.putL {ks ls as : List Nat} {st : tST} {k : Nat} {v : Int64} (h : k ∈ ls) : tFr ks ls as st (tp_L st k v) := ⟨fun _ _ => rfl, fun j q => by rw [st_LL, if_neg (fun e => q (by rw [e]; exact h))], fun _ _ => rfl, fun _ => rfl⟩
theorem tFr.putA {ks ls as : List Nat} {st : tST} {k i : Nat} {v : Int32} (h : k ∈ as) : tFr ks ls as st (tp_A st k i v) := ⟨fun _ _ => rfl, fun _ _ => rfl, fun j q => by rw [st_AA, if_neg (fun e => q (by rw [e]; exact h))], fun _ => rfl⟩
/-! ===== own: sets of changes as ints, sets of letters as longs ===== -/
def mk (P : Nat → Bool) : Nat → Int32
  | 0 => 0
  | n + 1 => mk P n ||| (if P n then (1 : Int32) <<< (nI n &&& 31) else 0)
theorem b_1 : ∀ i, i < 32 → bt 1 i = decide (i = 0) := by decide +kernel
theorem b_one {n i : Nat} (hn : n < 32) (hi : i < 32) : bt ((1 : Int32) <<< (nI n &&& 31)) i = decide (i = n) := by
  rw [b_shl n hn 1 hi]
  by_cases h : n ≤ i
  · rw [b_1 (i - n) (by omega)]
    simp only [decide_eq_true h, Bool.true_and]
    exact decide_eq_decide.mpr ⟨fun e => by omega, fun e => by omega⟩
  · rw [decide_eq_false h, decide_eq_false (by omega)]; rfl
theorem mk_bt (P : Nat → Bool) : ∀ n, n ≤ 32 → ∀ i, i < 32 → bt (mk P n) i = (decide (i < n) && P i)
  | 0, _, i, _ => by rw [mk, b_0]; rfl
  | n + 1, hn, i, hi => by
    rw [mk, b_or, mk_bt P n (by omega) i hi]
    by_cases hp : P n = true
    · rw [if_pos hp, b_one (by omega) hi]
      by_cases h1 : i = n
      · subst h1
        simp [hp]
      · rw [decide_eq_false h1, Bool.or_false]
        congr 1
        exact decide_eq_decide.mpr ⟨fun e => by omega, fun e => by omega⟩
    · rw [if_neg hp, b_0, Bool.or_false]
      by_cases h1 : i = n
      · subst h1
        have : P i = false := by cases hq : P i <;> simp_all
        rw [this, Bool.and_false, Bool.and_false]
      · congr 1
        exact decide_eq_decide.mpr ⟨fun e => by omega, fun e => by omega⟩
theorem mk_cong {P Q : Nat → Bool} : ∀ {n : Nat}, (∀ i, i < n → P i = Q i) → mk P n = mk Q n
  | 0, _ => rfl
  | n + 1, h => by rw [mk, mk, mk_cong (fun i hi => h i (by omega)), h n (by omega)]
theorem mk_ext {x : Int32} {P : Nat → Bool} {n : Nat} (hn : n ≤ 32) (h : ∀ i, i < 32 → bt x i = (decide (i < n) && P i)) : x = mk P n := b_ext (fun i hi => by rw [h i hi, mk_bt P n hn i hi])
theorem or_0 (x : Int32) : x ||| 0 = x := b_ext (fun i _ => by rw [b_or, b_0, Bool.or_false])
/-- one bit of an int, as both programs look at it -/
theorem b_look {x : Int32} {c : Nat} (hc : c < 31) : ((x >>> (nI c &&& 31)) &&& 1) = (if bt x c = true then 1 else 0) := by
  apply b_ext
  intro i hi
  rw [b_and, b_sshr c (by omega) x hi, b_1 i hi]
  by_cases h0 : i = 0
  · subst h0
    rw [if_pos (by omega), Nat.add_zero]
    by_cases hb : bt x c = true
    · rw [if_pos hb, b_1 0 (by omega), hb]; rfl
    · rw [if_neg hb, b_0]
      have : bt x c = false := by cases hq : bt x c <;> simp_all
      rw [this]; rfl
  · rw [decide_eq_false h0, Bool.and_false]
    by_cases hb : bt x c = true
    · rw [if_pos hb, b_1 i hi, decide_eq_false h0]
    · rw [if_neg hb, b_0]
theorem b_zero {x : Int32} : (x = 0) = (∀ i, i < 32 → bt x i = false) := propext ⟨fun h i _ => by rw [h, b_0], fun h => b_ext (fun i hi => by rw [h i hi, b_0])⟩
def bl (x : Int64) (i : Nat) : Bool := x.toBitVec.getLsbD i
theorem l_ext {x y : Int64} (h : ∀ i, i < 64 → bl x i = bl y i) : x = y := Int64.toBitVec_inj.mp (BitVec.eq_of_getLsbD_eq (fun i hi => h i hi))
theorem l_or (x y : Int64) (i : Nat) : bl (x ||| y) i = (bl x i || bl y i) := by unfold bl; rw [Int64.toBitVec_or, BitVec.getLsbD_or]
theorem l_and (x y : Int64) (i : Nat) : bl (x &&& y) i = (bl x i && bl y i) := by unfold bl; rw [Int64.toBitVec_and, BitVec.getLsbD_and]
theorem l_xor (x y : Int64) (i : Nat) : bl (x ^^^ y) i = (bl x i ^^ bl y i) := by unfold bl; rw [Int64.toBitVec_xor, BitVec.getLsbD_xor]
theorem l_0 (i : Nat) : bl 0 i = false := BitVec.getLsbD_zero
theorem l_m1 : ∀ i, i < 64 → bl (-1) i = true := by decide +kernel
theorem l_not {x : Int64} {i : Nat} (hi : i < 64) : bl (x ^^^ (-1)) i = !bl x i := by rw [l_xor, l_m1 i hi, Bool.xor_true]
theorem l_sm : ∀ n, n < 64 → (((nI n).toInt64 &&& 63).toBitVec.smod 64).toNat = n := by decide +kernel
theorem l_1 : ∀ i, i < 64 → bl 1 i = decide (i = 0) := by decide +kernel
theorem l_one {n i : Nat} (hn : n < 64) (hi : i < 64) : bl ((1 : Int64) <<< ((nI n).toInt64 &&& 63)) i = decide (i = n) := by
  unfold bl
  rw [Int64.toBitVec_shiftLeft]
  show ((1 : Int64).toBitVec <<< (((nI n).toInt64 &&& 63).toBitVec.smod 64).toNat).getLsbD i = _
  rw [l_sm n hn, BitVec.getLsbD_shiftLeft]
  by_cases h : i < n
  · simp [h]; omega
  · have h1 := l_1 (i - n) (by omega)
    unfold bl at h1
    rw [h1]
    simp only [hi, h, decide_true, decide_false, Bool.true_and, Bool.not_false]
    exact decide_eq_decide.mpr ⟨fun e => by omega, fun e => by omega⟩
theorem l_su : ∀ n, n < 64 → (((nI n).toInt64.toUInt64 &&& Int64.toUInt64 63).toBitVec % 64).toNat = n := by decide +kernel
theorem l_ushr {n : Nat} (hn : n < 64) (x : Int64) (i : Nat) : bl ((x.toUInt64 >>> ((nI n).toInt64.toUInt64 &&& Int64.toUInt64 63)).toInt64) i = bl x (n + i) := by
  show (x.toUInt64 >>> ((nI n).toInt64.toUInt64 &&& Int64.toUInt64 63)).toBitVec.getLsbD i = x.toUInt64.toBitVec.getLsbD (n + i)
  rw [UInt64.toBitVec_shiftRight]
  show (x.toUInt64.toBitVec >>> (((nI n).toInt64.toUInt64 &&& Int64.toUInt64 63).toBitVec % 64).toNat).getLsbD i = _
  rw [l_su n hn, BitVec.getLsbD_ushiftRight]
theorem l_cmp0 (x : Int64) : (lg_cmp x 0 = 0) = (x = 0) := by
  unfold lg_cmp
  by_cases h : x = 0
  · subst h; decide
  · rw [if_neg h]
    split
    · exact propext ⟨fun e => absurd e (by decide), fun e => absurd e h⟩
    · exact propext ⟨fun e => absurd e (by decide), fun e => absurd e h⟩
theorem l_look {x : Int64} {l : Nat} (hl : l < 64) : (lg_cmp (((x.toUInt64 >>> ((nI l).toInt64.toUInt64 &&& Int64.toUInt64 63)).toInt64) &&& 1) 0 = 0) = (bl x l = false) := by
  rw [l_cmp0]
  apply propext
  constructor
  · intro h
    have h1 : bl (((x.toUInt64 >>> ((nI l).toInt64.toUInt64 &&& Int64.toUInt64 63)).toInt64) &&& 1) 0 = bl 0 0 := by rw [h]
    rw [l_and, l_ushr hl, l_0, l_1 0 (by omega), Nat.add_zero] at h1
    simpa using h1
  · intro h
    apply l_ext
    intro i hi
    rw [l_and, l_ushr hl, l_0, l_1 i hi]
    by_cases h0 : i = 0
    · subst h0; rw [Nat.add_zero, h]; rfl
    · rw [decide_eq_false h0, Bool.and_false]
theorem l_zero {x : Int64} : (x = 0) = (∀ i, i < 64 → bl x i = false) := propext ⟨fun h i _ => by rw [h, l_0], fun h => l_ext (fun i hi => by rw [h i hi, l_0])⟩
/-- the least number below n with a property -/
def lst (P : Nat → Bool) : Nat → Option Nat
  | 0 => none
  | n + 1 => match lst P n with
    | some q => some q
    | none => if P n then some n else none
theorem lst_some {P : Nat → Bool} : ∀ {n q : Nat}, lst P n = some q → q < n ∧ P q = true ∧ ∀ j, j < q → P j = false
  | 0, q, h => by cases h
  | n + 1, q, h => by
    rw [lst] at h
    cases hn : lst P n with
    | some r =>
      rw [hn] at h
      have hr : r = q := Option.some.inj h
      subst hr
      obtain ⟨h1, h2, h3⟩ := lst_some hn
      exact ⟨by omega, h2, h3⟩
    | none =>
      rw [hn] at h
      by_cases hp : P n = true
      · have h : (if P n = true then some n else none) = some q := h
        rw [if_pos hp] at h
        have hq : n = q := Option.some.inj h
        subst hq
        refine ⟨by omega, hp, fun j hj => ?_⟩
        exact lst_none_aux hn j hj
      · have h : (if P n = true then some n else none) = some q := h
        rw [if_neg hp] at h
        cases h
where lst_none_aux {P : Nat → Bool} : ∀ {n : Nat}, lst P n = none → ∀ j, j < n → P j = false
  | 0, _, j, hj => by omega
  | n + 1, h, j, hj => by
    rw [lst] at h
    cases hn : lst P n with
    | some r => rw [hn] at h; cases h
    | none =>
      rw [hn] at h
      have h : (if P n = true then some n else none) = none := h
      by_cases hp : P n = true
      · rw [if_pos hp] at h; cases h
      · by_cases hj2 : j = n
        · subst hj2; cases hq : P j <;> simp_all
        · exact lst_none_aux hn j (by omega)
theorem lst_none {P : Nat → Bool} : ∀ {n : Nat}, lst P n = none → ∀ j, j < n → P j = false := fun h => lst_some.lst_none_aux h
theorem lst_of_some {P : Nat → Bool} {n q : Nat} (h1 : q < n) (h2 : P q = true) (h3 : ∀ j, j < q → P j = false) : lst P n = some q := by
  cases h : lst P n with
  | none => have := lst_none h q h1; rw [h2] at this; cases this
  | some r =>
    obtain ⟨g1, g2, g3⟩ := lst_some h
    congr 1
    rcases Nat.lt_trichotomy q r with c | c | c
    · have := g3 q c; rw [h2] at this; cases this
    · exact c.symm
    · have := h3 r c; rw [g2] at this; cases this
theorem lst_of_none {P : Nat → Bool} {n : Nat} (h : ∀ j, j < n → P j = false) : lst P n = none := by
  cases hq : lst P n with
  | none => rfl
  | some r =>
    obtain ⟨g1, g2, g3⟩ := lst_some hq
    have := h r g1; rw [g2] at this; cases this
theorem lst_cong {P Q : Nat → Bool} {n : Nat} (h : ∀ j, j < n → P j = Q j) : lst P n = lst Q n := by
  cases hq : lst P n with
  | none => exact (lst_of_none (fun j hj => by rw [← h j hj]; exact lst_none hq j hj)).symm
  | some r =>
    obtain ⟨g1, g2, g3⟩ := lst_some hq
    exact (lst_of_some g1 (by rw [← h r g1]; exact g2) (fun j hj => by rw [← h j (by omega)]; exact g3 j hj)).symm
