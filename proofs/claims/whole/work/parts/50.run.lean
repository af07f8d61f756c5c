/-! ===== the whole run ===== -/
theorem rel_0 : Rel (emp 0 (fun _ => 0)) tk_st0 := by
  refine ⟨⟨⟨?_, ?_, ?_, ?_⟩, fun j hj => absurd hj (Nat.not_lt_zero _), fun j hj => absurd hj (Nat.not_lt_zero _), fun l hl => ?_, fun j hj => absurd hj (Nat.not_lt_zero _), fun j hj => absurd hj (Nat.not_lt_zero _)⟩, ⟨⟨?_, ?_, ?_, ?_⟩, fun j hj => absurd hj (Nat.not_lt_zero _), fun j hj => absurd hj (Nat.not_lt_zero _), fun j hj => absurd hj (Nat.not_lt_zero _), fun j hj => absurd hj (Nat.not_lt_zero _), fun j hj => absurd hj (Nat.not_lt_zero _)⟩, Inv_emp _ (by omega), rfl, rfl⟩
  · exact nI_0.symm
  · exact nI_0.symm
  · exact nI_0.symm
  · exact nI_0.symm
  · show bl 0 l = _
    rw [l_0]; rfl
  · exact nI_0.symm
  · exact nI_0.symm
  · exact nI_0.symm
  · exact nI_0.symm
theorem lg_self (r : Int64) : lg_cmp r r = 0 := by
  unfold lg_cmp
  simp
theorem stp_go {ρ β : Type} {x : Option (ρ × tST)} {m : tST → Option (ρ × tST)} {K : ρ → ρ → tST → Option β} {z : Option β} (h : tStp x m) (hk : ∀ r s, (∃ a, Rel a s) → K r r s = z) : tbd x (fun r s => tbd (m s) (fun r' s' => K r r' s')) = z := by
  obtain ⟨r, s1, s2, e1, e2, e3⟩ := h
  rw [e1, pz_bd, e2, pz_bd]
  exact hk r s2 e3
theorem end_5 {L i : Nat} (hL : L ≤ 2560) (hi : i ≤ L + 4) (h : L < i + 5) : nI L - 5 < nI i := by
  by_cases c : 5 ≤ L
  · rw [show (5 : Int32) = nI 5 from rfl, nI_sub c]
    exact nI_lt (by omega) (by omega)
  · have h0 : nI L - 5 < 0 := by
      match L, c with
      | 0, _ => decide
      | 1, _ => decide
      | 2, _ => decide
      | 3, _ => decide
      | 4, _ => decide
      | n + 5, c => exact absurd (by omega) c
    exact Int32.lt_of_lt_of_le h0 (nI_pos' (by omega))
set_option maxHeartbeats 4000000 in
set_option maxRecDepth 100000 in
theorem run_all {L : Nat} {xs : Nat → Int32} (hL : L ≤ 2560) : ∀ n i st, L + 5 ≤ i + 5 * n → i ≤ L + 4 → (∃ a, Rel a st) → f_L_law_18 L xs n (nI i) st = some 1 := by
  intro n
  induction n with
  | zero => intro i st h1 h2 _; omega
  | succ n ih =>
    intro i st h1 h2 ⟨a, hr⟩
    rw [f_L_law_18]
    by_cases c : L < i + 5
    · rw [if_pos (show Int32.ofNat L - 5 < nI i from end_5 hL h2 c)]
    · have c5 : ¬ (Int32.ofNat L) - (5 : Int32) < nI i := by
        rw [show (Int32.ofNat L) = nI L from rfl, show (5 : Int32) = nI 5 from rfl, nI_sub (by omega)]
        exact nI_nlt (by omega) (by omega)
      have next : ∀ s, (∃ a, Rel a s) → f_L_law_18 L xs n (nI i + 5) s = some 1 := fun s hs => by
        rw [show nI i + (5 : Int32) = nI (i + 5) from nI_add i 5]
        exact ih (i + 5) s (by omega) (by omega) hs
      have R1 : ∀ (k : Int32 → Option Int32), tal L xs (nI i + 1) k = k (xs (i + 1)) := fun k => by rw [show nI i + (1 : Int32) = nI (i + 1) from nI_add i 1, pz_tal (by omega) (by omega)]
      have R2 : ∀ (k : Int32 → Option Int32), tal L xs (nI i + 2) k = k (xs (i + 2)) := fun k => by rw [show nI i + (2 : Int32) = nI (i + 2) from nI_add i 2, pz_tal (by omega) (by omega)]
      have R3 : ∀ (k : Int32 → Option Int32), tal L xs (nI i + 3) k = k (xs (i + 3)) := fun k => by rw [show nI i + (3 : Int32) = nI (i + 3) from nI_add i 3, pz_tal (by omega) (by omega)]
      have R4 : ∀ (k : Int32 → Option Int32), tal L xs (nI i + 4) k = k (xs (i + 4)) := fun k => by rw [show nI i + (4 : Int32) = nI (i + 4) from nI_add i 4, pz_tal (by omega) (by omega)]
      rw [if_neg c5, pz_tal (by omega) (by omega)]
      obtain ⟨v, hv⟩ : ∃ v, v = xs i &&& 31 := ⟨_, rfl⟩
      rw [← hv]
      by_cases q0 : v = 0
      · rw [if_pos q0]
        simp only [R1]
        exact stp_go (K := fun r r' s' => if r = r' then tlet (nI i + 5) (fun i8 => f_L_law_18 L xs n i8 s') else some 0) (s_letter hr (xs (i + 1))) (fun r s hs => by rw [if_pos rfl]; exact next s hs)
      rw [if_neg q0]
      by_cases q1 : v = 1
      · rw [if_pos q1]
        exact stp_go (K := fun r r' s' => if r = r' then tlet (nI i + 5) (fun i8 => f_L_law_18 L xs n i8 s') else some 0) (s_blank hr) (fun r s hs => by rw [if_pos rfl]; exact next s hs)
      rw [if_neg q1]
      by_cases q2 : v = 2
      · rw [if_pos q2]
        exact stp_go (K := fun r r' s' => if r = r' then tlet (nI i + 5) (fun i8 => f_L_law_18 L xs n i8 s') else some 0) (s_begin hr) (fun r s hs => by rw [if_pos rfl]; exact next s hs)
      rw [if_neg q2]
      by_cases q3 : v = 3
      · rw [if_pos q3]
        simp only [R1, R2]
        exact stp_go (K := fun r r' s' => if r = r' then tlet (nI i + 5) (fun i8 => f_L_law_18 L xs n i8 s') else some 0) (s_insert hr (xs (i + 1)) (xs (i + 2))) (fun r s hs => by rw [if_pos rfl]; exact next s hs)
      rw [if_neg q3]
      by_cases q4 : v = 4
      · rw [if_pos q4]
        simp only [R1, R2, R3]
        exact stp_go (K := fun r r' s' => if r = r' then tlet (nI i + 5) (fun i8 => f_L_law_18 L xs n i8 s') else some 0) (s_remove hr (xs (i + 1)) (xs (i + 2)) (xs (i + 3))) (fun r s hs => by rw [if_pos rfl]; exact next s hs)
      rw [if_neg q4]
      by_cases q5 : v = 5
      · rw [if_pos q5]
        simp only [R1, R2, R3, R4]
        exact stp_go (K := fun r r' s' => if r = r' then tlet (nI i + 5) (fun i8 => f_L_law_18 L xs n i8 s') else some 0) (s_move hr (xs (i + 1)) (xs (i + 2)) (xs (i + 3)) (xs (i + 4))) (fun r s hs => by rw [if_pos rfl]; exact next s hs)
      rw [if_neg q5]
      by_cases q6 : v = 6
      · rw [if_pos q6]
        simp only [R1, R2]
        by_cases z : xs (i + 2) = 0
        · simp only [if_pos z]
          have h0 : tStp (f_X3_show (xs (i + 1)) 0 st) (f_X4_show (xs (i + 1)) 0) := s_show hr (xs (i + 1)) false
          exact stp_go (K := fun r r' s' => if r = r' then tlet (nI i + 5) (fun i8 => f_L_law_18 L xs n i8 s') else some 0) h0 (fun r s hs => by rw [if_pos rfl]; exact next s hs)
        · simp only [if_neg z]
          have h0 : tStp (f_X3_show (xs (i + 1)) 1 st) (f_X4_show (xs (i + 1)) 1) := s_show hr (xs (i + 1)) true
          exact stp_go (K := fun r r' s' => if r = r' then tlet (nI i + 5) (fun i8 => f_L_law_18 L xs n i8 s') else some 0) h0 (fun r s hs => by rw [if_pos rfl]; exact next s hs)
      rw [if_neg q6]
      by_cases q7 : v = 7
      · rw [if_pos q7]
        simp only [R1, R2]
        exact stp_go (K := fun r r' s' => if r = r' then tlet (nI i + 5) (fun i8 => f_L_law_18 L xs n i8 s') else some 0) (s_decide hr (xs (i + 1)) (xs (i + 2))) (fun r s hs => by rw [if_pos rfl]; exact next s hs)
      rw [if_neg q7]
      by_cases q8 : v = 8
      · rw [if_pos q8]
        exact stp_go (K := fun r r' s' => if r = r' then tlet (nI i + 5) (fun i8 => f_L_law_18 L xs n i8 s') else some 0) (s_settle hr) (fun r s hs => by rw [if_pos rfl]; exact next s hs)
      rw [if_neg q8]
      by_cases q9 : v = 9
      · rw [if_pos q9]
        simp only [R1]
        exact stp_go (K := fun r r' s' => if r = r' then tlet (nI i + 5) (fun i8 => f_L_law_18 L xs n i8 s') else some 0) (s_length hr (xs (i + 1))) (fun r s hs => by rw [if_pos rfl]; exact next s hs)
      rw [if_neg q9]
      by_cases q10 : v = 10
      · rw [if_pos q10]
        simp only [R1, R2, R3]
        exact stp_go (K := fun r r' s' => if r = r' then tlet (nI i + 5) (fun i8 => f_L_law_18 L xs n i8 s') else some 0) (s_read hr (xs (i + 1)) (xs (i + 2)) (xs (i + 3))) (fun r s hs => by rw [if_pos rfl]; exact next s hs)
      rw [if_neg q10]
      by_cases q11 : v = 11
      · rw [if_pos q11]
        simp only [R1, R2]
        obtain ⟨r, e1, e2⟩ := s_place hr (xs (i + 1)) (xs (i + 2))
        rw [e1, pz_bs, e2, pz_bs, if_pos rfl]
        exact next st ⟨a, hr⟩
      rw [if_neg q11]
      by_cases q12 : v = 12
      · rw [if_pos q12]
        simp only [R1, R2]
        obtain ⟨r, e1, e2⟩ := s_change hr (xs (i + 1)) (xs (i + 2))
        rw [e1, pz_bs, e2, pz_bs, if_pos rfl]
        exact next st ⟨a, hr⟩
      rw [if_neg q12]
      by_cases q13 : v = 13
      · rw [if_pos q13]
        simp only [R1, R2]
        exact stp_go (K := fun r r' s' => if r = r' then tlet (nI i + 5) (fun i8 => f_L_law_18 L xs n i8 s') else some 0) (s_span hr (xs (i + 1)) (xs (i + 2))) (fun r s hs => by rw [if_pos rfl]; exact next s hs)
      rw [if_neg q13]
      by_cases q14 : v = 14
      · rw [if_pos q14]
        simp only [R1]
        exact stp_go (K := fun r r' s' => if r = r' then tlet (nI i + 5) (fun i8 => f_L_law_18 L xs n i8 s') else some 0) (s_found hr (xs (i + 1))) (fun r s hs => by rw [if_pos rfl]; exact next s hs)
      rw [if_neg q14]
      by_cases q15 : v = 15
      · rw [if_pos q15]
        simp only [R1]
        obtain ⟨r, e1, e2⟩ := s_count hr (xs (i + 1))
        rw [e1, pz_bs, e2, pz_bs, if_pos rfl]
        exact next st ⟨a, hr⟩
      rw [if_neg q15]
      by_cases q16 : v = 16
      · rw [if_pos q16]
        exact stp_go (K := fun r r' s' => if lg_cmp r r' = 0 then tlet (nI i + 5) (fun i8 => f_L_law_18 L xs n i8 s') else some 0) (s_digest hr) (fun r s hs => by rw [if_pos (lg_self r)]; exact next s hs)
      rw [if_neg q16]
      exact next st ⟨a, hr⟩
/-- THE PURE STATEMENT: the mirrors of class and reference answer alike on every script -/
theorem tk_pure (L : Nat) (xs : Nat → Int32) (hL : L ≤ 2560) : f_L_law_18 L xs tfu 0 tk_st0 = some 1 := by
  have := run_all (xs := xs) hL tfu 0 tk_st0 (by show L + 5 ≤ 0 + 5 * 5000; omega) (by omega) ⟨_, rel_0⟩
  rw [nI_0] at this
  exact this
