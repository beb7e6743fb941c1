/-! ===== the law's loop ===== -/
theorem law_end {L i : Nat} (hL : L ≤ 3072) (hi : i ≤ 4000) : decide ((Int32.ofNat L) - 6 < nI i) = decide (L < i + 6) := by
  refine decide_eq_decide.mpr ?_
  show nI L - nI 6 < nI i ↔ _
  rw [fa_lt, pk_sub_toInt (by omega) (by omega), nI_toInt (by omega)]
  omega
set_option maxHeartbeats 4000000 in
set_option maxRecDepth 10000 in
theorem law_run {L : Nat} (hL : L ≤ 3072) : ∀ (m i n : Nat) (M : jm_MM) (J : jm_JJ), L ≤ i + 6 * m + 5 → i ≤ 3100 → m < n → Inv M → ∃ M' J', f166_18 L n M J (nI i) = some (1, M', J') := by
  intro m
  induction m with
  | zero =>
    intro i n M J h1 h2 h3 hI
    obtain ⟨k, rfl⟩ : ∃ k, n = k + 1 := ⟨n - 1, by omega⟩
    rw [f166_18, law_end hL (by omega), decide_eq_true (by omega), cond_true]
    exact ⟨M, J, rfl⟩
  | succ m ih =>
    intro i n M J h1 h2 h3 hI
    obtain ⟨k, rfl⟩ : ∃ k, n = k + 1 := ⟨n - 1, by omega⟩
    rw [f166_18, law_end hL (by omega)]
    by_cases c : L < i + 6
    · rw [decide_eq_true c, cond_true]
      exact ⟨M, J, rfl⟩
    rw [decide_eq_false c, cond_false, inb_s (show i < L by omega) (by omega), gd_t, cl_s (show i < 2 ^ 31 by omega), nI_1, show nI i + 2 = nI (i + 2) from nI_add i 2, show nI i + 3 = nI (i + 3) from nI_add i 3, show nI i + 4 = nI (i + 4) from nI_add i 4, show nI i + 5 = nI (i + 5) from nI_add i 5, show nI i + 6 = nI (i + 6) from nI_add i 6, inb_s (show i + 1 < L by omega) (by omega), inb_s (show i + 2 < L by omega) (by omega), inb_s (show i + 3 < L by omega) (by omega), inb_s (show i + 4 < L by omega) (by omega), inb_s (show i + 5 < L by omega) (by omega), cl_s (show i + 1 < 2 ^ 31 by omega), cl_s (show i + 2 < 2 ^ 31 by omega), cl_s (show i + 3 < 2 ^ 31 by omega), cl_s (show i + 4 < 2 ^ 31 by omega), cl_s (show i + 5 < 2 ^ 31 by omega)]
    have nx := fun (N : jm_MM) (K : jm_JJ) (hN : Inv N) => ih (i + 6) k N K (by omega) (by omega) (by omega) hN
    by_cases h0 : (M 0 i &&& 31) = 0
    · obtain ⟨r, M1, M2, q1, q2, q3, q4, q5⟩ := op0 hI 
      have q2 : f107 M1  = some (r, M2) := q2
      rw [decide_eq_true h0, cond_true]
      simp only [q1, bd_s, q2, d_1, cond_true]
      exact nx M2 J q3
    rw [decide_eq_false h0, cond_false]
    by_cases h1 : (M 0 i &&& 31) = 1
    · obtain ⟨r, M1, M2, q1, q2, q3, q4, q5⟩ := op1 hI 
      have q2 : f108 M1  = some (r, M2) := q2
      rw [decide_eq_true h1, cond_true]
      simp only [q1, bd_s, q2, d_1, cond_true]
      exact nx M2 J q3
    rw [decide_eq_false h1, cond_false]
    by_cases h2 : (M 0 i &&& 31) = 2
    · obtain ⟨r, M1, M2, q1, q2, q3, q4, q5⟩ := op2 hI (M 0 (i + 1)) (M 0 (i + 2)) (M 0 (i + 3)) (M 0 (i + 4))
      have q2 : f109 M1 (M 0 (i + 1)) (M 0 (i + 2)) (M 0 (i + 3)) (M 0 (i + 4)) = some (r, M2) := q2
      rw [decide_eq_true h2, cond_true]
      simp only [gd_t, q1, bd_s, q4, q2, d_1, cond_true]
      exact nx M2 J q3
    rw [decide_eq_false h2, cond_false]
    by_cases h3 : (M 0 i &&& 31) = 3
    · obtain ⟨r, M1, M2, q1, q2, q3, q4, q5⟩ := op3 hI (M 0 (i + 1)) (M 0 (i + 2))
      have q2 : f110 M1 (M 0 (i + 1)) (M 0 (i + 2)) = some (r, M2) := q2
      rw [decide_eq_true h3, cond_true]
      simp only [gd_t, q1, bd_s, q4, q2, d_1, cond_true]
      exact nx M2 J q3
    rw [decide_eq_false h3, cond_false]
    by_cases h4 : (M 0 i &&& 31) = 4
    · obtain ⟨r, M1, M2, q1, q2, q3, q4, q5⟩ := op4 hI (M 0 (i + 1)) (M 0 (i + 2))
      have q2 : f111 M1 (M 0 (i + 1)) (M 0 (i + 2)) = some (r, M2) := q2
      rw [decide_eq_true h4, cond_true]
      simp only [gd_t, q1, bd_s, q4, q2, d_1, cond_true]
      exact nx M2 J q3
    rw [decide_eq_false h4, cond_false]
    by_cases h5 : (M 0 i &&& 31) = 5
    · obtain ⟨r, M1, M2, q1, q2, q3, q4, q5⟩ := op5 hI (M 0 (i + 1)) (M 0 (i + 2))
      have q2 : f112 M1 (M 0 (i + 1)) (M 0 (i + 2)) = some (r, M2) := q2
      rw [decide_eq_true h5, cond_true]
      simp only [gd_t, q1, bd_s, q4, q2, d_1, cond_true]
      exact nx M2 J q3
    rw [decide_eq_false h5, cond_false]
    by_cases h6 : (M 0 i &&& 31) = 6
    · obtain ⟨r, M1, J1, M2, J2, q1, q2, q3, q4, q5⟩ := op6 hI J (M 0 (i + 1))
      rw [decide_eq_true h6, cond_true]
      simp only [gd_t, q1, bd_s, q4, q2, d_1, cond_true]
      exact nx M2 J2 q3
    rw [decide_eq_false h6, cond_false]
    by_cases h7 : (M 0 i &&& 31) = 7
    · obtain ⟨r, M1, M2, q1, q2, q3, q4, q5⟩ := op7 hI 
      have q2 : f116 M1  = some (r, M2) := q2
      rw [decide_eq_true h7, cond_true]
      simp only [q1, bd_s, q2, d_1, cond_true]
      exact nx M2 J q3
    rw [decide_eq_false h7, cond_false]
    by_cases h8 : (M 0 i &&& 31) = 8
    · obtain ⟨r, M1, M2, q1, q2, q3, q4, q5⟩ := op8 hI (M 0 (i + 1))
      have q2 : f134 M1 (M 0 (i + 1)) = some (r, M2) := q2
      rw [decide_eq_true h8, cond_true]
      simp only [gd_t, q1, bd_s, q4, q2, d_1, cond_true]
      exact nx M2 J q3
    rw [decide_eq_false h8, cond_false]
    by_cases h9 : (M 0 i &&& 31) = 9
    · obtain ⟨r, M1, M2, q1, q2, q3, q4, q5⟩ := op9 hI (M 0 (i + 1)) (M 0 (i + 2))
      have q2 : f138 M1 (M 0 (i + 1)) (M 0 (i + 2)) = some (r, M2) := q2
      rw [decide_eq_true h9, cond_true]
      simp only [gd_t, q1, bd_s, q4, q2, d_1, cond_true]
      exact nx M2 J q3
    rw [decide_eq_false h9, cond_false]
    by_cases h10 : (M 0 i &&& 31) = 10
    · obtain ⟨r, M1, M2, q1, q2, q3, q4, q5⟩ := op10 hI (M 0 (i + 1)) (M 0 (i + 2)) (M 0 (i + 3))
      have q2 : f141 M1 (M 0 (i + 1)) (M 0 (i + 2)) (M 0 (i + 3)) = some (r, M2) := q2
      rw [decide_eq_true h10, cond_true]
      simp only [gd_t, q1, bd_s, q4, q2, d_1, cond_true]
      exact nx M2 J q3
    rw [decide_eq_false h10, cond_false]
    by_cases h11 : (M 0 i &&& 31) = 11
    · obtain ⟨r, M1, M2, q1, q2, q3, q4, q5⟩ := op11 hI (M 0 (i + 1)) (M 0 (i + 2)) (M 0 (i + 3))
      have q2 : f143 M1 (M 0 (i + 1)) (M 0 (i + 2)) (M 0 (i + 3)) = some (r, M2) := q2
      rw [decide_eq_true h11, cond_true]
      simp only [gd_t, q1, bd_s, q4, q2, d_1, cond_true]
      exact nx M2 J q3
    rw [decide_eq_false h11, cond_false]
    by_cases h12 : (M 0 i &&& 31) = 12
    · obtain ⟨r, M1, M2, q1, q2, q3, q4, q5⟩ := op12 hI (M 0 (i + 1)) (M 0 (i + 2))
      have q2 : f144 M1 (M 0 (i + 1)) (M 0 (i + 2)) = some (r, M2) := q2
      rw [decide_eq_true h12, cond_true]
      simp only [gd_t, q1, bd_s, q4, q2, d_1, cond_true]
      exact nx M2 J q3
    rw [decide_eq_false h12, cond_false]
    by_cases h13 : (M 0 i &&& 31) = 13
    · obtain ⟨r, M1, M2, q1, q2, q3, q4, q5⟩ := op13 hI (M 0 (i + 1)) (M 0 (i + 2)) (M 0 (i + 3))
      have q2 : f145 M1 (M 0 (i + 1)) (M 0 (i + 2)) (M 0 (i + 3)) = some (r, M2) := q2
      rw [decide_eq_true h13, cond_true]
      simp only [gd_t, q1, bd_s, q4, q2, d_1, cond_true]
      exact nx M2 J q3
    rw [decide_eq_false h13, cond_false]
    by_cases h14 : (M 0 i &&& 31) = 14
    · obtain ⟨r, M1, M2, q1, q2, q3, q4, q5⟩ := op14 hI (M 0 (i + 1)) (M 0 (i + 2)) (M 0 (i + 3))
      have q2 : f146 M1 (M 0 (i + 1)) (M 0 (i + 2)) (M 0 (i + 3)) = some (r, M2) := q2
      rw [decide_eq_true h14, cond_true]
      simp only [gd_t, q1, bd_s, q4, q2, d_1, cond_true]
      exact nx M2 J q3
    rw [decide_eq_false h14, cond_false]
    by_cases h15 : (M 0 i &&& 31) = 15
    · obtain ⟨r, M1, M2, q1, q2, q3, q4, q5⟩ := op15 hI (M 0 (i + 1)) (M 0 (i + 2)) (M 0 (i + 3)) (M 0 (i + 4)) (M 0 (i + 5))
      have q2 : f156 M1 (M 0 (i + 1)) (M 0 (i + 2)) (M 0 (i + 3)) (M 0 (i + 4)) (M 0 (i + 5)) = some (r, M2) := q2
      rw [decide_eq_true h15, cond_true]
      simp only [gd_t, q1, bd_s, q4, q2, d_1, cond_true]
      exact nx M2 J q3
    rw [decide_eq_false h15, cond_false]
    by_cases h16 : (M 0 i &&& 31) = 16
    · obtain ⟨r, q1, q2⟩ := op16 hI (M 0 (i + 1)) (M 0 (i + 2)) (M 0 (i + 3))
      rw [decide_eq_true h16, cond_true]
      simp only [gd_t, q1, bd_s, q2, d_1, cond_true]
      exact nx M J hI
    rw [decide_eq_false h16, cond_false]
    by_cases h17 : (M 0 i &&& 31) = 17
    · obtain ⟨r, M1, M2, q1, q2, q3, q4, q5⟩ := op17 hI (M 0 (i + 1)) (M 0 (i + 2)) (M 0 (i + 3))
      have q2 : f158 M1 (M 0 (i + 1)) (M 0 (i + 2)) (M 0 (i + 3)) = some (r, M2) := q2
      rw [decide_eq_true h17, cond_true]
      simp only [gd_t, q1, bd_s, q4, q2, d_1, cond_true]
      exact nx M2 J q3
    rw [decide_eq_false h17, cond_false]
    by_cases h18 : (M 0 i &&& 31) = 18
    · obtain ⟨r, M1, q1, q2, q3, q4⟩ := op18 hI (M 0 (i + 1)) (M 0 (i + 2)) (M 0 (i + 3))
      have q2 : f159 M1 (M 0 (i + 1)) (M 0 (i + 2)) (M 0 (i + 3)) = some r := q2
      rw [decide_eq_true h18, cond_true]
      simp only [gd_t, q1, bd_s, q4, q2, d_1, cond_true]
      exact nx M1 J q3
    rw [decide_eq_false h18, cond_false]
    by_cases h19 : (M 0 i &&& 31) = 19
    · obtain ⟨r, M1, q1, q2, q3, q4⟩ := op19 hI (M 0 (i + 1)) (M 0 (i + 2))
      have q2 : f160 M1 (M 0 (i + 1)) (M 0 (i + 2)) = some r := q2
      rw [decide_eq_true h19, cond_true]
      simp only [gd_t, q1, bd_s, q4, q2, d_1, cond_true]
      exact nx M1 J q3
    rw [decide_eq_false h19, cond_false]
    by_cases h20 : (M 0 i &&& 31) = 20
    · obtain ⟨r, M1, q1, q2, q3, q4⟩ := op20 hI (M 0 (i + 1)) (M 0 (i + 2)) (M 0 (i + 3))
      have q2 : f161 M1 (M 0 (i + 1)) (M 0 (i + 2)) (M 0 (i + 3)) = some r := q2
      rw [decide_eq_true h20, cond_true]
      simp only [gd_t, q1, bd_s, q4, q2, d_1, cond_true]
      exact nx M1 J q3
    rw [decide_eq_false h20, cond_false]
    by_cases h21 : (M 0 i &&& 31) = 21
    · obtain ⟨r, M1, M2, q1, q2, q3, q4, q5⟩ := op21 hI (M 0 (i + 1))
      have q2 : f162 M1 (M 0 (i + 1)) = some (r, M2) := q2
      rw [decide_eq_true h21, cond_true]
      simp only [gd_t, q1, bd_s, q4, q2, d_1, cond_true]
      exact nx M2 J q3
    rw [decide_eq_false h21, cond_false]
    by_cases h22 : (M 0 i &&& 31) = 22
    · obtain ⟨r, M1, M2, q1, q2, q3, q4, q5⟩ := op22 hI (M 0 (i + 1))
      have q2 : f163 M1 (M 0 (i + 1)) = some (r, M2) := q2
      rw [decide_eq_true h22, cond_true]
      simp only [gd_t, q1, bd_s, q4, q2, d_1, cond_true]
      exact nx M2 J q3
    rw [decide_eq_false h22, cond_false]
    exact nx M J hI
