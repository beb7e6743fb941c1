/-! ===== halos: put in by weight, from the right ===== -/
theorem dnl (a b : Int32) : decide (a ≤ b) = !decide (b < a) := by
  by_cases h : a ≤ b
  · rw [decide_eq_true h, decide_eq_false (fun q => (fa_of_lt q).2.1 h)]
    rfl
  · rw [decide_eq_false h, decide_eq_true (fa_of_nle h)]
    rfl
def pos (W : Int32 → Int32) (w : Int32) (F : Nat → Int32) : Nat → Nat
  | 0 => 0
  | c + 1 => if W (F c) < w then pos W w F c else c + 1
theorem pos_le (W : Int32 → Int32) (w : Int32) (F : Nat → Int32) : ∀ c, pos W w F c ≤ c
  | 0 => Nat.le_refl _
  | c + 1 => by
    have := pos_le W w F c
    rw [pos]
    split <;> omega
def insF (W : Int32 → Int32) (x : Int32) (F : Nat → Int32) (c : Nat) : Nat → Int32 := fun j => if j < pos W (W x) F c then F j else if j = pos W (W x) F c then x else F (j - 1)
theorem insF_mem (W : Int32 → Int32) (x : Int32) (F : Nat → Int32) {c i : Nat} (hi : i < c + 1) : insF W x F c i = x ∨ ∃ j, j < c ∧ insF W x F c i = F j := by
  have := pos_le W (W x) F c
  unfold insF
  by_cases h1 : i < pos W (W x) F c
  · rw [if_pos h1]
    exact Or.inr ⟨i, by omega, rfl⟩
  · rw [if_neg h1]
    by_cases h2 : i = pos W (W x) F c
    · rw [if_pos h2]
      exact Or.inl rfl
    · rw [if_neg h2]
      exact Or.inr ⟨i - 1, by omega, rfl⟩
/-- two of them, one behind the other: two of the old ones, or the new one and an old one -/
theorem insF_two {R : Int32 → Int32 → Prop} (hR : ∀ x y, R x y → R y x) (W : Int32 → Int32) (x : Int32) (F : Nat → Int32) {c : Nat} (h1 : ∀ i j, i < c → j < c → i ≠ j → R (F i) (F j)) (h2 : ∀ i, i < c → R x (F i)) :
    ∀ i j, i < c + 1 → j < c + 1 → i ≠ j → R (insF W x F c i) (insF W x F c j) := by
  intro i j hi hj hne
  have hp := pos_le W (W x) F c
  unfold insF
  by_cases a1 : i < pos W (W x) F c
  · rw [if_pos a1]
    by_cases b1 : j < pos W (W x) F c
    · rw [if_pos b1]
      exact h1 i j (by omega) (by omega) hne
    · rw [if_neg b1]
      by_cases b2 : j = pos W (W x) F c
      · rw [if_pos b2]
        exact hR _ _ (h2 i (by omega))
      · rw [if_neg b2]
        exact h1 i (j - 1) (by omega) (by omega) (by omega)
  · rw [if_neg a1]
    by_cases a2 : i = pos W (W x) F c
    · rw [if_pos a2]
      by_cases b1 : j < pos W (W x) F c
      · rw [if_pos b1]
        exact h2 j (by omega)
      · rw [if_neg b1, if_neg (by omega)]
        exact h2 (j - 1) (by omega)
    · rw [if_neg a2]
      by_cases b1 : j < pos W (W x) F c
      · rw [if_pos b1]
        exact h1 (i - 1) j (by omega) (by omega) (by omega)
      · rw [if_neg b1]
        by_cases b2 : j = pos W (W x) F c
        · rw [if_pos b2]
          exact hR _ _ (h2 (i - 1) (by omega))
        · rw [if_neg b2]
          exact h1 (i - 1) (j - 1) (by omega) (by omega) (by omega)
def isHal (M : jm_MM) (a0 : Nat) (W : Int32 → Int32) (F : Nat → Int32) (c : Nat) : Prop := M a0 0 = nI c ∧ ∀ i, i < c → M (a0 + 1) i = F i ∧ M (a0 + 2) i = W (F i)
theorem nI_p1 (n : Nat) : nI (n + 1) - 1 = nI n := nI_pred n
theorem f31_15_s (a0 : Nat) (ke0 : jm_MM → Int32 → Int32 → Int32 → Option jm_MM) (W : Int32 → Int32) (F : Nat → Int32) (x w : Int32) : ∀ (k n : Nat) (M : jm_MM), k < n → k < 24 → (∀ i, i < k → M (a0 + 1) i = F i ∧ M (a0 + 2) i = W (F i)) →
    ∃ M', f31_15 a0 ke0 n M x w (nI k) = ke0 M' x w (nI (pos W w F k)) ∧ (∀ b, b ≠ a0 + 1 → b ≠ a0 + 2 → M' b = M b) ∧ ∀ j, (M' (a0 + 1) j = if pos W w F k < j ∧ j ≤ k then F (j - 1) else M (a0 + 1) j) ∧ (M' (a0 + 2) j = if pos W w F k < j ∧ j ≤ k then W (F (j - 1)) else M (a0 + 2) j)
  | 0, n, M, hn, _, _ => by
    obtain ⟨m, rfl⟩ : ∃ m, n = m + 1 := ⟨n - 1, by omega⟩
    refine ⟨M, ?_, fun _ _ _ => rfl, fun j => ⟨by rw [if_neg (by omega)], by rw [if_neg (by omega)]⟩⟩
    rw [f31_15, show decide (nI 0 ≤ 0) = true by decide +kernel, cond_true, pos]
  | k + 1, n, M, hn, h24, h => by
    obtain ⟨m, rfl⟩ : ∃ m, n = m + 1 := ⟨n - 1, by omega⟩
    have e0 : decide (nI (k + 1) ≤ 0) = false := decide_eq_false (nI_nle (by omega) (by omega))
    rw [f31_15, e0, cond_false, nI_p1, inb24 (show k < 24 by omega), gd_t, cl_s (show k < 2 ^ 31 by omega), (h k (by omega)).2, dnl, pos]
    by_cases c : W (F k) < w
    · rw [if_pos c, decide_eq_true c, Bool.not_true, cond_false, gd_t, inb24 h24, gd_t, gd_t, gd_t, cl_s (by omega), pk_m1]
      obtain ⟨M1, hM1⟩ : ∃ M1, M1 = jm_up (jm_up M (a0 + 1) (k + 1) (M (a0 + 1) k)) (a0 + 2) (k + 1) ((jm_up M (a0 + 1) (k + 1) (M (a0 + 1) k)) (a0 + 2) k) := ⟨_, rfl⟩
      rw [← hM1]
      have r1 : ∀ j, M1 (a0 + 1) j = if j = k + 1 then F k else M (a0 + 1) j := fun j => by
        rw [hM1, jup_ne (by omega)]
        by_cases q : j = k + 1
        · subst q
          rw [jup_eq, if_pos rfl, (h k (by omega)).1]
        · rw [jup_nj q, if_neg q]
      have r2 : ∀ j, M1 (a0 + 2) j = if j = k + 1 then W (F k) else M (a0 + 2) j := fun j => by
        rw [hM1]
        by_cases q : j = k + 1
        · subst q
          rw [jup_eq, if_pos rfl, jup_ne (by omega), (h k (by omega)).2]
        · rw [jup_nj q, if_neg q, jup_ne (by omega)]
      have hp := pos_le W w F k
      obtain ⟨M', q1, q2, q3⟩ := f31_15_s a0 ke0 W F x w k m M1 (by omega) (by omega) (fun i hi => ⟨by rw [r1, if_neg (by omega)]; exact (h i (by omega)).1, by rw [r2, if_neg (by omega)]; exact (h i (by omega)).2⟩)
      refine ⟨M', q1, fun b hb hb2 => by rw [q2 b hb hb2, hM1, jup_ne hb2, jup_ne hb], fun j => ⟨?_, ?_⟩⟩
      · rw [(q3 j).1, r1]
        by_cases a1 : pos W w F k < j ∧ j ≤ k
        · rw [if_pos a1, if_pos (by omega)]
        · rw [if_neg a1]
          by_cases a2 : j = k + 1
          · rw [if_pos a2, if_pos (by omega), a2]
            rfl
          · rw [if_neg a2, if_neg (by omega)]
      · rw [(q3 j).2, r2]
        by_cases a1 : pos W w F k < j ∧ j ≤ k
        · rw [if_pos a1, if_pos (by omega)]
        · rw [if_neg a1]
          by_cases a2 : j = k + 1
          · rw [if_pos a2, if_pos (by omega), a2]
            rfl
          · rw [if_neg a2, if_neg (by omega)]
    · rw [if_neg c, decide_eq_false c, Bool.not_false, cond_true]
      exact ⟨M, rfl, fun _ _ _ => rfl, fun j => ⟨by rw [if_neg (by omega)], by rw [if_neg (by omega)]⟩⟩
theorem f31_s {M : jm_MM} {a0 : Nat} {W : Int32 → Int32} {F : Nat → Int32} {c : Nat} (h : isHal M a0 W F c) (hc : c < 24) (x : Int32) :
    ∃ M', f31 M a0 x (W x) = some M' ∧ (∀ b, b ≠ a0 → b ≠ a0 + 1 → b ≠ a0 + 2 → M' b = M b) ∧ isHal M' a0 W (insF W x F c) (c + 1) := by
  obtain ⟨M1, q1, q2, q3⟩ := f31_15_s a0 (fun Me9 ve10 ve11 ve12 => f31_65 a0 Me9 ve10 ve11 ve12) W F x (W x) c jm_F M (show c < 5000 by omega) hc h.2
  have hp := pos_le W (W x) F c
  have ec : decide (M a0 0 < 24) = true := by
    rw [h.1]
    show decide (nI c < nI 24) = true
    rw [dlt (by omega) (by omega)]
    exact decide_eq_true hc
  unfold f31
  rw [ec, cond_true, h.1, q1]
  unfold f31_65
  rw [inb24 (show pos W (W x) F c < 24 by omega), gd_t, gd_t, cl_s (by omega)]
  refine ⟨_, rfl, fun b hb hb1 hb2 => ?_, ?_, fun i hi => ⟨?_, ?_⟩⟩
  · rw [jup_ne hb, jup_ne hb2, jup_ne hb1, q2 b hb1 hb2]
  · rw [jup_eq, jup_ne (by omega), jup_ne (by omega), q2 a0 (by omega) (by omega), h.1, nI_1]
  · rw [jup_ne (by omega), jup_ne (by omega)]
    unfold insF
    by_cases a : i = pos W (W x) F c
    · rw [if_neg (by omega), if_pos a, a, jup_eq]
    · rw [jup_nj a, (q3 i).1, if_neg a]
      by_cases a2 : i < pos W (W x) F c
      · rw [if_pos a2, if_neg (by omega), (h.2 i (by omega)).1]
      · rw [if_neg a2, if_pos (by omega)]
  · rw [jup_ne (by omega)]
    unfold insF
    by_cases a : i = pos W (W x) F c
    · rw [if_neg (by omega), if_pos a, a, jup_eq]
    · rw [jup_nj a, jup_ne (by omega), (q3 i).2, if_neg a]
      by_cases a2 : i < pos W (W x) F c
      · rw [if_pos a2, if_neg (by omega), (h.2 i (by omega)).2]
      · rw [if_neg a2, if_pos (by omega)]
/-- the halos found among the grains below g -/
def hst (D : hD) (p : Nat) : Nat → (Nat → Int32) × Nat
  | 0 => (fun _ => 0, 0)
  | g + 1 => if nwf (lk D p (dl D)) (di D p) g && !decide (wD D (mk (cp (lk D p (dl D)) (di D p) g)) < nI (dm D)) then (insF (wD D) (mk (cp (lk D p (dl D)) (di D p) g)) (hst D p g).1 (hst D p g).2, (hst D p g).2 + 1) else hst D p g
def hH (D : hD) (p : Nat) : Nat → Int32 := (hst D p 24).1
def hN (D : hD) (p : Nat) : Nat := (hst D p 24).2
theorem hst_le (D : hD) (p : Nat) : ∀ g, (hst D p g).2 ≤ g
  | 0 => Nat.le_refl _
  | g + 1 => by
    have := hst_le D p g
    rw [hst]
    split
    · show (hst D p g).2 + 1 ≤ g + 1
      omega
    · omega
theorem hN_le (D : hD) (p : Nat) : hN D p ≤ 24 := hst_le D p 24
theorem hst_in (D : hD) (p : Nat) : ∀ g i, i < (hst D p g).2 → ∃ s, s < g ∧ nwf (lk D p (dl D)) (di D p) s = true ∧ (hst D p g).1 i = mk (cp (lk D p (dl D)) (di D p) s)
  | 0, i, h => absurd h (Nat.not_lt_zero i)
  | g + 1, i, h => by
    rw [hst] at h ⊢
    cases e : nwf (lk D p (dl D)) (di D p) g && !decide (wD D (mk (cp (lk D p (dl D)) (di D p) g)) < nI (dm D))
    · rw [e, if_neg (by simp)] at h
      rw [if_neg (by simp)]
      obtain ⟨s, h1, h2, h3⟩ := hst_in D p g i h
      exact ⟨s, by omega, h2, h3⟩
    · rw [e, if_pos rfl] at h
      rw [if_pos rfl]
      rw [Bool.and_eq_true] at e
      rcases insF_mem (wD D) (mk (cp (lk D p (dl D)) (di D p) g)) (hst D p g).1 h with q | ⟨j, hj, q⟩
      · exact ⟨g, by omega, e.1, q⟩
      · obtain ⟨s, h1, h2, h3⟩ := hst_in D p g j hj
        exact ⟨s, by omega, h2, q.trans h3⟩
def dis (x y : Int32) : Prop := ∀ k, k < 24 → ¬ (bt x k = true ∧ bt y k = true)
theorem hst_dis (D : hD) (p : Nat) : ∀ g, g ≤ 24 → ∀ i j, i < (hst D p g).2 → j < (hst D p g).2 → i ≠ j → dis ((hst D p g).1 i) ((hst D p g).1 j)
  | 0, _, i, _, h, _, _ => absurd h (Nat.not_lt_zero i)
  | g + 1, hg, i, j, hi, hj, hne => by
    have ih := hst_dis D p g (by omega)
    rw [hst] at hi hj ⊢
    cases e : nwf (lk D p (dl D)) (di D p) g && !decide (wD D (mk (cp (lk D p (dl D)) (di D p) g)) < nI (dm D))
    · rw [e, if_neg (by simp)] at hi hj
      rw [if_neg (by simp)]
      exact ih i j hi hj hne
    · rw [e, if_pos rfl] at hi hj
      rw [if_pos rfl]
      rw [Bool.and_eq_true] at e
      refine insF_two (R := dis) (fun x y h k hk q => h k hk ⟨q.2, q.1⟩) (wD D) _ (hst D p g).1 ih ?_ i j hi hj hne
      rintro m hm k hk ⟨q1, q2⟩
      obtain ⟨s, h1, h2, h3⟩ := hst_in D p g m hm
      rw [h3, b_mkl hk] at q2
      rw [b_mkl hk] at q1
      have e1 := e.1
      rw [nwf, Bool.and_eq_true, Bool.not_eq_true'] at e1 h2
      have q3 := cp_sym (fun a b _ _ => lk_sym D p (dl D) a b) (show g < 24 by omega) hk e1.1 q1
      have q4 := cp_trans (show s < 24 by omega) (show g < 24 by omega) q2 q3
      have q5 := anyB_f.mp e1.2 s h1
      rw [h2.1, q4] at q5
      cases q5
theorem b_low : ∀ g, g < 24 → ∀ i, i < 32 → bt ((1 <<< (nI g &&& 31)) - 1) i = decide (i < g) := by decide +kernel
theorem f30_d {M : jm_MM} {D : hD} (h : hC M 2 D) {p a0 b0 : Nat} (ha : 5 ≤ a0) (hb : b0 + 2 < a0 ∨ a0 + 2 < b0) (hc : isClp M b0 D p (dl D)) :
    ∃ M', f30 M a0 b0 = some M' ∧ (∀ b, b ≠ a0 → b ≠ a0 + 1 → b ≠ a0 + 2 → M' b = M b) ∧ isHal M' a0 (wD D) (hH D p) (hN D p) := by
  unfold f30
  refine lpI (fun n (w : jm_MM) u => f30_7 a0 b0 (fun Me13 => some Me13) n w u) (fun v => some v) (fun i w => (∀ b, b ≠ a0 → b ≠ a0 + 1 → b ≠ a0 + 2 → w b = M b) ∧ isHal w a0 (wD D) (hst D p i).1 (hst D p i).2) 24 (by omega) ?_ ?_ _ ⟨fun b hb _ _ => jup_ne hb, jup_eq, fun i hi => absurd hi (Nat.not_lt_zero i)⟩
  · intro n w _
    show f30_7 a0 b0 _ (n + 1) w (nI 24) = _
    rw [f30_7, c24e, cond_true]
  · rintro n i w hi ⟨g1, g2⟩
    have hw : hC w 2 D := hC_fr h (g1 2 (by omega) (by omega) (by omega)) (g1 3 (by omega) (by omega) (by omega)) (g1 4 (by omega) (by omega) (by omega))
    have e1 : w (b0 + 2) i = if di D p i then mk (cp (lk D p (dl D)) (di D p) i) else 0 := by rw [g1 (b0 + 2) (by omega) (by omega) (by omega), hc.2.2.2 i hi]
    have key : f30_7 a0 b0 (fun Me13 => some Me13) (n + 1) w (nI i) = bif nwf (lk D p (dl D)) (di D p) i then f30_46 a0 b0 (f30_7 a0 b0 (fun Me13 => some Me13) n) (fun Me13 => some Me13) w (nI i) (mk (cp (lk D p (dl D)) (di D p) i)) 1 else f30_7 a0 b0 (fun Me13 => some Me13) n w (nI (i + 1)) := by
      rw [f30_7, c24 hi, cond_false, inb24 hi, gd_t, cl_s (by omega), f87_s w _ (by omega), bd_s, bI_0, e1, nwf_iff (fun a b _ _ => lk_sym D p (dl D) a b) hi]
      cases eq : di D p i
      · rw [if_neg (by simp), b_0]
        unfold f30_45 f30_46
        rw [nI_1]
        rfl
      · rw [if_pos rfl, b_mkl hi, cp_self, Bool.true_and]
        have e2 : decide (mk (cp (lk D p (dl D)) (di D p) i) &&& ((1 <<< (nI i &&& 31)) - 1) = 0) = !anyB (cp (lk D p (dl D)) (di D p) i) i := by
          cases q : anyB (cp (lk D p (dl D)) (di D p) i) i
          · refine decide_eq_true (sm_eq (sm_andl (sm_mk _)) sm_0 fun k hk => ?_)
            rw [b_and, b_mkl hk, b_low i hi k (by omega), b_0]
            by_cases c : k < i
            · rw [anyB_f.mp q k c]
              rfl
            · rw [decide_eq_false c, Bool.and_false]
          · obtain ⟨j, hj, q2⟩ := anyB_iff.mp q
            refine decide_eq_false fun q3 => ?_
            have q4 : bt (mk (cp (lk D p (dl D)) (di D p) i) &&& ((1 <<< (nI i &&& 31)) - 1)) j = true := by
              rw [b_and, b_mkl (by omega), q2, b_low i hi j (by omega), decide_eq_true hj]
              rfl
            rw [q3, b_0] at q4
            cases q4
        rw [e2, Bool.not_not]
        cases anyB (cp (lk D p (dl D)) (di D p) i) i
        · rfl
        · unfold f30_45 f30_46
          rw [nI_1]
          rfl
    rw [hst]
    cases e : nwf (lk D p (dl D)) (di D p) i
    · rw [Bool.false_and, if_neg (by simp)]
      rw [e] at key
      exact ⟨w, key, g1, g2⟩
    · rw [Bool.true_and]
      rw [e] at key
      have key2 : f30_7 a0 b0 (fun Me13 => some Me13) (n + 1) w (nI i) = bif decide (wD D (mk (cp (lk D p (dl D)) (di D p) i)) < nI (dm D)) then f30_7 a0 b0 (fun Me13 => some Me13) n w (nI (i + 1)) else (jm_bd (f31 w a0 (mk (cp (lk D p (dl D)) (di D p) i)) (wD D (mk (cp (lk D p (dl D)) (di D p) i)))) (fun q10 => f30_7 a0 b0 (fun Me13 => some Me13) n q10 (nI (i + 1)))) := by
        rw [key, cond_true]
        unfold f30_46
        rw [f20_d hw, bd_s, hw.2.2.1, nI_1]
        rfl
      cases e3 : decide (wD D (mk (cp (lk D p (dl D)) (di D p) i)) < nI (dm D))
      · rw [e3] at key2
        have hle := hst_le D p i
        obtain ⟨M2, q1, q2, q3⟩ := f31_s g2 (by omega) (mk (cp (lk D p (dl D)) (di D p) i))
        rw [q1, bd_s, cond_false] at key2
        exact ⟨M2, key2, fun b b1 b2 b3 => by rw [q2 b b1 b2 b3, g1 b b1 b2 b3], q3⟩
      · rw [e3] at key2
        exact ⟨w, key2, g1, g2⟩
/-! the reference's -/
theorem f122_s (M : jm_MM) {x : Int32} {g : Nat} (hg : g < 24) (h1 : bt x g = true) (h2 : ∀ k, k < g → bt x k = false) : f122 M x = some (nI g) := by
  unfold f122
  refine lpX0 (fun n (_ : Unit) u => f122_2 M (fun ve4 => some ve4) n x u) (fun r => r = some (nI g)) (fun _ _ => True) g (by omega) ?_ ?_ () trivial
  · intro n _ _
    show f122_2 M _ (n + 1) x (nI g) = _
    rw [f122_2, f94_s M _ (by omega), bd_s, bI_0, h1]
    rfl
  · intro n i _ hi _
    refine Or.inr ⟨(), ?_, trivial⟩
    show f122_2 M _ (n + 1) x (nI i) = f122_2 M _ n x (nI (i + 1))
    rw [f122_2, f94_s M _ (by omega), bd_s, bI_0, h2 i hi, nI_1]
    rfl
theorem f123_d {M : jm_MM} {D : hD} (h : hM M 0 D) {x y : Int32} {g g' : Nat} (hg : g < 24) (h1 : bt x g = true) (h2 : ∀ k, k < g → bt x k = false) (hg' : g' < g) (h3 : bt y g' = true) (h4 : ∀ k, k < g' → bt y k = false) : f123 M x y = some (bI (decide (wD D y < wD D x))) := by
  unfold f123
  rw [f119_d h x, bd_s, f119_d h y, bd_s, f122_s M hg h1 h2, f122_s M (show g' < 24 by omega) h3 h4, bd_s, bd_s, bd_s, bd_s, dle (by omega) (by omega), decide_eq_true (Nat.le_of_lt hg')]
  cases decide (wD D y < wD D x)
  · cases decide (wD D x = wD D y) <;> rfl
  · rfl
def isHm (M : jm_MM) (p : Nat) (F : Nat → Int32) (c : Nat) : Prop := M 117 p = nI c ∧ ∀ i, i < c → M 116 (24 * p + i) = F i
theorem ix24' (p g : Nat) : 24 * nI p + nI g = nI (24 * p + g) := by
  show nI 24 * nI p + nI g = _
  rw [pk_mul, nI_add]
theorem f124_78_s {D : hD} (ke0 : jm_MM → Int32 → Int32 → Int32 → Int32 → Int32 → Option jm_MM) (F : Nat → Int32) (x x2 x3 : Int32) {p : Nat} (hp : p < 6) {g : Nat} (hg : g < 24) (hx1 : bt x g = true) (hx2 : ∀ k, k < g → bt x k = false) :
    ∀ (k n : Nat) (M : jm_MM), hM M 0 D → k < n → k < 24 → (∀ i, i < k → M 116 (24 * p + i) = F i ∧ ∃ s, s < g ∧ bt (F i) s = true ∧ ∀ m, m < s → bt (F i) m = false) →
    ∃ M', f124_78 ke0 n M (nI p) x2 x3 x (nI k) = ke0 M' (nI p) x2 x3 x (nI (pos (wD D) (wD D x) F k)) ∧ (∀ b, b ≠ 116 → M' b = M b) ∧ ∀ j, M' 116 j = if 24 * p + pos (wD D) (wD D x) F k < j ∧ j ≤ 24 * p + k then F (j - 24 * p - 1) else M 116 j
  | 0, n, M, _, hn, _, _ => by
    obtain ⟨m, rfl⟩ : ∃ m, n = m + 1 := ⟨n - 1, by omega⟩
    refine ⟨M, ?_, fun _ _ => rfl, fun j => by rw [if_neg (by omega)]⟩
    rw [f124_78, show decide (nI 0 ≤ 0) = true by decide +kernel, cond_true, pos]
  | k + 1, n, M, hM0, hn, h24, h => by
    obtain ⟨m, rfl⟩ : ∃ m, n = m + 1 := ⟨n - 1, by omega⟩
    have e0 : decide (nI (k + 1) ≤ 0) = false := decide_eq_false (nI_nle (by omega) (by omega))
    obtain ⟨hF, s, hs, hs1, hs2⟩ := h k (by omega)
    rw [f124_78, e0, cond_false, ix24', show nI (24 * p + (k + 1)) - 1 = nI (24 * p + k) from nI_pred (24 * p + k), inb_s (show 24 * p + k < 144 by omega) (by omega), gd_t, cl_s (show 24 * p + k < 2 ^ 31 by omega), hF, f123_d hM0 hg hx1 hx2 hs hs1 hs2, bd_s, bI_0, pos]
    by_cases c : wD D (F k) < wD D x
    · rw [if_pos c, decide_eq_true c, Bool.not_true, cond_false, gd_t, inb_s (show 24 * p + (k + 1) < 144 by omega) (by omega), gd_t, cl_s (by omega), pk_m1]
      have r1 : ∀ j, jm_up M 116 (24 * p + (k + 1)) (F k) 116 j = if j = 24 * p + (k + 1) then F k else M 116 j := fun j => by
        by_cases q : j = 24 * p + (k + 1)
        · subst q
          rw [jup_eq, if_pos rfl]
        · rw [jup_nj q, if_neg q]
      have hp2 := pos_le (wD D) (wD D x) F k
      obtain ⟨M', q1, q2, q3⟩ := f124_78_s ke0 F x x2 x3 hp hg hx1 hx2 k m (jm_up M 116 (24 * p + (k + 1)) (F k)) (hM_fr hM0 (jup_ne (by omega))) (by omega) (by omega) (fun i hi => ⟨by rw [r1, if_neg (by omega)]; exact (h i (by omega)).1, (h i (by omega)).2⟩)
      refine ⟨M', q1, fun b hb => by rw [q2 b hb, jup_ne hb], fun j => ?_⟩
      rw [q3 j, r1]
      by_cases a1 : 24 * p + pos (wD D) (wD D x) F k < j ∧ j ≤ 24 * p + k
      · rw [if_pos a1, if_pos (by omega)]
      · rw [if_neg a1]
        by_cases a2 : j = 24 * p + (k + 1)
        · rw [if_pos a2, if_pos (by omega), a2]
          congr 1
          omega
        · rw [if_neg a2, if_neg (by omega)]
    · rw [if_neg c, decide_eq_false c, Bool.not_false, cond_true]
      exact ⟨M, rfl, fun _ _ => rfl, fun j => by rw [if_neg (by omega)]⟩
theorem f124_d {M : jm_MM} {D : hD} (h : hM M 0 D) (hk : hok D) {p : Nat} (hp : p < 6) :
    ∃ M', f124 M (nI p) = some M' ∧ (∀ b, b ≠ 116 → b ≠ 117 → M' b = M b) ∧ (∀ q, q ≠ p → M' 117 q = M 117 q) ∧ (∀ j, j < 24 * p ∨ 24 * p + 24 ≤ j → M' 116 j = M 116 j) ∧ isHm M' p (hH D p) (hN D p) := by
  have hL : dl D ≤ 90 := Nat.le_trans hk.2.1 (by omega)
  unfold f124
  rw [f102_d h hp, bd_s, inb6 hp, gd_t, cl_s (by omega)]
  have hx := lpI (fun n (a : jm_MM × Int32) u => f124_15 (fun Me32 => some Me32) n a.1 (nI p) a.2 u) (fun a => some a.1)
    (fun i a => (∀ b, b ≠ 116 → b ≠ 117 → a.1 b = M b) ∧ (∀ q, q ≠ p → a.1 117 q = M 117 q) ∧ (∀ j, j < 24 * p ∨ 24 * p + 24 ≤ j → a.1 116 j = M 116 j) ∧ isHm a.1 p (hst D p i).1 (hst D p i).2 ∧ a.2 = mk (fun k => di D p k && !dnf (lk D p (dl D)) (di D p) i k)) 24 (by omega) ?_ ?_ (jm_up M 117 p 0, mk (di D p)) ?_
  · obtain ⟨⟨M', l⟩, q1, q2, q3, q4, q5, -⟩ := hx
    exact ⟨M', q1, q2, q3, q4, q5⟩
  · rintro n ⟨w, l⟩ _
    show f124_15 _ (n + 1) w (nI p) l (nI 24) = _
    rw [f124_15, c24e, cond_true]
  · rintro n i ⟨w, l⟩ hi ⟨g1, g2, g3, g4, g5⟩
    simp only at g1 g2 g3 g4 g5
    have hw : hM w 0 D := hM_fr h (g1 114 (by omega) (by omega))
    have key : f124_15 (fun Me32 => some Me32) (n + 1) w (nI p) l (nI i) = bif nwf (lk D p (dl D)) (di D p) i then (jm_bd (f102 w (nI p)) (fun q8 => jm_bd (f120 w (nI p) (nI i) q8 (w 114 0)) (fun q10 => jm_bd (f119 w q10) (fun q12 => bif decide (q12 < (w 114 1)) then ((f124_15 (fun Me32 => some Me32) n) w (nI p) (l &&& (q10 ^^^ (-1))) (nI (i + 1))) else (jm_gd (jm_inb (nI p) 6) (f124_78 (fun Me23 ve24 ve25 ve26 ve27 ve28 => f124_138 (f124_15 (fun Me32 => some Me32) n) (fun Me32 => some Me32) Me23 ve24 ve25 ve26 ve27 ve28) jm_F w (nI p) (l &&& (q10 ^^^ (-1))) (nI i) q10 (w 117 (nI p).toNatClampNeg))))))) else f124_15 (fun Me32 => some Me32) n w (nI p) l (nI (i + 1)) := by
      rw [f124_15, c24 hi, cond_false, f94_s w _ (by omega), bd_s, bI_0, g5, b_mkl hi, nI_1, show (di D p i && !dnf (lk D p (dl D)) (di D p) i i) = nwf (lk D p (dl D)) (di D p) i from rfl]
      cases nwf (lk D p (dl D)) (di D p) i <;> rfl
    rw [hst]
    cases e : nwf (lk D p (dl D)) (di D p) i
    · rw [Bool.false_and, if_neg (by simp)]
      rw [e, cond_false] at key
      refine ⟨(w, l), key, g1, g2, g3, g4, ?_⟩
      show l = _
      rw [g5]
      refine mk_ext fun k hk2 => ?_
      show (di D p k && !dnf (lk D p (dl D)) (di D p) i k) = (di D p k && !dnf (lk D p (dl D)) (di D p) (i + 1) k)
      rw [dnf_old hi hk2 e]
    · have eQ : di D p i = true := by
        rw [nwf, Bool.and_eq_true] at e
        exact e.1
      have e2 := e
      rw [nwf_iff (fun a b _ _ => lk_sym D p (dl D) a b) hi, Bool.and_eq_true, Bool.not_eq_true'] at e2
      have el : l &&& (mk (cp (lk D p (dl D)) (di D p) i) ^^^ (-1)) = mk (fun k => di D p k && !dnf (lk D p (dl D)) (di D p) (i + 1) k) := by
        rw [g5]
        refine mk_eq (sm_andl (sm_mk _)) fun k hk2 => ?_
        rw [b_and, b_not _ (by omega), b_mkl hk2, b_mkl hk2, dnf_new e, Bool.not_or, Bool.and_assoc]
      rw [e, cond_true, f102_d hw hp, bd_s, hM_l hw, f120_s w (lk D p (dl D)) (di D p) (nI p) (nI (dl D)) hi eQ (fun a b ha hb q1 q2 => f118_d hw hp ha hb hk hL q1 q2), bd_s, f119_d hw, bd_s, hM_m hw, inb6 hp, gd_t, cl_s (by omega), el, g4.1] at key
      rw [Bool.true_and]
      cases e3 : decide (wD D (mk (cp (lk D p (dl D)) (di D p) i)) < nI (dm D))
      · rw [e3, cond_false] at key
        rw [Bool.not_false, if_pos rfl]
        have hle := hst_le D p i
        have hx1 : bt (mk (cp (lk D p (dl D)) (di D p) i)) i = true := by rw [b_mkl hi, cp_self]
        have hx2 : ∀ k, k < i → bt (mk (cp (lk D p (dl D)) (di D p) i)) k = false := fun k hk2 => by rw [b_mkl (by omega)]; exact anyB_f.mp e2.2 k hk2
        obtain ⟨M2, q1, q2, q3⟩ := f124_78_s (D := D) (fun Me23 ve24 ve25 ve26 ve27 ve28 => f124_138 (f124_15 (fun Me32 => some Me32) n) (fun Me32 => some Me32) Me23 ve24 ve25 ve26 ve27 ve28) (hst D p i).1 (mk (cp (lk D p (dl D)) (di D p) i)) (mk (fun k => di D p k && !dnf (lk D p (dl D)) (di D p) (i + 1) k)) (nI i) hp hi hx1 hx2 (hst D p i).2 jm_F w hw (show _ < 5000 by omega) (by omega) (fun j hj => ⟨g4.2 j hj, by
          obtain ⟨s, s1, s2, s3⟩ := hst_in D p i j hj
          rw [nwf_iff (fun a b _ _ => lk_sym D p (dl D) a b) (by omega), Bool.and_eq_true, Bool.not_eq_true'] at s2
          refine ⟨s, s1, ?_, fun m hm => ?_⟩
          · rw [s3, b_mkl (by omega), cp_self]
          · rw [s3, b_mkl (by omega)]
            exact anyB_f.mp s2.2 m hm⟩)
        have hpl := pos_le (wD D) (wD D (mk (cp (lk D p (dl D)) (di D p) i))) (hst D p i).1 (hst D p i).2
        unfold insF
        obtain ⟨ps, hps⟩ : ∃ ps, ps = pos (wD D) (wD D (mk (cp (lk D p (dl D)) (di D p) i))) (hst D p i).1 (hst D p i).2 := ⟨_, rfl⟩
        rw [← hps] at q1 q3 hpl
        rw [q1] at key
        rw [← hps]
        unfold f124_138 at key
        rw [ix24', inb_s (show 24 * p + ps < 144 by omega) (by omega), gd_t, inb6 hp, gd_t, gd_t, cl_s (show 24 * p + ps < 2 ^ 31 by omega), cl_s (show p < 2 ^ 31 by omega), nI_1] at key
        obtain ⟨M3, hM3⟩ : ∃ M3, M3 = jm_up (jm_up M2 116 (24 * p + ps) (mk (cp (lk D p (dl D)) (di D p) i))) 117 p ((jm_up M2 116 (24 * p + ps) (mk (cp (lk D p (dl D)) (di D p) i))) 117 p + 1) := ⟨_, rfl⟩
        rw [← hM3] at key
        refine ⟨(M3, mk (fun k => di D p k && !dnf (lk D p (dl D)) (di D p) (i + 1) k)), key, fun b hb hb2 => ?_, fun q hq => ?_, fun j hj => ?_, ⟨?_, fun j hj => ?_⟩, rfl⟩ <;> simp only [hM3]
        · rw [jup_ne hb2, jup_ne hb, q2 b hb, g1 b hb hb2]
        · rw [jup_nj hq, jup_ne (by omega), q2 117 (by omega), g2 q hq]
        · rw [jup_ne (by omega), jup_nj (by omega), q3, if_neg (by omega), g3 j hj]
        · rw [jup_eq, jup_ne (by omega), q2 117 (by omega), g4.1, nI_1]
        · rw [jup_ne (by omega)]
          simp only at hj
          by_cases a : j = ps
          · rw [if_neg (by omega), if_pos a, ← a, jup_eq]
          · rw [jup_nj (by omega), q3, if_neg a]
            by_cases a2 : j < ps
            · rw [if_pos a2, if_neg (by omega), g4.2 j (by omega)]
            · rw [if_neg a2, if_pos (by omega), show 24 * p + j - 24 * p - 1 = j - 1 by omega]
      · rw [e3, cond_true] at key
        rw [Bool.not_true, if_neg (by simp)]
        exact ⟨(w, mk (fun k => di D p k && !dnf (lk D p (dl D)) (di D p) (i + 1) k)), key, g1, g2, g3, g4, rfl⟩
  · refine ⟨fun b _ hb => jup_ne hb, fun q hq => (by show jm_up M 117 p 0 117 q = M 117 q; rw [jup_nj hq]), fun j _ => (by show jm_up M 117 p 0 116 j = M 116 j; rw [jup_ne (by omega)]), ⟨(by show jm_up M 117 p 0 117 p = nI 0; rw [jup_eq, nI_0]), fun i hi => absurd hi (Nat.not_lt_zero i)⟩, ?_⟩
    refine mk_ext fun k _ => ?_
    show di D p k = (di D p k && !false)
    rw [Bool.not_false, Bool.and_true]
theorem f125_d {M : jm_MM} {D : hD} (h : hM M 0 D) (hk : hok D) :
    ∃ M', f125 M = some M' ∧ (∀ b, b ≠ 116 → b ≠ 117 → M' b = M b) ∧ ∀ p, p < dn D → isHm M' p (hH D p) (hN D p) := by
  have h6 : dn D ≤ 6 := hk.1
  unfold f125
  refine lpI (fun n (w : jm_MM) u => f125_2 (fun Me4 => some Me4) n w u) (fun a => some a) (fun i w => (∀ b, b ≠ 116 → b ≠ 117 → w b = M b) ∧ ∀ p, p < i → isHm w p (hH D p) (hN D p)) (dn D) (by omega) ?_ ?_ M ⟨fun _ _ _ => rfl, fun p hp => absurd hp (Nat.not_lt_zero p)⟩
  · rintro n w ⟨g1, -⟩
    show f125_2 _ (n + 1) w (nI (dn D)) = _
    rw [f125_2, hM_n (hM_fr h (g1 114 (by omega) (by omega))), dle (by omega) (by omega), decide_eq_true (Nat.le_refl _), cond_true]
  · rintro n i w hi ⟨g1, g2⟩
    have hw : hM w 0 D := hM_fr h (g1 114 (by omega) (by omega))
    obtain ⟨w', q1, q2, q3, q4, q5⟩ := f124_d hw hk (show i < 6 by omega)
    refine ⟨w', ?_, fun b b1 b2 => by rw [q2 b b1 b2, g1 b b1 b2], fun p hp => ?_⟩
    · show f125_2 _ (n + 1) w (nI i) = f125_2 _ n w' (nI (i + 1))
      rw [f125_2, hM_n hw, dle (by omega) (by omega), decide_eq_false (by omega), cond_false, q1, bd_s, nI_1]
    · by_cases c : p = i
      · subst c
        exact q5
      · have hle := hN_le D p
        obtain ⟨r1, r2⟩ := g2 p (by omega)
        exact ⟨by rw [q3 p c, r1], fun j hj => by rw [q4 _ (by omega), r2 j hj]⟩
