/-! ===== questions on halos, places, steps ===== -/
def vH (D : hD) (x0 x1 : Int32) : Bool := vP (dn D) x0 && vP (hN D x0.toNatClampNeg) x1
theorem vH_in {D : hD} (hk : hok D) {x0 x1 : Int32} (h : vH D x0 x1 = true) : ∃ p k, p < dn D ∧ k < hN D p ∧ x0 = nI p ∧ x1 = nI k := by
  have h6 := hk.1
  unfold vH at h
  rw [Bool.and_eq_true] at h
  obtain ⟨p, hp, rfl⟩ := vP_in (by omega) h.1
  have hle := hN_le D p
  have h2 := h.2
  rw [cl_s (by omega)] at h2
  obtain ⟨k, hk2, rfl⟩ := vP_in (by omega) h2
  exact ⟨p, k, hp, hk2, rfl, rfl⟩
theorem sm_cF (D : hD) (p h : Nat) : sm24 (cF D p h) := by
  cases p with
  | zero => exact sm_0
  | succ q =>
    have hle := hN_le D q
    intro i hi
    show bt (mkN (gP D q h) (hN D q)) i = false
    rcases Nat.lt_or_ge i 32 with c | c
    · rw [b_mkN _ c _ (by omega), decide_eq_false (by omega), Bool.false_and]
    · exact b_big c
theorem f22_id {M : jm_MM} (h : M 39 0 = 1) : f22 M = some M := by
  unfold f22
  rw [h]
  rfl
section
variable {M : jm_MM} {A : hA}
theorem f82_d (h : CI M A) (x0 x1 : Int32) : ∃ M1, f82 M x0 x1 = some (bI (vH (aD A) x0 x1), M1) ∧ CI M1 A ∧ (∀ b, b < 39 ∨ 102 ≤ b → M1 b = M b) ∧ (vH (aD A) x0 x1 = true → Sv M1 (aD A) ∧ M1 39 0 = 1) := by
  have hk := h.1.2.1
  have h6 := hk.1
  have hv := fun q => vH_in (D := aD A) hk (x0 := x0) (x1 := x1) q
  unfold f82
  rw [f80_d h.1.1, bd_s, bI_0]
  unfold vH at hv ⊢
  cases c : vP (dn (aD A)) x0
  · exact ⟨M, rfl, h, fun _ _ => rfl, fun q => (by cases q)⟩
  · obtain ⟨p, hp, rfl⟩ := vP_in (by omega) c
    obtain ⟨M1, a1, a2, a3, a4, a5⟩ := sv_q h
    rw [Bool.not_true, cond_false, a1, bd_s, inb6 (by omega), gd_t, cl_s (by omega), (a3.2 p hp).1.2.1, Bool.true_and]
    unfold vP
    cases c2 : decide (x1 < 0)
    · refine ⟨M1, ?_, a2, a5, fun _ => ⟨a3, a4⟩⟩
      cases decide (nI (hN (aD A) p) ≤ x1) <;> rfl
    · exact ⟨M, rfl, h, fun _ _ => rfl, fun q => (by cases q)⟩
theorem f126_d {D : hD} (h : hM M 0 D) (hk : hok D) (x0 x1 : Int32) : ∃ M2, f126 M x0 x1 = some (bI (vH D x0 x1), M2) ∧ (∀ b, b ≠ 116 → b ≠ 117 → M2 b = M b) ∧ (vH D x0 x1 = true → HM M2 D) := by
  have h6 := hk.1
  unfold f126 vH
  rw [f96_d h hk, bd_s, bI_0, Bool.not_not]
  cases c : vP (dn D) x0
  · exact ⟨M, rfl, fun _ _ _ => rfl, fun q => (by cases q)⟩
  · obtain ⟨p, hp, rfl⟩ := vP_in (by omega) c
    have hle := hN_le D p
    obtain ⟨M2, b1, b2, b3⟩ := f125_d h hk
    rw [cond_true, b1, bd_s, inb6 (by omega), gd_t, cl_s (by omega), (b3 p hp).1, show (0 : Int64) = (0 : Int32).toInt64 by decide +kernel, f93_s, bd_s, bI_z, gd_t, vP_vB (by omega), Bool.true_and]
    exact ⟨M2, rfl, b2, fun _ => ⟨hM_fr h (b2 114 (by omega) (by omega)), b3⟩⟩
theorem op11 (hI : Inv M) (x0 x1 x2 : Int32) : okS M (f68 M x0 x1 x2) (fun N => f143 N x0 x1 x2) := by
  obtain ⟨A, hC0, hM0⟩ := hI
  have hk := hC0.1.2.1
  have h6 := hk.1
  obtain ⟨M1, a1, a2, a3, a4⟩ := f82_d hC0 x0 x1
  have mi := MI_q hM0 (fun b hb => a3 b (by omega))
  obtain ⟨M2, b1, b2, b3⟩ := f126_d mi.1 hk x0 x1
  have s1 := f68.eq_1 M x0 x1 x2
  rw [a1, bd_s, bI_0, Bool.not_not] at s1
  have s2 := f143.eq_1 M1 x0 x1 x2
  rw [b1, bd_s, bI_0, Bool.not_not] at s2
  cases c : vH (aD A) x0 x1
  · rw [c, cond_false] at s1 s2
    exact okS_q hM0 s1 a2 (fun b hb => a3 b (by omega)) s2 (fun b q1 q2 => b2 b (by omega) (by omega)) (fun t _ _ => congrFun (b2 113 (by omega) (by omega)) t)
  obtain ⟨p, k, hp, hkk, rfl, rfl⟩ := vH_in hk c
  have hle := hN_le (aD A) p
  have hk24 : k < 24 := by omega
  obtain ⟨sv, s39⟩ := a4 c
  have hm := b3 c
  have svp := sv.2 p hp
  rw [c, cond_true, f22_id s39, bd_s, inb6 (by omega), gd_t, inb24 hk24, cl_s (show p < 2 ^ 31 by omega), cl_s (show k < 2 ^ 31 by omega)] at s1
  rw [c, cond_true] at s2
  have fin : ∀ r, f68 M (nI p) (nI k) x2 = some (r, M1) → f143 M1 (nI p) (nI k) x2 = some (r, M2) → okS M (f68 M (nI p) (nI k) x2) (fun N => f143 N (nI p) (nI k) x2) := fun r q1 q2 => okS_q hM0 q1 a2 (fun b hb => a3 b (by omega)) q2 (fun b q1 q2 => b2 b (by omega) (by omega)) (fun t _ _ => congrFun (b2 113 (by omega) (by omega)) t)
  by_cases h0 : x2 = 0
  · subst h0
    rw [decide_eq_true (rfl : (0 : Int32) = 0), cond_true, gd_t, (svp.1.2.2 k hkk).1] at s1
    rw [decide_eq_true (rfl : (0 : Int32) = 0), cond_true, f127_d hm hk hp hkk, bd_s] at s2
    exact fin _ s1 s2
  by_cases h1 : x2 = 1
  · subst h1
    rw [decide_eq_false h0, cond_false, decide_eq_true (rfl : (1 : Int32) = 1), cond_true, gd_t, (svp.1.2.2 k hkk).2] at s1
    rw [decide_eq_false h0, cond_false, decide_eq_true (rfl : (1 : Int32) = 1), cond_true, f127_d hm hk hp hkk, bd_s, f119_d hm.1, bd_s] at s2
    exact fin _ s1 s2
  by_cases h2 : x2 = 2
  · subst h2
    rw [decide_eq_false h0, cond_false, decide_eq_false h1, cond_false, decide_eq_true (rfl : (2 : Int32) = 2), cond_true, gd_t, svp.2.1 k hkk] at s1
    rw [decide_eq_false h0, cond_false, decide_eq_false h1, cond_false, decide_eq_true (rfl : (2 : Int32) = 2), cond_true, f128_d hm hk hp hkk, bd_s] at s2
    exact fin _ s1 s2
  by_cases h3 : x2 = 3
  · subst h3
    rw [decide_eq_false h0, cond_false, decide_eq_false h1, cond_false, decide_eq_false h2, cond_false, decide_eq_true (rfl : (3 : Int32) = 3), cond_true, gd_t, (svp.2.2 k hk24).1, f164_s M1 (sm_cF _ _ _), bd_s] at s1
    rw [decide_eq_false h0, cond_false, decide_eq_false h1, cond_false, decide_eq_false h2, cond_false, decide_eq_true (rfl : (3 : Int32) = 3), cond_true, f129_d hm hk hp, bd_s, f95_s, bd_s] at s2
    exact fin _ s1 s2
  by_cases h4 : x2 = 4
  · subst h4
    rw [decide_eq_false h0, cond_false, decide_eq_false h1, cond_false, decide_eq_false h2, cond_false, decide_eq_false h3, cond_false, decide_eq_true (rfl : (4 : Int32) = 4), cond_true, gd_t, (svp.2.2 k hk24).2.1] at s1
    rw [decide_eq_false h0, cond_false, decide_eq_false h1, cond_false, decide_eq_false h2, cond_false, decide_eq_false h3, cond_false, decide_eq_true (rfl : (4 : Int32) = 4), cond_true, f130_d hm hk hp, bd_s] at s2
    exact fin _ s1 s2
  by_cases h5 : x2 = 5
  · subst h5
    rw [decide_eq_false h0, cond_false, decide_eq_false h1, cond_false, decide_eq_false h2, cond_false, decide_eq_false h3, cond_false, decide_eq_false h4, cond_false, decide_eq_true (rfl : (5 : Int32) = 5), cond_true, gd_t, (svp.2.2 k hk24).2.2] at s1
    rw [decide_eq_false h0, cond_false, decide_eq_false h1, cond_false, decide_eq_false h2, cond_false, decide_eq_false h3, cond_false, decide_eq_false h4, cond_false, decide_eq_true (rfl : (5 : Int32) = 5), cond_true, f131_d hm hk hp hkk, bd_s] at s2
    exact fin _ s1 s2
  by_cases h6 : x2 = 6
  · subst h6
    rw [decide_eq_false h0, cond_false, decide_eq_false h1, cond_false, decide_eq_false h2, cond_false, decide_eq_false h3, cond_false, decide_eq_false h4, cond_false, decide_eq_false h5, cond_false, decide_eq_true (rfl : (6 : Int32) = 6), cond_true, gd_t, f24_d sv hk hp hkk, bd_s, (svp.1.2.2 k hkk).2] at s1
    rw [decide_eq_false h0, cond_false, decide_eq_false h1, cond_false, decide_eq_false h2, cond_false, decide_eq_false h3, cond_false, decide_eq_false h4, cond_false, decide_eq_false h5, cond_false, decide_eq_true (rfl : (6 : Int32) = 6), cond_true, f142_d hm hk hp hkk, bd_s] at s2
    exact fin _ s1 s2
  by_cases h7 : x2 = 7
  · subst h7
    rw [decide_eq_false h0, cond_false, decide_eq_false h1, cond_false, decide_eq_false h2, cond_false, decide_eq_false h3, cond_false, decide_eq_false h4, cond_false, decide_eq_false h5, cond_false, decide_eq_false h6, cond_false, decide_eq_true (rfl : (7 : Int32) = 7), cond_true, f91_d a2.1.1 sv s39 hk hp hkk, bd_s] at s1
    rw [decide_eq_false h0, cond_false, decide_eq_false h1, cond_false, decide_eq_false h2, cond_false, decide_eq_false h3, cond_false, decide_eq_false h4, cond_false, decide_eq_false h5, cond_false, decide_eq_false h6, cond_false, decide_eq_true (rfl : (7 : Int32) = 7), cond_true, f132_d hm hk hp hkk, bd_s] at s2
    exact fin _ s1 s2
  rw [decide_eq_false h0, cond_false, decide_eq_false h1, cond_false, decide_eq_false h2, cond_false, decide_eq_false h3, cond_false, decide_eq_false h4, cond_false, decide_eq_false h5, cond_false, decide_eq_false h6, cond_false, decide_eq_false h7, cond_false] at s1 s2
  exact fin _ s1 s2
theorem op12 (hI : Inv M) (x0 x1 : Int32) : okS M (f69 M x0 x1) (fun N => f144 N x0 x1) := by
  obtain ⟨A, hC0, hM0⟩ := hI
  have hk := hC0.1.2.1
  have h6 := hk.1
  obtain ⟨M1, a1, a2, a3, a4⟩ := f82_d hC0 x0 x1
  have mi := MI_q hM0 (fun b hb => a3 b (by omega))
  obtain ⟨M2, b1, b2, b3⟩ := f126_d mi.1 hk x0 x1
  have s1 := f69.eq_1 M x0 x1
  rw [a1, bd_s, bI_0, Bool.not_not] at s1
  have s2 := f144.eq_1 M1 x0 x1
  rw [b1, bd_s, bI_0] at s2
  cases c : vH (aD A) x0 x1
  · rw [c, cond_false] at s1
    rw [c, Bool.not_false, cond_true] at s2
    exact okS_q hM0 s1 a2 (fun b hb => a3 b (by omega)) s2 (fun b q1 q2 => b2 b (by omega) (by omega)) (fun t _ _ => congrFun (b2 113 (by omega) (by omega)) t)
  obtain ⟨p, k, hp, hkk, rfl, rfl⟩ := vH_in hk c
  have hle := hN_le (aD A) p
  have hk24 : k < 24 := by omega
  obtain ⟨sv, s39⟩ := a4 c
  have hm := b3 c
  rw [c, cond_true, f22_id s39, bd_s, inb6 (by omega), gd_t, inb24 hk24, gd_t, cl_s (show p < 2 ^ 31 by omega), cl_s (show k < 2 ^ 31 by omega), ((sv.2 p hp).2.2 k hk24).1] at s1
  rw [c, Bool.not_true, cond_false, f129_d hm hk hp, bd_s] at s2
  exact okS_q hM0 s1 a2 (fun b hb => a3 b (by omega)) s2 (fun b q1 q2 => b2 b (by omega) (by omega)) (fun t _ _ => congrFun (b2 113 (by omega) (by omega)) t)
theorem op13 (hI : Inv M) (x0 x1 x2 : Int32) : okS M (f70 M x0 x1 x2) (fun N => f145 N x0 x1 x2) := by
  obtain ⟨A, hC0, hM0⟩ := hI
  have hk := hC0.1.2.1
  have h6 := hk.1
  obtain ⟨M1, a1, a2, a3, a4⟩ := f82_d hC0 x0 x1
  have mi := MI_q hM0 (fun b hb => a3 b (by omega))
  obtain ⟨M2, b1, b2, b3⟩ := f126_d mi.1 hk x0 x1
  have s1 := f70.eq_1 M x0 x1 x2
  rw [a1, bd_s, bI_0, Bool.not_not] at s1
  have s2 := f145.eq_1 M1 x0 x1 x2
  rw [b1, bd_s, bI_0, Bool.not_not] at s2
  cases c : vH (aD A) x0 x1
  · rw [c, cond_false] at s1 s2
    exact okS_q hM0 s1 a2 (fun b hb => a3 b (by omega)) s2 (fun b q1 q2 => b2 b (by omega) (by omega)) (fun t _ _ => congrFun (b2 113 (by omega) (by omega)) t)
  obtain ⟨p, k, hp, hkk, rfl, rfl⟩ := vH_in hk c
  obtain ⟨sv, s39⟩ := a4 c
  have hm := b3 c
  rw [c, cond_true] at s1 s2
  by_cases c2 : (0 : Int32) ≤ x2
  · obtain ⟨j, hj, rfl⟩ := nI_of (x := x2) (fun q => (fa_of_lt q).2.1 c2)
    rw [decide_eq_true c2, cond_true, f22_id s39, bd_s, f23_d sv hk hp hkk hj, bd_s] at s1
    rw [decide_eq_true c2, cond_true] at s2
    have e := f145_25_d hm hk (fun Me9 ve10 => some (ve10, Me9)) p hp p jm_F 0 j k (by omega) (show p + 2 < 5000 by omega) hkk (by omega)
    rw [Nat.zero_add, nI_0] at e
    simp only at s2
    rw [e] at s2
    exact okS_q hM0 s1 a2 (fun b hb => a3 b (by omega)) s2 (fun b q1 q2 => b2 b (by omega) (by omega)) (fun t _ _ => congrFun (b2 113 (by omega) (by omega)) t)
  · rw [decide_eq_false c2, cond_false] at s1 s2
    exact okS_q hM0 s1 a2 (fun b hb => a3 b (by omega)) s2 (fun b q1 q2 => b2 b (by omega) (by omega)) (fun t _ _ => congrFun (b2 113 (by omega) (by omega)) t)
theorem op14 (hI : Inv M) (x0 x1 x2 : Int32) : okS M (f71 M x0 x1 x2) (fun N => f146 N x0 x1 x2) := by
  obtain ⟨A, hC0, hM0⟩ := hI
  have hk := hC0.1.2.1
  have h6 := hk.1
  obtain ⟨M1, a1, a2, a3, a4⟩ := f82_d hC0 x0 x1
  have s1 := f71.eq_1 M x0 x1 x2
  rw [a1, bd_s, bI_0] at s1
  cases c : vH (aD A) x0 x1
  · have mi := MI_q hM0 (fun b hb => a3 b (by omega))
    obtain ⟨M2, b1, b2, b3⟩ := f126_d mi.1 hk x0 x1
    rw [c, Bool.not_false, cond_true] at s1
    refine okS_q hM0 s1 a2 (fun b hb => a3 b (by omega)) ?_ (fun b q1 q2 => b2 b (by omega) (by omega)) (fun t _ _ => congrFun (b2 113 (by omega) (by omega)) t)
    show f146 M1 x0 x1 x2 = _
    rw [f146, b1, bd_s, bI_0, c, Bool.not_false, cond_true]
  obtain ⟨p, k, hp, hkk, rfl, rfl⟩ := vH_in hk c
  have hle := hN_le (aD A) p
  obtain ⟨N1, d1, d2, d3, d4⟩ := f82_d a2 (nI (p + 1)) x2
  rw [c, Bool.not_true, cond_false, nI_1, d1, bd_s, bI_0, Bool.not_not] at s1
  have fr : ∀ b, b < 39 ∨ 102 ≤ b → N1 b = M b := fun b hb => by rw [d3 b hb, a3 b hb]
  have mi := MI_q hM0 (fun b hb => fr b (by omega))
  obtain ⟨M2, b1, b2, b3⟩ := f126_d mi.1 hk (nI p) (nI k)
  have s2 := f146.eq_1 N1 (nI p) (nI k) x2
  rw [b1, bd_s, bI_0, c, Bool.not_true, cond_false, nI_1] at s2
  have hm2 : hM M2 0 (aD A) := hM_fr mi.1 (b2 114 (by omega) (by omega))
  have e5 : decide ((bI true, M2).2 114 2 ≤ nI (p + 1)) = decide (dn (aD A) ≤ p + 1) := by
    show decide (M2 114 2 ≤ nI (p + 1)) = _
    rw [hM_n hm2, dle (by omega) (by omega)]
  rw [e5] at s2
  simp only at s2
  by_cases c2 : dn (aD A) ≤ p + 1
  · have e2 : vH (aD A) (nI (p + 1)) x2 = false := by
      unfold vH vP
      rw [decide_eq_true (nI_le c2 (by omega)), Bool.not_true, Bool.and_false, Bool.false_and]
    rw [e2, cond_false] at s1
    rw [decide_eq_true c2, cond_true] at s2
    exact okS_q hM0 s1 d2 (fun b hb => fr b (by omega)) s2 (fun b q1 q2 => b2 b (by omega) (by omega)) (fun t _ _ => congrFun (b2 113 (by omega) (by omega)) t)
  · obtain ⟨M3, g1, g2, g3⟩ := f126_d hm2 hk (nI (p + 1)) x2
    rw [decide_eq_false c2, cond_false, g1, bd_s, bI_0, Bool.not_not] at s2
    have fm : ∀ b, b ≠ 113 → b < 116 ∨ 125 < b → M3 b = N1 b := fun b q1 q2 => by rw [g2 b (by omega) (by omega), b2 b (by omega) (by omega)]
    have f3 : ∀ t, t ≠ 6 → t ≠ 11 → M3 113 t = N1 113 t := fun t _ _ => by rw [g2 113 (by omega) (by omega), b2 113 (by omega) (by omega)]
    cases c3 : vH (aD A) (nI (p + 1)) x2
    · rw [c3, cond_false] at s1 s2
      exact okS_q hM0 s1 d2 (fun b hb => fr b (by omega)) s2 fm f3
    · obtain ⟨p', j, hp', hj, e1, rfl⟩ := vH_in hk c3
      have e1 := (nI_eq (by omega) (by omega)).mp e1
      subst e1
      have hle2 := hN_le (aD A) (p + 1)
      obtain ⟨sv, s39⟩ := d4 c3
      have hm := g3 c3
      rw [c3, cond_true, f22_id s39, bd_s, inb6 (show p < 6 by omega), gd_t, inb24 (show k < 24 by omega), gd_t, inb6 (show p + 1 < 6 by omega), gd_t, inb24 (show j < 24 by omega), gd_t, cl_s (show p < 2 ^ 31 by omega), cl_s (show k < 2 ^ 31 by omega), cl_s (show p + 1 < 2 ^ 31 by omega), cl_s (show j < 2 ^ 31 by omega), ((sv.2 p hp).1.2.2 k hkk).1, ((sv.2 (p + 1) hp').1.2.2 j hj).1, f20_d d2.1.1, bd_s] at s1
      rw [c3, cond_true] at s2
      simp only at s2
      rw [f127_d hm hk hp hkk, bd_s, f127_d hm hk hp' hj, bd_s, f119_d hm.1, bd_s] at s2
      exact okS_q hM0 s1 d2 (fun b hb => fr b (by omega)) s2 fm f3
theorem op15 (hI : Inv M) (x0 x1 x2 x3 x4 : Int32) : okS M (f72 M x0 x1 x2 x3 x4) (fun N => f156 N x0 x1 x2 x3 x4) := by
  have hI' := hI
  obtain ⟨A, hC0, hM0⟩ := hI
  have hk := hC0.1.2.1
  have h6 := hk.1
  have l0 : (0 : Int64) = (0 : Int32).toInt64 := by decide +kernel
  have l3 : (3 : Int64) = (3 : Int32).toInt64 := by decide +kernel
  have l9 : (9999 : Int64) = (9999 : Int32).toInt64 := by decide +kernel
  have s1 := f72.eq_1 M x0 x1 x2 x3 x4
  rw [f80_d hC0.1.1, bd_s, bI_0, Bool.not_not, f85_s, bd_s, bI_0, f86_s, bd_s, bI_0, Bool.not_not] at s1
  have s2 : ∀ N, hM N 0 (aD A) → f156 N x0 x1 x2 x3 x4 = bif vP (dn (aD A)) x0 then (bif vX x1 && vX x2 && vB x3 0 9999 && vB x4 0 3 then f156_60 (fun Me25 ve26 ve27 ve28 ve29 ve30 ve31 => bif !decide (ve30 = 0) then (bif !decide (ve30 = 1) then (bif !decide (ve30 = 2) then (jm_bd (f155 Me25 ve26 ve27 ve28 ve29) (fun q35 => some (q35.1, q35.2))) else (jm_bd (f119 Me25 ve31) (fun q37 => some (q37, Me25)))) else (some (ve31, Me25))) else (jm_bd (f95 Me25 ve31) (fun q39 => some (q39, Me25)))) jm_F N x0 x1 x2 x3 x4 0 0 else some (-1000000002, N)) else some (-1000000001, N) := by
    intro N hN
    rw [f156, f96_d hN hk, bd_s, bI_0, Bool.not_not, f98_s, bd_s, bI_0, f98_s, bd_s, bI_0, l0, l9, f93_s, bd_s, bI_0, l3, f93_s, bd_s, bI_0, Bool.not_not]
    cases vP (dn (aD A)) x0 <;> cases vX x1 <;> cases vX x2 <;> cases vB x3 0 9999 <;> cases vB x4 0 3 <;> rfl
  cases c0 : vP (dn (aD A)) x0
  · rw [c0, cond_false] at s1
    refine okS_no hI' s1 ((s2 M hM0.1).trans ?_)
    rw [c0, cond_false]
  rw [c0, cond_true] at s1
  cases c1 : (vX x1 && vX x2)
  · rw [c1, Bool.not_false, cond_true] at s1
    refine okS_no hI' s1 ((s2 M hM0.1).trans ?_)
    rw [c0, c1, Bool.false_and, Bool.false_and]
    rfl
  rw [c1, Bool.not_true, cond_false] at s1
  cases c2 : vB x3 0 9999
  · rw [c2, cond_false] at s1
    refine okS_no hI' s1 ((s2 M hM0.1).trans ?_)
    rw [c0, c1, c2, Bool.and_false, Bool.false_and]
    rfl
  rw [c2, cond_true] at s1
  have c1' := c1
  rw [Bool.and_eq_true] at c1'
  obtain ⟨p, hp, rfl⟩ := vP_in (by omega) c0
  obtain ⟨X, hX, rfl⟩ := vX_in c1'.1
  obtain ⟨Y, hY, rfl⟩ := vX_in c1'.2
  obtain ⟨wq, hw', rfl⟩ := vB_in (m := 9999) (by omega) c2
  have hw : wq < 10000 := by omega
  have hp6 : p < 6 := by omega
  have s3 : ∀ N, hM N 0 (aD A) → vB x4 0 3 = true → f156 N (nI p) (nI X) (nI Y) (nI wq) x4 = (bif !decide (x4 = 0) then (bif !decide (x4 = 1) then (bif !decide (x4 = 2) then (jm_bd (f155 N (nI p) (nI X) (nI Y) (nI wq)) (fun q35 => some (q35.1, q35.2))) else (jm_bd (f119 N (mk (fun g => di (aD A) p g && decide (far (aD A) p g X Y ≤ wq)))) (fun q37 => some (q37, N)))) else (some (mk (fun g => di (aD A) p g && decide (far (aD A) p g X Y ≤ wq)), N))) else (jm_bd (f95 N (mk (fun g => di (aD A) p g && decide (far (aD A) p g X Y ≤ wq)))) (fun q39 => some (q39, N)))) := fun N hN hv => by
    have q := s2 N hN
    rw [c0, c1, c2, hv, Bool.and_true, Bool.and_true, cond_true, cond_true, f156_60_d hN hk _ x4 hp6 hX hY hw] at q
    exact q
  by_cases h0 : x4 = 0
  · subst h0
    rw [decide_eq_true (rfl : (0 : Int32) = 0), cond_true, f19_d hC0.1.1 hk hp6 hX hY hw, bd_s, f164_mk, bd_s] at s1
    refine okS_no hI' s1 ((s3 M hM0.1 (by decide +kernel)).trans ?_)
    rw [decide_eq_true (rfl : (0 : Int32) = 0), Bool.not_true, cond_false, f95_mk, bd_s]
  by_cases h1 : x4 = 1
  · subst h1
    rw [decide_eq_false h0, cond_false, decide_eq_true (rfl : (1 : Int32) = 1), cond_true, f19_d hC0.1.1 hk hp6 hX hY hw, bd_s] at s1
    refine okS_no hI' s1 ((s3 M hM0.1 (by decide +kernel)).trans ?_)
    rfl
  by_cases h2 : x4 = 2
  · subst h2
    rw [decide_eq_false h0, cond_false, decide_eq_false h1, cond_false, decide_eq_true (rfl : (2 : Int32) = 2), cond_true, f19_d hC0.1.1 hk hp6 hX hY hw, bd_s, f20_d hC0.1.1, bd_s] at s1
    refine okS_no hI' s1 ((s3 M hM0.1 (by decide +kernel)).trans ?_)
    show jm_bd (f119 M (mk _)) _ = _
    rw [f119_d hM0.1, bd_s]
  by_cases h3 : x4 = 3
  · subst h3
    obtain ⟨M1, a1, a2, a3, a4, a5, a6, H, a7, a8, a9⟩ := tr_q hC0 hp6
    have mi := MI_q hM0 (fun b hb => a3 b (by omega))
    rw [decide_eq_false h0, cond_false, decide_eq_false h1, cond_false, decide_eq_false h2, cond_false, decide_eq_true (rfl : (3 : Int32) = 3), cond_true, a1, bd_s, f54_d hk hp6 a4 a5 a6, bd_s] at s1
    obtain ⟨M2, b1, b2, b3⟩ := f155_d hk (X := X) (Y := Y) (w := wq) mi.1 hp6
    refine okS_q hM0 s1 a2 (fun b hb => a3 b (by omega)) ((s3 M1 mi.1 (by decide +kernel)).trans ?_) (fun b q1 q2 => b2 b q1 (by omega)) b3
    show jm_bd (f155 M1 (nI p) (nI X) (nI Y) (nI wq)) _ = _
    rw [b1, bd_s]
  rw [decide_eq_false h0, cond_false, decide_eq_false h1, cond_false, decide_eq_false h2, cond_false, decide_eq_false h3, cond_false] at s1
  refine okS_no hI' s1 ((s2 M hM0.1).trans ?_)
  have e4 : vB x4 0 3 = false := by
    cases e : vB x4 0 3
    · rfl
    · obtain ⟨j, hj, rfl⟩ := vB_in (m := 3) (by omega) e
      rcases (show j = 0 ∨ j = 1 ∨ j = 2 ∨ j = 3 by omega) with rfl | rfl | rfl | rfl
      · exact absurd rfl h0
      · exact absurd rfl h1
      · exact absurd rfl h2
      · exact absurd rfl h3
  rw [c0, e4, Bool.and_false]
  rfl
theorem op16 (hI : Inv M) (x0 x1 x2 : Int32) : ∃ r, f73 M x0 x1 x2 = some r ∧ f157 M x0 x1 x2 = some r := by
  obtain ⟨A, hC0, hM0⟩ := hI
  have hk := hC0.1.2.1
  have h6 := hk.1
  have s1 := f73.eq_1 M x0 x1 x2
  rw [f80_d hC0.1.1, bd_s, bI_0, Bool.not_not, f85_s, bd_s, bI_0, Bool.not_not] at s1
  have s2 : f157 M x0 x1 x2 = bif vP (dn (aD A)) x0 then (bif vX x1 && vX x2 then f157_34 M (fun ve23 => some ve23) jm_F x0 x1 x2 (-1) 0 else some (-1000000002)) else some (-1000000001) := by
    rw [f157, f96_d hM0.1 hk, bd_s, bI_0, Bool.not_not, f98_s, bd_s, bI_0, f98_s, bd_s, bI_0, Bool.not_not]
    cases vP (dn (aD A)) x0 <;> cases vX x1 <;> cases vX x2 <;> rfl
  cases c0 : vP (dn (aD A)) x0
  · rw [c0, cond_false] at s1 s2
    exact ⟨_, s1, s2⟩
  rw [c0, cond_true] at s1 s2
  cases c1 : (vX x1 && vX x2)
  · rw [c1, cond_false] at s1 s2
    exact ⟨_, s1, s2⟩
  rw [c1, cond_true] at s1 s2
  rw [Bool.and_eq_true] at c1
  obtain ⟨p, hp, rfl⟩ := vP_in (by omega) c0
  obtain ⟨X, hX, rfl⟩ := vX_in c1.1
  obtain ⟨Y, hY, rfl⟩ := vX_in c1.2
  rw [f73_31_d hC0.1.1 hk (by omega) hX hY] at s1
  rw [f157_34_d hM0.1 hk (by omega) hX hY] at s2
  exact ⟨_, s1, s2⟩
theorem op17 (hI : Inv M) (x0 x1 x2 : Int32) : okS M (f74 M x0 x1 x2) (fun N => f158 N x0 x1 x2) := by
  have hI' := hI
  obtain ⟨A, hC0, hM0⟩ := hI
  have hk := hC0.1.2.1
  have h6 := hk.1
  have l0 : (0 : Int64) = (0 : Int32).toInt64 := by decide +kernel
  have l1 : (1 : Int64) = (1 : Int32).toInt64 := by decide +kernel
  have s1 := f74.eq_1 M x0 x1 x2
  rw [f81_d hC0.1.1, bd_s, bI_0, Bool.not_not] at s1
  have s2 : ∀ N, hM N 0 (aD A) → f158 N x0 x1 x2 = bif (vP (dn (aD A)) x0 && vG x1) then (bif vB x2 0 1 then (jm_bd (f150 N x0) (fun q10 => bif !decide (x2 = 0) then (jm_gd (jm_inb x1 24) (some (q10 119 x1.toNatClampNeg, q10))) else (jm_gd (jm_inb x1 24) (some (q10 118 x1.toNatClampNeg, q10))))) else some (-1000000002, N)) else some (-1000000001, N) := by
    intro N hN
    rw [f158, f96_d hN hk, bd_s, bI_0, f97_s, bd_s, bI_0, Bool.not_not, l0, l1, f93_s, bd_s, bI_0, Bool.not_not]
    cases vP (dn (aD A)) x0 <;> cases vG x1 <;> cases vB x2 0 1 <;> rfl
  cases c : (vP (dn (aD A)) x0 && vG x1)
  · rw [c, cond_false] at s1
    refine okS_no hI' s1 ((s2 M hM0.1).trans ?_)
    rw [c, cond_false]
  rw [c, cond_true] at s1
  have cc := c
  rw [Bool.and_eq_true] at cc
  obtain ⟨p, hp, rfl⟩ := vP_in (by omega) cc.1
  obtain ⟨g, hg, rfl⟩ := vG_in cc.2
  have hp6 : p < 6 := by omega
  obtain ⟨M1, a1, a2, a3, a4, a5, a6, H, a7, a8, a9⟩ := tr_q hC0 hp6
  have mi := MI_q hM0 (fun b hb => a3 b (by omega))
  obtain ⟨M2, b1, b2, b3, b4, b5⟩ := f150_d mi.1 hk hp6
  obtain ⟨t1, t2, t3⟩ := isTr_same a6 b5 hg
  by_cases h0 : x2 = 0
  · subst h0
    rw [decide_eq_true (rfl : (0 : Int32) = 0), cond_true, a1, bd_s, inb24 hg, gd_t, cl_s (by omega)] at s1
    refine okS_q hM0 s1 a2 (fun b hb => a3 b (by omega)) ((s2 M1 mi.1).trans ?_) (fun b q1 q2 => b2 b q1 (by omega)) b3
    rw [c, cond_true, show vB 0 0 1 = true by decide +kernel, cond_true, b1, bd_s, decide_eq_true (rfl : (0 : Int32) = 0), Bool.not_true, cond_false, inb24 hg, gd_t, cl_s (by omega), t1]
  by_cases h1 : x2 = 1
  · subst h1
    rw [decide_eq_false h0, cond_false, decide_eq_true (rfl : (1 : Int32) = 1), cond_true, a1, bd_s, inb24 hg, gd_t, cl_s (by omega)] at s1
    refine okS_q hM0 s1 a2 (fun b hb => a3 b (by omega)) ((s2 M1 mi.1).trans ?_) (fun b q1 q2 => b2 b q1 (by omega)) b3
    rw [c, cond_true, show vB 1 0 1 = true by decide +kernel, cond_true, b1, bd_s, decide_eq_false h0, Bool.not_false, cond_true, inb24 hg, gd_t, cl_s (by omega), t2]
  rw [decide_eq_false h0, cond_false, decide_eq_false h1, cond_false] at s1
  refine okS_no hI' s1 ((s2 M hM0.1).trans ?_)
  have e4 : vB x2 0 1 = false := by
    cases e : vB x2 0 1
    · rfl
    · obtain ⟨j, hj, rfl⟩ := vB_in (m := 1) (by omega) e
      rcases (show j = 0 ∨ j = 1 by omega) with rfl | rfl
      · exact absurd rfl h0
      · exact absurd rfl h1
  rw [c, e4]
  rfl
theorem op18 (hI : Inv M) (x0 x1 x2 : Int32) : okV M (f75 M x0 x1 x2) (fun N => f159 N x0 x1 x2) := by
  have hI' := hI
  obtain ⟨A, hC0, hM0⟩ := hI
  have hk := hC0.1.2.1
  have h6 := hk.1
  have s1 := f75.eq_1 M x0 x1 x2
  rw [f81_d hC0.1.1, bd_s, bI_0, f83_s, bd_s, bI_0, Bool.not_not] at s1
  have s2 : ∀ N, hM N 0 (aD A) → f159 N x0 x1 x2 = bif (vP (dn (aD A)) x0 && vG x1) then (bif vG x2 then (jm_bd (f102 N x0) (fun q10 => jm_bd (f94 N q10 x1) (fun q12 => bif decide (q12 = 0) then (f159_49 N (some (-1)) (fun ve29 ve30 ve31 ve32 => some ve32) jm_F x0 x2 0 0) else (f159_49 N (some (-1)) (fun ve33 ve34 ve35 ve36 => some ve36) jm_F x0 x2 (1 <<< (x1 &&& 31)) 0)))) else some (-1000000001)) else some (-1000000001) := by
    intro N hN
    rw [f159, f96_d hN hk, bd_s, bI_0, f97_s, bd_s, bI_0, f97_s, bd_s, bI_0, Bool.not_not]
    cases vP (dn (aD A)) x0 <;> cases vG x1 <;> cases vG x2 <;> rfl
  cases c : (vP (dn (aD A)) x0 && vG x1)
  · rw [c, Bool.not_false, cond_true] at s1
    refine okV_q hM0 s1 hC0 (fun _ _ => rfl) ((s2 M hM0.1).trans ?_)
    rw [c, cond_false]
  rw [c, Bool.not_true, cond_false] at s1
  cases c2 : vG x2
  · rw [c2, cond_false] at s1
    refine okV_q hM0 s1 hC0 (fun _ _ => rfl) ((s2 M hM0.1).trans ?_)
    rw [c, c2]
    rfl
  rw [c2, cond_true] at s1
  have cc := c
  rw [Bool.and_eq_true] at cc
  obtain ⟨p, hp, rfl⟩ := vP_in (by omega) cc.1
  obtain ⟨g, hg, rfl⟩ := vG_in cc.2
  obtain ⟨o, ho, rfl⟩ := vG_in c2
  have hp6 : p < 6 := by omega
  obtain ⟨M1, a1, a2, a3, a4, a5⟩ := sv_q hC0
  have mi := MI_q hM0 (fun b hb => a5 b (by omega))
  rw [a1, bd_s, inb6 hp6, gd_t, cl_s (by omega)] at s1
  have s3 := s2 M1 mi.1
  rw [c, c2, cond_true, cond_true, f102_d mi.1 hp6, bd_s, f94_s M1 _ (by omega), bd_s, bI_0, b_mkl hg] at s3
  have fr : ∀ b, b < 2 ∨ 112 ≤ b → M1 b = M b := fun b hb => a5 b (by omega)
  rcases f7_d (a3.2 p hp).1.1 hg ho with ⟨e, f⟩ | ⟨e, e2, f⟩ | ⟨e, n, e2, f⟩
  · rw [f, bd_s] at s1
    rw [e, Bool.not_false, cond_true, f159_49_n mi.1 hk hp6 ho] at s3
    exact okV_q hM0 s1 a2 fr s3
  · rw [f, bd_s] at s1
    rw [e, Bool.not_true, cond_false] at s3
    rcases f159_49_d mi.1 hk hp6 hg ho e with ⟨-, q⟩ | ⟨m, q1, q2⟩
    · rw [q] at s3
      exact okV_q hM0 s1 a2 fr s3
    · have := rc_cp hg ho q1.2.1
      rw [e2] at this
      cases this
  · rw [f, bd_s] at s1
    rw [e, Bool.not_true, cond_false] at s3
    rcases f159_49_d mi.1 hk hp6 hg ho e with ⟨q, -⟩ | ⟨m, q1, q2⟩
    · have := rc_cp hg ho e2.2.1
      rw [q] at this
      cases this
    · rw [q2, lst_one q1 e2] at s3
      exact okV_q hM0 s1 a2 fr s3
theorem op19 (hI : Inv M) (x0 x1 : Int32) : okV M (f76 M x0 x1) (fun N => f160 N x0 x1) := by
  obtain ⟨A, hC0, hM0⟩ := hI
  have hk := hC0.1.2.1
  have h6 := hk.1
  have l0 : (0 : Int64) = (0 : Int32).toInt64 := by decide +kernel
  have l90 : (90 : Int64) = (90 : Int32).toInt64 := by decide +kernel
  have s1 := f76.eq_1 M x0 x1
  rw [f80_d hC0.1.1, bd_s, bI_0, Bool.not_not, f86_s, bd_s, bI_0, Bool.not_not] at s1
  have s2 : ∀ N, hM N 0 (aD A) → f160 N x0 x1 = bif vP (dn (aD A)) x0 then (bif vB x1 0 90 then (jm_bd (f102 N x0) (fun q7 => jm_bd (f121 N x0 q7 x1) (fun q9 => some q9))) else some (-1000000002)) else some (-1000000001) := by
    intro N hN
    rw [f160, f96_d hN hk, bd_s, bI_0, Bool.not_not, l0, l90, f93_s, bd_s, bI_0]
    cases vP (dn (aD A)) x0 <;> cases vB x1 0 90 <;> rfl
  cases c0 : vP (dn (aD A)) x0
  · rw [c0, cond_false] at s1
    refine okV_q hM0 s1 hC0 (fun _ _ => rfl) ((s2 M hM0.1).trans ?_)
    rw [c0, cond_false]
  rw [c0, cond_true] at s1
  cases c1 : vB x1 0 90
  · rw [c1, cond_false] at s1
    refine okV_q hM0 s1 hC0 (fun _ _ => rfl) ((s2 M hM0.1).trans ?_)
    rw [c0, c1]
    rfl
  rw [c1, cond_true] at s1
  obtain ⟨p, hp, rfl⟩ := vP_in (by omega) c0
  obtain ⟨l, hl, rfl⟩ := vB_in (m := 90) (by omega) c1
  have hp6 : p < 6 := by omega
  obtain ⟨M1, a1, a2, a3⟩ := f89_d hC0.1.1 hk hp6 hl
  have mi := MI_q hM0 (fun b hb => a2 b (by omega) (by omega) (by omega))
  rw [a1, bd_s, a3.2.1] at s1
  refine okV_q hM0 s1 (CI_fr hC0 (fun b _ hb => a2 b (by omega) (by omega) (by omega))) (fun b hb => a2 b (by omega) (by omega) (by omega)) ((s2 M1 mi.1).trans ?_)
  rw [c0, c1, cond_true, cond_true, f102_d mi.1 hp6, bd_s, f121_s M1 (lk (aD A) p l) (di (aD A) p) (nI p) (nI l) (fun a b ha hb q1 q2 => f118_d mi.1 hp6 ha hb hk hl q1 q2), bd_s]
theorem op20 (hI : Inv M) (x0 x1 x2 : Int32) : okV M (f77 M x0 x1 x2) (fun N => f161 N x0 x1 x2) := by
  obtain ⟨A, hC0, hM0⟩ := hI
  have hk := hC0.1.2.1
  have h6 := hk.1
  have s1 := f77.eq_1 M x0 x1 x2
  rw [f81_d hC0.1.1, bd_s, bI_0, f83_s, bd_s, bI_0] at s1
  have s2 : ∀ N, hM N 0 (aD A) → f161 N x0 x1 x2 = bif (vP (dn (aD A)) x0 && vG x1) then (bif vG x2 then (bif !decide (x1 = x2) then (jm_bd (f102 N x0) (fun q11 => jm_bd (f94 N q11 x1) (fun q13 => bif decide (q13 = 0) then (some (-1)) else (jm_bd (f94 N q11 x2) (fun q16 => bif !decide (q16 = 0) then (f161_60 N (fun ve24 => some ve24) jm_F x0 x1 x2 q11 0) else (some (-1))))))) else (some (-1000000001))) else some (-1000000001)) else some (-1000000001) := by
    intro N hN
    rw [f161, f96_d hN hk, bd_s, bI_0, f97_s, bd_s, bI_0, f97_s, bd_s, bI_0]
    cases vP (dn (aD A)) x0 <;> cases vG x1 <;> cases vG x2 <;> rfl
  cases c : (vP (dn (aD A)) x0 && vG x1)
  · rw [c, Bool.not_false, cond_true] at s1
    refine okV_q hM0 s1 hC0 (fun _ _ => rfl) ((s2 M hM0.1).trans ?_)
    rw [c, cond_false]
  rw [c, Bool.not_true, cond_false] at s1
  cases c2 : vG x2
  · rw [c2, Bool.not_false, cond_true] at s1
    refine okV_q hM0 s1 hC0 (fun _ _ => rfl) ((s2 M hM0.1).trans ?_)
    rw [c, c2]
    rfl
  rw [c2, Bool.not_true, cond_false] at s1
  have cc := c
  rw [Bool.and_eq_true] at cc
  obtain ⟨p, hp, rfl⟩ := vP_in (by omega) cc.1
  obtain ⟨g, hg, rfl⟩ := vG_in cc.2
  obtain ⟨o, ho, rfl⟩ := vG_in c2
  have hp6 : p < 6 := by omega
  have s3 : ∀ N, hM N 0 (aD A) → f161 N (nI p) (nI g) (nI o) = bif !decide (g = o) then (bif !di (aD A) p g then some (-1) else (bif di (aD A) p o then (f161_60 N (fun ve24 => some ve24) jm_F (nI p) (nI g) (nI o) (mk (di (aD A) p)) 0) else some (-1))) else some (-1000000001) := fun N hN => by
    have q := s2 N hN
    rw [c, c2, cond_true, cond_true, deq (by omega) (by omega), f102_d hN hp6, bd_s, f94_s N _ (by omega), bd_s, bI_0, f94_s N _ (by omega), bd_s, bI_0, Bool.not_not, b_mkl hg, b_mkl ho] at q
    exact q
  rw [deq (by omega) (by omega), f14_d hC0.1.1 hp6 hg hk, bd_s, bI_0, f14_d hC0.1.1 hp6 ho hk, bd_s, bI_0, Bool.not_not] at s1
  by_cases e0 : g = o
  · rw [decide_eq_true e0, Bool.not_true, cond_false] at s1
    refine okV_q hM0 s1 hC0 (fun _ _ => rfl) ((s3 M hM0.1).trans ?_)
    rw [decide_eq_true e0]
    rfl
  rw [decide_eq_false e0, Bool.not_false, cond_true] at s1
  cases e1 : di (aD A) p g
  · rw [e1, Bool.not_false, cond_true] at s1
    refine okV_q hM0 s1 hC0 (fun _ _ => rfl) ((s3 M hM0.1).trans ?_)
    rw [decide_eq_false e0, e1]
    rfl
  rw [e1, Bool.not_true, cond_false] at s1
  cases e2 : di (aD A) p o
  · rw [e2, cond_false] at s1
    refine okV_q hM0 s1 hC0 (fun _ _ => rfl) ((s3 M hM0.1).trans ?_)
    rw [decide_eq_false e0, e1, e2]
    rfl
  rw [e2, cond_true] at s1
  obtain ⟨l, M1, q1, q2, q3⟩ := f77_60_d hC0.1.1 hk hp6 hg ho e0 e1 e2
  rw [q1] at s1
  have mi := MI_q hM0 (fun b hb => q3 b (by omega) (by omega) (by omega))
  obtain ⟨l', r1, r2⟩ := f161_60_d mi.1 hk hp6 hg ho e0 e1 e2
  refine okV_q hM0 s1 (CI_fr hC0 (fun b _ hb => q3 b (by omega) (by omega) (by omega))) (fun b hb => q3 b (by omega) (by omega) (by omega)) ((s3 M1 mi.1).trans ?_)
  rw [decide_eq_false e0, e1, e2, Bool.not_false, Bool.not_true, cond_true, cond_false, cond_true, r1, jn_one r2 q2]
end
