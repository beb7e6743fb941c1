/-! ===== weights, bounds, undoing, images ===== -/
theorem vB1_in {x : Int32} {m : Nat} (hm : m < 2 ^ 31) (h : vB x 1 (nI m) = true) : ∃ j, 1 ≤ j ∧ j ≤ m ∧ x = nI j := by
  have h1 : vB x 0 (nI m) = true := by
    unfold vB at h ⊢
    rw [Bool.and_eq_true, Bool.not_eq_true', decide_eq_false_iff_not] at h
    rw [h.2, Bool.and_true, Bool.not_eq_true', decide_eq_false_iff_not]
    intro q
    refine h.1 ?_
    rw [fa_lt] at q ⊢
    have e0 : (0 : Int32).toInt = 0 := by decide +kernel
    have e1 : (1 : Int32).toInt = 1 := by decide +kernel
    omega
  obtain ⟨j, h2, rfl⟩ := vB_in hm h1
  refine ⟨j, ?_, h2, rfl⟩
  unfold vB at h
  rw [Bool.and_eq_true, Bool.not_eq_true', decide_eq_false_iff_not] at h
  refine Classical.byContradiction fun q => h.1 ?_
  exact (nI_ltI (b := 1) (by omega) (by omega)).mpr (by omega)
section
variable {M : jm_MM}
theorem op4 (hI : Inv M) (x0 x1 : Int32) : okS M (f61 M x0 x1) (fun N => f111 N x0 x1) := by
  obtain ⟨A, hC0, hM0⟩ := hI
  have hk := hC0.1.2.1
  have s1 : f61 M x0 x1 = (bif vG x0 then (bif vB x1 1 9 then (jm_bd (f88 M) (fun q7 => jm_gd (jm_inb x0 24) (jm_gd (jm_inb x0 24) (some (q7 3 x0.toNatClampNeg, (jm_up q7 3 x0.toNatClampNeg x1)))))) else (some ((-1000000002), M))) else (some ((-1000000001), M))) := by
    unfold f61
    rw [f83_s, bd_s, bI_0, Bool.not_not, f86_s, bd_s, bI_0, Bool.not_not]
  have s2 : ∀ N, f111 N x0 x1 = (bif vG x0 then (bif vB x1 1 9 then (jm_bd (f100 N) (fun q7 => jm_gd (jm_inb (3 + x0) 3531) (jm_gd (jm_inb (3 + x0) 3531) (some (q7 114 ((3 + x0).toNatClampNeg), (jm_up q7 114 ((3 + x0).toNatClampNeg) x1)))))) else (some ((-1000000002), N))) else (some ((-1000000001), N))) := by
    intro N
    unfold f111
    rw [f97_s, bd_s, bI_0, Bool.not_not, show (1 : Int64) = (1 : Int32).toInt64 by decide +kernel, show (9 : Int64) = (9 : Int32).toInt64 by decide +kernel, f93_s, bd_s, bI_0, Bool.not_not]
  cases c1 : vG x0
  · rw [c1] at s1 s2
    exact okS_no ⟨A, hC0, hM0⟩ s1 (s2 M)
  · cases c2 : vB x1 1 9
    · rw [c1, c2] at s1 s2
      exact okS_no ⟨A, hC0, hM0⟩ s1 (s2 M)
    · rw [c1, c2] at s1 s2
      obtain ⟨g, hg, rfl⟩ := vG_in c1
      obtain ⟨v, hv1, hv2, rfl⟩ := vB1_in (m := 9) (by omega) c2
      have hW : hok (sW (aD A) g v) := ⟨hk.1, hk.2.1, hk.2.2.1, fun k hk2 => by
        show (if k = g then v else dw (aD A) k) ≤ 9
        by_cases c : k = g
        · rw [if_pos c]; exact hv2
        · rw [if_neg c]; exact hk.2.2.2.1 k hk2, hk.2.2.2.2⟩
      refine okS_ch hC0 hM0 (D' := sW (aD A) g v) (r := nI (dw (aD A) g)) hW (fun N hN hC1 => ?_) (fun M1 N hN hM1 hM2 => ?_)
      · refine ⟨jm_up N 3 g (nI v), ?_, ⟨by rw [jup_ne (by omega)]; exact hC1.1, by rw [jup_ne (by omega)]; exact hC1.2.1, by rw [jup_ne (by omega)]; exact hC1.2.2.1, fun k hk2 => ?_, fun p k hp hk2 => by rw [jup_ne (by omega)]; exact hC1.2.2.2.2 p k hp hk2⟩, fun b hb => jup_ne (by omega)⟩
        · rw [s1, cond_true, cond_true, hN, bd_s, inb24 hg, gd_t, gd_t, cl_s (by omega), hC1.2.2.2.1 g hg]
        · show jm_up N 3 g (nI v) 3 k = nI (if k = g then v else dw (aD A) k)
          by_cases c : k = g
          · rw [if_pos c, c, jup_eq]
          · rw [if_neg c, jup_nj c]
            exact hC1.2.2.2.1 k hk2
      · refine ⟨jm_up N 114 (3 + g) (nI v), ?_, ⟨by rw [jup_nj (by omega)]; exact hM2.1, by rw [jup_nj (by omega)]; exact hM2.2.1, by rw [jup_nj (by omega)]; exact hM2.2.2.1, fun k hk2 => ?_, fun p hp => by rw [jup_nj (by omega)]; exact hM2.2.2.2.2.1 p hp, fun p k hp hk2 e => by rw [jup_nj (by omega), jup_nj (by omega)]; exact hM2.2.2.2.2.2 p k hp hk2 e⟩, fun b hb => jup_ne hb, fun j hj => jup_nj (by omega)⟩
        · show f111 M1 _ _ = _
          rw [s2 M1, cond_true, cond_true, hN, bd_s, show (3 : Int32) + nI g = nI (3 + g) from nI_add 3 g, inb_s (show 3 + g < 3531 by omega) (by omega), gd_t, gd_t, cl_s (by omega), hM_w hM2 hg]
        · show jm_up N 114 (3 + g) (nI v) 114 (0 + (3 + k)) = nI (if k = g then v else dw (aD A) k)
          by_cases c : k = g
          · rw [if_pos c, c, Nat.zero_add, jup_eq]
          · rw [if_neg c, jup_nj (by omega)]
            exact hM2.2.2.2.1 k hk2
theorem op5 (hI : Inv M) (x0 x1 : Int32) : okS M (f62 M x0 x1) (fun N => f112 N x0 x1) := by
  obtain ⟨A, hC0, hM0⟩ := hI
  have hk := hC0.1.2.1
  have l0 : (0 : Int64) = (0 : Int32).toInt64 := by decide +kernel
  have l1 : (1 : Int64) = (1 : Int32).toInt64 := by decide +kernel
  have l40 : (40 : Int64) = (40 : Int32).toInt64 := by decide +kernel
  have l99 : (99 : Int64) = (99 : Int32).toInt64 := by decide +kernel
  by_cases c0 : x0 = 0
  · subst c0
    have s1 : f62 M 0 x1 = bif vB x1 0 40 then (jm_bd (f88 M) (fun q4 => some (q4 2 1, jm_up q4 2 1 x1))) else some (-1000000002, M) := by
      unfold f62 f62_14 f62_29 f62_33 f62_34 f62_67
      rw [f86_s M x1 0 40, bd_s, bI_0]
      cases vB x1 0 40 <;> rfl
    have s2 : ∀ N, f112 N 0 x1 = bif vB x1 0 40 then (jm_bd (f100 N) (fun q4 => some (q4 114 0, jm_up q4 114 0 x1))) else some (-1000000002, N) := by
      intro N
      unfold f112 f112_38
      rw [l0, l40, f93_s, bd_s, bI_0]
      cases vB x1 0 40 <;> rfl
    cases c1 : vB x1 0 40
    · rw [c1] at s1 s2
      exact okS_no ⟨A, hC0, hM0⟩ s1 (s2 M)
    · rw [c1] at s1 s2
      obtain ⟨v, hv, rfl⟩ := vB_in (m := 40) (by omega) c1
      refine okS_ch hC0 hM0 (D' := sLn (aD A) v) (r := nI (dl (aD A))) ⟨hk.1, hv, hk.2.2⟩ (fun N hN hC1 => ?_) (fun M1 N hN hM1 hM2 => ?_)
      · refine ⟨jm_up N 2 1 (nI v), ?_, ⟨by rw [jup_nj (by omega)]; exact hC1.1, jup_eq, by rw [jup_nj (by omega)]; exact hC1.2.2.1, fun k hk2 => by rw [jup_ne (by omega)]; exact hC1.2.2.2.1 k hk2, fun p k hp hk2 => by rw [jup_ne (by omega)]; exact hC1.2.2.2.2 p k hp hk2⟩, fun b hb => jup_ne (by omega)⟩
        rw [s1, cond_true, hN, bd_s, hC1.2.1]
      · refine ⟨jm_up N 114 0 (nI v), ?_, ⟨jup_eq, by rw [jup_nj (by omega)]; exact hM2.2.1, by rw [jup_nj (by omega)]; exact hM2.2.2.1, fun k hk2 => by rw [jup_nj (by omega)]; exact hM2.2.2.2.1 k hk2, fun p hp => by rw [jup_nj (by omega)]; exact hM2.2.2.2.2.1 p hp, fun p k hp hk2 e => by rw [jup_nj (by omega), jup_nj (by omega)]; exact hM2.2.2.2.2.2 p k hp hk2 e⟩, fun b hb => jup_ne hb, fun j hj => jup_nj (by omega)⟩
        show f112 M1 _ _ = _
        rw [s2 M1, cond_true, hN, bd_s, hM_l hM2]
  · by_cases c9 : x0 = 1
    · subst c9
      have s1 : f62 M 1 x1 = bif vB x1 1 99 then (jm_bd (f88 M) (fun q4 => some (q4 2 2, jm_up q4 2 2 x1))) else some (-1000000002, M) := by
        unfold f62 f62_14 f62_29 f62_33 f62_34 f62_67
        rw [f86_s, bd_s, bI_0, f86_s, bd_s, bI_0]
        cases vB x1 1 99 <;> rfl
      have s2 : ∀ N, f112 N 1 x1 = bif vB x1 1 99 then (jm_bd (f100 N) (fun q4 => some (q4 114 1, jm_up q4 114 1 x1))) else some (-1000000002, N) := by
        intro N
        unfold f112 f112_37 f112_38
        rw [l1, l99, f93_s, bd_s, bI_0]
        cases vB x1 1 99 <;> rfl
      cases c1 : vB x1 1 99
      · rw [c1] at s1 s2
        exact okS_no ⟨A, hC0, hM0⟩ s1 (s2 M)
      · rw [c1] at s1 s2
        obtain ⟨v, hv1, hv, rfl⟩ := vB1_in (m := 99) (by omega) c1
        refine okS_ch hC0 hM0 (D' := sMn (aD A) v) (r := nI (dm (aD A))) ⟨hk.1, hk.2.1, hv, hk.2.2.2⟩ (fun N hN hC1 => ?_) (fun M1 N hN hM1 hM2 => ?_)
        · refine ⟨jm_up N 2 2 (nI v), ?_, ⟨by rw [jup_nj (by omega)]; exact hC1.1, by rw [jup_nj (by omega)]; exact hC1.2.1, jup_eq, fun k hk2 => by rw [jup_ne (by omega)]; exact hC1.2.2.2.1 k hk2, fun p k hp hk2 => by rw [jup_ne (by omega)]; exact hC1.2.2.2.2 p k hp hk2⟩, fun b hb => jup_ne (by omega)⟩
          rw [s1, cond_true, hN, bd_s, hC1.2.2.1]
        · refine ⟨jm_up N 114 1 (nI v), ?_, ⟨by rw [jup_nj (by omega)]; exact hM2.1, jup_eq, by rw [jup_nj (by omega)]; exact hM2.2.2.1, fun k hk2 => by rw [jup_nj (by omega)]; exact hM2.2.2.2.1 k hk2, fun p hp => by rw [jup_nj (by omega)]; exact hM2.2.2.2.2.1 p hp, fun p k hp hk2 e => by rw [jup_nj (by omega), jup_nj (by omega)]; exact hM2.2.2.2.2.2 p k hp hk2 e⟩, fun b hb => jup_ne hb, fun j hj => jup_nj (by omega)⟩
          show f112 M1 _ _ = _
          rw [s2 M1, cond_true, hN, bd_s, hM_m hM2]
    · refine okS_no (r := -1000000002) ⟨A, hC0, hM0⟩ ?_ ?_
      · unfold f62 f62_14 f62_33 f62_34
        rw [decide_eq_false c0, decide_eq_false c9]
        rfl
      · show f112 M x0 x1 = _
        unfold f112 f112_37 f112_38
        rw [decide_eq_false c0, decide_eq_false c9]
        rfl
theorem op7 (hI : Inv M) : okS M (f64 M) f116 := by
  have hI' := hI
  obtain ⟨A, hC0, hM0⟩ := hI
  obtain ⟨⟨h1, h2, h3, ⟨ol, h4, h5, h6, h7⟩, h8⟩, -⟩ := hC0
  obtain ⟨g1, g2, g3, g4⟩ := hM0
  have e1 : decide ((1 : Int32) ≤ M 5 2) = decide (1 ≤ aC A) := by
    rw [h6]
    show decide (nI 1 ≤ nI _) = _
    rw [dle (by omega) (by omega)]
  have e2 : decide (M 113 2 = 0) = !decide (1 ≤ aC A) := by
    rw [g2]
    show decide (nI (aC A) = nI 0) = _
    rw [deq (by omega) (by omega)]
    by_cases c : 1 ≤ aC A
    · rw [decide_eq_true c, decide_eq_false (by omega)]
      rfl
    · rw [decide_eq_false c, decide_eq_true (by omega)]
      rfl
  by_cases c : 1 ≤ aC A
  · obtain ⟨k, hk⟩ : ∃ k, aC A = k + 1 := ⟨aC A - 1, by omega⟩
    rw [hk] at h6 g2
    obtain ⟨p1, p2⟩ := h7 k (by omega)
    have e3 : decide (M 5 2 ≤ 0) = false := by
      rw [h6]
      exact decide_eq_false (nI_nle (by omega) (by omega))
    obtain ⟨N1, hN1⟩ : ∃ N1, N1 = jm_up M 5 2 (nI k) := ⟨_, rfl⟩
    have z : ∀ b, b ≠ 5 → N1 b = M b := fun b hb => by rw [hN1, jup_ne hb]
    obtain ⟨N2, q1, q2, q3⟩ := f10_s N1 (a0 := 2) (b0 := 7 + 3 * ((ol + k) % 8)) (D := aP A k) (by omega) (hC_fr p1 (z _ (by omega)) (z _ (by omega)) (z _ (by omega)))
    have s1 : f64 M = some (nI k, jm_up N2 39 0 0) := by
      unfold f64 f47
      rw [e1, decide_eq_true c, cond_true, e3, cond_false, h6, nI_p1, ← hN1, show N1 5 1 = nI ol by rw [hN1, jup_nj (by omega), h5], show N1 5 2 = nI k by rw [hN1, jup_eq], nI_add, rem8 (by omega), inb_s (show (ol + k) % 8 < 8 by omega) (by omega), gd_t, cl_s (by omega), q1, bd_s, bd_s, jup_ne (by omega), q2 5 (by omega) (by omega) (by omega), hN1, jup_eq]
    have fr1 : ∀ b, b < 2 ∨ 40 ≤ b → jm_up N2 39 0 0 b = M b := fun b hb => by rw [jup_ne (by omega), q2 b (by omega) (by omega) (by omega), z b (by omega)]
    have fr3 : ∀ b, 6 ≤ b → b < 39 → jm_up N2 39 0 0 b = M b := fun b hb hb2 => by rw [jup_ne (by omega), q2 b (by omega) (by omega) (by omega), z b (by omega)]
    obtain ⟨M3, hM3⟩ : ∃ M3, M3 = jm_up N2 39 0 0 := ⟨_, rfl⟩
    rw [← hM3] at s1 fr1 fr3
    obtain ⟨M4, hM4⟩ : ∃ M4, M4 = jm_up M3 113 2 (nI k) := ⟨_, rfl⟩
    obtain ⟨P, r1, r2, r3, r4⟩ := f99_s M4 (a := 963 + 321 * k) (b := 0) (by omega) (by omega) (by omega)
    have s2 : f116 M3 = some (nI k, P) := by
      unfold f116
      rw [fr1 113 (by omega), e2, decide_eq_true c, Bool.not_true, Bool.not_false, cond_true, g2, nI_p1, ← hM4, show M4 113 2 = nI k by rw [hM4, jup_eq], show (963 : Int32) + 321 * nI k = nI (963 + 321 * k) from ix321 963 k]
      rw [nI_0] at r1
      rw [r1, bd_s, r2 113 (by omega), hM4, jup_eq]
    have hP114 : ∀ j, 321 ≤ j → P 114 j = M 114 j := fun j hj => by rw [r4 j (by omega), hM4, jup_ne (by omega), fr1 114 (by omega)]
    have frP : ∀ b, b < 113 → P b = M3 b := fun b hb => by rw [r2 b (by omega), hM4, jup_ne (by omega)]
    obtain ⟨A', hA'⟩ : ∃ A' : hA, A' = (aP A k, (k, aP A), A.2.2) := ⟨_, rfl⟩
    have ci : CI M3 A' := by
      rw [hA']
      refine ⟨⟨hC_fr q3 (by rw [hM3, jup_ne (by omega)]) (by rw [hM3, jup_ne (by omega)]) (by rw [hM3, jup_ne (by omega)]), p2, (show k ≤ 8 by omega), ⟨ol, h4, ?_, ?_, fun i hi => ?_⟩, fun i hi => ?_⟩, Or.inl ?_⟩
      · rw [hM3, jup_ne (by omega), q2 5 (by omega) (by omega) (by omega), hN1, jup_nj (by omega), h5]
      · rw [hM3, jup_ne (by omega), q2 5 (by omega) (by omega) (by omega), hN1, jup_eq]
        rfl
      · have hi : i < k := hi
        obtain ⟨y1, y2⟩ := h7 i (by omega)
        exact ⟨hC_fr y1 (fr3 _ (by omega) (by omega)) (fr3 _ (by omega) (by omega)) (fr3 _ (by omega) (by omega)), y2⟩
      · obtain ⟨y1, y2⟩ := h8 i hi
        refine ⟨by rw [fr3 38 (by omega) (by omega)]; exact y1, fun q => ?_⟩
        obtain ⟨y3, y4⟩ := y2 q
        exact ⟨hC_fr y3 (fr3 _ (by omega) (by omega)) (fr3 _ (by omega) (by omega)) (fr3 _ (by omega) (by omega)), y4⟩
      · rw [hM3, jup_eq]
    refine ⟨nI k, M3, P, s1, s2, ⟨A', CI_fr ci (fun b _ hb => frP b (by omega)), ?_⟩, fr1 0 (by omega), by rw [frP 0 (by omega), fr1 0 (by omega)]⟩
    rw [hA']
    refine ⟨?_, by rw [r2 113 (by omega), hM4, jup_eq]; rfl, fun i hi => ?_, fun i hi => ?_⟩
    · refine hM_cp (g3 k (by omega)) (fun e he => ?_)
      rw [r3 e he, hM4, jup_ne (by omega), fr1 114 (by omega)]
    · have hi : i < k := hi
      exact hM_keep (g3 i (by omega)) (fun e he => hP114 _ (by omega))
    · obtain ⟨y1, y2⟩ := g4 i hi
      refine ⟨by rw [r2 115 (by omega), hM4, jup_ne (by omega), fr1 115 (by omega)]; exact y1, fun q => hM_keep (y2 q) (fun e he => hP114 _ (by omega))⟩
  · refine okS_no (r := -1000000003) hI' ?_ ?_
    · unfold f64
      rw [e1, decide_eq_false c]
      rfl
    · unfold f116
      rw [e2, decide_eq_false c]
      rfl
theorem op21 (hI : Inv M) (x0 : Int32) : okS M (f78 M x0) (fun N => f162 N x0) := by
  obtain ⟨A, hC0, hM0⟩ := hI
  have l0 : (0 : Int64) = (0 : Int32).toInt64 := by decide +kernel
  have l1 : (1 : Int64) = (1 : Int32).toInt64 := by decide +kernel
  have s1 : f78 M x0 = bif vB x0 0 1 then (jm_gd (jm_inb x0 2) (jm_bd (f10 M (32 + 3 * x0.toNatClampNeg) 2) (fun q5 => jm_gd (jm_inb x0 2) (jm_bd (f48 (jm_up q5 38 x0.toNatClampNeg 1)) (fun q8 => some (q8 2 0, q8)))))) else (some ((-1000000001), M)) := by
    unfold f78
    rw [f84_s, bd_s, bI_0, Bool.not_not]
  have s2 : ∀ N, f162 N x0 = bif vB x0 0 1 then (jm_bd (f99 N 0 (321 + (321 * x0))) (fun q4 => jm_gd (jm_inb x0 2) (some ((jm_up (jm_up q4 115 x0.toNatClampNeg 1) 113 2 0) 114 2, (jm_up (jm_up q4 115 x0.toNatClampNeg 1) 113 2 0))))) else (some ((-1000000001), N)) := by
    intro N
    unfold f162
    rw [l0, l1, f93_s, bd_s, bI_0, Bool.not_not]
  cases c1 : vB x0 0 1
  · rw [c1] at s1 s2
    exact okS_no ⟨A, hC0, hM0⟩ s1 (s2 M)
  · rw [c1] at s1 s2
    obtain ⟨k, hk', rfl⟩ := vB_in (m := 1) (by omega) c1
    have hk : k < 2 := by omega
    obtain ⟨⟨h1, h2, h3, ⟨ol, h4, h5, h6, h7⟩, h8⟩, h9⟩ := hC0
    obtain ⟨g1, g2, g3, g4⟩ := hM0
    obtain ⟨N1, q1, q2, q3⟩ := f10_s M (a0 := 32 + 3 * k) (b0 := 2) (by omega) h1
    obtain ⟨N3, hN3⟩ : ∃ N3, N3 = jm_up (jm_up N1 38 k 1) 5 2 0 := ⟨_, rfl⟩
    have z : ∀ b, b ≠ 5 → b ≠ 38 → b < 32 + 3 * k ∨ 35 + 3 * k ≤ b → N3 b = M b := fun b b1 b2 b3 => by rw [hN3, jup_ne b1, jup_ne b2, q2 b (by omega) (by omega) (by omega)]
    have s1 : f78 M (nI k) = some (nI (dn (aD A)), N3) := by
      rw [s1, cond_true, inb_s hk (by omega), gd_t, cl_s (by omega), q1, bd_s, gd_t]
      unfold f48
      rw [bd_s, ← hN3, z 2 (by omega) (by omega) (by omega), h1.1]
    obtain ⟨P1, r1, r2, r3, r4⟩ := f99_s N3 (a := 0) (b := 321 + 321 * k) (by omega) (by omega) (by omega)
    obtain ⟨P3, hP3⟩ : ∃ P3, P3 = jm_up (jm_up P1 115 k 1) 113 2 0 := ⟨_, rfl⟩
    have zP : ∀ b, b ≠ 113 → b ≠ 114 → b ≠ 115 → P3 b = N3 b := fun b b1 b2 b3 => by rw [hP3, jup_ne b1, jup_ne b3, r2 b b2]
    have z114 : P3 114 = P1 114 := by rw [hP3, jup_ne (by omega), jup_ne (by omega)]
    have rowk : ∀ j, j < 321 + 321 * k ∨ 642 + 321 * k ≤ j → P3 114 j = M 114 j := fun j hj => by rw [z114, r4 j (by omega), z 114 (by omega) (by omega) (by omega)]
    have s2 : f162 N3 (nI k) = some (nI (dn (aD A)), P3) := by
      rw [nI_0] at r1
      rw [s2 N3, cond_true, show (321 : Int32) + 321 * nI k = nI (321 + 321 * k) from ix321 321 k, r1, bd_s, inb_s hk (by omega), gd_t, cl_s (by omega), ← hP3, rowk 2 (by omega)]
      rw [show M 114 2 = nI (dn (aD A)) from g1.2.2.1]
    obtain ⟨A', hA'⟩ : ∃ A' : hA, A' = (aD A, (0, aP A), (fun i => if i = k then true else aK A i), (fun i => if i = k then aD A else aI A i)) := ⟨_, rfl⟩
    have ci : CI N3 A' := by
      rw [hA']
      refine ⟨⟨hC_fr h1 (z _ (by omega) (by omega) (by omega)) (z _ (by omega) (by omega) (by omega)) (z _ (by omega) (by omega) (by omega)), h2, Nat.zero_le 8, ⟨ol, h4, ?_, ?_, fun i hi => absurd hi (Nat.not_lt_zero i)⟩, fun i hi => ?_⟩, ?_⟩
      · rw [hN3, jup_nj (by omega), jup_ne (by omega), q2 5 (by omega) (by omega) (by omega), h5]
      · rw [hN3, jup_eq]
        exact nI_0.symm
      · show N3 38 i = bI (if i = k then true else aK A i) ∧ ((if i = k then true else aK A i) = true → hC N3 (32 + 3 * i) (if i = k then aD A else aI A i) ∧ hok (if i = k then aD A else aI A i))
        obtain ⟨y1, y2⟩ := h8 i hi
        by_cases c : i = k
        · rw [if_pos c, if_pos c, c]
          refine ⟨by rw [hN3, jup_ne (by omega), jup_eq]; rfl, fun _ => ⟨?_, h2⟩⟩
          have hf : ∀ b, b ≠ 5 → b ≠ 38 → N3 b = N1 b := fun b b1 b2 => by rw [hN3, jup_ne b1, jup_ne b2]
          exact hC_fr q3 (hf _ (by omega) (by omega)) (hf _ (by omega) (by omega)) (hf _ (by omega) (by omega))
        · rw [if_neg c, if_neg c]
          refine ⟨by rw [hN3, jup_ne (by omega), jup_nj c, q2 38 (by omega) (by omega) (by omega)]; exact y1, fun q => ?_⟩
          obtain ⟨y3, y4⟩ := y2 q
          exact ⟨hC_fr y3 (z _ (by omega) (by omega) (by omega)) (z _ (by omega) (by omega) (by omega)) (z _ (by omega) (by omega) (by omega)), y4⟩
      · rw [z 39 (by omega) (by omega) (by omega)]
        rcases h9 with q | ⟨qa, qb⟩
        · exact Or.inl q
        · exact Or.inr ⟨qa, Sv_fr qb h2 (fun b b1 b2 => z b (by omega) (by omega) (by omega))⟩
    refine ⟨_, N3, P3, s1, s2, ⟨A', CI_fr ci (fun b _ hb => zP b (by omega) (by omega) (by omega)), ?_⟩, z 0 (by omega) (by omega) (by omega), by rw [zP 0 (by omega) (by omega) (by omega), z 0 (by omega) (by omega) (by omega)]⟩
    rw [hA']
    refine ⟨hM_keep g1 (fun e he => rowk _ (by omega)), by rw [hP3, jup_eq]; exact nI_0.symm, fun i hi => absurd hi (Nat.not_lt_zero i), fun i hi => ?_⟩
    show P3 115 i = bI (if i = k then true else aK A i) ∧ ((if i = k then true else aK A i) = true → hM P3 (321 + 321 * i) (if i = k then aD A else aI A i))
    obtain ⟨y1, y2⟩ := g4 i hi
    by_cases c : i = k
    · rw [if_pos c, if_pos c, c]
      refine ⟨by rw [hP3, jup_ne (by omega), jup_eq]; rfl, fun _ => hM_cp g1 (fun e he => ?_)⟩
      rw [z114, r3 e he, z 114 (by omega) (by omega) (by omega)]
    · rw [if_neg c, if_neg c]
      refine ⟨by rw [hP3, jup_ne (by omega), jup_nj c, r2 115 (by omega), z 115 (by omega) (by omega) (by omega)]; exact y1, fun q => hM_keep (y2 q) (fun e he => rowk _ (by omega))⟩
theorem op22 (hI : Inv M) (x0 : Int32) : okS M (f79 M x0) (fun N => f163 N x0) := by
  obtain ⟨A, hC0, hM0⟩ := hI
  have l0 : (0 : Int64) = (0 : Int32).toInt64 := by decide +kernel
  have l1 : (1 : Int64) = (1 : Int32).toInt64 := by decide +kernel
  have s1 : f79 M x0 = bif vB x0 0 1 then (jm_gd (jm_inb x0 2) (bif !decide ((M 38 x0.toNatClampNeg) = 0) then (jm_gd (jm_inb x0 2) (jm_bd (f10 M 2 (32 + 3 * x0.toNatClampNeg)) (fun q7 => jm_bd (f48 (jm_up q7 39 0 0)) (fun q9 => some (q9 2 0, q9))))) else (some ((-1000000003), M)))) else (some ((-1000000001), M)) := by
    unfold f79
    rw [f84_s, bd_s, bI_0, Bool.not_not]
  have s2 : ∀ N, f163 N x0 = bif vB x0 0 1 then (jm_gd (jm_inb x0 2) (bif !decide ((N 115 x0.toNatClampNeg) = 0) then (jm_bd (f99 N (321 + (321 * x0)) 0) (fun q6 => some ((jm_up q6 113 2 0) 114 2, (jm_up q6 113 2 0)))) else (some ((-1000000003), N)))) else (some ((-1000000001), N)) := by
    intro N
    unfold f163
    rw [l0, l1, f93_s, bd_s, bI_0, Bool.not_not]
  cases c1 : vB x0 0 1
  · rw [c1] at s1 s2
    exact okS_no ⟨A, hC0, hM0⟩ s1 (s2 M)
  · rw [c1] at s1 s2
    obtain ⟨k, hk', rfl⟩ := vB_in (m := 1) (by omega) c1
    have hk : k < 2 := by omega
    have hC0' := hC0
    have hM0' := hM0
    obtain ⟨⟨h1, h2, h3, ⟨ol, h4, h5, h6, h7⟩, h8⟩, h9⟩ := hC0
    obtain ⟨g1, g2, g3, g4⟩ := hM0
    obtain ⟨y1, y2⟩ := h8 k hk
    obtain ⟨w1, w2⟩ := g4 k hk
    rw [cond_true, inb_s hk (by omega), gd_t, cl_s (by omega), y1, bI_0, Bool.not_not] at s1
    have s3 : ∀ N, N 115 = M 115 → f163 N (nI k) = bif aK A k then (jm_bd (f99 N (nI (321 + 321 * k)) 0) (fun q6 => some ((jm_up q6 113 2 0) 114 2, (jm_up q6 113 2 0)))) else (some ((-1000000003), N)) := by
      intro N hN
      rw [s2 N, cond_true, inb_s hk (by omega), gd_t, cl_s (by omega), hN, w1, bI_0, Bool.not_not, show (321 : Int32) + 321 * nI k = nI (321 + 321 * k) from ix321 321 k]
    cases e : aK A k
    · rw [e] at s1 s3
      exact okS_no ⟨A, hC0', hM0'⟩ s1 (s3 M rfl)
    · rw [e] at s1 s3
      obtain ⟨y3, y4⟩ := y2 e
      have w3 := w2 e
      obtain ⟨N1, q1, q2, q3⟩ := f10_s M (a0 := 2) (b0 := 32 + 3 * k) (by omega) y3
      obtain ⟨N3, hN3⟩ : ∃ N3, N3 = jm_up (jm_up N1 39 0 0) 5 2 0 := ⟨_, rfl⟩
      have z : ∀ b, b ≠ 5 → b ≠ 39 → b < 2 ∨ 5 ≤ b → N3 b = M b := fun b b1 b2 b3 => by rw [hN3, jup_ne b1, jup_ne b2, q2 b (by omega) (by omega) (by omega)]
      have z2 : ∀ b, b ≠ 5 → b ≠ 39 → N3 b = N1 b := fun b b1 b2 => by rw [hN3, jup_ne b1, jup_ne b2]
      have s1 : f79 M (nI k) = some (nI (dn (aI A k)), N3) := by
        rw [s1, cond_true, gd_t, q1, bd_s]
        unfold f48
        rw [bd_s, ← hN3, z2 2 (by omega) (by omega), q3.1]
      obtain ⟨P1, r1, r2, r3, r4⟩ := f99_s N3 (a := 321 + 321 * k) (b := 0) (by omega) (by omega) (by omega)
      obtain ⟨P3, hP3⟩ : ∃ P3, P3 = jm_up P1 113 2 0 := ⟨_, rfl⟩
      have zP : ∀ b, b ≠ 113 → b ≠ 114 → P3 b = N3 b := fun b b1 b2 => by rw [hP3, jup_ne b1, r2 b b2]
      have z114 : P3 114 = P1 114 := by rw [hP3, jup_ne (by omega)]
      have rowk : ∀ j, 321 ≤ j → P3 114 j = M 114 j := fun j hj => by rw [z114, r4 j (by omega), z 114 (by omega) (by omega) (by omega)]
      have hP0 : hM P3 0 (aI A k) := hM_cp w3 (fun e he => by rw [z114, r3 e he, z 114 (by omega) (by omega) (by omega)])
      have s2' : f163 N3 (nI k) = some (nI (dn (aI A k)), P3) := by
        rw [nI_0] at r1
        rw [s3 N3 (z 115 (by omega) (by omega) (by omega)), cond_true, r1, bd_s, ← hP3, hM_n hP0]
      obtain ⟨A', hA'⟩ : ∃ A' : hA, A' = (aI A k, (0, aP A), A.2.2) := ⟨_, rfl⟩
      have ci : CI N3 A' := by
        rw [hA']
        refine ⟨⟨hC_fr q3 (z2 _ (by omega) (by omega)) (z2 _ (by omega) (by omega)) (z2 _ (by omega) (by omega)), y4, Nat.zero_le 8, ⟨ol, h4, ?_, ?_, fun i hi => absurd hi (Nat.not_lt_zero i)⟩, fun i hi => ?_⟩, Or.inl ?_⟩
        · rw [hN3, jup_nj (by omega), jup_ne (by omega), q2 5 (by omega) (by omega) (by omega), h5]
        · rw [hN3, jup_eq]
          exact nI_0.symm
        · obtain ⟨x1, x2⟩ := h8 i hi
          refine ⟨by rw [z 38 (by omega) (by omega) (by omega)]; exact x1, fun q => ?_⟩
          obtain ⟨x3, x4⟩ := x2 q
          exact ⟨hC_fr x3 (z _ (by omega) (by omega) (by omega)) (z _ (by omega) (by omega) (by omega)) (z _ (by omega) (by omega) (by omega)), x4⟩
        · rw [hN3, jup_ne (by omega), jup_eq]
      refine ⟨_, N3, P3, s1, s2', ⟨A', CI_fr ci (fun b _ hb => zP b (by omega) (by omega)), ?_⟩, z 0 (by omega) (by omega) (by omega), by rw [zP 0 (by omega) (by omega), z 0 (by omega) (by omega) (by omega)]⟩
      rw [hA']
      refine ⟨hP0, by rw [hP3, jup_eq]; exact nI_0.symm, fun i hi => absurd hi (Nat.not_lt_zero i), fun i hi => ?_⟩
      obtain ⟨x1, x2⟩ := g4 i hi
      exact ⟨by rw [zP 115 (by omega) (by omega), z 115 (by omega) (by omega) (by omega)]; exact x1, fun q => hM_keep (x2 q) (fun e he => rowk _ (by omega))⟩
end
