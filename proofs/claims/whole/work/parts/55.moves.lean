/-! ===== calls that change something ===== -/
def Inv (M : jm_MM) : Prop := ∃ A, CI M A ∧ MI M A
/-- one call on each side: the same answer, and it still holds -/
def okS (M : jm_MM) (c : Option (Int32 × jm_MM)) (m : jm_MM → Option (Int32 × jm_MM)) : Prop := ∃ r M1 M2, c = some (r, M1) ∧ m M1 = some (r, M2) ∧ Inv M2 ∧ M1 0 = M 0 ∧ M2 0 = M 0
theorem okS_no {M : jm_MM} {c : Option (Int32 × jm_MM)} {m : jm_MM → Option (Int32 × jm_MM)} {r : Int32} (hI : Inv M) (h1 : c = some (r, M)) (h2 : m M = some (r, M)) : okS M c m := ⟨r, M, M, h1, h2, hI, rfl, rfl⟩
def sN (D : hD) (n : Nat) : hD := ((n, dl D, dm D), dw D, di D, dx D, dy D)
def sLn (D : hD) (v : Nat) : hD := ((dn D, v, dm D), dw D, di D, dx D, dy D)
def sMn (D : hD) (v : Nat) : hD := ((dn D, dl D, v), dw D, di D, dx D, dy D)
def sW (D : hD) (g v : Nat) : hD := ((dn D, dl D, dm D), (fun k => if k = g then v else dw D k), di D, dx D, dy D)
def sP (D : hD) (p g x y : Nat) : hD := ((dn D, dl D, dm D), dw D, (fun q k => if q = p ∧ k = g then true else di D q k), (fun q k => if q = p ∧ k = g then x else dx D q k), (fun q k => if q = p ∧ k = g then y else dy D q k))
def sX (D : hD) (p g : Nat) : hD := ((dn D, dl D, dm D), dw D, (fun q k => if q = p ∧ k = g then false else di D q k), dx D, dy D)
def sC (D : hD) (p : Nat) : hD := ((dn D, dl D, dm D), dw D, (fun q k => if q = p then false else di D q k), dx D, dy D)
theorem CJ_D {M M' : jm_MM} {B : hA} {D' : hD} (h : CJ M B) (h1 : hC M' 2 D') (h2 : hok D') (hf : ∀ b, 5 ≤ b → b < 39 → M' b = M b) : CJ M' (wD' B D') := by
  obtain ⟨-, -, h3, ⟨ol, h4, h5, h6, h7⟩, h8⟩ := h
  refine ⟨h1, h2, h3, ⟨ol, h4, by rw [hf 5 (by omega) (by omega)]; exact h5, by rw [hf 5 (by omega) (by omega)]; exact h6, fun i hi => ?_⟩, fun i hi => ?_⟩
  · obtain ⟨g1, g2⟩ := h7 i hi
    exact ⟨hC_fr g1 (hf _ (by omega) (by omega)) (hf _ (by omega) (by omega)) (hf _ (by omega) (by omega)), g2⟩
  · obtain ⟨g1, g2⟩ := h8 i hi
    refine ⟨by rw [hf 38 (by omega) (by omega)]; exact g1, fun q => ?_⟩
    obtain ⟨g3, g4⟩ := g2 q
    exact ⟨hC_fr g3 (hf _ (by omega) (by omega)) (hf _ (by omega) (by omega)) (hf _ (by omega) (by omega)), g4⟩
theorem MI_D {M M' : jm_MM} {B : hA} {D' : hD} (h : MI M B) (h1 : hM M' 0 D') (h0 : M' 113 2 = M 113 2) (h2 : M' 115 = M 115) (hf : ∀ j, 321 ≤ j → M' 114 j = M 114 j) : MI M' (wD' B D') := by
  refine ⟨h1, by rw [h0]; exact h.2.1, fun i hi => hM_keep (h.2.2.1 i hi) (fun e he => hf _ (by omega)), fun i hi => ?_⟩
  obtain ⟨g1, g2⟩ := h.2.2.2 i hi
  exact ⟨by rw [h2]; exact g1, fun q => hM_keep (g2 q) (fun e he => hf _ (by omega))⟩
/-- the frame of a change: first the one side remembers and changes, then the reference does -/
theorem okS_ch {M : jm_MM} {A : hA} (hC0 : CI M A) (hM0 : MI M A) {D' : hD} {r : Int32} {c : Option (Int32 × jm_MM)} {m : jm_MM → Option (Int32 × jm_MM)} (hok' : hok D')
    (hc : ∀ N, f88 M = some N → hC N 2 (aD A) → ∃ N', c = some (r, N') ∧ hC N' 2 D' ∧ ∀ b, b < 2 ∨ 5 ≤ b → N' b = N b)
    (hm : ∀ M1 N, f100 M1 = some N → hM M1 0 (aD A) → hM N 0 (aD A) → ∃ N', m M1 = some (r, N') ∧ hM N' 0 D' ∧ (∀ b, b ≠ 114 → N' b = N b) ∧ ∀ j, 321 ≤ j → N' 114 j = N 114 j) : okS M c m := by
  obtain ⟨N, a1, a2, a3, a4⟩ := f88_d hC0.1
  have e0 := rmb_D A
  have hN : hC N 2 (aD A) := by
    have := a4.1
    rwa [e0] at this
  obtain ⟨N', b1, b2, b3⟩ := hc N a1 hN
  have fr1 : ∀ b, b < 2 ∨ 102 ≤ b → N' b = M b := fun b hb => by rw [b3 b (by omega), a2 b (by omega) (by omega)]
  have mi1 : MI N' A := MI_fr hM0 (by rw [fr1 113 (by omega)]) (fr1 114 (by omega)) (fr1 115 (by omega))
  obtain ⟨P, c1, c2, c3, c4⟩ := f100_d mi1 hC0.1.2.2.1
  have hP : hM P 0 (aD A) := by
    have := c4.1
    rwa [e0] at this
  obtain ⟨P', d1, d2, d3, d4⟩ := hm N' P c1 mi1.1 hP
  have fr2 : ∀ b, b < 113 → P' b = N' b := fun b hb => by rw [d3 b (by omega), c2 b (by omega) (by omega)]
  have cj : CJ N' (wD' (rmb A) D') := CJ_D a4 b2 hok' (fun b b1 b2 => b3 b (by omega))
  have ci : CI N' (wD' (rmb A) D') := ⟨cj, Or.inl (by rw [b3 39 (by omega), a3])⟩
  refine ⟨r, N', P', b1, d1, ⟨wD' (rmb A) D', CI_fr ci (fun b _ hb => fr2 b (by omega)), MI_D c4 d2 (by rw [d3 113 (by omega)]) (d3 115 (by omega)) d4⟩, fr1 0 (by omega), by rw [fr2 0 (by omega), fr1 0 (by omega)]⟩
section
variable {M : jm_MM} {D : hD}
theorem hC_N (h : hC M 2 D) (n : Nat) : hC (jm_up M 2 0 (nI n)) 2 (sN D n) := by
  refine ⟨jup_eq, by rw [jup_nj (by omega)]; exact h.2.1, by rw [jup_nj (by omega)]; exact h.2.2.1, fun g hg => by rw [jup_ne (by omega)]; exact h.2.2.2.1 g hg, fun p g hp hg => by rw [jup_ne (by omega)]; exact h.2.2.2.2 p g hp hg⟩
theorem hM_N (h : hM M 0 D) (n : Nat) : hM (jm_up M 114 2 (nI n)) 0 (sN D n) := by
  refine ⟨by rw [jup_nj (by omega)]; exact h.1, by rw [jup_nj (by omega)]; exact h.2.1, jup_eq, fun g hg => by rw [jup_nj (by omega)]; exact h.2.2.2.1 g hg, fun p hp => by rw [jup_nj (by omega)]; exact h.2.2.2.2.1 p hp, fun p g hp hg e => by rw [jup_nj (by omega), jup_nj (by omega)]; exact h.2.2.2.2.2 p g hp hg e⟩
/-! a picture more -/
theorem f11_d (h : hC M 2 D) (hn : dn D < 6) : ∃ M', f11 M = some (nI (dn D), M') ∧ (∀ b, b ≠ 2 → b ≠ 4 → M' b = M b) ∧ hC M' 2 (sN (sC D (dn D)) (dn D + 1)) := by
  unfold f11
  rw [h.1]
  have hx := lpI (fun n (w : jm_MM) u => f11_7 (fun Me4 ve5 => some (ve5, (jm_up Me4 2 0 ((Me4 2 0) + 1)))) n w (nI (dn D)) u) (fun w => some (nI (dn D), (jm_up w 2 0 ((w 2 0) + 1)))) (fun i w => (∀ b, b ≠ 4 → w b = M b) ∧ ∀ j, w 4 j = if 24 * dn D ≤ j ∧ j < 24 * dn D + i then -1 else M 4 j) 24 (by omega) ?_ ?_ M ⟨fun _ _ => rfl, fun j => by rw [if_neg (by omega)]⟩
  · obtain ⟨w, q1, q2, q3⟩ := hx
    have hw : hC w 2 (sC D (dn D)) := by
      refine ⟨by rw [q2 2 (by omega)]; exact h.1, by rw [q2 2 (by omega)]; exact h.2.1, by rw [q2 2 (by omega)]; exact h.2.2.1, fun g hg => by rw [q2 3 (by omega)]; exact h.2.2.2.1 g hg, fun p g hp hg => ?_⟩
      rw [q3]
      show _ = if (if p = dn D then false else di D p g) = true then nI (64 * dx D p g + dy D p g) else -1
      by_cases c : p = dn D
      · rw [if_pos (by omega), if_pos c, if_neg (by simp)]
      · rw [if_neg (by omega), if_neg c]
        exact h.2.2.2.2 p g hp hg
    refine ⟨jm_up w 2 0 (nI (dn D + 1)), ?_, fun b b1 b2 => by rw [jup_ne b1, q2 b b2], hC_N hw _⟩
    rw [q1, q2 2 (by omega), h.1, nI_1]
  · intro n w _
    show f11_7 _ (n + 1) w _ (nI 24) = _
    rw [f11_7, c24e, cond_true]
  · rintro n i w hi ⟨g1, g2⟩
    refine ⟨jm_up w 4 (24 * dn D + i) (-1), ?_, fun b hb => by rw [jup_ne hb, g1 b hb], fun j => ?_⟩
    · show f11_7 _ (n + 1) w _ (nI i) = f11_7 _ n _ _ (nI (i + 1))
      unfold f11_7 f13
      rw [c24 hi, cond_false, ix24, inb_s (show 24 * dn D + i < 144 by omega) (by omega), gd_t, bd_s, cl_s (by omega), nI_1]
      cases n <;> rfl
    · by_cases c : j = 24 * dn D + i
      · subst c
        rw [jup_eq, if_pos (by omega)]
      · rw [jup_nj c, g2]
        by_cases c2 : 24 * dn D ≤ j ∧ j < 24 * dn D + i
        · rw [if_pos c2, if_pos (by omega)]
        · rw [if_neg c2, if_neg (by omega)]
theorem f106_d (h : hM M 0 D) (hn : dn D < 6) : ∃ M', f106 M = some (nI (dn D), M') ∧ (∀ b, b ≠ 114 → M' b = M b) ∧ (∀ j, 321 ≤ j → M' 114 j = M 114 j) ∧ hM M' 0 (sN (sC D (dn D)) (dn D + 1)) := by
  unfold f106
  rw [hM_n h]
  have hx := lpI (fun n (w : jm_MM) u => f106_9 (fun Me5 ve6 => some (ve6, (jm_up Me5 114 2 ((Me5 114 2) + 1)))) n w (nI (dn D)) u) (fun w => some (nI (dn D), (jm_up w 114 2 ((w 114 2) + 1)))) (fun i w => (∀ b, b ≠ 114 → w b = M b) ∧ ∀ j, w 114 j = if 27 + 49 * dn D ≤ j ∧ j < 27 + 49 * dn D + i then 0 else M 114 j) 49 (by omega) ?_ ?_ M ⟨fun _ _ => rfl, fun j => by rw [if_neg (by omega)]⟩
  · obtain ⟨w, q1, q2, q3⟩ := hx
    have hw : hM w 0 (sC D (dn D)) := by
      refine ⟨by rw [q3, if_neg (by omega)]; exact h.1, by rw [q3, if_neg (by omega)]; exact h.2.1, by rw [q3, if_neg (by omega)]; exact h.2.2.1, fun g hg => by rw [q3, if_neg (by omega)]; exact h.2.2.2.1 g hg, fun p hp => ?_, fun p g hp hg e => ?_⟩
      · rw [q3]
        show _ = mk (fun k => if p = dn D then false else di D p k)
        by_cases c : p = dn D
        · rw [if_pos (by omega)]
          exact (mk_0.mpr fun i _ => if_pos c).symm
        · rw [if_neg (by omega), h.2.2.2.2.1 p hp]
          exact mk_ext fun i _ => (if_neg c).symm
      · have e : (if p = dn D then false else di D p g) = true := e
        by_cases c : p = dn D
        · rw [if_pos c] at e
          cases e
        · rw [if_neg c] at e
          rw [q3, if_neg (by omega), q3, if_neg (by omega)]
          exact h.2.2.2.2.2 p g hp hg e
    refine ⟨jm_up w 114 2 (nI (dn D + 1)), ?_, fun b b1 => by rw [jup_ne b1, q2 b b1], fun j hj => ?_, hM_N hw _⟩
    · rw [q1, q3, if_neg (by omega), hM_n h, nI_1]
    · rw [jup_nj (by omega), q3, if_neg (by omega)]
  · intro n w _
    show f106_9 _ (n + 1) w _ (nI 49) = _
    rw [f106_9, show decide ((49 : Int32) ≤ nI 49) = true by decide +kernel, cond_true]
  · rintro n i w hi ⟨g1, g2⟩
    refine ⟨jm_up w 114 (27 + 49 * dn D + i) 0, ?_, fun b hb => by rw [jup_ne hb, g1 b hb], fun j => ?_⟩
    · show f106_9 _ (n + 1) w _ (nI i) = f106_9 _ n _ _ (nI (i + 1))
      have e : decide ((49 : Int32) ≤ nI i) = false := by
        show decide (nI 49 ≤ nI i) = false
        rw [dle (by omega) (by omega)]
        exact decide_eq_false (by omega)
      rw [f106_9, e, cond_false, f101_s, bd_s, nI_add, inb_s (show 27 + 49 * dn D + i < 3531 by omega) (by omega), gd_t, cl_s (by omega), nI_1]
    · by_cases c : j = 27 + 49 * dn D + i
      · subst c
        rw [jup_eq, if_pos (by omega)]
      · rw [jup_nj c, g2]
        by_cases c2 : 27 + 49 * dn D ≤ j ∧ j < 27 + 49 * dn D + i
        · rw [if_pos c2, if_pos (by omega)]
        · rw [if_neg c2, if_neg (by omega)]
theorem hok_C (hk : hok D) {p n : Nat} (hn : n ≤ 6) : hok (sN (sC D p) n) := by
  refine ⟨hn, hk.2.1, hk.2.2.1, hk.2.2.2.1, fun q g hq hg e => ?_⟩
  have e : (if q = p then false else di D q g) = true := e
  by_cases c : q = p
  · rw [if_pos c] at e
    cases e
  · rw [if_neg c] at e
    exact hk.2.2.2.2 q g hq hg e
theorem lt6 {n : Nat} (hn : n ≤ 6) : decide (nI n < 6) = decide (n < 6) := by
  show decide (nI n < nI 6) = _
  rw [dlt (by omega) (by omega)]
theorem eq6 {n : Nat} (hn : n ≤ 6) : decide (nI n = 6) = !decide (n < 6) := by
  show decide (nI n = nI 6) = _
  rw [deq (by omega) (by omega)]
  by_cases c : n < 6
  · rw [decide_eq_true c, decide_eq_false (by omega)]
    rfl
  · rw [decide_eq_false c, decide_eq_true (by omega)]
    rfl
theorem op0 (hI : Inv M) : okS M (f57 M) f107 := by
  obtain ⟨A, hC0, hM0⟩ := hI
  have hk := hC0.1.2.1
  have h6 := hk.1
  have e1 : decide (M 2 0 < 6) = decide (dn (aD A) < 6) := by rw [hC0.1.1.1, lt6 h6]
  by_cases c : dn (aD A) < 6
  · refine okS_ch hC0 hM0 (D' := sN (sC (aD A) (dn (aD A))) (dn (aD A) + 1)) (r := nI (dn (aD A))) (hok_C hk (by omega)) (fun N hN hC1 => ?_) (fun M1 N hN hM1 hM2 => ?_)
    · obtain ⟨N', q1, q2, q3⟩ := f11_d hC1 c
      refine ⟨N', ?_, q3, fun b hb => q2 b (by omega) (by omega)⟩
      unfold f57
      rw [e1, decide_eq_true c, cond_true, hN, bd_s, q1, bd_s]
    · obtain ⟨N', q1, q2, q3, q4⟩ := f106_d hM2 c
      refine ⟨N', ?_, q4, q2, q3⟩
      unfold f107
      rw [hM_n hM1, eq6 h6, decide_eq_true c, Bool.not_true, Bool.not_false, cond_true, hN, bd_s, q1, bd_s]
  · refine okS_no (r := -1000000004) ⟨A, hC0, hM0⟩ ?_ ?_
    · unfold f57
      rw [e1, decide_eq_false c]
      rfl
    · unfold f107
      rw [hM_n hM0.1, eq6 h6, decide_eq_false c]
      rfl
theorem op1 (hI : Inv M) : okS M (f58 M) f108 := by
  obtain ⟨A, hC0, hM0⟩ := hI
  have hk := hC0.1.2.1
  have h6 := hk.1
  have e1 : decide ((1 : Int32) ≤ M 2 0) = decide (1 ≤ dn (aD A)) := by
    rw [hC0.1.1.1]
    show decide (nI 1 ≤ nI _) = _
    rw [dle (by omega) (by omega)]
  have e2 : ∀ n, n ≤ 6 → decide (nI n = 0) = !decide (1 ≤ n) := fun n hn => by
    show decide (nI n = nI 0) = _
    rw [deq (by omega) (by omega)]
    by_cases c : 1 ≤ n
    · rw [decide_eq_true c, decide_eq_false (by omega)]
      rfl
    · rw [decide_eq_false c, decide_eq_true (by omega)]
      rfl
  by_cases c : 1 ≤ dn (aD A)
  · have e3 : nI (dn (aD A)) - 1 = nI (dn (aD A) - 1) := by
      obtain ⟨m, hm⟩ : ∃ m, dn (aD A) = m + 1 := ⟨dn (aD A) - 1, by omega⟩
      rw [hm, nI_p1]
      rfl
    refine okS_ch hC0 hM0 (D' := sN (aD A) (dn (aD A) - 1)) (r := nI (dn (aD A) - 1)) ⟨(show dn (aD A) - 1 ≤ 6 by omega), hk.2⟩ (fun N hN hC1 => ?_) (fun M1 N hN hM1 hM2 => ?_)
    · refine ⟨_, ?_, hC_N hC1 _, fun b hb => jup_ne (by omega)⟩
      unfold f58
      rw [e1, decide_eq_true c, cond_true, hN, bd_s, hC1.1, e3, jup_eq]
    · refine ⟨_, ?_, hM_N hM2 _, fun b hb => jup_ne hb, fun j hj => jup_nj (by omega)⟩
      unfold f108
      rw [hM_n hM1, e2 _ h6, decide_eq_true c, Bool.not_true, Bool.not_false, cond_true, hN, bd_s, hM_n hM2, e3, jup_eq]
  · refine okS_no (r := -1000000003) ⟨A, hC0, hM0⟩ ?_ ?_
    · unfold f58
      rw [e1, decide_eq_false c]
      rfl
    · unfold f108
      rw [hM_n hM0.1, e2 _ h6, decide_eq_false c]
      rfl
/-! a grain lies somewhere -/
theorem hC_P (h : hC M 2 D) {p g x y : Nat} (hp : p < 6) (hg : g < 24) : hC (jm_up M 4 (24 * p + g) (nI (64 * x + y))) 2 (sP D p g x y) := by
  refine ⟨by rw [jup_ne (by omega)]; exact h.1, by rw [jup_ne (by omega)]; exact h.2.1, by rw [jup_ne (by omega)]; exact h.2.2.1, fun k hk => by rw [jup_ne (by omega)]; exact h.2.2.2.1 k hk, fun q k hq hk => ?_⟩
  show jm_up M 4 (24 * p + g) (nI (64 * x + y)) 4 (24 * q + k) = if (if q = p ∧ k = g then true else di D q k) = true then nI (64 * (if q = p ∧ k = g then x else dx D q k) + (if q = p ∧ k = g then y else dy D q k)) else -1
  by_cases c : q = p ∧ k = g
  · rw [if_pos c, if_pos c, if_pos c, if_pos rfl, c.1, c.2, jup_eq]
  · rw [if_neg c, if_neg c, if_neg c, jup_nj (by omega)]
    exact h.2.2.2.2 q k hq hk
theorem f12_s (M : jm_MM) {p g x y : Nat} (hp : p < 6) (hg : g < 24) : f12 M (nI p) (nI g) (nI x) (nI y) = some (jm_up M 4 (24 * p + g) (nI (64 * x + y))) := by
  unfold f12
  rw [ix24, inb_s (show 24 * p + g < 144 by omega) (by omega), gd_t, cl_s (by omega)]
  show some (jm_up M 4 (24 * p + g) (nI x * nI 64 + nI y)) = _
  rw [pk_mul, nI_add, Nat.mul_comm x 64]
theorem f105_d (h : hM M 0 D) {p g : Nat} (x y : Nat) (hp : p < 6) (hg : g < 24) : ∃ M', f105 M (nI p) (nI g) (nI x) (nI y) = some M' ∧ (∀ b, b ≠ 114 → M' b = M b) ∧ (∀ j, 321 ≤ j → M' 114 j = M 114 j) ∧ hM M' 0 (sP D p g x y) := by
  unfold f105
  simp only [f101_s, bd_s, nI_1, show nI (27 + 49 * p) + 25 = nI (27 + 49 * p + 25) from nI_add _ 25, nI_add, inb_s (show 27 + 49 * p < 3531 by omega) (by omega), inb_s (show 27 + 49 * p + 1 + g < 3531 by omega) (by omega), inb_s (show 27 + 49 * p + 25 + g < 3531 by omega) (by omega), gd_t, cl_s (show 27 + 49 * p < 2 ^ 31 by omega), cl_s (show 27 + 49 * p + 1 + g < 2 ^ 31 by omega), cl_s (show 27 + 49 * p + 25 + g < 2 ^ 31 by omega), hM_s h hp]
  have hin : ∀ j, j ≠ 27 + 49 * p → j ≠ 27 + 49 * p + 1 + g → j ≠ 27 + 49 * p + 25 + g → jm_up (jm_up (jm_up M 114 (27 + 49 * p) (mk (di D p) ||| (1 <<< (nI g &&& 31)))) 114 (27 + 49 * p + 1 + g) (nI x)) 114 (27 + 49 * p + 25 + g) (nI y) 114 j = M 114 j := fun j h1 h2 h3 => by rw [jup_nj h3, jup_nj h2, jup_nj h1]
  refine ⟨_, rfl, fun b hb => by rw [jup_ne hb, jup_ne hb, jup_ne hb], fun j hj => hin j (by omega) (by omega) (by omega), ?_⟩
  refine ⟨by rw [hin _ (by omega) (by omega) (by omega)]; exact h.1, by rw [hin _ (by omega) (by omega) (by omega)]; exact h.2.1, by rw [hin _ (by omega) (by omega) (by omega)]; exact h.2.2.1, fun k hk => by rw [hin _ (by omega) (by omega) (by omega)]; exact h.2.2.2.1 k hk, fun q hq => ?_, fun q k hq hk e => ?_⟩
  · show _ = mk (fun k => if q = p ∧ k = g then true else di D q k)
    by_cases c : q = p
    · subst c
      rw [Nat.zero_add, jup_nj (by omega), jup_nj (by omega), jup_eq]
      refine mk_eq (sm_or (sm_mk _) (sm_ob hg)) fun k hk => ?_
      rw [b_or, b_mkl hk, b_ob (by omega) (by omega)]
      by_cases c2 : k = g
      · rw [decide_eq_true c2, Bool.or_true, if_pos ⟨rfl, c2⟩]
      · rw [decide_eq_false c2, Bool.or_false, if_neg (fun q => c2 q.2)]
    · rw [hin _ (by omega) (by omega) (by omega), h.2.2.2.2.1 q hq]
      exact mk_ext fun k _ => (if_neg (fun r => c r.1)).symm
  · have e : (if q = p ∧ k = g then true else di D q k) = true := e
    show _ = nI (if q = p ∧ k = g then x else dx D q k) ∧ _ = nI (if q = p ∧ k = g then y else dy D q k)
    by_cases c : q = p ∧ k = g
    · obtain ⟨rfl, rfl⟩ := c
      rw [if_pos ⟨rfl, rfl⟩, if_pos ⟨rfl, rfl⟩, Nat.zero_add, Nat.zero_add, jup_nj (by omega), jup_eq, jup_eq]
      exact ⟨rfl, rfl⟩
    · rw [if_neg c] at e
      rw [if_neg c, if_neg c, hin _ (by omega) (by omega) (by omega), hin _ (by omega) (by omega) (by omega)]
      exact h.2.2.2.2.2 q k hq hk e
theorem hok_P (hk : hok D) {p g x y : Nat} (hx : x < 64) (hy : y < 64) : hok (sP D p g x y) := by
  refine ⟨hk.1, hk.2.1, hk.2.2.1, hk.2.2.2.1, fun q k hq hk2 e => ?_⟩
  have e : (if q = p ∧ k = g then true else di D q k) = true := e
  show (if q = p ∧ k = g then x else dx D q k) < 64 ∧ (if q = p ∧ k = g then y else dy D q k) < 64
  by_cases c : q = p ∧ k = g
  · rw [if_pos c, if_pos c]
    exact ⟨hx, hy⟩
  · rw [if_neg c] at e
    rw [if_neg c, if_neg c]
    exact hk.2.2.2.2 q k hq hk2 e
theorem op2 (hI : Inv M) (x0 x1 x2 x3 : Int32) : okS M (f59 M x0 x1 x2 x3) (fun N => f109 N x0 x1 x2 x3) := by
  obtain ⟨A, hC0, hM0⟩ := hI
  have hk := hC0.1.2.1
  have h6 := hk.1
  have s1 : f59 M x0 x1 x2 x3 = (bif (vP (dn (aD A)) x0 && vG x1) then (bif (vX x2 && vX x3) then (jm_bd (f88 M) (fun q7 => jm_bd (f14 q7 x0 x1) (fun q9 => jm_bd (f12 q7 x0 x1 x2 x3) (fun q12 => some (bif decide (q9 = 0) then 0 else 1, q12))))) else some (-1000000002, M)) else some (-1000000001, M)) := by
    unfold f59 f59_45
    rw [f81_d hC0.1.1, bd_s, bI_0, Bool.not_not, f85_s, bd_s, bI_0, Bool.not_not]
    congr 3
    funext q7
    congr 1
    funext q9
    cases decide (q9 = 0) <;> rfl
  have s2 : ∀ N, hM N 0 (aD A) → f109 N x0 x1 x2 x3 = (bif (vP (dn (aD A)) x0 && vG x1) then (bif (vX x2 && vX x3) then (jm_bd (f100 N) (fun q13 => jm_bd (f102 q13 x0) (fun q15 => jm_bd (f94 q13 q15 x1) (fun q17 => jm_bd (f105 q13 x0 x1 x2 x3) (fun q20 => some (bif decide (q17 = 0) then 0 else 1, q20)))))) else some (-1000000002, N)) else some (-1000000001, N)) := by
    intro N hN
    unfold f109 f109_57
    rw [f96_d hN hk, bd_s, bI_0, f97_s, bd_s, bI_0, f98_s, bd_s, bI_0, f98_s, bd_s, bI_0]
    cases vP (dn (aD A)) x0 <;> cases vG x1 <;> cases vX x2 <;> cases vX x3 <;> first | rfl | skip
    show jm_bd (f100 N) _ = jm_bd (f100 N) _
    congr 1
    funext q13
    congr 1
    funext q15
    congr 1
    funext q17
    cases decide (q17 = 0) <;> rfl
  cases c1 : (vP (dn (aD A)) x0 && vG x1)
  · rw [c1] at s1 s2
    exact okS_no ⟨A, hC0, hM0⟩ s1 (s2 M hM0.1)
  · cases c2 : (vX x2 && vX x3)
    · rw [c1, c2] at s1 s2
      exact okS_no ⟨A, hC0, hM0⟩ s1 (s2 M hM0.1)
    · rw [c1, c2] at s1 s2
      rw [Bool.and_eq_true] at c1 c2
      obtain ⟨p, hp, rfl⟩ := vP_in (by omega) c1.1
      obtain ⟨g, hg, rfl⟩ := vG_in c1.2
      obtain ⟨x, hx, rfl⟩ := vX_in c2.1
      obtain ⟨y, hy, rfl⟩ := vX_in c2.2
      have er : ∀ b : Bool, (bif decide (bI b = 0) then (0 : Int32) else 1) = bI b := fun b => by cases b <;> rfl
      refine okS_ch hC0 hM0 (D' := sP (aD A) p g x y) (r := bI (di (aD A) p g)) (hok_P hk hx hy) (fun N hN hC1 => ?_) (fun M1 N hN hM1 hM2 => ?_)
      · refine ⟨_, ?_, hC_P hC1 (show p < 6 by omega) hg, fun b hb => jup_ne (by omega)⟩
        rw [s1, cond_true, cond_true, hN, bd_s, f14_d hC1 (show p < 6 by omega) hg hk, bd_s, f12_s N (show p < 6 by omega) hg, bd_s, er]
      · obtain ⟨N', q1, q2, q3, q4⟩ := f105_d hM2 x y (show p < 6 by omega) hg
        refine ⟨N', ?_, q4, q2, q3⟩
        show f109 M1 _ _ _ _ = _
        rw [s2 M1 hM1, cond_true, cond_true, hN, bd_s, f102_d hM2 (show p < 6 by omega), bd_s, f94_s N _ (by omega), bd_s, q1, bd_s, er, b_mkl hg]
/-! a grain is lost -/
theorem op3 (hI : Inv M) (x0 x1 : Int32) : okS M (f60 M x0 x1) (fun N => f110 N x0 x1) := by
  obtain ⟨A, hC0, hM0⟩ := hI
  have hk := hC0.1.2.1
  have h6 := hk.1
  have s1 : f60 M x0 x1 = (bif (vP (dn (aD A)) x0 && vG x1) then (jm_bd (f14 M x0 x1) (fun q4 => bif !decide (q4 = 0) then (jm_bd (f88 M) (fun q7 => jm_bd (f13 q7 x0 x1) (fun q9 => jm_bd (f18 q9 x0) (fun q11 => jm_bd (f164 q9 q11) (fun q13 => some (q13, q9)))))) else (some ((-1000000003), M)))) else some (-1000000001, M)) := by
    unfold f60
    rw [f81_d hC0.1.1, bd_s, bI_0, Bool.not_not]
  have s2 : ∀ N, hM N 0 (aD A) → f110 N x0 x1 = (bif (vP (dn (aD A)) x0 && vG x1) then (jm_bd (f102 N x0) (fun q7 => jm_bd (f94 N q7 x1) (fun q9 => bif !decide (q9 = 0) then (jm_bd (f100 N) (fun q12 => jm_bd (f101 q12 x0) (fun q14 => jm_gd (jm_inb q14 3531) (jm_gd (jm_inb q14 3531) (jm_bd (f102 (jm_up q12 114 q14.toNatClampNeg ((q12 114 q14.toNatClampNeg) &&& ((1 <<< (x1 &&& 31)) ^^^ (-1)))) x0) (fun q18 => jm_bd (f95 (jm_up q12 114 q14.toNatClampNeg ((q12 114 q14.toNatClampNeg) &&& ((1 <<< (x1 &&& 31)) ^^^ (-1)))) q18) (fun q20 => some (q20, (jm_up q12 114 q14.toNatClampNeg ((q12 114 q14.toNatClampNeg) &&& ((1 <<< (x1 &&& 31)) ^^^ (-1)))))))))))) else (some ((-1000000003), N))))) else some (-1000000001, N)) := by
    intro N hN
    unfold f110
    rw [f96_d hN hk, bd_s, bI_0, f97_s, bd_s, bI_0]
    cases vP (dn (aD A)) x0 <;> cases vG x1 <;> rfl
  cases c1 : (vP (dn (aD A)) x0 && vG x1)
  · rw [c1] at s1 s2
    exact okS_no ⟨A, hC0, hM0⟩ s1 (s2 M hM0.1)
  · rw [c1] at s1 s2
    rw [Bool.and_eq_true] at c1
    obtain ⟨p, hp, rfl⟩ := vP_in (by omega) c1.1
    obtain ⟨g, hg, rfl⟩ := vG_in c1.2
    have hp6 : p < 6 := by omega
    rw [cond_true, f14_d hC0.1.1 hp6 hg hk, bd_s, bI_0, Bool.not_not] at s1
    have s3 : ∀ N, hM N 0 (aD A) → f110 N (nI p) (nI g) = bif di (aD A) p g then (jm_bd (f100 N) (fun q12 => jm_bd (f101 q12 (nI p)) (fun q14 => jm_gd (jm_inb q14 3531) (jm_gd (jm_inb q14 3531) (jm_bd (f102 (jm_up q12 114 q14.toNatClampNeg ((q12 114 q14.toNatClampNeg) &&& ((1 <<< (nI g &&& 31)) ^^^ (-1)))) (nI p)) (fun q18 => jm_bd (f95 (jm_up q12 114 q14.toNatClampNeg ((q12 114 q14.toNatClampNeg) &&& ((1 <<< (nI g &&& 31)) ^^^ (-1)))) q18) (fun q20 => some (q20, (jm_up q12 114 q14.toNatClampNeg ((q12 114 q14.toNatClampNeg) &&& ((1 <<< (nI g &&& 31)) ^^^ (-1)))))))))))) else (some ((-1000000003), N)) := by
      intro N hN
      rw [s2 N hN, cond_true, f102_d hN hp6, bd_s, f94_s N _ (by omega), bd_s, bI_0, Bool.not_not, b_mkl hg]
    cases e : di (aD A) p g
    · rw [e] at s1 s3
      exact okS_no ⟨A, hC0, hM0⟩ s1 (s3 M hM0.1)
    · rw [e] at s1 s3
      have hX : hok (sX (aD A) p g) := by
        refine ⟨hk.1, hk.2.1, hk.2.2.1, hk.2.2.2.1, fun q k hq hk2 e2 => ?_⟩
        have e2 : (if q = p ∧ k = g then false else di (aD A) q k) = true := e2
        by_cases c : q = p ∧ k = g
        · rw [if_pos c] at e2
          cases e2
        · rw [if_neg c] at e2
          exact hk.2.2.2.2 q k hq hk2 e2
      refine okS_ch hC0 hM0 (D' := sX (aD A) p g) (r := nI (fb_ct (di (sX (aD A) p g) p) 24)) hX (fun N hN hC1 => ?_) (fun M1 N hN hM1 hM2 => ?_)
      · have hC2 : hC (jm_up N 4 (24 * p + g) (-1)) 2 (sX (aD A) p g) := by
          refine ⟨by rw [jup_ne (by omega)]; exact hC1.1, by rw [jup_ne (by omega)]; exact hC1.2.1, by rw [jup_ne (by omega)]; exact hC1.2.2.1, fun k hk => by rw [jup_ne (by omega)]; exact hC1.2.2.2.1 k hk, fun q k hq hk2 => ?_⟩
          show jm_up N 4 (24 * p + g) (-1) 4 (24 * q + k) = if (if q = p ∧ k = g then false else di (aD A) q k) = true then nI (64 * dx (aD A) q k + dy (aD A) q k) else -1
          by_cases c : q = p ∧ k = g
          · rw [if_pos c, if_neg (by simp), c.1, c.2, jup_eq]
          · rw [if_neg c, jup_nj (by omega)]
            exact hC1.2.2.2.2 q k hq hk2
        refine ⟨_, ?_, hC2, fun b hb => jup_ne (by omega)⟩
        rw [s1, cond_true, hN, bd_s]
        unfold f13
        rw [ix24, inb_s (show 24 * p + g < 144 by omega) (by omega), gd_t, bd_s, cl_s (by omega), f18_d hC2 hX hp6, bd_s, f164_mk, bd_s]
      · have hrow : N 114 (27 + 49 * p) &&& ((1 <<< (nI g &&& 31)) ^^^ (-1)) = mk (di (sX (aD A) p g) p) := by
          rw [hM_s hM2 hp6]
          refine mk_eq (sm_andl (sm_mk _)) fun k hk2 => ?_
          rw [b_and, b_mkl hk2, b_not _ (by omega), b_ob (by omega) (by omega)]
          show _ = if p = p ∧ k = g then false else di (aD A) p k
          by_cases c : k = g
          · rw [decide_eq_true c, Bool.not_true, Bool.and_false, if_pos ⟨rfl, c⟩]
          · rw [decide_eq_false c, Bool.not_false, Bool.and_true, if_neg (fun r => c r.2)]
        have hM3 : hM (jm_up N 114 (27 + 49 * p) (mk (di (sX (aD A) p g) p))) 0 (sX (aD A) p g) := by
          refine ⟨by rw [jup_nj (by omega)]; exact hM2.1, by rw [jup_nj (by omega)]; exact hM2.2.1, by rw [jup_nj (by omega)]; exact hM2.2.2.1, fun k hk => by rw [jup_nj (by omega)]; exact hM2.2.2.2.1 k hk, fun q hq => ?_, fun q k hq hk2 e2 => ?_⟩
          · by_cases c : q = p
            · subst c
              rw [Nat.zero_add, jup_eq]
            · rw [jup_nj (by omega), hM2.2.2.2.2.1 q hq]
              exact mk_ext fun k _ => (if_neg (fun r => c r.1)).symm
          · have e2 : (if q = p ∧ k = g then false else di (aD A) q k) = true := e2
            by_cases c : q = p ∧ k = g
            · rw [if_pos c] at e2
              cases e2
            · rw [if_neg c] at e2
              rw [jup_nj (by omega), jup_nj (by omega)]
              exact hM2.2.2.2.2.2 q k hq hk2 e2
        refine ⟨_, ?_, hM3, fun b hb => jup_ne hb, fun j hj => jup_nj (by omega)⟩
        show f110 M1 _ _ = _
        rw [s3 M1 hM1, cond_true, hN, bd_s, f101_s, bd_s, inb_s (show 27 + 49 * p < 3531 by omega) (by omega), gd_t, gd_t, cl_s (by omega), hrow, f102_d hM3 hp6, bd_s, f95_mk, bd_s]
end
