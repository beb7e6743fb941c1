/-! ===== what is so, what was so, what is kept ===== -/
abbrev hA : Type := hD × (Nat × (Nat → hD)) × (Nat → Bool) × (Nat → hD)
def aD (A : hA) : hD := A.1
def aC (A : hA) : Nat := A.2.1.1
def aP (A : hA) : Nat → hD := A.2.1.2
def aK (A : hA) : Nat → Bool := A.2.2.1
def aI (A : hA) : Nat → hD := A.2.2.2
def wD' (A : hA) (D : hD) : hA := (D, A.2)
/-- the one side holds it, its forest aside -/
def CJ (M : jm_MM) (A : hA) : Prop := hC M 2 (aD A) ∧ hok (aD A) ∧ aC A ≤ 8 ∧ (∃ ol, ol < 8 ∧ M 5 1 = nI ol ∧ M 5 2 = nI (aC A) ∧ ∀ i, i < aC A → hC M (7 + 3 * ((ol + i) % 8)) (aP A i) ∧ hok (aP A i)) ∧ ∀ i, i < 2 → M 38 i = bI (aK A i) ∧ (aK A i = true → hC M (32 + 3 * i) (aI A i) ∧ hok (aI A i))
def CI (M : jm_MM) (A : hA) : Prop := CJ M A ∧ (M 39 0 = 0 ∨ (M 39 0 = 1 ∧ Sv M (aD A)))
/-- the reference holds it -/
def MI (M : jm_MM) (A : hA) : Prop := hM M 0 (aD A) ∧ M 113 2 = nI (aC A) ∧ (∀ i, i < aC A → hM M (963 + 321 * i) (aP A i)) ∧ ∀ i, i < 2 → M 115 i = bI (aK A i) ∧ (aK A i = true → hM M (321 + 321 * i) (aI A i))
theorem CJ_fr {M M' : jm_MM} {A : hA} (h : CJ M A) (hf : ∀ b, 2 ≤ b → b < 39 → M' b = M b) : CJ M' A := by
  obtain ⟨h1, h2, h3, ⟨ol, h4, h5, h6, h7⟩, h8⟩ := h
  refine ⟨hC_fr h1 (hf _ (by omega) (by omega)) (hf _ (by omega) (by omega)) (hf _ (by omega) (by omega)), h2, h3, ⟨ol, h4, by rw [hf 5 (by omega) (by omega)]; exact h5, by rw [hf 5 (by omega) (by omega)]; exact h6, fun i hi => ?_⟩, fun i hi => ?_⟩
  · obtain ⟨g1, g2⟩ := h7 i hi
    exact ⟨hC_fr g1 (hf _ (by omega) (by omega)) (hf _ (by omega) (by omega)) (hf _ (by omega) (by omega)), g2⟩
  · obtain ⟨g1, g2⟩ := h8 i hi
    refine ⟨by rw [hf 38 (by omega) (by omega)]; exact g1, fun q => ?_⟩
    obtain ⟨g3, g4⟩ := g2 q
    exact ⟨hC_fr g3 (hf _ (by omega) (by omega)) (hf _ (by omega) (by omega)) (hf _ (by omega) (by omega)), g4⟩
theorem CI_fr {M M' : jm_MM} {A : hA} (h : CI M A) (hf : ∀ b, 2 ≤ b → b < 102 → M' b = M b) : CI M' A := by
  refine ⟨CJ_fr h.1 (fun b h1 h2 => hf b h1 (by omega)), ?_⟩
  rw [hf 39 (by omega) (by omega)]
  rcases h.2 with q | ⟨q1, q2⟩
  · exact Or.inl q
  · exact Or.inr ⟨q1, Sv_fr q2 h.1.2.1 (fun b h1 h2 => hf b (by omega) h2)⟩
theorem MI_fr {M M' : jm_MM} {A : hA} (h : MI M A) (h0 : M' 113 2 = M 113 2) (h1 : M' 114 = M 114) (h2 : M' 115 = M 115) : MI M' A := by
  refine ⟨hM_fr h.1 h1, by rw [h0]; exact h.2.1, fun i hi => hM_fr (h.2.2.1 i hi) h1, fun i hi => ?_⟩
  obtain ⟨g1, g2⟩ := h.2.2.2 i hi
  exact ⟨by rw [h2]; exact g1, fun q => hM_fr (g2 q) h1⟩
/-- what may be undone, one more -/
def rmb (A : hA) : hA := if aC A = 8 then (aD A, (8, fun i => if i < 7 then aP A (i + 1) else aD A), A.2.2) else (aD A, (aC A + 1, fun i => if i = aC A then aD A else aP A i), A.2.2)
theorem rmb_D (A : hA) : aD (rmb A) = aD A := by
  unfold rmb
  split <;> rfl
/-! becoming another -/
theorem f10_s (M : jm_MM) {a0 b0 : Nat} {D : hD} (hab : a0 + 2 < b0 ∨ b0 + 2 < a0) (h : hC M b0 D) : ∃ M', f10 M a0 b0 = some M' ∧ (∀ b, b ≠ a0 → b ≠ a0 + 1 → b ≠ a0 + 2 → M' b = M b) ∧ hC M' a0 D := by
  unfold f10
  obtain ⟨N1, hN1⟩ : ∃ N1, N1 = jm_up M a0 0 (M b0 0) := ⟨_, rfl⟩
  rw [← hN1]
  obtain ⟨N2, hN2⟩ : ∃ N2, N2 = jm_up N1 a0 1 (N1 b0 1) := ⟨_, rfl⟩
  rw [← hN2]
  obtain ⟨N3, hN3⟩ : ∃ N3, N3 = jm_up N2 a0 2 (N2 b0 2) := ⟨_, rfl⟩
  rw [← hN3]
  obtain ⟨N4, hN4⟩ : ∃ N4, N4 = va_up N3 (a0 + 1) (va_cpy (N3 (b0 + 1)) (N3 (a0 + 1)) 0 0 24) := ⟨_, rfl⟩
  rw [← hN4]
  have z : ∀ b, b ≠ a0 → N3 b = M b := fun b hb => by rw [hN3, jup_ne hb, hN2, jup_ne hb, hN1, jup_ne hb]
  have z4 : ∀ b, b ≠ a0 → b ≠ a0 + 1 → N4 b = M b := fun b h1 h2 => by rw [hN4, va_up_ne' h2, z b h1]
  refine ⟨_, rfl, fun b h1 h2 h3 => by rw [va_up_ne' h3, z4 b h1 h2], ?_, ?_, ?_, fun g hg => ?_, fun p g hp hg => ?_⟩
  · rw [va_up_ne' (by omega), hN4, va_up_ne' (by omega), hN3, jup_nj (by omega), hN2, jup_nj (by omega), hN1, jup_eq]
    exact h.1
  · rw [va_up_ne' (by omega), hN4, va_up_ne' (by omega), hN3, jup_nj (by omega), hN2, jup_eq, hN1, jup_ne (by omega)]
    exact h.2.1
  · rw [va_up_ne' (by omega), hN4, va_up_ne' (by omega), hN3, jup_eq, hN2, jup_ne (by omega), hN1, jup_ne (by omega)]
    exact h.2.2.1
  · rw [va_up_ne' (by omega), hN4, va_up_eq', pk_cpy_in (by omega) (by omega), Nat.zero_add, Nat.sub_zero, z _ (by omega)]
    exact h.2.2.2.1 g hg
  · rw [va_up_eq', pk_cpy_in (by omega) (by omega), Nat.zero_add, Nat.sub_zero, z4 _ (by omega) (by omega)]
    exact h.2.2.2.2 p g hp hg
theorem rem8 {a : Nat} (h : a < 2 ^ 31) : nI a - nI a / 8 * 8 = nI (a % 8) := pk_rem (d := 8) h (by decide) (by decide)
theorem f46_32_d {M : jm_MM} {D : hD} {ol c : Nat} (hol : ol < 8) (hc : c < 8) (h : hC M 2 D) (h1 : M 5 1 = nI ol) (h2 : M 5 2 = nI c) :
    ∃ M', f46_32 M = some M' ∧ (∀ b, b ≠ 5 → b < 7 + 3 * ((ol + c) % 8) ∨ 10 + 3 * ((ol + c) % 8) ≤ b → M' b = M b) ∧ M' 5 1 = nI ol ∧ M' 5 2 = nI (c + 1) ∧ hC M' (7 + 3 * ((ol + c) % 8)) D := by
  unfold f46_32
  rw [h1, h2, nI_add, rem8 (by omega), inb_s (show (ol + c) % 8 < 8 by omega) (by omega), gd_t, cl_s (by omega)]
  obtain ⟨M1, q1, q2, q3⟩ := f10_s M (a0 := 7 + 3 * ((ol + c) % 8)) (by omega) h
  rw [q1, bd_s]
  refine ⟨_, rfl, fun b b1 b2 => by rw [jup_ne b1, q2 b (by omega) (by omega) (by omega)], ?_, ?_, hC_fr q3 (jup_ne (by omega)) (jup_ne (by omega)) (jup_ne (by omega))⟩
  · rw [jup_nj (by omega), q2 5 (by omega) (by omega) (by omega), h1]
  · rw [jup_eq, q2 5 (by omega) (by omega) (by omega), h2, nI_1]
theorem f88_d {M : jm_MM} {A : hA} (h : CJ M A) : ∃ M', f88 M = some M' ∧ (∀ b, b < 5 ∨ 31 ≤ b → b ≠ 39 → M' b = M b) ∧ M' 39 0 = 0 ∧ CJ M' (rmb A) := by
  obtain ⟨h1, h2, h3, ⟨ol, h4, h5, h6, h7⟩, h8⟩ := h
  unfold f88 f46
  by_cases c : aC A = 8
  · have e8 : decide (M 5 2 = 8) = true := by
      rw [h6, c]
      decide +kernel
    have e1 : M 5 1 + 1 - (M 5 1 + 1) / 8 * 8 = nI ((ol + 1) % 8) := by rw [h5, nI_1, rem8 (by omega)]
    rw [e8, Bool.not_true, cond_false, e1]
    obtain ⟨N1, hN1⟩ : ∃ N1, N1 = jm_up M 5 1 (nI ((ol + 1) % 8)) := ⟨_, rfl⟩
    rw [← hN1]
    have e2 : N1 5 2 - 1 = nI 7 := by
      rw [hN1, jup_nj (by omega), h6, c]
      rfl
    rw [e2]
    obtain ⟨N2, hN2⟩ : ∃ N2, N2 = jm_up N1 5 2 (nI 7) := ⟨_, rfl⟩
    rw [← hN2]
    have z : ∀ b, b ≠ 5 → N2 b = M b := fun b hb => by rw [hN2, jup_ne hb, hN1, jup_ne hb]
    obtain ⟨M1, q1, q2, q3, q4, q5⟩ := f46_32_d (M := N2) (D := aD A) (ol := (ol + 1) % 8) (c := 7) (by omega) (by omega) (hC_fr h1 (z 2 (by omega)) (z 3 (by omega)) (z 4 (by omega))) (by rw [hN2, jup_nj (by omega), hN1, jup_eq]) (by rw [hN2, jup_eq])
    have hfr : ∀ b, b ≠ 5 → b < 7 + 3 * (((ol + 1) % 8 + 7) % 8) ∨ 10 + 3 * (((ol + 1) % 8 + 7) % 8) ≤ b → M1 b = M b := fun b b1 b2 => by rw [q2 b b1 b2, z b b1]
    rw [q1, bd_s]
    have er : rmb A = (aD A, (8, fun i => if i < 7 then aP A (i + 1) else aD A), A.2.2) := by unfold rmb; rw [if_pos c]
    rw [er]
    refine ⟨_, rfl, fun b b1 b2 => by rw [jup_ne b2, hfr b (by omega) (by omega)], jup_eq, CJ_fr (M := M1) ?_ (fun b b1 b2 => jup_ne (by omega))⟩
    refine ⟨hC_fr h1 (hfr _ (by omega) (by omega)) (hfr _ (by omega) (by omega)) (hfr _ (by omega) (by omega)), h2, Nat.le_refl 8, ⟨(ol + 1) % 8, by omega, q3, q4, fun i hi => ?_⟩, fun i hi => ?_⟩
    · have hi : i < 8 := hi
      show hC M1 (7 + 3 * (((ol + 1) % 8 + i) % 8)) (if i < 7 then aP A (i + 1) else aD A) ∧ hok (if i < 7 then aP A (i + 1) else aD A)
      by_cases c2 : i < 7
      · rw [if_pos c2]
        obtain ⟨g1, g2⟩ := h7 (i + 1) (by omega)
        rw [show ((ol + 1) % 8 + i) % 8 = (ol + (i + 1)) % 8 by omega]
        exact ⟨hC_fr g1 (hfr _ (by omega) (by omega)) (hfr _ (by omega) (by omega)) (hfr _ (by omega) (by omega)), g2⟩
      · rw [if_neg c2, show i = 7 by omega]
        exact ⟨q5, h2⟩
    · obtain ⟨g1, g2⟩ := h8 i hi
      refine ⟨by rw [hfr 38 (by omega) (by omega)]; exact g1, fun q => ?_⟩
      obtain ⟨g3, g4⟩ := g2 q
      exact ⟨hC_fr g3 (hfr _ (by omega) (by omega)) (hfr _ (by omega) (by omega)) (hfr _ (by omega) (by omega)), g4⟩
  · have e8 : decide (M 5 2 = 8) = false := by
      rw [h6]
      show decide (nI (aC A) = nI 8) = false
      rw [deq (by omega) (by omega)]
      exact decide_eq_false c
    rw [e8, Bool.not_false, cond_true]
    obtain ⟨M1, q1, q2, q3, q4, q5⟩ := f46_32_d (M := M) (D := aD A) (ol := ol) (c := aC A) h4 (by omega) h1 h5 h6
    rw [q1, bd_s]
    have er : rmb A = (aD A, (aC A + 1, fun i => if i = aC A then aD A else aP A i), A.2.2) := by unfold rmb; rw [if_neg c]
    rw [er]
    refine ⟨_, rfl, fun b b1 b2 => by rw [jup_ne b2, q2 b (by omega) (by omega)], jup_eq, CJ_fr (M := M1) ?_ (fun b b1 b2 => jup_ne (by omega))⟩
    refine ⟨hC_fr h1 (q2 _ (by omega) (by omega)) (q2 _ (by omega) (by omega)) (q2 _ (by omega) (by omega)), h2, (show aC A + 1 ≤ 8 by omega), ⟨ol, h4, q3, q4, fun i hi => ?_⟩, fun i hi => ?_⟩
    · have hi : i < aC A + 1 := hi
      show hC M1 (7 + 3 * ((ol + i) % 8)) (if i = aC A then aD A else aP A i) ∧ hok (if i = aC A then aD A else aP A i)
      by_cases c2 : i = aC A
      · rw [if_pos c2, c2]
        exact ⟨q5, h2⟩
      · rw [if_neg c2]
        obtain ⟨g1, g2⟩ := h7 i (by omega)
        exact ⟨hC_fr g1 (q2 _ (by omega) (by omega)) (q2 _ (by omega) (by omega)) (q2 _ (by omega) (by omega)), g2⟩
    · obtain ⟨g1, g2⟩ := h8 i hi
      refine ⟨by rw [q2 38 (by omega) (by omega)]; exact g1, fun q => ?_⟩
      obtain ⟨g3, g4⟩ := g2 q
      exact ⟨hC_fr g3 (q2 _ (by omega) (by omega)) (q2 _ (by omega) (by omega)) (q2 _ (by omega) (by omega)), g4⟩
/-! the reference's rows -/
theorem hM_cp {M M' : jm_MM} {a b : Nat} {D : hD} (h : hM M a D) (hc : ∀ e, e < 321 → M' 114 (b + e) = M 114 (a + e)) : hM M' b D := by
  obtain ⟨h1, h2, h3, h4, h5, h6⟩ := h
  refine ⟨?_, ?_, ?_, fun g hg => ?_, fun p hp => ?_, fun p g hp hg e => ⟨?_, ?_⟩⟩
  · have := hc 0 (by omega)
    rw [Nat.add_zero, Nat.add_zero] at this
    rw [this, h1]
  · rw [hc 1 (by omega), h2]
  · rw [hc 2 (by omega), h3]
  · rw [hc _ (by omega), h4 g hg]
  · rw [hc _ (by omega), h5 p hp]
  · rw [hc _ (by omega), (h6 p g hp hg e).1]
  · rw [hc _ (by omega), (h6 p g hp hg e).2]
theorem hM_keep {M M' : jm_MM} {a : Nat} {D : hD} (h : hM M a D) (hc : ∀ e, e < 321 → M' 114 (a + e) = M 114 (a + e)) : hM M' a D := hM_cp h hc
theorem f99_s (M : jm_MM) {a b : Nat} (hab : a + 321 ≤ b ∨ b + 321 ≤ a) (ha : a + 321 ≤ 3531) (hb : b + 321 ≤ 3531) : ∃ M', f99 M (nI a) (nI b) = some M' ∧ (∀ c, c ≠ 114 → M' c = M c) ∧ (∀ e, e < 321 → M' 114 (b + e) = M 114 (a + e)) ∧ ∀ j, j < b ∨ b + 321 ≤ j → M' 114 j = M 114 j := by
  unfold f99
  have hx := lpI (fun n (w : jm_MM) u => f99_2 (fun Me4 => some Me4) n w (nI a) (nI b) u) (fun w => some w) (fun i w => (∀ c, c ≠ 114 → w c = M c) ∧ ∀ j, w 114 j = if b ≤ j ∧ j < b + i then M 114 (a + (j - b)) else M 114 j) 321 (by omega) ?_ ?_ M ⟨fun _ _ => rfl, fun j => by rw [if_neg (by omega)]⟩
  · obtain ⟨M', h1, h2, h3⟩ := hx
    refine ⟨M', h1, h2, fun e he => ?_, fun j hj => ?_⟩
    · rw [h3, if_pos (by omega), Nat.add_sub_cancel_left]
    · rw [h3, if_neg (by omega)]
  · intro n w _
    show f99_2 _ (n + 1) w _ _ (nI 321) = _
    rw [f99_2, show decide ((321 : Int32) ≤ nI 321) = true by decide +kernel, cond_true]
  · rintro n i w hi ⟨g1, g2⟩
    refine ⟨jm_up w 114 (b + i) (w 114 (a + i)), ?_, fun c hc => by rw [jup_ne hc, g1 c hc], fun j => ?_⟩
    · show f99_2 _ (n + 1) w _ _ (nI i) = f99_2 _ n _ _ _ (nI (i + 1))
      have e : decide ((321 : Int32) ≤ nI i) = false := by
        show decide (nI 321 ≤ nI i) = false
        rw [dle (by omega) (by omega)]
        exact decide_eq_false (by omega)
      rw [f99_2, e, cond_false, nI_add, nI_add, inb_s (show a + i < 3531 by omega) (by omega), gd_t, inb_s (show b + i < 3531 by omega) (by omega), gd_t, cl_s (show a + i < 2 ^ 31 by omega), cl_s (show b + i < 2 ^ 31 by omega), nI_1]
    · by_cases c : j = b + i
      · subst c
        rw [jup_eq, if_pos (by omega), g2, if_neg (by omega), Nat.add_sub_cancel_left]
      · rw [jup_nj c, g2]
        by_cases c2 : b ≤ j ∧ j < b + i
        · rw [if_pos c2, if_pos (by omega)]
        · rw [if_neg c2, if_neg (by omega)]
theorem ix321 (o i : Nat) : nI o + 321 * nI i = nI (o + 321 * i) := by
  show nI o + nI 321 * nI i = _
  rw [pk_mul, nI_add]
theorem f100_58_d {M : jm_MM} {c : Nat} (hc : c < 8) (h : M 113 2 = nI c) : ∃ M', f100_58 M = some M' ∧ (∀ b, b ≠ 113 → b ≠ 114 → M' b = M b) ∧ (∀ t, t ≠ 2 → M' 113 t = M 113 t) ∧ M' 113 2 = nI (c + 1) ∧ (∀ e, e < 321 → M' 114 (963 + 321 * c + e) = M 114 (0 + e)) ∧ ∀ j, j < 963 + 321 * c ∨ 963 + 321 * c + 321 ≤ j → M' 114 j = M 114 j := by
  obtain ⟨M1, q1, q2, q3, q4⟩ := f99_s M (a := 0) (b := 963 + 321 * c) (by omega) (by omega) (by omega)
  unfold f100_58
  rw [h, show (963 : Int32) + 321 * nI c = nI (963 + 321 * c) from ix321 963 c]
  rw [nI_0] at q1
  rw [q1, bd_s]
  refine ⟨_, rfl, fun b b1 b2 => by rw [jup_ne b1, q2 b b2], fun t ht => by rw [jup_nj ht, q2 113 (by omega)], by rw [jup_eq, q2 113 (by omega), h, nI_1], fun e he => by rw [jup_ne (by omega), q3 e he], fun j hj => by rw [jup_ne (by omega), q4 j hj]⟩
theorem f100_d {M : jm_MM} {A : hA} (h : MI M A) (hc8 : aC A ≤ 8) : ∃ M', f100 M = some M' ∧ (∀ b, b ≠ 113 → b ≠ 114 → M' b = M b) ∧ (∀ t, t ≠ 2 → M' 113 t = M 113 t) ∧ MI M' (rmb A) := by
  obtain ⟨h1, h2, h3, h4⟩ := h
  unfold f100
  by_cases c : aC A = 8
  · have e8 : decide (M 113 2 = 8) = true := by
      rw [h2, c]
      decide +kernel
    rw [e8, Bool.not_true, cond_false]
    have hx := lpI (fun n (w : jm_MM) u => f100_11 (fun Me7 => f100_58 (jm_up Me7 113 2 ((Me7 113 2) - 1))) n w u) (fun Me7 => f100_58 (jm_up Me7 113 2 ((Me7 113 2) - 1))) (fun i w => (∀ c, c ≠ 114 → w c = M c) ∧ ∀ j, w 114 j = if 963 ≤ j ∧ j < 963 + i then M 114 (j + 321) else M 114 j) 2247 (by omega) ?_ ?_ M ⟨fun _ _ => rfl, fun j => by rw [if_neg (by omega)]⟩
    · obtain ⟨N1, a1, a2, a3⟩ := hx
      have e7 : N1 113 2 - 1 = nI 7 := by
        rw [a2 113 (by omega), h2, c]
        rfl
      rw [a1, e7]
      obtain ⟨N2, hN2⟩ : ∃ N2, N2 = jm_up N1 113 2 (nI 7) := ⟨_, rfl⟩
      rw [← hN2]
      have z : ∀ b, b ≠ 113 → N2 b = N1 b := fun b hb => by rw [hN2, jup_ne hb]
      obtain ⟨M1, q1, q2, q3, q4, q5, q6⟩ := f100_58_d (M := N2) (c := 7) (by omega) (by rw [hN2, jup_eq])
      have er : rmb A = (aD A, (8, fun i => if i < 7 then aP A (i + 1) else aD A), A.2.2) := by unfold rmb; rw [if_pos c]
      rw [er]
      have row : ∀ j, j < 963 → M1 114 j = M 114 j := fun j hj => by rw [q6 j (by omega), z 114 (by omega), a3, if_neg (by omega)]
      have row2 : ∀ j, 963 ≤ j → j < 963 + 2247 → M1 114 j = M 114 (j + 321) := fun j hj hj2 => by rw [q6 j (by omega), z 114 (by omega), a3, if_pos (by omega)]
      refine ⟨M1, q1, fun b b1 b2 => by rw [q2 b b1 b2, z b b1, a2 b b2], fun t ht => ?_, hM_keep h1 (fun e he => row _ (by omega)), q4, fun i hi => ?_, fun i hi => ?_⟩
      · rw [q3 t ht, hN2, jup_nj ht, a2 113 (by omega)]
      · have hi : i < 8 := hi
        show hM M1 (963 + 321 * i) (if i < 7 then aP A (i + 1) else aD A)
        by_cases c2 : i < 7
        · rw [if_pos c2]
          refine hM_cp (h3 (i + 1) (by omega)) (fun e he => ?_)
          rw [row2 _ (by omega) (by omega), show 963 + 321 * i + e + 321 = 963 + 321 * (i + 1) + e by omega]
        · rw [if_neg c2, show i = 7 by omega]
          refine hM_cp h1 (fun e he => ?_)
          rw [q5 e he, z 114 (by omega), a3, if_neg (by omega)]
      · obtain ⟨g1, g2⟩ := h4 i hi
        refine ⟨by rw [q2 115 (by omega) (by omega), z 115 (by omega), a2 115 (by omega)]; exact g1, fun q => hM_keep (g2 q) (fun e he => row _ (by omega))⟩
    · intro n w _
      show f100_11 _ (n + 1) w (nI 2247) = _
      rw [f100_11, show decide ((2247 : Int32) ≤ nI 2247) = true by decide +kernel, cond_true]
    · rintro n i w hi ⟨g1, g2⟩
      refine ⟨jm_up w 114 (963 + i) (w 114 (963 + i + 321)), ?_, fun c hc => by rw [jup_ne hc, g1 c hc], fun j => ?_⟩
      · show f100_11 _ (n + 1) w (nI i) = f100_11 _ n _ (nI (i + 1))
        have e : decide ((2247 : Int32) ≤ nI i) = false := by
          show decide (nI 2247 ≤ nI i) = false
          rw [dle (by omega) (by omega)]
          exact decide_eq_false (by omega)
        rw [f100_11, e, cond_false, show (963 : Int32) + nI i = nI (963 + i) from nI_add 963 i, show nI (963 + i) + 321 = nI (963 + i + 321) from nI_add _ 321, inb_s (show 963 + i + 321 < 3531 by omega) (by omega), gd_t, inb_s (show 963 + i < 3531 by omega) (by omega), gd_t, cl_s (show 963 + i + 321 < 2 ^ 31 by omega), cl_s (show 963 + i < 2 ^ 31 by omega), nI_1]
      · by_cases c : j = 963 + i
        · subst c
          rw [jup_eq, if_pos (by omega), g2, if_neg (by omega)]
        · rw [jup_nj c, g2]
          by_cases c2 : 963 ≤ j ∧ j < 963 + i
          · rw [if_pos c2, if_pos (by omega)]
          · rw [if_neg c2, if_neg (by omega)]
  · have e8 : decide (M 113 2 = 8) = false := by
      rw [h2]
      show decide (nI (aC A) = nI 8) = false
      rw [deq (by omega) (by omega)]
      exact decide_eq_false c
    rw [e8, Bool.not_false, cond_true]
    obtain ⟨M1, q1, q2, q3, q4, q5, q6⟩ := f100_58_d (M := M) (c := aC A) (by omega) h2
    have er : rmb A = (aD A, (aC A + 1, fun i => if i = aC A then aD A else aP A i), A.2.2) := by unfold rmb; rw [if_neg c]
    rw [er]
    refine ⟨M1, q1, q2, q3, hM_keep h1 (fun e he => q6 _ (by omega)), q4, fun i hi => ?_, fun i hi => ?_⟩
    · have hi : i < aC A + 1 := hi
      show hM M1 (963 + 321 * i) (if i = aC A then aD A else aP A i)
      by_cases c2 : i = aC A
      · rw [if_pos c2, c2]
        exact hM_cp h1 q5
      · rw [if_neg c2]
        exact hM_keep (h3 i (by omega)) (fun e he => q6 _ (by omega))
    · obtain ⟨g1, g2⟩ := h4 i hi
      refine ⟨by rw [q2 115 (by omega) (by omega)]; exact g1, fun q => hM_keep (g2 q) (fun e he => q6 _ (by omega))⟩
/-! what is asked for is there -/
def vB (x lo hi : Int32) : Bool := !decide (x < lo) && !decide (hi < x)
theorem f86_s (M : jm_MM) (x lo hi : Int32) : f86 M x lo hi = some (bI (vB x lo hi)) := by
  unfold f86 vB
  cases decide (x < lo) <;> cases decide (hi < x) <;> rfl
theorem f93_s (M : jm_MM) (x lo hi : Int32) : f93 M x.toInt64 lo.toInt64 hi.toInt64 = some (bI (vB x lo hi)) := by
  unfold f93 vB
  have e1 : decide (lg_cmp x.toInt64 lo.toInt64 < 0) = decide (x < lo) := decide_eq_decide.mpr ((lg_cmp_lt _ _).trans (fa_wide_lt _ _))
  have e2 : decide (0 < lg_cmp x.toInt64 hi.toInt64) = decide (hi < x) := decide_eq_decide.mpr ((lg_cmp_gt _ _).trans (fa_wide_lt _ _))
  rw [e1, e2]
  cases decide (x < lo) <;> cases decide (hi < x) <;> rfl
theorem vB_in {x : Int32} {m : Nat} (hm : m < 2 ^ 31) (h : vB x 0 (nI m) = true) : ∃ j, j ≤ m ∧ x = nI j := by
  unfold vB at h
  rw [Bool.and_eq_true, Bool.not_eq_true', Bool.not_eq_true', decide_eq_false_iff_not, decide_eq_false_iff_not] at h
  exact nI_of2 (nI_toInt hm) h.1 (fa_of_nlt h.2)
def vG (x : Int32) : Bool := vB x 0 23
theorem vG_in {x : Int32} (h : vG x = true) : ∃ g, g < 24 ∧ x = nI g := by
  obtain ⟨j, h1, h2⟩ := vB_in (m := 23) (by omega) h
  exact ⟨j, by omega, h2⟩
def vX (x : Int32) : Bool := vB x 0 63
theorem vX_in {x : Int32} (h : vX x = true) : ∃ g, g < 64 ∧ x = nI g := by
  obtain ⟨j, h1, h2⟩ := vB_in (m := 63) (by omega) h
  exact ⟨j, by omega, h2⟩
def vP (n : Nat) (x : Int32) : Bool := !decide (x < 0) && !decide (nI n ≤ x)
theorem vP_in {n : Nat} (hn : n < 2 ^ 31) {x : Int32} (h : vP n x = true) : ∃ p, p < n ∧ x = nI p := by
  unfold vP at h
  rw [Bool.and_eq_true, Bool.not_eq_true', Bool.not_eq_true', decide_eq_false_iff_not, decide_eq_false_iff_not] at h
  rcases pk_ix x hn with q | q | q
  · exact absurd q h.1
  · exact absurd q h.2
  · exact q
theorem vP_vB {n : Nat} (hn : n < 2 ^ 30) (x : Int32) : vB x 0 (nI n - 1) = vP n x := by
  unfold vB vP
  congr 2
  refine decide_eq_decide.mpr ?_
  rw [fa_lt, fa_le, nI_toInt (show n < 2 ^ 31 by omega), show nI n - 1 = nI n - nI 1 from rfl, pk_sub_toInt hn (by omega)]
  omega
theorem vP_nI {n p : Nat} (hn : n < 2 ^ 31) (hp : p < n) : vP n (nI p) = true := by
  unfold vP
  rw [decide_eq_false (nI_pos (by omega)), decide_eq_false (nI_ge hp hn)]
  rfl
section
variable {M : jm_MM} {D : hD}
theorem f80_d (h : hC M 2 D) (x : Int32) : f80 M x = some (bI (vP (dn D) x)) := by
  unfold f80 vP
  rw [h.1]
  cases decide (x < 0) <;> cases decide (nI (dn D) ≤ x) <;> rfl
theorem f96_d (h : hM M 0 D) (hk : hok D) (x : Int32) : f96 M x = some (bI (vP (dn D) x)) := by
  have h6 := hk.1
  unfold f96
  rw [hM_n h, show (0 : Int64) = (0 : Int32).toInt64 by decide +kernel, f93_s, bd_s, bI_z, gd_t, vP_vB (by omega)]
theorem f83_s (M : jm_MM) (x : Int32) : f83 M x = some (bI (vG x)) := by
  unfold f83
  rw [f86_s, bd_s, bI_z, gd_t]
  rfl
theorem f97_s (M : jm_MM) (x : Int32) : f97 M x = some (bI (vG x)) := by
  unfold f97
  rw [show (0 : Int64) = (0 : Int32).toInt64 by decide +kernel, show (23 : Int64) = (23 : Int32).toInt64 by decide +kernel, f93_s, bd_s, bI_z, gd_t]
  rfl
theorem f98_s (M : jm_MM) (x : Int32) : f98 M x = some (bI (vX x)) := by
  unfold f98
  rw [show (0 : Int64) = (0 : Int32).toInt64 by decide +kernel, show (63 : Int64) = (63 : Int32).toInt64 by decide +kernel, f93_s, bd_s, bI_z, gd_t]
  rfl
theorem f81_d (h : hC M 2 D) (x y : Int32) : f81 M x y = some (bI (vP (dn D) x && vG y)) := by
  unfold f81
  rw [f80_d h, bd_s, bI_0, f83_s, bd_s, bI_0]
  cases vP (dn D) x <;> cases vG y <;> rfl
theorem f85_s (M : jm_MM) (x y : Int32) : f85 M x y = some (bI (vX x && vX y)) := by
  unfold f85
  rw [f86_s, bd_s, bI_0, f86_s, bd_s, bI_0, show vB x 0 63 = vX x from rfl, show vB y 0 63 = vX y from rfl]
  cases vX x <;> cases vX y <;> rfl
theorem f84_s (M : jm_MM) (x : Int32) : f84 M x = some (bI (vB x 0 1)) := by
  unfold f84
  rw [f86_s, bd_s, bI_z, gd_t]
end
