/-! ===== questions, on both sides ===== -/
def okV (M : jm_MM) (c : Option (Int32 × jm_MM)) (m : jm_MM → Option Int32) : Prop := ∃ r M1, c = some (r, M1) ∧ m M1 = some r ∧ Inv M1 ∧ M1 0 = M 0
section
variable {M : jm_MM} {A : hA}
theorem sv_q (h : CI M A) : ∃ M1, f22 M = some M1 ∧ CI M1 A ∧ Sv M1 (aD A) ∧ M1 39 0 = 1 ∧ ∀ b, b < 39 ∨ 102 ≤ b → M1 b = M b := by
  obtain ⟨M1, a1, a2, a3, a4⟩ := f22_d h.1.1 h.1.2.1 h.2
  exact ⟨M1, a1, ⟨CJ_fr h.1 (fun b _ hb => a2 b (by omega)), Or.inr ⟨a3, a4⟩⟩, a4, a3, a2⟩
theorem MI_q {M1 : jm_MM} (h : MI M A) (hf : ∀ b, 113 ≤ b → M1 b = M b) : MI M1 A := MI_fr h (by rw [hf 113 (by omega)]) (hf 114 (by omega)) (hf 115 (by omega))
theorem okS_q {c : Option (Int32 × jm_MM)} {m : jm_MM → Option (Int32 × jm_MM)} {r : Int32} {M1 M2 : jm_MM} (hM0 : MI M A) (hc : c = some (r, M1)) (ci : CI M1 A) (fr : ∀ b, b < 2 ∨ 112 ≤ b → M1 b = M b) (hm : m M1 = some (r, M2)) (fm : ∀ b, b ≠ 113 → b < 116 ∨ 125 < b → M2 b = M1 b) (f3 : ∀ t, t ≠ 6 → t ≠ 11 → M2 113 t = M1 113 t) : okS M c m := by
  have mi := MI_q hM0 (fun b hb => fr b (by omega))
  exact ⟨r, M1, M2, hc, hm, ⟨A, CI_fr ci (fun b _ hb => fm b (by omega) (by omega)), MI_fr mi (f3 2 (by omega) (by omega)) (fm 114 (by omega) (by omega)) (fm 115 (by omega) (by omega))⟩, fr 0 (by omega), by rw [fm 0 (by omega) (by omega), fr 0 (by omega)]⟩
theorem okS_q1 {c : Option (Int32 × jm_MM)} {m : jm_MM → Option (Int32 × jm_MM)} {r : Int32} {M1 : jm_MM} (hM0 : MI M A) (hc : c = some (r, M1)) (ci : CI M1 A) (fr : ∀ b, b < 2 ∨ 112 ≤ b → M1 b = M b) (hm : m M1 = some (r, M1)) : okS M c m := okS_q hM0 hc ci fr hm (fun _ _ _ => rfl) (fun _ _ _ => rfl)
theorem okV_q {c : Option (Int32 × jm_MM)} {m : jm_MM → Option Int32} {r : Int32} {M1 : jm_MM} (hM0 : MI M A) (hc : c = some (r, M1)) (ci : CI M1 A) (fr : ∀ b, b < 2 ∨ 112 ≤ b → M1 b = M b) (hm : m M1 = some r) : okV M c m := ⟨r, M1, hc, hm, ⟨A, ci, MI_q hM0 (fun b hb => fr b (by omega))⟩, fr 0 (by omega)⟩
/-- the one side's tree -/
theorem tr_q (h : CI M A) {p : Nat} (hp : p < 6) : ∃ M1, f90 M (nI p) = some M1 ∧ CI M1 A ∧ (∀ b, b < 105 ∨ 111 < b → M1 b = M b) ∧ XY M1 (aD A) p ∧ M1 105 0 = rt (kx (aD A) p) (eo (aD A) p) (ec (aD A) p) 0 ∧ isTr (aD A) p (M1 106) (M1 107) (M1 108) ∧ ∃ H, M1 105 1 = nI H ∧ H ≤ 24 ∧ isHt (M1 108) (eo (aD A) p) (ec (aD A) p) 0 H := by
  obtain ⟨M1, a1, a2, a3, a4, a5, a6⟩ := f50_d h.1.1 h.1.2.1 hp
  refine ⟨M1, ?_, CI_fr h (fun b _ hb => a2 b (by omega)), a2, a3, a4, a5, a6⟩
  unfold f90
  rw [a1, bd_s]
theorem d_1 {a : Int32} : decide (a = a) = true := decide_eq_true rfl

theorem op8 (hI : Inv M) (x0 : Int32) : okS M (f65 M x0) (fun N => f134 N x0) := by
  have hI' := hI
  obtain ⟨A, hC0, hM0⟩ := hI
  have hk := hC0.1.2.1
  have s1 := f65.eq_1 M x0
  by_cases h0 : x0 = 0
  · subst h0
    rw [decide_eq_true (rfl : (0 : Int32) = 0), cond_true] at s1
    rw [hC0.1.1.1] at s1
    exact okS_no hI' s1 (by have s3 := f134.eq_1 M 0; rw [decide_eq_true (rfl : (0 : Int32) = 0), cond_true, hM_n hM0.1] at s3; exact s3)
  by_cases h1 : x0 = 1
  · subst h1
    rw [decide_eq_false h0, cond_false, decide_eq_true (rfl : (1 : Int32) = 1), cond_true] at s1
    rw [hC0.1.1.2.1] at s1
    exact okS_no hI' s1 (by have s3 := f134.eq_1 M 1; rw [decide_eq_false h0, cond_false, decide_eq_true (rfl : (1 : Int32) = 1), cond_true, hM_l hM0.1] at s3; exact s3)
  by_cases h2 : x0 = 2
  · subst h2
    rw [decide_eq_false h0, cond_false, decide_eq_false h1, cond_false, decide_eq_true (rfl : (2 : Int32) = 2), cond_true] at s1
    rw [hC0.1.1.2.2.1] at s1
    exact okS_no hI' s1 (by have s3 := f134.eq_1 M 2; rw [decide_eq_false h0, cond_false, decide_eq_false h1, cond_false, decide_eq_true (rfl : (2 : Int32) = 2), cond_true, hM_m hM0.1] at s3; exact s3)
  by_cases h3 : x0 = 3
  · subst h3
    rw [decide_eq_false h0, cond_false, decide_eq_false h1, cond_false, decide_eq_false h2, cond_false, decide_eq_true (rfl : (3 : Int32) = 3), cond_true] at s1
    obtain ⟨M1, a1, a2, a3, a4, a5⟩ := sv_q hC0
    rw [a1, bd_s, f25_d a3 hk, bd_s] at s1
    have mi := MI_q hM0 (fun b hb => a5 b (by omega))
    obtain ⟨M2, b1, b2⟩ := f133_d mi.1 hk (t := 3) (by omega)
    have b1 : f133 M1 3 = _ := b1
    rw [if_neg (by omega), sum3] at b1
    refine okS_q hM0 s1 a2 (fun b hb => a5 b (by omega)) (by have s3 := f134.eq_1 M1 3; rw [decide_eq_false h0, cond_false, decide_eq_false h1, cond_false, decide_eq_false h2, cond_false, decide_eq_true (rfl : (3 : Int32) = 3), cond_true, b1, bd_s] at s3; exact s3) (fun b q1 q2 => b2 b (by omega) (by omega)) (fun t _ _ => by rw [b2 113 (by omega) (by omega)])
  by_cases h4 : x0 = 4
  · subst h4
    rw [decide_eq_false h0, cond_false, decide_eq_false h1, cond_false, decide_eq_false h2, cond_false, decide_eq_false h3, cond_false, decide_eq_true (rfl : (4 : Int32) = 4), cond_true] at s1
    obtain ⟨M1, a1, a2, a3, a4, a5⟩ := sv_q hC0
    rw [a1, bd_s, f26_d a3 hk, bd_s] at s1
    have mi := MI_q hM0 (fun b hb => a5 b (by omega))
    obtain ⟨M2, b1, b2⟩ := f133_d mi.1 hk (t := 4) (by omega)
    have b1 : f133 M1 4 = _ := b1
    rw [if_neg (by omega), sum4] at b1
    refine okS_q hM0 s1 a2 (fun b hb => a5 b (by omega)) (by have s3 := f134.eq_1 M1 4; rw [decide_eq_false h0, cond_false, decide_eq_false h1, cond_false, decide_eq_false h2, cond_false, decide_eq_false h3, cond_false, decide_eq_true (rfl : (4 : Int32) = 4), cond_true, b1, bd_s] at s3; exact s3) (fun b q1 q2 => b2 b (by omega) (by omega)) (fun t _ _ => by rw [b2 113 (by omega) (by omega)])
  by_cases h5 : x0 = 5
  · subst h5
    rw [decide_eq_false h0, cond_false, decide_eq_false h1, cond_false, decide_eq_false h2, cond_false, decide_eq_false h3, cond_false, decide_eq_false h4, cond_false, decide_eq_true (rfl : (5 : Int32) = 5), cond_true] at s1
    obtain ⟨M1, a1, a2, a3, a4, a5⟩ := sv_q hC0
    rw [a1, bd_s, f27_d a3 hk, bd_s] at s1
    have mi := MI_q hM0 (fun b hb => a5 b (by omega))
    obtain ⟨M2, b1, b2⟩ := f133_d mi.1 hk (t := 5) (by omega)
    have b1 : f133 M1 5 = _ := b1
    rw [if_neg (by omega), sum5] at b1
    refine okS_q hM0 s1 a2 (fun b hb => a5 b (by omega)) (by have s3 := f134.eq_1 M1 5; rw [decide_eq_false h0, cond_false, decide_eq_false h1, cond_false, decide_eq_false h2, cond_false, decide_eq_false h3, cond_false, decide_eq_false h4, cond_false, decide_eq_true (rfl : (5 : Int32) = 5), cond_true, b1, bd_s] at s3; exact s3) (fun b q1 q2 => b2 b (by omega) (by omega)) (fun t _ _ => by rw [b2 113 (by omega) (by omega)])
  by_cases h6 : x0 = 6
  · subst h6
    rw [decide_eq_false h0, cond_false, decide_eq_false h1, cond_false, decide_eq_false h2, cond_false, decide_eq_false h3, cond_false, decide_eq_false h4, cond_false, decide_eq_false h5, cond_false, decide_eq_true (rfl : (6 : Int32) = 6), cond_true] at s1
    obtain ⟨M1, a1, a2, a3, a4, a5⟩ := sv_q hC0
    rw [a1, bd_s, f28_d a3 hk, bd_s] at s1
    have mi := MI_q hM0 (fun b hb => a5 b (by omega))
    obtain ⟨M2, b1, b2⟩ := f133_d mi.1 hk (t := 6) (by omega)
    have b1 : f133 M1 6 = _ := b1
    rw [if_pos rfl, sum6] at b1
    refine okS_q hM0 s1 a2 (fun b hb => a5 b (by omega)) (by have s3 := f134.eq_1 M1 6; rw [decide_eq_false h0, cond_false, decide_eq_false h1, cond_false, decide_eq_false h2, cond_false, decide_eq_false h3, cond_false, decide_eq_false h4, cond_false, decide_eq_false h5, cond_false, decide_eq_true (rfl : (6 : Int32) = 6), cond_true, b1, bd_s] at s3; exact s3) (fun b q1 q2 => b2 b (by omega) (by omega)) (fun t _ _ => by rw [b2 113 (by omega) (by omega)])
  by_cases h7 : x0 = 7
  · subst h7
    rw [decide_eq_false h0, cond_false, decide_eq_false h1, cond_false, decide_eq_false h2, cond_false, decide_eq_false h3, cond_false, decide_eq_false h4, cond_false, decide_eq_false h5, cond_false, decide_eq_false h6, cond_false, decide_eq_true (rfl : (7 : Int32) = 7), cond_true] at s1
    obtain ⟨ol, -, -, h56, -⟩ := hC0.1.2.2.2.1
    rw [h56] at s1
    exact okS_no hI' s1 (by have s3 := f134.eq_1 M 7; rw [decide_eq_false h0, cond_false, decide_eq_false h1, cond_false, decide_eq_false h2, cond_false, decide_eq_false h3, cond_false, decide_eq_false h4, cond_false, decide_eq_false h5, cond_false, decide_eq_false h6, cond_false, decide_eq_true (rfl : (7 : Int32) = 7), cond_true, hM0.2.1] at s3; exact s3)
  rw [decide_eq_false h0, cond_false, decide_eq_false h1, cond_false, decide_eq_false h2, cond_false, decide_eq_false h3, cond_false, decide_eq_false h4, cond_false, decide_eq_false h5, cond_false, decide_eq_false h6, cond_false, decide_eq_false h7, cond_false] at s1
  refine okS_no hI' s1 ?_
  have s3 := f134.eq_1 M x0
  rw [decide_eq_false h0, cond_false, decide_eq_false h1, cond_false, decide_eq_false h2, cond_false, decide_eq_false h3, cond_false, decide_eq_false h4, cond_false, decide_eq_false h5, cond_false, decide_eq_false h6, cond_false, decide_eq_false h7, cond_false] at s3
  exact s3
theorem op9 (hI : Inv M) (x0 x1 : Int32) : okS M (f66 M x0 x1) (fun N => f138 N x0 x1) := by
  have hI' := hI
  obtain ⟨A, hC0, hM0⟩ := hI
  have hk := hC0.1.2.1
  have h6 := hk.1
  have s1 := f66.eq_1 M x0 x1
  rw [f80_d hC0.1.1, bd_s, bI_0, Bool.not_not] at s1
  cases c : vP (dn (aD A)) x0
  · rw [c, cond_false] at s1
    refine okS_no hI' s1 ?_
    show f138 M x0 x1 = _
    rw [f138, f96_d hM0.1 hk, bd_s, bI_0, Bool.not_not, c, cond_false]
  rw [c, cond_true] at s1
  obtain ⟨p, hp, rfl⟩ := vP_in (by omega) c
  have hp6 : p < 6 := by omega
  have hL : dl (aD A) ≤ 90 := Nat.le_trans hk.2.1 (by omega)
  by_cases h0 : x1 = 0
  · subst h0
    rw [decide_eq_true (rfl : (0 : Int32) = 0), cond_true] at s1
    rw [f18_d hC0.1.1 hk hp6, bd_s, f164_mk, bd_s] at s1
    exact okS_no hI' s1 (by show f138 M (nI p) 0 = _; rw [f138, f96_d hM0.1 hk, bd_s, bI_0, Bool.not_not, c, cond_true, decide_eq_true (rfl : (0 : Int32) = 0), cond_true, f102_d hM0.1 hp6, bd_s, f95_mk, bd_s])
  by_cases h1 : x1 = 1
  · subst h1
    rw [decide_eq_false h0, cond_false, decide_eq_true (rfl : (1 : Int32) = 1), cond_true] at s1
    rw [f18_d hC0.1.1 hk hp6, bd_s] at s1
    exact okS_no hI' s1 (by show f138 M (nI p) 1 = _; rw [f138, f96_d hM0.1 hk, bd_s, bI_0, Bool.not_not, c, cond_true, decide_eq_false h0, cond_false, decide_eq_true (rfl : (1 : Int32) = 1), cond_true, f102_d hM0.1 hp6, bd_s])
  by_cases h2 : x1 = 2
  · subst h2
    rw [decide_eq_false h0, cond_false, decide_eq_false h1, cond_false, decide_eq_true (rfl : (2 : Int32) = 2), cond_true] at s1
    obtain ⟨M1, a1, a2, a3, a4, a5⟩ := sv_q hC0
    have mi := MI_q hM0 (fun b hb => a5 b (by omega))
    have sv := a3.2 p hp
    rw [a1, bd_s, inb6 hp6, gd_t, cl_s (by omega), sv.1.1.1] at s1
    exact okS_q1 hM0 s1 a2 (fun b hb => a5 b (by omega)) (by show f138 M1 (nI p) 2 = _; rw [f138, f96_d mi.1 hk, bd_s, bI_0, Bool.not_not, c, cond_true, decide_eq_false h0, cond_false, decide_eq_false h1, cond_false, decide_eq_true (rfl : (2 : Int32) = 2), cond_true, f136_d mi.1 hp6 hk, bd_s])
  by_cases h3 : x1 = 3
  · subst h3
    rw [decide_eq_false h0, cond_false, decide_eq_false h1, cond_false, decide_eq_false h2, cond_false, decide_eq_true (rfl : (3 : Int32) = 3), cond_true] at s1
    obtain ⟨M1, a1, a2, a3, a4, a5⟩ := sv_q hC0
    have mi := MI_q hM0 (fun b hb => a5 b (by omega))
    have sv := a3.2 p hp
    rw [a1, bd_s, inb6 hp6, gd_t, cl_s (by omega), sv.1.1.2.1] at s1
    exact okS_q1 hM0 s1 a2 (fun b hb => a5 b (by omega)) (by show f138 M1 (nI p) 3 = _; rw [f138, f96_d mi.1 hk, bd_s, bI_0, Bool.not_not, c, cond_true, decide_eq_false h0, cond_false, decide_eq_false h1, cond_false, decide_eq_false h2, cond_false, decide_eq_true (rfl : (3 : Int32) = 3), cond_true, f102_d mi.1 hp6, bd_s, hM_l mi.1, f121_s M1 (lk (aD A) p (dl (aD A))) (di (aD A) p) (nI p) (nI (dl (aD A))) (fun a b ha hb q1 q2 => f118_d mi.1 hp6 ha hb hk hL q1 q2), bd_s])
  by_cases h4 : x1 = 4
  · subst h4
    rw [decide_eq_false h0, cond_false, decide_eq_false h1, cond_false, decide_eq_false h2, cond_false, decide_eq_false h3, cond_false, decide_eq_true (rfl : (4 : Int32) = 4), cond_true] at s1
    obtain ⟨M1, a1, a2, a3, a4, a5⟩ := sv_q hC0
    have mi := MI_q hM0 (fun b hb => a5 b (by omega))
    have sv := a3.2 p hp
    rw [a1, bd_s, inb6 hp6, gd_t, cl_s (by omega), sv.1.2.1] at s1
    obtain ⟨M2, b1, b2, b3, b4, b5⟩ := f124_d mi.1 hk hp6
    refine okS_q hM0 s1 a2 (fun b hb => a5 b (by omega)) ?_ (fun b q1 q2 => b2 b (by omega) (by omega)) (fun t _ _ => by rw [b2 113 (by omega) (by omega)])
    show f138 M1 (nI p) 4 = _
    rw [f138, f96_d mi.1 hk, bd_s, bI_0, Bool.not_not, c, cond_true, decide_eq_false h0, cond_false, decide_eq_false h1, cond_false, decide_eq_false h2, cond_false, decide_eq_false h3, cond_false, decide_eq_true (rfl : (4 : Int32) = 4), cond_true]
    unfold f137
    rw [b1, bd_s, inb6 hp6, gd_t, bd_s, cl_s (by omega), b5.1]
  by_cases h5 : x1 = 5
  · subst h5
    rw [decide_eq_false h0, cond_false, decide_eq_false h1, cond_false, decide_eq_false h2, cond_false, decide_eq_false h3, cond_false, decide_eq_false h4, cond_false, decide_eq_true (rfl : (5 : Int32) = 5), cond_true] at s1
    obtain ⟨M1, a1, a2, a3, a4, a5, a6, H, a7, a8, a9⟩ := tr_q hC0 hp6
    have mi := MI_q hM0 (fun b hb => a3 b (by omega))
    rw [a1, bd_s, a7] at s1
    obtain ⟨M2, b1, b2, b3⟩ := f151_d mi.1 hk hp6 a6 a9 a8
    exact okS_q hM0 s1 a2 (fun b hb => a3 b (by omega)) (by show f138 M1 (nI p) 5 = _; rw [f138, f96_d mi.1 hk, bd_s, bI_0, Bool.not_not, c, cond_true, decide_eq_false h0, cond_false, decide_eq_false h1, cond_false, decide_eq_false h2, cond_false, decide_eq_false h3, cond_false, decide_eq_false h4, cond_false, decide_eq_true (rfl : (5 : Int32) = 5), cond_true, b1, bd_s]) (fun b q1 q2 => b2 b q1 (by omega)) b3
  by_cases h6 : x1 = 6
  · subst h6
    rw [decide_eq_false h0, cond_false, decide_eq_false h1, cond_false, decide_eq_false h2, cond_false, decide_eq_false h3, cond_false, decide_eq_false h4, cond_false, decide_eq_false h5, cond_false, decide_eq_true (rfl : (6 : Int32) = 6), cond_true] at s1
    obtain ⟨M1, a1, a2, a3, a4, a5, a6, H, a7, a8, a9⟩ := tr_q hC0 hp6
    have mi := MI_q hM0 (fun b hb => a3 b (by omega))
    rw [a1, bd_s, a5] at s1
    obtain ⟨M2, b1, b2, b3, b4, b5⟩ := f150_d mi.1 hk hp6
    refine okS_q hM0 s1 a2 (fun b hb => a3 b (by omega)) ?_ (fun b q1 q2 => b2 b q1 (by omega)) b3
    show f138 M1 (nI p) 6 = _
    rw [f138, f96_d mi.1 hk, bd_s, bI_0, Bool.not_not, c, cond_true, decide_eq_false h0, cond_false, decide_eq_false h1, cond_false, decide_eq_false h2, cond_false, decide_eq_false h3, cond_false, decide_eq_false h4, cond_false, decide_eq_false h5, cond_false, decide_eq_true (rfl : (6 : Int32) = 6), cond_true]
    unfold f152
    rw [b1, bd_s, bd_s, b4]
  by_cases h7 : x1 = 7
  · subst h7
    rw [decide_eq_false h0, cond_false, decide_eq_false h1, cond_false, decide_eq_false h2, cond_false, decide_eq_false h3, cond_false, decide_eq_false h4, cond_false, decide_eq_false h5, cond_false, decide_eq_false h6, cond_false, decide_eq_true (rfl : (7 : Int32) = 7), cond_true] at s1
    rw [f18_d hC0.1.1 hk hp6, bd_s, f20_d hC0.1.1, bd_s] at s1
    exact okS_no hI' s1 (by show f138 M (nI p) 7 = _; rw [f138, f96_d hM0.1 hk, bd_s, bI_0, Bool.not_not, c, cond_true, decide_eq_false h0, cond_false, decide_eq_false h1, cond_false, decide_eq_false h2, cond_false, decide_eq_false h3, cond_false, decide_eq_false h4, cond_false, decide_eq_false h5, cond_false, decide_eq_false h6, cond_false, decide_eq_true (rfl : (7 : Int32) = 7), cond_true, f102_d hM0.1 hp6, bd_s, f119_d hM0.1, bd_s])
  rw [decide_eq_false h0, cond_false, decide_eq_false h1, cond_false, decide_eq_false h2, cond_false, decide_eq_false h3, cond_false, decide_eq_false h4, cond_false, decide_eq_false h5, cond_false, decide_eq_false h6, cond_false, decide_eq_false h7, cond_false] at s1
  refine okS_no hI' s1 ?_
  show f138 M (nI p) x1 = _
  rw [f138, f96_d hM0.1 hk, bd_s, bI_0, Bool.not_not, c, cond_true, decide_eq_false h0, cond_false, decide_eq_false h1, cond_false, decide_eq_false h2, cond_false, decide_eq_false h3, cond_false, decide_eq_false h4, cond_false, decide_eq_false h5, cond_false, decide_eq_false h6, cond_false, decide_eq_false h7, cond_false]
theorem iH_none {D : hD} {p g : Nat} (hg : g < 24) (e : di D p g = false) : iH D p g = -1 := by
  have hle := hN_le D p
  unfold iH
  rcases fst1_cases (fun i => bt (hH D p i) g) (hN D p) (by omega) with ⟨h1, -⟩ | ⟨k, h1, h2, h3, -⟩
  · exact h1
  · have h3 : bt (hH D p k) g = true := h3
    obtain ⟨s, s1, s2, s3⟩ := hst_in D p 24 k h1
    rw [show hH D p k = mk (cp (lk D p (dl D)) (di D p) s) from s3, b_mkl hg] at h3
    rw [nwf, Bool.and_eq_true] at s2
    rw [cp_in s2.1 hg h3] at e
    cases e
theorem op10 (hI : Inv M) (x0 x1 x2 : Int32) : okS M (f67 M x0 x1 x2) (fun N => f141 N x0 x1 x2) := by
  have hI' := hI
  obtain ⟨A, hC0, hM0⟩ := hI
  have hk := hC0.1.2.1
  have h6 := hk.1
  have s1 := f67.eq_1 M x0 x1 x2
  rw [f81_d hC0.1.1, bd_s, bI_0, Bool.not_not] at s1
  cases c : (vP (dn (aD A)) x0 && vG x1)
  · rw [c, cond_false] at s1
    refine okS_no hI' s1 ?_
    show f141 M x0 x1 x2 = _
    rw [f141, f96_d hM0.1 hk, bd_s, bI_0, f97_s, bd_s, bI_0, Bool.not_not]
    cases e1 : vP (dn (aD A)) x0
    · rfl
    · rw [e1, Bool.true_and] at c
      rw [c]
      rfl
  rw [c, cond_true] at s1
  have cc := c
  rw [Bool.and_eq_true] at cc
  obtain ⟨p, hp, rfl⟩ := vP_in (by omega) cc.1
  obtain ⟨g, hg, rfl⟩ := vG_in cc.2
  have hp6 : p < 6 := by omega
  have hL : dl (aD A) ≤ 90 := Nat.le_trans hk.2.1 (by omega)
  rw [f14_d hC0.1.1 hp6 hg hk, bd_s, bI_0] at s1
  by_cases h0 : x2 = 0
  · subst h0
    rw [decide_eq_true (rfl : (0 : Int32) = 0), cond_true] at s1
    cases e : di (aD A) p g
    · rw [e, Bool.not_false, cond_true] at s1
      exact okS_no hI' s1 (by show f141 M (nI p) (nI g) 0 = _; rw [f141, f96_d hM0.1 hk, bd_s, bI_0, f97_s, bd_s, bI_0, Bool.not_not, cc.1, cc.2, Bool.not_true, cond_false, cond_true, f102_d hM0.1 hp6, bd_s, f94_s M _ (by omega), bd_s, bI_0, b_mkl hg, decide_eq_true (rfl : (0 : Int32) = 0), cond_true]; rw [e, Bool.not_false, cond_true])
    · rw [e, Bool.not_true, cond_false, f15_d hC0.1.1 hp6 hg hk e, bd_s] at s1
      exact okS_no hI' s1 (by show f141 M (nI p) (nI g) 0 = _; rw [f141, f96_d hM0.1 hk, bd_s, bI_0, f97_s, bd_s, bI_0, Bool.not_not, cc.1, cc.2, Bool.not_true, cond_false, cond_true, f102_d hM0.1 hp6, bd_s, f94_s M _ (by omega), bd_s, bI_0, b_mkl hg, decide_eq_true (rfl : (0 : Int32) = 0), cond_true]; rw [e, Bool.not_true, cond_false, f103_d hM0.1 hp6 hg e, bd_s])
  by_cases h1 : x2 = 1
  · subst h1
    rw [decide_eq_false h0, cond_false, decide_eq_true (rfl : (1 : Int32) = 1), cond_true] at s1
    cases e : di (aD A) p g
    · rw [e, Bool.not_false, cond_true] at s1
      exact okS_no hI' s1 (by show f141 M (nI p) (nI g) 1 = _; rw [f141, f96_d hM0.1 hk, bd_s, bI_0, f97_s, bd_s, bI_0, Bool.not_not, cc.1, cc.2, Bool.not_true, cond_false, cond_true, f102_d hM0.1 hp6, bd_s, f94_s M _ (by omega), bd_s, bI_0, b_mkl hg, decide_eq_false h0, cond_false, decide_eq_true (rfl : (1 : Int32) = 1), cond_true]; rw [e, Bool.not_false, cond_true])
    · rw [e, Bool.not_true, cond_false, f16_d hC0.1.1 hp6 hg hk e, bd_s] at s1
      exact okS_no hI' s1 (by show f141 M (nI p) (nI g) 1 = _; rw [f141, f96_d hM0.1 hk, bd_s, bI_0, f97_s, bd_s, bI_0, Bool.not_not, cc.1, cc.2, Bool.not_true, cond_false, cond_true, f102_d hM0.1 hp6, bd_s, f94_s M _ (by omega), bd_s, bI_0, b_mkl hg, decide_eq_false h0, cond_false, decide_eq_true (rfl : (1 : Int32) = 1), cond_true]; rw [e, Bool.not_true, cond_false, f104_d hM0.1 hp6 hg e, bd_s])
  by_cases h2 : x2 = 2
  · subst h2
    rw [decide_eq_false h0, cond_false, decide_eq_false h1, cond_false, decide_eq_true (rfl : (2 : Int32) = 2), cond_true] at s1
    obtain ⟨M1, a1, a2, a3, a4, a5⟩ := sv_q hC0
    have mi := MI_q hM0 (fun b hb => a5 b (by omega))
    have sv := a3.2 p hp
    rw [a1, bd_s, inb6 hp6, gd_t, inb24 hg, gd_t, cl_s (show p < 2 ^ 31 by omega), cl_s (show g < 2 ^ 31 by omega), sv.1.1.2.2.2 g hg] at s1
    refine okS_q1 hM0 s1 a2 (fun b hb => a5 b (by omega)) ?_
    show f141 M1 (nI p) (nI g) 2 = _
    rw [f141, f96_d mi.1 hk, bd_s, bI_0, f97_s, bd_s, bI_0, Bool.not_not, cc.1, cc.2, Bool.not_true, cond_false, cond_true, f102_d mi.1 hp6, bd_s, f94_s M1 _ (by omega), bd_s, bI_0, b_mkl hg, decide_eq_false h0, cond_false, decide_eq_false h1, cond_false, decide_eq_true (rfl : (2 : Int32) = 2), cond_true]
    cases e : di (aD A) p g
    · rfl
    · rw [Bool.not_true, cond_false, bd_s, hM_l mi.1, f120_s M1 (lk (aD A) p (dl (aD A))) (di (aD A) p) (nI p) (nI (dl (aD A))) hg e (fun a b ha hb q1 q2 => f118_d mi.1 hp6 ha hb hk hL q1 q2), bd_s]
      rfl
  by_cases h3 : x2 = 3
  · subst h3
    rw [decide_eq_false h0, cond_false, decide_eq_false h1, cond_false, decide_eq_false h2, cond_false, decide_eq_true (rfl : (3 : Int32) = 3), cond_true] at s1
    obtain ⟨M1, a1, a2, a3, a4, a5⟩ := sv_q hC0
    have mi := MI_q hM0 (fun b hb => a5 b (by omega))
    have sv := a3.2 p hp
    rw [a1, bd_s, inb6 hp6, gd_t, cl_s (by omega), f32_d a3 hp hg, bd_s] at s1
    cases e : di (aD A) p g
    · refine okS_q1 hM0 s1 a2 (fun b hb => a5 b (by omega)) ?_
      show f141 M1 (nI p) (nI g) 3 = _
      rw [f141, f96_d mi.1 hk, bd_s, bI_0, f97_s, bd_s, bI_0, Bool.not_not, cc.1, cc.2, Bool.not_true, cond_false, cond_true, f102_d mi.1 hp6, bd_s, f94_s M1 _ (by omega), bd_s, bI_0, b_mkl hg, decide_eq_false h0, cond_false, decide_eq_false h1, cond_false, decide_eq_false h2, cond_false, decide_eq_true (rfl : (3 : Int32) = 3), cond_true]
      rw [e, Bool.not_false, cond_true, iH_none hg e]
    · obtain ⟨M2, b1, b2⟩ := f139_d mi.1 hk hp6 hg
      refine okS_q hM0 s1 a2 (fun b hb => a5 b (by omega)) ?_ (fun b q1 q2 => b2 b (by omega) (by omega)) (fun t _ _ => by rw [b2 113 (by omega) (by omega)])
      show f141 M1 (nI p) (nI g) 3 = _
      rw [f141, f96_d mi.1 hk, bd_s, bI_0, f97_s, bd_s, bI_0, Bool.not_not, cc.1, cc.2, Bool.not_true, cond_false, cond_true, f102_d mi.1 hp6, bd_s, f94_s M1 _ (by omega), bd_s, bI_0, b_mkl hg, decide_eq_false h0, cond_false, decide_eq_false h1, cond_false, decide_eq_false h2, cond_false, decide_eq_true (rfl : (3 : Int32) = 3), cond_true]
      rw [e, Bool.not_true, cond_false, b1, bd_s]
  by_cases h4 : x2 = 4
  · subst h4
    rw [decide_eq_false h0, cond_false, decide_eq_false h1, cond_false, decide_eq_false h2, cond_false, decide_eq_false h3, cond_false, decide_eq_true (rfl : (4 : Int32) = 4), cond_true] at s1
    obtain ⟨M1, a1, a2, a3, a4, a5⟩ := sv_q hC0
    have mi := MI_q hM0 (fun b hb => a5 b (by omega))
    have sv := a3.2 p hp
    rw [a1, bd_s, inb6 hp6, gd_t, inb24 hg, gd_t, cl_s (show p < 2 ^ 31 by omega), cl_s (show g < 2 ^ 31 by omega), sv.1.1.2.2.1 g hg, f164_mk, bd_s] at s1
    refine okS_q1 hM0 s1 a2 (fun b hb => a5 b (by omega)) ?_
    show f141 M1 (nI p) (nI g) 4 = _
    rw [f141, f96_d mi.1 hk, bd_s, bI_0, f97_s, bd_s, bI_0, Bool.not_not, cc.1, cc.2, Bool.not_true, cond_false, cond_true, f102_d mi.1 hp6, bd_s, f94_s M1 _ (by omega), bd_s, bI_0, b_mkl hg, decide_eq_false h0, cond_false, decide_eq_false h1, cond_false, decide_eq_false h2, cond_false, decide_eq_false h3, cond_false, decide_eq_true (rfl : (4 : Int32) = 4), cond_true]
    cases e : di (aD A) p g
    · have e0 : fb_ct (sL (aD A) p (dl (aD A)) g) 24 = 0 := fb_ct_zero.mpr fun k _ => by unfold sL; rw [e]; rfl
      rw [Bool.not_false, cond_true, e0, nI_0]
    · have e0 : fb_ct (sL (aD A) p (dl (aD A)) g) 24 = fb_ct (fun k => di (aD A) p k && lk (aD A) p (dl (aD A)) g k) 24 := fb_ct_cong fun k _ => by unfold sL; rw [e, Bool.true_and]
      rw [Bool.not_true, cond_false, f135_d mi.1 hp6 hg hk e, bd_s, f95_mk, bd_s, e0]
  by_cases h5 : x2 = 5
  · subst h5
    rw [decide_eq_false h0, cond_false, decide_eq_false h1, cond_false, decide_eq_false h2, cond_false, decide_eq_false h3, cond_false, decide_eq_false h4, cond_false, decide_eq_true (rfl : (5 : Int32) = 5), cond_true] at s1
    obtain ⟨M1, a1, a2, a3, a4, a5⟩ := sv_q hC0
    have mi := MI_q hM0 (fun b hb => a5 b (by omega))
    have sv := a3.2 p hp
    rw [a1, bd_s, inb6 hp6, gd_t, cl_s (by omega), f8_d sv.1.1 hg, bd_s, bI_0] at s1
    have s1 : f67 M (nI p) (nI g) 5 = some (bI (hld (aD A) p (dl (aD A)) g), M1) := s1.trans (by cases hld (aD A) p (dl (aD A)) g <;> rfl)
    refine okS_q1 hM0 s1 a2 (fun b hb => a5 b (by omega)) ?_
    show f141 M1 (nI p) (nI g) 5 = _
    rw [f141, f96_d mi.1 hk, bd_s, bI_0, f97_s, bd_s, bI_0, Bool.not_not, cc.1, cc.2, Bool.not_true, cond_false, cond_true, f102_d mi.1 hp6, bd_s, f94_s M1 _ (by omega), bd_s, bI_0, b_mkl hg, decide_eq_false h0, cond_false, decide_eq_false h1, cond_false, decide_eq_false h2, cond_false, decide_eq_false h3, cond_false, decide_eq_false h4, cond_false, decide_eq_true (rfl : (5 : Int32) = 5), cond_true]
    cases e : di (aD A) p g
    · rw [Bool.not_false, cond_true]
      unfold hld
      rw [e]
      rfl
    · rw [Bool.not_true, cond_false, f140_d mi.1 hk hp6 hg e, bd_s]
  by_cases h6 : x2 = 6
  · subst h6
    rw [decide_eq_false h0, cond_false, decide_eq_false h1, cond_false, decide_eq_false h2, cond_false, decide_eq_false h3, cond_false, decide_eq_false h4, cond_false, decide_eq_false h5, cond_false, decide_eq_true (rfl : (6 : Int32) = 6), cond_true] at s1
    obtain ⟨M1, a1, a2, a3, a4, a5, a6, H, a7, a8, a9⟩ := tr_q hC0 hp6
    have mi := MI_q hM0 (fun b hb => a3 b (by omega))
    rw [a1, bd_s, inb24 hg, gd_t, cl_s (by omega)] at s1
    cases e : di (aD A) p g
    · rw [(a6.2 g hg e).2.2] at s1
      refine okS_q1 hM0 s1 a2 (fun b hb => a3 b (by omega)) ?_
      show f141 M1 (nI p) (nI g) 6 = _
      rw [f141, f96_d mi.1 hk, bd_s, bI_0, f97_s, bd_s, bI_0, Bool.not_not, cc.1, cc.2, Bool.not_true, cond_false, cond_true, f102_d mi.1 hp6, bd_s, f94_s M1 _ (by omega), bd_s, bI_0, b_mkl hg, decide_eq_false h0, cond_false, decide_eq_false h1, cond_false, decide_eq_false h2, cond_false, decide_eq_false h3, cond_false, decide_eq_false h4, cond_false, decide_eq_false h5, cond_false, decide_eq_true (rfl : (6 : Int32) = 6), cond_true]
      rw [e, Bool.not_false, cond_true]
    · obtain ⟨M2, b1, b2, b3, b4, b5⟩ := f150_d mi.1 hk hp6
      refine okS_q hM0 s1 a2 (fun b hb => a3 b (by omega)) ?_ (fun b q1 q2 => b2 b q1 (by omega)) b3
      show f141 M1 (nI p) (nI g) 6 = _
      rw [f141, f96_d mi.1 hk, bd_s, bI_0, f97_s, bd_s, bI_0, Bool.not_not, cc.1, cc.2, Bool.not_true, cond_false, cond_true, f102_d mi.1 hp6, bd_s, f94_s M1 _ (by omega), bd_s, bI_0, b_mkl hg, decide_eq_false h0, cond_false, decide_eq_false h1, cond_false, decide_eq_false h2, cond_false, decide_eq_false h3, cond_false, decide_eq_false h4, cond_false, decide_eq_false h5, cond_false, decide_eq_true (rfl : (6 : Int32) = 6), cond_true]
      unfold f153
      rw [e, Bool.not_true, cond_false, b1, bd_s, inb24 hg, gd_t, bd_s, cl_s (by omega), (isTr_same a6 b5 hg).2.2]
  by_cases h7 : x2 = 7
  · subst h7
    rw [decide_eq_false h0, cond_false, decide_eq_false h1, cond_false, decide_eq_false h2, cond_false, decide_eq_false h3, cond_false, decide_eq_false h4, cond_false, decide_eq_false h5, cond_false, decide_eq_false h6, cond_false, decide_eq_true (rfl : (7 : Int32) = 7), cond_true] at s1
    rw [inb24 hg, gd_t, cl_s (by omega), hC0.1.1.2.2.2.1 g hg] at s1
    refine okS_no hI' s1 ?_
    show f141 M (nI p) (nI g) 7 = _
    rw [f141, f96_d hM0.1 hk, bd_s, bI_0, f97_s, bd_s, bI_0, Bool.not_not, cc.1, cc.2, Bool.not_true, cond_false, cond_true, f102_d hM0.1 hp6, bd_s, f94_s M _ (by omega), bd_s, b_mkl hg, decide_eq_false h0, cond_false, decide_eq_false h1, cond_false, decide_eq_false h2, cond_false, decide_eq_false h3, cond_false, decide_eq_false h4, cond_false, decide_eq_false h5, cond_false, decide_eq_false h6, cond_false, decide_eq_true (rfl : (7 : Int32) = 7), cond_true]
    rw [show (3 : Int32) + nI g = nI (3 + g) from nI_add 3 g, inb_s (show 3 + g < 3531 by omega) (by omega), gd_t, cl_s (by omega), hM_w hM0.1 hg]
  rw [decide_eq_false h0, cond_false, decide_eq_false h1, cond_false, decide_eq_false h2, cond_false, decide_eq_false h3, cond_false, decide_eq_false h4, cond_false, decide_eq_false h5, cond_false, decide_eq_false h6, cond_false, decide_eq_false h7, cond_false] at s1
  refine okS_no hI' s1 ?_
  show f141 M (nI p) (nI g) x2 = _
  rw [f141, f96_d hM0.1 hk, bd_s, bI_0, f97_s, bd_s, bI_0, Bool.not_not, cc.1, cc.2, Bool.not_true, cond_false, cond_true, f102_d hM0.1 hp6, bd_s, f94_s M _ (by omega), bd_s, decide_eq_false h0, cond_false, decide_eq_false h1, cond_false, decide_eq_false h2, cond_false, decide_eq_false h3, cond_false, decide_eq_false h4, cond_false, decide_eq_false h5, cond_false, decide_eq_false h6, cond_false, decide_eq_false h7, cond_false]
end
