/-! ===== a picture by lots ===== -/
def dr (l : Nat) : Nat := l * 16807 % 2147483647
theorem dr_lt (l : Nat) : dr l < 2147483647 := Nat.mod_lt _ (by decide)
theorem jL_eq {J : jm_JJ} {a k : Nat} {v : Int64} : jm_upL J a k v a k = v := by rw [jm_upL, va_up_eq', pk_uLs]
theorem dr_s {l : Nat} (h : l < 2147483647) : (lN l * 16807) - (lN l * 16807) / 2147483647 * 2147483647 = lN (dr l) := by
  show (lN l * lN 16807) - (lN l * lN 16807) / lN 2147483647 * lN 2147483647 = _
  rw [lN_mul, pk_lRem (by omega) (by decide) (by decide)]
  rfl
def clp (x r : Nat) : Nat := if x + r < 3 then 0 else if 66 < x + r then 63 else x + r - 3
theorem clp_lt (x r : Nat) : clp x r < 64 := by
  unfold clp
  split
  · omega
  · split <;> omega
theorem clp_a : ∀ x, x < 64 → ∀ r, r < 7 → (if 0 < (if (nI x + nI r) - 3 < 63 then (nI x + nI r) - 3 else 63) then (if (nI x + nI r) - 3 < 63 then (nI x + nI r) - 3 else 63) else 0) = nI (clp x r) := by decide +kernel
theorem clp_b : ∀ x, x < 64 → ∀ r, r < 7 → (bif decide (0 ≤ nI x + (nI r - 3)) then (bif decide (nI x + (nI r - 3) ≤ 63) then (some (nI x + (nI r - 3))) else (some 63)) else (some 0)) = some (nI (clp x r)) := by decide +kernel
theorem remk {a : Nat} (d : Nat) (h : a < 2147483647) (h0 : 0 < d) (hd : d < 2 ^ 31) : nI a - nI a / nI d * nI d = nI (a % d) := pk_rem (by omega) h0 hd
/-- one grain's lot -/
def dst (p g : Nat) (s : hD × Nat) : hD × Nat :=
  if p = 0 then (if dr s.2 % 4 = 0 then (s.1, dr s.2) else (sP s.1 p g (dr (dr s.2) % 64) (dr (dr (dr s.2)) % 64), dr (dr (dr s.2))))
  else if di s.1 (p - 1) g = true then (if dr s.2 % 16 = 0 then (s.1, dr s.2) else (sP s.1 p g (clp (dx s.1 (p - 1) g) (dr (dr s.2) % 7)) (clp (dy s.1 (p - 1) g) (dr (dr (dr s.2)) % 7)), dr (dr (dr s.2))))
  else (if dr s.2 % 16 = 0 then (sP s.1 p g (dr (dr s.2) % 64) (dr (dr (dr s.2)) % 64), dr (dr (dr s.2))) else (s.1, dr s.2))
def dss (p : Nat) (s : hD × Nat) : Nat → hD × Nat
  | 0 => s
  | g + 1 => dst p g (dss p s g)
theorem dst_ok {p g : Nat} {s : hD × Nat} (h : hok s.1) (hp : p < 6) (hg : g < 24) : hok (dst p g s).1 ∧ (dst p g s).2 < 2147483647 := by
  have m64 : ∀ a, a % 64 < 64 := fun a => Nat.mod_lt _ (by omega)
  unfold dst
  split
  · split
    · exact ⟨h, dr_lt _⟩
    · exact ⟨hok_P h (m64 _) (m64 _), dr_lt _⟩
  · split
    · split
      · exact ⟨h, dr_lt _⟩
      · exact ⟨hok_P h (clp_lt _ _) (clp_lt _ _), dr_lt _⟩
    · split
      · exact ⟨hok_P h (m64 _) (m64 _), dr_lt _⟩
      · exact ⟨h, dr_lt _⟩
theorem dss_ok {p : Nat} {s : hD × Nat} (h : hok s.1) (hl : s.2 < 2147483647) (hp : p < 6) : ∀ g, g ≤ 24 → hok (dss p s g).1 ∧ (dss p s g).2 < 2147483647
  | 0, _ => ⟨h, hl⟩
  | g + 1, hg => dst_ok (dss_ok h hl hp g (by omega)).1 hp (by omega)
section
variable {M : jm_MM} {J : jm_JJ} {D : hD}
theorem f40_d (M : jm_MM) {l : Nat} (h : J 112 0 = lN l) (hl : l < 2147483647) : ∃ J', f40 M J = some (nI (dr l), J') ∧ J' 112 0 = lN (dr l) := by
  unfold f40
  rw [h, dr_s hl, jL_eq, lN_i]
  exact ⟨_, rfl, jL_eq⟩
theorem f43_d (M : jm_MM) {l p g : Nat} (h : J 112 0 = lN l) (hl : l < 2147483647) (hp : p < 6) (hg : g < 24) : ∃ J', f43 M J (nI p) (nI g) = some (jm_up M 4 (24 * p + g) (nI (64 * (dr l % 64) + dr (dr l) % 64)), J') ∧ J' 112 0 = lN (dr (dr l)) := by
  obtain ⟨J1, a1, a2⟩ := f40_d M h hl
  obtain ⟨J2, b1, b2⟩ := f40_d M a2 (dr_lt l)
  refine ⟨J2, ?_, b2⟩
  unfold f43
  rw [a1, bd_s]
  simp only
  rw [b1, bd_s]
  simp only
  rw [show nI (dr l) - nI (dr l) / 64 * 64 = nI (dr l % 64) from remk 64 (dr_lt _) (by omega) (by omega), show nI (dr (dr l)) - nI (dr (dr l)) / 64 * 64 = nI (dr (dr l) % 64) from remk 64 (dr_lt _) (by omega) (by omega), f12_s M hp hg, bd_s]
theorem f44_d (M : jm_MM) {l x : Nat} (h : J 112 0 = lN l) (hl : l < 2147483647) (hx : x < 64) : ∃ J', f44 M J (nI x) = some (nI (clp x (dr l % 7)), J') ∧ J' 112 0 = lN (dr l) := by
  obtain ⟨J1, a1, a2⟩ := f40_d M h hl
  refine ⟨J1, ?_, a2⟩
  unfold f44
  rw [a1, bd_s]
  simp only
  rw [show nI (dr l) - nI (dr l) / 7 * 7 = nI (dr l % 7) from remk 7 (dr_lt _) (by omega) (by omega), clp_a x hx _ (Nat.mod_lt _ (by omega))]
theorem dz {a d : Nat} (hd : 0 < d) (h : a < 2147483647) : decide (nI (a % d) = 0) = decide (a % d = 0) := by
  show decide (nI (a % d) = nI 0) = _
  have : a % d ≤ a := Nat.mod_le _ _
  rw [deq (by omega) (by omega)]
/-- one grain, the one side -/
theorem f41_e {v p g : Int32} {J1 : jm_JJ} (ch : Bool) (h1 : f40 M J = some (v, J1)) (h2 : decide (v - v / 4 * 4 = 0) = ch) : f41 M J p g = bif ch then some (M, J1) else f43 M J1 p g := by
  unfold f41
  rw [h1, bd_s, h2]
  cases ch
  · cases f43 M J1 p g <;> rfl
  · rfl
theorem f42_e {v p g : Int32} {J1 : jm_JJ} (was ch : Bool) (h0 : f14 M (p - 1) g = some (bI was)) (h1 : f40 M J = some (v, J1)) (h2 : decide (v - v / 16 * 16 = 0) = ch) :
    f42 M J p g = bif was then (bif ch then some (M, J1) else (jm_bd (f15 M (p - 1) g) (fun q12 => jm_bd (f44 M J1 q12) (fun q14 => jm_bd (f16 M (p - 1) g) (fun q16 => jm_bd (f44 M q14.2 q16) (fun q18 => jm_bd (f12 M p g q14.1 q18.1) (fun q20 => some (q20, q18.2)))))))) else (bif ch then f43 M J1 p g else some (M, J1)) := by
  unfold f42 f42_25 f42_75
  rw [h0, bd_s, h1, bd_s, h2, bI_0]
  cases was
  · cases ch
    · rfl
    · show jm_bd (f43 M J1 p g) _ = f43 M J1 p g
      cases f43 M J1 p g <;> rfl
  · cases ch <;> rfl
theorem dst_0 {s : hD × Nat} {p g : Nat} (h : p = 0) : dst p g s = if dr s.2 % 4 = 0 then (s.1, dr s.2) else (sP s.1 p g (dr (dr s.2) % 64) (dr (dr (dr s.2)) % 64), dr (dr (dr s.2))) := by
  unfold dst
  rw [if_pos h]
theorem dst_1 {s : hD × Nat} {p g : Nat} (h : p ≠ 0) (e : di s.1 (p - 1) g = true) : dst p g s = if dr s.2 % 16 = 0 then (s.1, dr s.2) else (sP s.1 p g (clp (dx s.1 (p - 1) g) (dr (dr s.2) % 7)) (clp (dy s.1 (p - 1) g) (dr (dr (dr s.2)) % 7)), dr (dr (dr s.2))) := by
  unfold dst
  rw [if_neg h, if_pos e]
theorem dst_2 {s : hD × Nat} {p g : Nat} (h : p ≠ 0) (e : di s.1 (p - 1) g = false) : dst p g s = if dr s.2 % 16 = 0 then (sP s.1 p g (dr (dr s.2) % 64) (dr (dr (dr s.2)) % 64), dr (dr (dr s.2))) else (s.1, dr s.2) := by
  unfold dst
  rw [if_neg h, if_neg (by rw [e]; simp)]
theorem dst_c (hC1 : hC M 2 D) (hk : hok D) {l p g : Nat} (h : J 112 0 = lN l) (hl : l < 2147483647) (hp : p < 6) (hg : g < 24) {S : hD × Nat} (hS : S = dst p g (D, l)) :
    ∃ M' J', (bif !decide (nI p = 0) then f42 M J (nI p) (nI g) else f41 M J (nI p) (nI g)) = some (M', J') ∧ (∀ b, b ≠ 4 → M' b = M b) ∧ hC M' 2 S.1 ∧ J' 112 0 = lN S.2 := by
  obtain ⟨J1, a1, a2⟩ := f40_d M h hl
  obtain ⟨J3, c1, c2⟩ := f43_d M a2 (dr_lt l) hp hg
  have ep : decide (nI p = 0) = decide (p = 0) := by
    show decide (nI p = nI 0) = _
    rw [deq (by omega) (by omega)]
  have e4 : decide (nI (dr l) - nI (dr l) / 4 * 4 = 0) = decide (dr l % 4 = 0) := by
    rw [show nI (dr l) - nI (dr l) / 4 * 4 = nI (dr l % 4) from remk 4 (dr_lt _) (by omega) (by omega), dz (by omega) (dr_lt l)]
  have e16 : decide (nI (dr l) - nI (dr l) / 16 * 16 = 0) = decide (dr l % 16 = 0) := by
    rw [show nI (dr l) - nI (dr l) / 16 * 16 = nI (dr l % 16) from remk 16 (dr_lt _) (by omega) (by omega), dz (by omega) (dr_lt l)]
  rw [ep]
  by_cases c0 : p = 0
  · rw [decide_eq_true c0, Bool.not_true, cond_false, f41_e _ a1 e4]
    rw [dst_0 c0] at hS
    by_cases c : dr l % 4 = 0
    · rw [if_pos c] at hS
      rw [decide_eq_true c, cond_true, hS]
      exact ⟨M, J1, rfl, fun _ _ => rfl, hC1, a2⟩
    · rw [if_neg c] at hS
      rw [decide_eq_false c, cond_false, hS, c1]
      exact ⟨_, J3, rfl, fun b hb => jup_ne hb, hC_P hC1 hp hg, c2⟩
  · have e1 : nI p - 1 = nI (p - 1) := by
      obtain ⟨m, hm⟩ : ∃ m, p = m + 1 := ⟨p - 1, by omega⟩
      rw [hm, nI_p1]
      rfl
    have e14 : f14 M (nI p - 1) (nI g) = some (bI (di D (p - 1) g)) := by rw [e1, f14_d hC1 (show p - 1 < 6 by omega) hg hk]
    rw [decide_eq_false c0, Bool.not_false, cond_true, f42_e _ _ e14 a1 e16, e1]
    cases e : di D (p - 1) g
    · rw [dst_2 c0 e] at hS
      by_cases c : dr l % 16 = 0
      · rw [if_pos c] at hS
        rw [decide_eq_true c, cond_false, cond_true, hS, c1]
        exact ⟨_, J3, rfl, fun b hb => jup_ne hb, hC_P hC1 hp hg, c2⟩
      · rw [if_neg c] at hS
        rw [decide_eq_false c, cond_false, cond_false, hS]
        exact ⟨M, J1, rfl, fun _ _ => rfl, hC1, a2⟩
    · obtain ⟨hx, hy⟩ := hk.2.2.2.2 (p - 1) g (by omega) hg e
      rw [dst_1 c0 e] at hS
      by_cases c : dr l % 16 = 0
      · rw [if_pos c] at hS
        rw [decide_eq_true c, cond_true, cond_true, hS]
        exact ⟨M, J1, rfl, fun _ _ => rfl, hC1, a2⟩
      · obtain ⟨J4, d1, d2⟩ := f44_d M a2 (dr_lt l) hx
        obtain ⟨J5, e1', e2'⟩ := f44_d M d2 (dr_lt _) hy
        rw [if_neg c] at hS
        rw [decide_eq_false c, cond_true, cond_false, hS, f15_d hC1 (show p - 1 < 6 by omega) hg hk e, bd_s, d1, bd_s, f16_d hC1 (show p - 1 < 6 by omega) hg hk e, bd_s]
        simp only
        rw [e1', bd_s]
        simp only
        rw [f12_s M hp hg, bd_s]
        exact ⟨_, J5, rfl, fun b hb => jup_ne hb, hC_P hC1 hp hg, e2'⟩
theorem f63_50_d (hC1 : hC M 2 D) (hk : hok D) {l p : Nat} (h : J 112 0 = lN l) (hl : l < 2147483647) (hp : p < 6) (ke0 : jm_MM → jm_JJ → Int32 → Option (Int32 × jm_MM × jm_JJ)) :
    ∃ a : jm_MM × jm_JJ, f63_50 ke0 jm_F M J (nI p) 0 = ke0 a.1 a.2 (nI p) ∧ (∀ b, b ≠ 4 → a.1 b = M b) ∧ hC a.1 2 (dss p (D, l) 24).1 := by
  obtain ⟨a, q1, q2, q3, -⟩ := lpI (fun n (a : jm_MM × jm_JJ) u => f63_50 ke0 n a.1 a.2 (nI p) u) (fun a => ke0 a.1 a.2 (nI p)) (fun i a => (∀ b, b ≠ 4 → a.1 b = M b) ∧ hC a.1 2 (dss p (D, l) i).1 ∧ a.2 112 0 = lN (dss p (D, l) i).2) 24 (by omega) (fun n a _ => by
      show f63_50 ke0 (n + 1) a.1 a.2 (nI p) (nI 24) = _
      rw [f63_50, c24e, cond_true]) (fun n i a hi hh => by
      obtain ⟨g1, g2, g3⟩ := hh
      obtain ⟨o1, o2⟩ := dss_ok (p := p) (s := (D, l)) hk hl hp i (by omega)
      obtain ⟨M', J', s1, s2, s3, s4⟩ := dst_c g2 o1 g3 o2 hp hi (S := dss p (D, l) (i + 1)) rfl
      refine ⟨(M', J'), ?_, fun b hb => by simp only; rw [s2 b hb, g1 b hb], s3, s4⟩
      show f63_50 ke0 (n + 1) a.1 a.2 (nI p) (nI i) = f63_50 ke0 n M' J' (nI p) (nI (i + 1))
      rw [f63_50, c24 hi, cond_false, nI_1]
      cases e : decide (nI p = 0)
      · rw [e, Bool.not_false, cond_true] at s1
        rw [Bool.not_false, cond_true, s1, bd_s]
      · rw [e, Bool.not_true, cond_false] at s1
        rw [Bool.not_true, cond_false, s1, bd_s]) (M, J) ⟨fun _ _ => rfl, hC1, h⟩
  exact ⟨a, q1, q2, q3⟩
/-! the reference -/
theorem f113_d (M : jm_MM) {l n : Nat} (h : J 113 3 = lN l) (hl : l < 2147483647) (hn : 0 < n) (hn2 : n < 1000) : ∃ J', f113 M J (nI n) = some (nI (dr l % n), J') ∧ J' 113 3 = lN (dr l) := by
  have h1 := dr_lt l
  have e1 : decide ((nI n).toInt64 = 0) = false := by
    rw [nI_l (by omega)]
    refine decide_eq_false fun q => ?_
    have := (lN_eq (b := 0) (by omega) (by omega)).mp q
    omega
  unfold f113
  rw [e1, Bool.not_false, gd_t, h, dr_s hl, jL_eq, nI_l (by omega), pk_lRem (by omega) hn (by omega), lN_i]
  exact ⟨_, rfl, jL_eq⟩
theorem f114_s (M : jm_MM) {x r : Nat} (hx : x < 64) (hr : r < 7) : f114 M (nI x + (nI r - 3)) = some (nI (clp x r)) := by
  unfold f114
  exact clp_b x hx r hr
theorem f115_e0 {p g v : Int32} {J1 : jm_JJ} (ke0 : jm_MM → jm_JJ → Int32 → Option (Int32 × jm_MM × jm_JJ)) (n : Nat) (ch : Bool) (hg : decide (24 ≤ g) = false) (hp : decide (p ≤ 0) = true) (h1 : f113 M J 4 = some (v, J1)) (h2 : decide (v = 0) = ch) :
    f115_46 ke0 (n + 1) M J p g = bif ch then f115_46 ke0 n M J1 p (g + 1) else (jm_bd (f113 M J1 64) (fun q19 => jm_bd (f113 M q19.2 64) (fun q21 => jm_bd (f105 M p g q19.1 q21.1) (fun q23 => f115_46 ke0 n q23 q21.2 p (g + 1))))) := by
  rw [f115_46, hg, cond_false, hp, cond_true]
  unfold f115_74 f115_75 f115_88 f115_99 f115_130 f115_199
  rw [hp, cond_true, h1, bd_s, h2]
  cases ch <;> rfl
theorem f115_e1 {p g v x : Int32} {J1 : jm_JJ} (ke0 : jm_MM → jm_JJ → Int32 → Option (Int32 × jm_MM × jm_JJ)) (n : Nat) (was ch : Bool) (hg : decide (24 ≤ g) = false) (hp : decide (p ≤ 0) = false) (h0 : f102 M (p - 1) = some x) (h3 : f94 M x g = some (bI was)) (h1 : f113 M J 16 = some (v, J1)) (h2 : decide (v = 0) = ch) :
    f115_46 ke0 (n + 1) M J p g = bif was then (bif ch then f115_46 ke0 n M J1 p (g + 1) else (jm_bd (f113 M J1 7) (fun q26 => jm_bd (f113 M q26.2 7) (fun q28 => jm_bd (f103 M (p - 1) g) (fun q30 => jm_bd (f114 M (q30 + (q26.1 - 3))) (fun q32 => jm_bd (f104 M (p - 1) g) (fun q34 => jm_bd (f114 M (q34 + (q28.1 - 3))) (fun q36 => jm_bd (f105 M p g q32 q36) (fun q38 => f115_46 ke0 n q38 q28.2 p (g + 1)))))))))) else (bif ch then (jm_bd (f113 M J1 64) (fun q19 => jm_bd (f113 M q19.2 64) (fun q21 => jm_bd (f105 M p g q19.1 q21.1) (fun q23 => f115_46 ke0 n q23 q21.2 p (g + 1))))) else f115_46 ke0 n M J1 p (g + 1)) := by
  rw [f115_46, hg, cond_false, hp, cond_false, h0, bd_s, h3, bd_s, bI_0]
  unfold f115_74 f115_75 f115_88 f115_99 f115_130 f115_199
  rw [hp, cond_false, cond_false, h1, bd_s, bd_s, h2]
  cases was <;> cases ch <;> rfl
theorem dst_m (h0 : hM M 0 D) (hk : hok D) {l p g : Nat} (h : J 113 3 = lN l) (hl : l < 2147483647) (hp : p < 6) (hg : g < 24) (ke0 : jm_MM → jm_JJ → Int32 → Option (Int32 × jm_MM × jm_JJ)) (n : Nat) {S : hD × Nat} (hS : S = dst p g (D, l)) :
    ∃ M' J', f115_46 ke0 (n + 1) M J (nI p) (nI g) = f115_46 ke0 n M' J' (nI p) (nI (g + 1)) ∧ (∀ b, b ≠ 114 → M' b = M b) ∧ (∀ j, 321 ≤ j → M' 114 j = M 114 j) ∧ hM M' 0 S.1 ∧ J' 113 3 = lN S.2 := by
  have ep : decide (nI p ≤ 0) = decide (p = 0) := by
    show decide (nI p ≤ nI 0) = _
    rw [dle (by omega) (by omega)]
    by_cases c : p = 0
    · rw [decide_eq_true c, decide_eq_true (by omega)]
    · rw [decide_eq_false c, decide_eq_false (by omega)]
  have lay : ∀ J1 : jm_JJ, J1 113 3 = lN (dr l) → ∃ M' J', (jm_bd (f113 M J1 64) (fun q19 => jm_bd (f113 M q19.2 64) (fun q21 => jm_bd (f105 M (nI p) (nI g) q19.1 q21.1) (fun q23 => f115_46 ke0 n q23 q21.2 (nI p) (nI (g + 1)))))) = f115_46 ke0 n M' J' (nI p) (nI (g + 1)) ∧ (∀ b, b ≠ 114 → M' b = M b) ∧ (∀ j, 321 ≤ j → M' 114 j = M 114 j) ∧ hM M' 0 (sP D p g (dr (dr l) % 64) (dr (dr (dr l)) % 64)) ∧ J' 113 3 = lN (dr (dr (dr l))) := by
    intro J1 a2
    obtain ⟨J2, b1, b2⟩ := f113_d M (n := 64) a2 (dr_lt l) (by omega) (by omega)
    obtain ⟨J3, c1, c2⟩ := f113_d M (n := 64) b2 (dr_lt _) (by omega) (by omega)
    obtain ⟨M', d1, d2, d3, d4⟩ := f105_d h0 (dr (dr l) % 64) (dr (dr (dr l)) % 64) hp hg
    have b1 : f113 M J1 64 = some (nI (dr (dr l) % 64), J2) := b1
    have c1 : f113 M J2 64 = some (nI (dr (dr (dr l)) % 64), J3) := c1
    refine ⟨M', J3, ?_, d2, d3, d4, c2⟩
    rw [b1, bd_s]
    simp only
    rw [c1, bd_s]
    simp only
    rw [d1, bd_s]
  by_cases c0 : p = 0
  · obtain ⟨J1, a1, a2⟩ := f113_d M (n := 4) h hl (by omega) (by omega)
    have a1 : f113 M J 4 = some (nI (dr l % 4), J1) := a1
    rw [f115_e0 ke0 n (decide (dr l % 4 = 0)) (c24 hg) (by rw [ep, decide_eq_true c0]) a1 (dz (by omega) (dr_lt l)), nI_1]
    rw [dst_0 c0] at hS
    by_cases c : dr l % 4 = 0
    · rw [if_pos c] at hS
      rw [decide_eq_true c, cond_true, hS]
      exact ⟨M, J1, rfl, fun _ _ => rfl, fun _ _ => rfl, h0, a2⟩
    · rw [if_neg c] at hS
      rw [decide_eq_false c, cond_false, hS]
      exact lay J1 a2
  · have e1 : nI p - 1 = nI (p - 1) := by
      obtain ⟨m, hm⟩ : ∃ m, p = m + 1 := ⟨p - 1, by omega⟩
      rw [hm, nI_p1]
      rfl
    obtain ⟨J1, a1, a2⟩ := f113_d M (n := 16) h hl (by omega) (by omega)
    have a1 : f113 M J 16 = some (nI (dr l % 16), J1) := a1
    have e94 : f94 M (mk (di D (p - 1))) (nI g) = some (bI (di D (p - 1) g)) := by rw [f94_s M _ (by omega), b_mkl hg]
    rw [f115_e1 ke0 n (di D (p - 1) g) (decide (dr l % 16 = 0)) (c24 hg) (by rw [ep, decide_eq_false c0]) (by rw [e1]; exact f102_d h0 (show p - 1 < 6 by omega)) e94 a1 (dz (by omega) (dr_lt l)), nI_1, e1]
    cases e : di D (p - 1) g
    · rw [dst_2 c0 e] at hS
      by_cases c : dr l % 16 = 0
      · rw [if_pos c] at hS
        rw [decide_eq_true c, cond_false, cond_true, hS]
        exact lay J1 a2
      · rw [if_neg c] at hS
        rw [decide_eq_false c, cond_false, cond_false, hS]
        exact ⟨M, J1, rfl, fun _ _ => rfl, fun _ _ => rfl, h0, a2⟩
    · rw [dst_1 c0 e] at hS
      obtain ⟨hx, hy⟩ := hk.2.2.2.2 (p - 1) g (by omega) hg e
      by_cases c : dr l % 16 = 0
      · rw [if_pos c] at hS
        rw [decide_eq_true c, cond_true, cond_true, hS]
        exact ⟨M, J1, rfl, fun _ _ => rfl, fun _ _ => rfl, h0, a2⟩
      · obtain ⟨J2, b1, b2⟩ := f113_d M (n := 7) a2 (dr_lt l) (by omega) (by omega)
        obtain ⟨J3, c1, c2⟩ := f113_d M (n := 7) b2 (dr_lt _) (by omega) (by omega)
        obtain ⟨M', d1, d2, d3, d4⟩ := f105_d h0 (clp (dx D (p - 1) g) (dr (dr l) % 7)) (clp (dy D (p - 1) g) (dr (dr (dr l)) % 7)) hp hg
        have b1 : f113 M J1 7 = some (nI (dr (dr l) % 7), J2) := b1
        have c1 : f113 M J2 7 = some (nI (dr (dr (dr l)) % 7), J3) := c1
        rw [if_neg c] at hS
        rw [decide_eq_false c, cond_true, cond_false, hS]
        refine ⟨M', J3, ?_, d2, d3, d4, c2⟩
        rw [b1, bd_s]
        simp only
        rw [c1, bd_s]
        simp only
        rw [f103_d h0 (show p - 1 < 6 by omega) hg e, bd_s, f114_s M hx (Nat.mod_lt _ (by omega)), bd_s, f104_d h0 (show p - 1 < 6 by omega) hg e, bd_s, f114_s M hy (Nat.mod_lt _ (by omega)), bd_s, d1, bd_s]
theorem f115_46_d (h0 : hM M 0 D) (hk : hok D) {l p : Nat} (h : J 113 3 = lN l) (hl : l < 2147483647) (hp : p < 6) (ke0 : jm_MM → jm_JJ → Int32 → Option (Int32 × jm_MM × jm_JJ)) :
    ∃ a : jm_MM × jm_JJ, f115_46 ke0 jm_F M J (nI p) 0 = ke0 a.1 a.2 (nI p) ∧ (∀ b, b ≠ 114 → a.1 b = M b) ∧ (∀ j, 321 ≤ j → a.1 114 j = M 114 j) ∧ hM a.1 0 (dss p (D, l) 24).1 := by
  obtain ⟨a, q1, q2, q3, q4, -⟩ := lpI (fun n (a : jm_MM × jm_JJ) u => f115_46 ke0 n a.1 a.2 (nI p) u) (fun a => ke0 a.1 a.2 (nI p)) (fun i a => (∀ b, b ≠ 114 → a.1 b = M b) ∧ (∀ j, 321 ≤ j → a.1 114 j = M 114 j) ∧ hM a.1 0 (dss p (D, l) i).1 ∧ a.2 113 3 = lN (dss p (D, l) i).2) 24 (by omega) (fun n a _ => by
      show f115_46 ke0 (n + 1) a.1 a.2 (nI p) (nI 24) = _
      rw [f115_46, c24e, cond_true]) (fun n i a hi hh => by
      obtain ⟨g1, g2, g3, g4⟩ := hh
      obtain ⟨o1, o2⟩ := dss_ok (p := p) (s := (D, l)) hk hl hp i (by omega)
      obtain ⟨M', J', s1, s2, s3, s4, s5⟩ := dst_m g3 o1 g4 o2 hp hi ke0 n (S := dss p (D, l) (i + 1)) rfl
      exact ⟨(M', J'), s1, fun b hb => by simp only; rw [s2 b hb, g1 b hb], fun j hj => by simp only; rw [s3 j hj, g2 j hj], s4, s5⟩) (M, J) ⟨fun _ _ => rfl, fun _ _ => rfl, h0, h⟩
  exact ⟨a, q1, q2, q3, q4⟩
theorem op6 (hI : Inv M) (J : jm_JJ) (x0 : Int32) : ∃ r M1 J1 M2 J2, f63 M J x0 = some (r, M1, J1) ∧ f115 M1 J1 x0 = some (r, M2, J2) ∧ Inv M2 ∧ M1 0 = M 0 ∧ M2 0 = M 0 := by
  obtain ⟨A, hC0, hM0⟩ := hI
  have hk := hC0.1.2.1
  have h6 := hk.1
  have l1 : (1 : Int64) = (1 : Int32).toInt64 := by decide +kernel
  have l9 : (999999 : Int64) = (999999 : Int32).toInt64 := by decide +kernel
  have e1 : decide (M 2 0 < 6) = decide (dn (aD A) < 6) := by rw [hC0.1.1.1, lt6 h6]
  have s1 : f63 M J x0 = bif vB x0 1 999999 then (bif decide (dn (aD A) < 6) then (jm_bd (f88 M) (fun q5 => jm_bd (f11 q5) (fun q7 => jm_bd (f39 q7.2 J x0) (fun q9 => f63_50 (fun Me17 Je18 ve19 => jm_bd (f18 Me17 ve19) (fun q20 => jm_bd (f164 Me17 q20) (fun q22 => some (q22, Me17, Je18)))) jm_F q7.2 q9 q7.1 0)))) else (some ((-1000000004), M, J))) else (some ((-1000000002), M, J)) := by
    unfold f63
    rw [f86_s, bd_s, bI_0, Bool.not_not, e1]
  have s2 : ∀ N J', hM N 0 (aD A) → f115 N J' x0 = bif vB x0 1 999999 then (bif decide (dn (aD A) < 6) then (jm_bd (f100 N) (fun q5 => jm_bd (f106 q5) (fun q7 => f115_46 (fun Me46 Je47 ve48 => jm_bd (f102 Me46 ve48) (fun q49 => jm_bd (f95 Me46 q49) (fun q51 => some (q51, Me46, Je47)))) jm_F q7.2 (jm_upL J' 113 3 (Int32.toInt64 x0)) q7.1 0))) else (some ((-1000000004), N, J'))) else (some ((-1000000002), N, J')) := by
    intro N J' hN
    unfold f115
    rw [l1, l9, f93_s, bd_s, bI_0, Bool.not_not, hM_n hN, eq6 h6, Bool.not_not]
  cases c1 : vB x0 1 999999
  · rw [c1] at s1 s2
    exact ⟨_, M, J, M, J, s1, s2 M J hM0.1, ⟨A, hC0, hM0⟩, rfl, rfl⟩
  · rw [c1] at s1 s2
    by_cases c : dn (aD A) < 6
    · rw [decide_eq_true c, cond_true, cond_true] at s1
      obtain ⟨l, hl1, hl2, rfl⟩ := vB1_in (m := 999999) (by omega) c1
      obtain ⟨D1, hD1⟩ : ∃ D1, D1 = sN (sC (aD A) (dn (aD A))) (dn (aD A) + 1) := ⟨_, rfl⟩
      have hk1 : hok D1 := by rw [hD1]; exact hok_C hk (by omega)
      obtain ⟨D2, hD2⟩ : ∃ D2, D2 = (dss (dn (aD A)) (D1, l) 24).1 := ⟨_, rfl⟩
      have hk2 : hok D2 := by rw [hD2]; exact (dss_ok (p := dn (aD A)) (s := (D1, l)) hk1 (by simp only; omega) c 24 (Nat.le_refl _)).1
      obtain ⟨N, a1, a2, a3, a4⟩ := f88_d hC0.1
      have e0 := rmb_D A
      have hN : hC N 2 (aD A) := by
        have := a4.1
        rwa [e0] at this
      obtain ⟨N1, b1, b2, b3⟩ := f11_d hN c
      rw [← hD1] at b3
      obtain ⟨⟨N2, J2⟩, c1', c2', c3'⟩ := f63_50_d (J := jm_upL J 112 0 (nI l).toInt64) b3 hk1 (l := l) (by rw [jL_eq, nI_l (by omega)]) (by omega) c (fun Me17 Je18 ve19 => jm_bd (f18 Me17 ve19) (fun q20 => jm_bd (f164 Me17 q20) (fun q22 => some (q22, Me17, Je18))))
      rw [← hD2] at c3'
      simp only at c1' c2' c3'
      have t1 : f63 M J (nI l) = some (nI (fb_ct (di D2 (dn (aD A))) 24), N2, J2) := by
        rw [s1, a1, bd_s, b1, bd_s]
        unfold f39
        rw [bd_s]
        simp only
        rw [c1', f18_d c3' hk2 c, bd_s, f164_mk, bd_s]
      have fr1 : ∀ b, b < 2 ∨ 102 ≤ b → N2 b = M b := fun b hb => by rw [c2' b (by omega), b2 b (by omega) (by omega), a2 b (by omega) (by omega)]
      have fr5 : ∀ b, b < 2 ∨ 5 ≤ b → N2 b = N b := fun b hb => by rw [c2' b (by omega), b2 b (by omega) (by omega)]
      have mi1 : MI N2 A := MI_fr hM0 (by rw [fr1 113 (by omega)]) (fr1 114 (by omega)) (fr1 115 (by omega))
      obtain ⟨P, d1, d2, d3, d4⟩ := f100_d mi1 hC0.1.2.2.1
      have hP : hM P 0 (aD A) := by
        have := d4.1
        rwa [e0] at this
      obtain ⟨P1, g1, g2, g3, g4⟩ := f106_d hP c
      rw [← hD1] at g4
      obtain ⟨⟨P2, J3⟩, k1, k2, k3, k4⟩ := f115_46_d (J := jm_upL J2 113 3 (nI l).toInt64) g4 hk1 (l := l) (by rw [jL_eq, nI_l (by omega)]) (by omega) c (fun Me46 Je47 ve48 => jm_bd (f102 Me46 ve48) (fun q49 => jm_bd (f95 Me46 q49) (fun q51 => some (q51, Me46, Je47))))
      rw [← hD2] at k4
      simp only at k1 k2 k3 k4
      have t2 : f115 N2 J2 (nI l) = some (nI (fb_ct (di D2 (dn (aD A))) 24), P2, J3) := by
        rw [s2 N2 J2 mi1.1, decide_eq_true c, cond_true, cond_true, d1, bd_s, g1, bd_s]
        simp only
        rw [k1, f102_d k4 c, bd_s, f95_mk, bd_s]
      have frP : ∀ b, b < 113 → P2 b = N2 b := fun b hb => by rw [k2 b (by omega), g2 b (by omega), d2 b (by omega) (by omega)]
      have cj : CJ N2 (wD' (rmb A) D2) := CJ_D a4 c3' hk2 (fun b b1 b2 => fr5 b (by omega))
      have ci : CI N2 (wD' (rmb A) D2) := ⟨cj, Or.inl (by rw [fr5 39 (by omega), a3])⟩
      refine ⟨_, N2, J2, P2, J3, t1, t2, ⟨wD' (rmb A) D2, CI_fr ci (fun b _ hb => frP b (by omega)), MI_D d4 k4 (by rw [k2 113 (by omega), g2 113 (by omega)]) (by rw [k2 115 (by omega), g2 115 (by omega)]) (fun j hj => by rw [k3 j hj, g3 j hj])⟩, fr1 0 (by omega), by rw [frP 0 (by omega), fr1 0 (by omega)]⟩
    · rw [decide_eq_false c] at s1 s2
      exact ⟨_, M, J, M, J, s1, s2 M J hM0.1, ⟨A, hC0, hM0⟩, rfl, rfl⟩
end
