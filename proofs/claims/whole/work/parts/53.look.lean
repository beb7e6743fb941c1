/-! ===== how many knots are looked at ===== -/
def ddf (D : hD) (p X Y d k : Nat) : Int32 := if d % 2 = 0 then nI X - nI (dx D p k) else nI Y - nI (dy D p k)
def goL (x : Int32) (w : Nat) : Bool := decide (x ≤ 0) || !decide (nI w < x * x)
def goR (x : Int32) (w : Nat) : Bool := decide (0 ≤ x) || !decide (nI w < x * x)
def lkc (D : hD) (p X Y w : Nat) : Nat → (Nat → Nat) → Nat → Nat → Nat
  | 0, _, _, _ => 0
  | q + 1, o, n, d => if n = 0 then 0 else 1 + (if goL (ddf D p X Y d (sr (kx D p d) o n (n / 2))) w then lkc D p X Y w q (sr (kx D p d) o n) (n / 2) (d + 1) else 0) + (if goR (ddf D p X Y d (sr (kx D p d) o n (n / 2))) w then lkc D p X Y w q (rgt (kx D p) o n d) (n - n / 2 - 1) (d + 1) else 0)
theorem lkc_le (D : hD) (p X Y w : Nat) : ∀ q o n d, lkc D p X Y w q o n d ≤ n
  | 0, _, _, _ => Nat.zero_le _
  | q + 1, o, n, d => by
    rw [lkc]
    have h1 := lkc_le D p X Y w q (sr (kx D p d) o n) (n / 2) (d + 1)
    have h2 := lkc_le D p X Y w q (rgt (kx D p) o n d) (n - n / 2 - 1) (d + 1)
    by_cases c : n = 0
    · rw [if_pos c]
      omega
    · rw [if_neg c]
      split <;> split <;> omega
theorem lkc_0 (D : hD) (p X Y w q : Nat) (o : Nat → Nat) (d : Nat) : lkc D p X Y w q o 0 d = 0 := Nat.le_zero.mp (lkc_le D p X Y w q o 0 d)
theorem n1 (a : Nat) : 1 + nI a = nI (1 + a) := nI_add 1 a
section
variable {D : hD}
theorem z10 : decide ((1 : Int32) = 0) = false := by decide +kernel
theorem o10 : decide ((1 : Nat) = 0) = false := rfl
theorem so1 : some (1 : Int32) = some (nI 1) := rfl
theorem f55_st {M : jm_MM} {q k d a b : Nat} {x y z : Int32} {w : Nat} (hk : k < 24) (hd : d < 24) (il : f55 q M (M 106 k) x y (nI w) (nI (d + 1)) = some (nI a)) (ir : f55 q M (M 107 k) x y (nI w) (nI (d + 1)) = some (nI b)) (hz : z = if d % 2 = 0 then x - M 110 k else y - M 111 k) :
    f55 (q + 1) M (nI k) x y (nI w) (nI d) = some (nI (1 + (if goL z w then a else 0) + (if goR z w then b else 0))) := by
  have e24 : decide (nI d < 24) = true := by
    show decide (nI d < nI 24) = true
    rw [dlt (by omega) (by omega)]
    exact decide_eq_true hd
  have e1 : decide (nI k = -1) = false := cM1 (by omega)
  rw [f55, e1, cond_false, e24, cond_true, dz2 (by omega), inb24 hk, cl_s (show k < 2 ^ 31 by omega), nI_1]
  generalize hA : f55 q M (M 106 k) x y (nI w) (nI (d + 1)) = A at il ⊢
  generalize hB : f55 q M (M 107 k) x y (nI w) (nI (d + 1)) = B at ir ⊢
  subst il ir
  have e2 : (1 : Int32) + nI a = nI (1 + a) := nI_add 1 a
  have e3 : (1 : Int32) + nI b = nI (1 + b) := nI_add 1 b
  have e4 : nI (1 + a) + nI b = nI (1 + a + b) := nI_add _ _
  unfold goL goR
  by_cases c : d % 2 = 0
  · rw [if_pos c] at hz
    rw [decide_eq_true c, Bool.not_true, cond_false, ← hz]
    generalize decide (nI w < z * z) = b1
    generalize decide (z ≤ 0) = b2
    generalize decide (0 ≤ z) = b3
    have both : some ((1 + nI a) + nI b) = some (nI (1 + a + b)) := by rw [e2, e4]
    have onl : some (1 + nI a) = some (nI (1 + a + 0)) := by rw [e2, Nat.add_zero]
    have onr : some (1 + nI b) = some (nI (1 + 0 + b)) := by rw [e3, Nat.add_zero]
    cases b1
    · cases b2
      · cases b3
        · exact both
        · exact both
      · cases b3
        · exact both
        · exact both
    · cases b2
      · cases b3
        · exact so1
        · exact onr
      · cases b3
        · exact onl
        · exact both
  · rw [if_neg c] at hz
    rw [decide_eq_false c, Bool.not_false, cond_true, ← hz]
    generalize decide (nI w < z * z) = b1
    generalize decide (z ≤ 0) = b2
    generalize decide (0 ≤ z) = b3
    have both : some ((1 + nI a) + nI b) = some (nI (1 + a + b)) := by rw [e2, e4]
    have onl : some (1 + nI a) = some (nI (1 + a + 0)) := by rw [e2, Nat.add_zero]
    have onr : some (1 + nI b) = some (nI (1 + 0 + b)) := by rw [e3, Nat.add_zero]
    cases b1
    · cases b2
      · cases b3
        · exact both
        · exact both
      · cases b3
        · exact both
        · exact both
    · cases b2
      · cases b3
        · exact so1
        · exact onr
      · cases b3
        · exact onl
        · exact both
theorem f55_d (hk : hok D) {M : jm_MM} {p X Y w : Nat} (hp : p < 6) (hXY : XY M D p) : ∀ (q fl : Nat) (o : Nat → Nat) (n d : Nat), n < q → n ≤ fl → gr D p o n → isT (kx D p) (M 106) (M 107) (M 108) fl o n d → d + n ≤ 24 → f55 q M (rt (kx D p) o n d) (nI X) (nI Y) (nI w) (nI d) = some (nI (lkc D p X Y w fl o n d)) := by
  intro q
  induction q with
  | zero => intro fl o n d hn; omega
  | succ q ih =>
    intro fl o n d hn hfl ho hT hd
    by_cases h0 : n = 0
    · subst h0
      have e1 : rt (kx D p) o 0 d = -1 := rfl
      rw [lkc_0, e1, f55, decide_eq_true (rfl : (-1 : Int32) = -1), cond_true, nI_0]
    · obtain ⟨fl', rfl⟩ : ∃ fl', fl = fl' + 1 := ⟨fl - 1, by omega⟩
      rcases hT with h | ⟨t1, t2, t3, t4, t5⟩
      · exact absurd h h0
      have hg := gr_sr ho (kx D p d)
      obtain ⟨k, hkk⟩ : ∃ k, k = sr (kx D p d) o n (n / 2) := ⟨_, rfl⟩
      have hk24 : k < 24 := by rw [hkk]; exact (hg.1 (n / 2) (by omega)).1
      have hkd : di D p k = true := by rw [hkk]; exact (hg.1 (n / 2) (by omega)).2
      obtain ⟨kx1, ky1⟩ := hXY k hk24 hkd
      rw [← hkk] at t1 t2 t3
      have il := ih fl' (sr (kx D p d) o n) (n / 2) (d + 1) (by omega) (by omega) (gr_l hg (n / 2) (by omega)) t4 (by omega)
      have ir := ih fl' (rgt (kx D p) o n d) (n - n / 2 - 1) (d + 1) (by omega) (by omega) (gr_sub hg (n / 2 + 1) (n - n / 2 - 1) (by omega)) t5 (by omega)
      rw [← t1] at il
      rw [← t2] at ir
      have ert : rt (kx D p) o n d = nI k := by unfold rt; rw [if_neg h0, hkk]
      rw [ert, lkc, if_neg h0, ← hkk]
      exact f55_st (z := ddf D p X Y d k) hk24 (by omega) il ir (by unfold ddf; rw [kx1, ky1])
theorem pu_s {β : Type} (X : jm_MM → Option β) (b : Bool) (x : Int32) {M : jm_MM} {u : Nat} (h : M 113 11 = nI u) (hu : u < 48) :
    ∃ M', (bif b then jm_bd (f149 M x 0 0 0) X else X M) = X M' ∧ (∀ b, b ≠ 113 → b < 122 ∨ 125 < b → M' b = M b) ∧ (∀ t, t ≠ 11 → M' 113 t = M 113 t) ∧ M' 113 11 = nI (u + if b then 1 else 0) ∧ (b = true → M' 122 u = x) ∧ ∀ j, j < u → M' 122 j = M 122 j := by
  cases b
  · exact ⟨M, rfl, fun _ _ _ => rfl, fun _ _ => rfl, h, fun q => (by cases q), fun _ _ => rfl⟩
  · obtain ⟨M', c1, c2, c3, c4, c5, -, -, -, c9⟩ := f149_s h hu x 0 0 0
    refine ⟨M', ?_, c2, c3, c4, fun _ => c5, fun j hj => c9 122 (by omega) (by omega) j (by omega)⟩
    rw [cond_true, c1, bd_s]
theorem f155_96_s (kb : jm_MM → Int32 → Int32 → Int32 → Int32 → Int32 → Option (Int32 × jm_MM)) (ke0 : jm_MM → Int32 → Option (Int32 × jm_MM)) (M : jm_MM) (v1 v2 v3 v5 x : Int32) {w k : Nat} (hk : k < 24) :
    f155_96 kb ke0 M v1 v2 v3 (nI w) v5 (nI k) x = bif !decide (M 118 k = -1) && goL x w then jm_bd (f149 M (M 118 k) 0 0 0) (fun m => f155_138 kb ke0 m v1 v2 v3 (nI w) v5 (nI k) x) else f155_138 kb ke0 M v1 v2 v3 (nI w) v5 (nI k) x := by
  unfold f155_96 f155_124
  rw [inb24 hk, gd_t, gd_t, cl_s (by omega)]
  unfold goL
  cases decide (M 118 k = -1) <;> cases decide (x ≤ 0) <;> cases decide (nI w < x * x) <;> rfl
theorem f155_138_s (kb : jm_MM → Int32 → Int32 → Int32 → Int32 → Int32 → Option (Int32 × jm_MM)) (ke0 : jm_MM → Int32 → Option (Int32 × jm_MM)) (M : jm_MM) (v1 v2 v3 v5 x : Int32) {w k : Nat} (hk : k < 24) :
    f155_138 kb ke0 M v1 v2 v3 (nI w) v5 (nI k) x = bif !decide (M 119 k = -1) && goR x w then jm_bd (f149 M (M 119 k) 0 0 0) (fun m => kb m v1 v2 v3 (nI w) v5) else kb M v1 v2 v3 (nI w) v5 := by
  unfold f155_138 f155_164
  rw [inb24 hk, gd_t, gd_t, cl_s (by omega)]
  unfold goR
  cases decide (M 119 k = -1) <;> cases decide (0 ≤ x) <;> cases decide (nI w < x * x) <;> rfl
theorem rt_ne {K : Nat → Nat → Nat} {p : Nat} {o : Nat → Nat} {n d : Nat} (h : gr D p (sr (K d) o n) n) : decide (rt K o n d = -1) = decide (n = 0) := by
  unfold rt
  by_cases c : n = 0
  · rw [if_pos c, decide_eq_true c, decide_eq_true rfl]
  · rw [if_neg c, decide_eq_false c]
    have := (h.1 (n / 2) (by omega)).1
    exact cM1 (by omega)
theorem f155_32_d (hk : hok D) {p X Y w : Nat} (hp : p < 6) (ke0 : jm_MM → Int32 → Option (Int32 × jm_MM)) : ∀ (q fl : Nat) (o : Nat → Nat) (n d u c : Nat) (M : jm_MM) (fu : Nat), n < q → n ≤ fl → 0 < n → hM M 0 D → gr D p o n → isT (kx D p) (M 118) (M 119) (M 120) fl o n d → d + n ≤ 24 → u + n ≤ 48 → M 113 11 = nI (u + 1) → M 122 u = rt (kx D p) o n d → n ≤ fu →
    ∃ M', f155_32 ke0 fu M (nI p) (nI X) (nI Y) (nI w) (nI c) = f155_32 ke0 (fu - lkc D p X Y w fl o n d) M' (nI p) (nI X) (nI Y) (nI w) (nI (c + lkc D p X Y w fl o n d)) ∧ M' 113 11 = nI u ∧ (∀ j, j < u → M' 122 j = M 122 j) ∧ (∀ b, b ≠ 113 → b < 122 ∨ 125 < b → M' b = M b) ∧ ∀ t, t ≠ 11 → M' 113 t = M 113 t := by
  intro q
  induction q with
  | zero => intro fl o n d u c M fu hn; omega
  | succ q ih =>
    intro fl o n d u c M fu hn hfl h0 hM0 ho hT hd hu h11 h122 hfu
    obtain ⟨fu', rfl⟩ : ∃ fu', fu = fu' + 1 := ⟨fu - 1, by omega⟩
    obtain ⟨fl', rfl⟩ : ∃ fl', fl = fl' + 1 := ⟨fl - 1, by omega⟩
    rcases hT with h | ⟨t1, t2, t3, t4, t5⟩
    · omega
    have hg := gr_sr ho (kx D p d)
    obtain ⟨k, hkk⟩ : ∃ k, k = sr (kx D p d) o n (n / 2) := ⟨_, rfl⟩
    have hk24 : k < 24 := by rw [hkk]; exact (hg.1 (n / 2) (by omega)).1
    have hkd : di D p k = true := by rw [hkk]; exact (hg.1 (n / 2) (by omega)).2
    rw [← hkk] at t1 t2 t3
    have ert : rt (kx D p) o n d = nI k := by unfold rt; rw [if_neg (by omega), hkk]
    obtain ⟨M0, hM0d⟩ : ∃ M0, M0 = jm_up M 113 11 (nI u) := ⟨_, rfl⟩
    have z0 : ∀ b, b ≠ 113 → M0 b = M b := fun b hb => by rw [hM0d, jup_ne hb]
    have z1 : ∀ t, t ≠ 11 → M0 113 t = M 113 t := fun t ht => by rw [hM0d, jup_nj ht]
    have z2 : M0 113 11 = nI u := by rw [hM0d, jup_eq]
    have hMM : hM M0 0 D := hM_fr hM0 (z0 114 (by omega))
    have e0 : decide (nI (u + 1) ≤ 0) = false := decide_eq_false (nI_nle (by omega) (by omega))
    have gl := gr_l hg (n / 2) (by omega)
    have grr : gr D p (rgt (kx D p) o n d) (n - n / 2 - 1) := gr_sub hg (n / 2 + 1) (n - n / 2 - 1) (by omega)
    have rl : decide (M0 118 k = -1) = decide (n / 2 = 0) := by rw [z0 118 (by omega), t1]; exact rt_ne (gr_sr gl _)
    have st1 : f155_32 ke0 (fu' + 1) M (nI p) (nI X) (nI Y) (nI w) (nI c) = f155_96 (f155_32 ke0 fu') ke0 M0 (nI p) (nI X) (nI Y) (nI w) (nI (c + 1)) (nI k) (ddf D p X Y d k) := by
      rw [f155_32, h11, e0, cond_false, nI_p1, ← hM0d, z2, inb_s (show u < 48 by omega) (by omega), gd_t, cl_s (show u < 2 ^ 31 by omega), z0 122 (by omega), h122, ert, inb24 hk24, gd_t, cl_s (show k < 2 ^ 31 by omega), z0 120 (by omega), t3, dz2 (by omega), f103_d hMM hp hk24 hkd, f104_d hMM hp hk24 hkd, bd_s, bd_s, nI_1]
      unfold ddf
      by_cases cc : d % 2 = 0
      · rw [decide_eq_true cc, if_pos cc]
        rfl
      · rw [decide_eq_false cc, if_neg cc]
        rfl
    rw [f155_96_s _ _ _ _ _ _ _ _ hk24, rl] at st1
    obtain ⟨pL, hpL⟩ : ∃ pL, pL = (!decide (n / 2 = 0) && goL (ddf D p X Y d k) w) := ⟨_, rfl⟩
    obtain ⟨M1, a1, a2, a3, a4, a5, a6⟩ := pu_s (fun m => f155_138 (f155_32 ke0 fu') ke0 m (nI p) (nI X) (nI Y) (nI w) (nI (c + 1)) (nI k) (ddf D p X Y d k)) pL (M0 118 k) z2 (show u < 48 by omega)
    rw [← hpL, a1, f155_138_s _ _ _ _ _ _ _ _ hk24] at st1
    have rr : decide (M1 119 k = -1) = decide (n - n / 2 - 1 = 0) := by rw [a2 119 (by omega) (by omega), z0 119 (by omega), t2]; exact rt_ne (gr_sr grr _)
    obtain ⟨pR, hpR⟩ : ∃ pR, pR = (!decide (n - n / 2 - 1 = 0) && goR (ddf D p X Y d k) w) := ⟨_, rfl⟩
    have hle1 : u + (if pL then 1 else 0) < 48 := by
      cases ep : pL
      · show u + 0 < 48
        omega
      · rw [hpL, Bool.and_eq_true, Bool.not_eq_true', decide_eq_false_iff_not] at ep
        show u + 1 < 48
        omega
    obtain ⟨M2, b1, b2, b3, b4, b5, b6⟩ := pu_s (fun m => f155_32 ke0 fu' m (nI p) (nI X) (nI Y) (nI w) (nI (c + 1))) pR (M1 119 k) a4 hle1
    rw [rr, ← hpR, b1] at st1
    have y0 : ∀ b, b ≠ 113 → b < 122 ∨ 125 < b → M2 b = M b := fun b q1 q2 => by rw [b2 b q1 q2, a2 b q1 q2, z0 b q1]
    have y1 : ∀ t, t ≠ 11 → M2 113 t = M 113 t := fun t ht => by rw [b3 t ht, a3 t ht, z1 t ht]

    have right : ∃ M3, f155_32 ke0 fu' M2 (nI p) (nI X) (nI Y) (nI w) (nI (c + 1)) = f155_32 ke0 (fu' - (if goR (ddf D p X Y d k) w then lkc D p X Y w fl' (rgt (kx D p) o n d) (n - n / 2 - 1) (d + 1) else 0)) M3 (nI p) (nI X) (nI Y) (nI w) (nI (c + 1 + (if goR (ddf D p X Y d k) w then lkc D p X Y w fl' (rgt (kx D p) o n d) (n - n / 2 - 1) (d + 1) else 0))) ∧ M3 113 11 = nI (u + if pL then 1 else 0) ∧ (∀ j, j < u + (if pL then 1 else 0) → M3 122 j = M2 122 j) ∧ (∀ b, b ≠ 113 → b < 122 ∨ 125 < b → M3 b = M2 b) ∧ ∀ t, t ≠ 11 → M3 113 t = M2 113 t := by
      cases e : pR
      · have hz : (if goR (ddf D p X Y d k) w then lkc D p X Y w fl' (rgt (kx D p) o n d) (n - n / 2 - 1) (d + 1) else 0) = 0 := by
          cases eg : goR (ddf D p X Y d k) w
          · rfl
          · rw [hpR, eg, Bool.and_true, Bool.not_eq_false', decide_eq_true_eq] at e
            rw [if_pos rfl, e, lkc_0]
        rw [hz]
        rw [e] at b4
        exact ⟨M2, rfl, b4, fun _ _ => rfl, fun _ _ _ => rfl, fun _ _ => rfl⟩
      · have e2 := e
        rw [hpR, Bool.and_eq_true, Bool.not_eq_true', decide_eq_false_iff_not] at e2
        rw [e2.2, if_pos rfl]
        rw [e] at b4
        have hle := lkc_le D p X Y w fl' (sr (kx D p d) o n) (n / 2) (d + 1)
        obtain ⟨M3, r1, r2, r3, r4, r5⟩ := ih fl' (rgt (kx D p) o n d) (n - n / 2 - 1) (d + 1) (u + if pL then 1 else 0) (c + 1) M2 fu' (by omega) (by omega) (by omega) (hM_fr hM0 (y0 114 (by omega) (by omega))) grr (by
          rw [y0 118 (by omega) (by omega), y0 119 (by omega) (by omega), y0 120 (by omega) (by omega)]
          exact t5) (by omega) (by
            have : (if pL then 1 else 0) ≤ 1 := by split <;> omega
            cases ep : pL
            · simp only [Bool.false_eq_true, if_false]
              omega
            · rw [hpL, Bool.and_eq_true, Bool.not_eq_true', decide_eq_false_iff_not] at ep
              simp only [if_true]
              omega) b4 (by rw [b5 e, a2 119 (by omega) (by omega), z0 119 (by omega), t2]) (by omega)
        exact ⟨M3, r1, r2, r3, r4, r5⟩
    obtain ⟨M3, r1, r2, r3, r4, r5⟩ := right
    have hlr := lkc_le D p X Y w fl' (rgt (kx D p) o n d) (n - n / 2 - 1) (d + 1)
    have hll := lkc_le D p X Y w fl' (sr (kx D p d) o n) (n / 2) (d + 1)
    obtain ⟨cR, hcR⟩ : ∃ cR, cR = (if goR (ddf D p X Y d k) w then lkc D p X Y w fl' (rgt (kx D p) o n d) (n - n / 2 - 1) (d + 1) else 0) := ⟨_, rfl⟩
    have hcR2 : cR ≤ n - n / 2 - 1 := by rw [hcR]; split <;> omega
    rw [← hcR] at r1
    have left : ∃ M4, f155_32 ke0 (fu' - cR) M3 (nI p) (nI X) (nI Y) (nI w) (nI (c + 1 + cR)) = f155_32 ke0 (fu' - cR - (if goL (ddf D p X Y d k) w then lkc D p X Y w fl' (sr (kx D p d) o n) (n / 2) (d + 1) else 0)) M4 (nI p) (nI X) (nI Y) (nI w) (nI (c + 1 + cR + (if goL (ddf D p X Y d k) w then lkc D p X Y w fl' (sr (kx D p d) o n) (n / 2) (d + 1) else 0))) ∧ M4 113 11 = nI u ∧ (∀ j, j < u → M4 122 j = M3 122 j) ∧ (∀ b, b ≠ 113 → b < 122 ∨ 125 < b → M4 b = M3 b) ∧ ∀ t, t ≠ 11 → M4 113 t = M3 113 t := by
      cases e : pL
      · have hz : (if goL (ddf D p X Y d k) w then lkc D p X Y w fl' (sr (kx D p d) o n) (n / 2) (d + 1) else 0) = 0 := by
          cases eg : goL (ddf D p X Y d k) w
          · rfl
          · rw [hpL, eg, Bool.and_true, Bool.not_eq_false', decide_eq_true_eq] at e
            rw [if_pos rfl, e, lkc_0]
        rw [hz]
        rw [e] at r2
        exact ⟨M3, rfl, r2, fun _ _ => rfl, fun _ _ _ => rfl, fun _ _ => rfl⟩
      · have e2 := e
        rw [hpL, Bool.and_eq_true, Bool.not_eq_true', decide_eq_false_iff_not] at e2
        rw [e2.2, if_pos rfl]
        rw [e] at r2 r3 b6
        have r2 : M3 113 11 = nI (u + 1) := r2
        have r3 : ∀ j, j < u + 1 → M3 122 j = M2 122 j := r3
        have b6 : ∀ j, j < u + 1 → M2 122 j = M1 122 j := b6
        obtain ⟨M4, s1, s2, s3, s4, s5⟩ := ih fl' (sr (kx D p d) o n) (n / 2) (d + 1) u (c + 1 + cR) M3 (fu' - cR) (by omega) (by omega) (by omega) (hM_fr hM0 (by rw [r4 114 (by omega) (by omega), y0 114 (by omega) (by omega)])) gl (by
          rw [r4 118 (by omega) (by omega), r4 119 (by omega) (by omega), r4 120 (by omega) (by omega), y0 118 (by omega) (by omega), y0 119 (by omega) (by omega), y0 120 (by omega) (by omega)]
          exact t4) (by omega) (by omega) r2 (by rw [r3 u (by omega), b6 u (by omega), a5 e, z0 118 (by omega), t1]) (by omega)
        exact ⟨M4, s1, s2, s3, s4, s5⟩
    obtain ⟨M4, s1, s2, s3, s4, s5⟩ := left
    refine ⟨M4, ?_, s2, fun j hj => ?_, fun b q1 q2 => by rw [s4 b q1 q2, r4 b q1 q2, y0 b q1 q2], fun t ht => by rw [s5 t ht, r5 t ht, y1 t ht]⟩
    · rw [st1, r1, s1, lkc, if_neg (show ¬ n = 0 by omega), ← hkk, ← hcR]
      have hL2 : (if goL (ddf D p X Y d k) w then lkc D p X Y w fl' (sr (kx D p d) o n) (n / 2) (d + 1) else 0) ≤ n / 2 := by split <;> omega
      obtain ⟨cL, hcL⟩ : ∃ cL, cL = (if goL (ddf D p X Y d k) w then lkc D p X Y w fl' (sr (kx D p d) o n) (n / 2) (d + 1) else 0) := ⟨_, rfl⟩
      rw [← hcL]
      rw [show fu' - cR - cL = fu' + 1 - (1 + cL + cR) by omega, show c + 1 + cR + cL = c + (1 + cL + cR) by omega]
    · have hlt : j < u + (if pL then 1 else 0) := by split <;> omega
      rw [s3 j hj, r3 j hlt, b6 j hlt, a6 j hj, z0 122 (by omega)]
/-- how many are looked at -/
def lked (D : hD) (p X Y w : Nat) : Nat := lkc D p X Y w (ec D p) (eo D p) (ec D p) 0
theorem f54_d (hk : hok D) {M : jm_MM} {p X Y w : Nat} (hp : p < 6) (hXY : XY M D p) (h0 : M 105 0 = rt (kx D p) (eo D p) (ec D p) 0) (hT : isTr D p (M 106) (M 107) (M 108)) : f54 M (nI X) (nI Y) (nI w) = some (nI (lked D p X Y w)) := by
  have hec := ec_le D p
  unfold f54
  rw [h0]
  have := f55_d hk (X := X) (Y := Y) (w := w) hp hXY 30 (ec D p) (eo D p) (ec D p) 0 (by omega) (Nat.le_refl _) (eo_gr D p) hT.1 (by omega)
  rw [nI_0] at this
  rw [this, bd_s]
  rfl
theorem f155_d (hk : hok D) {M : jm_MM} {p X Y w : Nat} (h : hM M 0 D) (hp : p < 6) : ∃ M', f155 M (nI p) (nI X) (nI Y) (nI w) = some (nI (lked D p X Y w), M') ∧ (∀ b, b ≠ 113 → b < 118 ∨ 125 < b → M' b = M b) ∧ ∀ t, t ≠ 6 → t ≠ 11 → M' 113 t = M 113 t := by
  have hec := ec_le D p
  obtain ⟨M1, q1, q2, q3, q4, q5⟩ := f150_d h hk hp
  unfold f155
  rw [q1, bd_s]
  obtain ⟨M2, hM2⟩ : ∃ M2, M2 = jm_up M1 113 11 0 := ⟨_, rfl⟩
  rw [← hM2]
  have z0 : ∀ b, b ≠ 113 → M2 b = M1 b := fun b hb => by rw [hM2, jup_ne hb]
  have z1 : ∀ t, t ≠ 11 → M2 113 t = M1 113 t := fun t ht => by rw [hM2, jup_nj ht]
  have z2 : M2 113 11 = nI 0 := by rw [hM2, jup_eq, nI_0]
  have stop : ∀ (N : jm_MM) (fu : Nat) (v : Int32), N 113 11 = nI 0 → f155_32 (fun Me30 ve31 => some (ve31, Me30)) (fu + 1) N (nI p) (nI X) (nI Y) (nI w) v = some (v, N) := fun N fu v hN => by
    rw [f155_32, hN, show decide (nI 0 ≤ 0) = true by decide +kernel, cond_true]
  rw [z1 6 (by omega), q4, rt_ne (gr_sr (eo_gr D p) _)]
  by_cases c : ec D p = 0
  · rw [decide_eq_true c, cond_true]
    refine ⟨M2, ?_, fun b b1 b2 => by rw [z0 b b1, q2 b b1 b2], fun t t1 t2 => by rw [z1 t t2, q3 t t1 t2]⟩
    have : lked D p X Y w = 0 := by
      unfold lked
      rw [c, lkc_0]
    rw [this, nI_0]
    exact stop M2 4999 0 z2
  · rw [decide_eq_false c, cond_false]
    obtain ⟨M3, c1, c2, c3, c4, c5, -, -, -, -⟩ := f149_s z2 (show 0 < 48 by omega) (rt (kx D p) (eo D p) (ec D p) 0) 0 0 0
    rw [c1, bd_s]
    have y0 : ∀ b, b ≠ 113 → b < 122 → M3 b = M1 b := fun b b1 b2 => by rw [c2 b b1 (by omega), z0 b b1]
    have hle := lkc_le D p X Y w (ec D p) (eo D p) (ec D p) 0
    obtain ⟨M4, g1, g2, g3, g4, g5⟩ := f155_32_d hk (X := X) (Y := Y) (w := w) hp (fun Me30 ve31 => some (ve31, Me30)) 30 (ec D p) (eo D p) (ec D p) 0 0 0 M3 jm_F (by omega) (Nat.le_refl _) (by omega) (hM_fr h (by rw [y0 114 (by omega) (by omega), q2 114 (by omega) (by omega)])) (eo_gr D p) (by
      rw [y0 118 (by omega) (by omega), y0 119 (by omega) (by omega), y0 120 (by omega) (by omega)]
      exact q5.1) (by omega) (by omega) c4 c5 (show ec D p ≤ 5000 by omega)
    rw [nI_0, Nat.zero_add] at g1
    rw [g1]
    obtain ⟨fu, hfu⟩ : ∃ fu, jm_F - lkc D p X Y w (ec D p) (eo D p) (ec D p) 0 = fu + 1 := ⟨5000 - lkc D p X Y w (ec D p) (eo D p) (ec D p) 0 - 1, by show 5000 - _ = _; omega⟩
    rw [hfu, stop M4 fu _ g2]
    refine ⟨M4, rfl, fun b b1 b2 => ?_, fun t t1 t2 => ?_⟩
    · rw [g4 b b1 (by omega), c2 b b1 (by omega), z0 b b1, q2 b b1 b2]
    · rw [g5 t t2, c3 t t2, z1 t t2, q3 t t1 t2]
end
