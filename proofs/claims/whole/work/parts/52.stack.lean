/-! ===== the tree: its knots, the reference, by a row of those that wait ===== -/
theorem f149_s {M : jm_MM} {w : Nat} (h : M 113 11 = nI w) (hw : w < 48) (x0 x1 x2 x3 : Int32) :
    ∃ M', f149 M x0 x1 x2 x3 = some M' ∧ (∀ b, b ≠ 113 → b < 122 ∨ 125 < b → M' b = M b) ∧ (∀ t, t ≠ 11 → M' 113 t = M 113 t) ∧ M' 113 11 = nI (w + 1) ∧ M' 122 w = x0 ∧ M' 123 w = x1 ∧ M' 124 w = x2 ∧ M' 125 w = x3 ∧ ∀ c, 122 ≤ c → c ≤ 125 → ∀ j, j ≠ w → M' c j = M c j := by
  have n2 : (113 : Nat) ≠ 122 := by decide
  have n3 : (113 : Nat) ≠ 123 := by decide
  have n4 : (113 : Nat) ≠ 124 := by decide
  have n5 : (113 : Nat) ≠ 125 := by decide
  unfold f149
  simp only [jup_ne n2, jup_ne n3, jup_ne n4, jup_ne n5, h, cl_s (show w < 2 ^ 31 by omega), inb_s hw (show 48 < 2 ^ 31 by decide), gd_t, nI_1]
  refine ⟨_, rfl, fun b b1 b2 => ?_, fun t ht => ?_, jup_eq, ?_, ?_, ?_, ?_, fun c c1 c2 j hj => ?_⟩
  · rw [jup_ne b1, jup_ne (by omega), jup_ne (by omega), jup_ne (by omega), jup_ne (by omega)]
  · rw [jup_nj ht, jup_ne (by omega), jup_ne (by omega), jup_ne (by omega), jup_ne (by omega)]
  · rw [jup_ne (by omega), jup_ne (by omega), jup_ne (by omega), jup_ne (by omega), jup_eq]
  · rw [jup_ne (by omega), jup_ne (by omega), jup_ne (by omega), jup_eq]
  · rw [jup_ne (by omega), jup_ne (by omega), jup_eq]
  · rw [jup_ne (by omega), jup_eq]
  · rw [jup_n2 (Or.inl (by omega)), jup_n2 (Or.inr hj), jup_n2 (Or.inr hj), jup_n2 (Or.inr hj), jup_n2 (Or.inr hj)]
/-- where the one above is told of its knot -/
theorem lnk_s (X : jm_MM → Option jm_MM) (M : jm_MM) (of kk : Int32) (hof : of = -1 ∨ ∃ k b, k < 24 ∧ b < 2 ∧ of = nI (2 * k + b)) :
    ∃ M', (bif !decide (of = (-1)) then (bif !decide ((of - of / 2 * 2) = 0) then (jm_gd (jm_inb (of / 2) 24) (X (jm_up M 119 ((of / 2).toNatClampNeg) kk))) else (jm_gd (jm_inb (of / 2) 24) (X (jm_up M 118 ((of / 2).toNatClampNeg) kk)))) else (X (jm_up M 113 6 kk))) = X M' ∧ (∀ b, b ≠ 113 → b ≠ 118 → b ≠ 119 → M' b = M b) ∧ (∀ t, t ≠ 6 → M' 113 t = M 113 t) ∧ (M' 113 6 = if of = -1 then kk else M 113 6) ∧ ∀ g, g < 1000 → (M' 118 g = if of = nI (2 * g) then kk else M 118 g) ∧ (M' 119 g = if of = nI (2 * g + 1) then kk else M 119 g) := by
  rcases hof with e | ⟨k, b, hk, hb, e⟩
  · subst e
    refine ⟨jm_up M 113 6 kk, rfl, fun b b1 _ _ => jup_ne b1, fun t ht => jup_nj ht, by rw [jup_eq, if_pos rfl], fun g hg => ⟨?_, ?_⟩⟩
    · rw [jup_ne (by omega), if_neg (fun q => nM1 (n := 2 * g) (by omega) q.symm)]
    · rw [jup_ne (by omega), if_neg (fun q => nM1 (n := 2 * g + 1) (by omega) q.symm)]
  · have hd : of / 2 = nI k := by
      rw [e]
      have := pk_div (a := 2 * k + b) (d := 2) (by omega) (by decide) (by decide)
      rw [show (2 * k + b) / 2 = k by omega] at this
      exact this
    have hr : decide ((of - of / 2 * 2) = 0) = decide (b = 0) := by
      rw [e, rem2 (by omega), show (2 * k + b) % 2 = b by omega]
      show decide (nI b = nI 0) = _
      rw [deq (by omega) (by omega)]
    have hne : ¬ of = -1 := by rw [e]; exact nM1 (by omega)
    rw [hr, hd, decide_eq_false hne, inb24 hk, gd_t, gd_t, cl_s (by omega)]
    rcases (show b = 0 ∨ b = 1 by omega) with rfl | rfl
    · refine ⟨jm_up M 118 k kk, rfl, fun b _ b2 _ => jup_ne b2, fun t _ => by rw [jup_ne (by omega)], by rw [if_neg hne, jup_ne (by omega)], fun g hg => ⟨?_, ?_⟩⟩
      · by_cases c : g = k
        · subst c
          rw [jup_eq, if_pos (show of = nI (2 * g) from e)]
        · rw [jup_nj c, if_neg (fun q => c (by have := (nI_eq (by omega) (by omega)).mp (e.symm.trans q); omega))]
      · rw [jup_ne (by omega), if_neg (fun q => by have := (nI_eq (by omega) (by omega)).mp (e.symm.trans q); omega)]
    · refine ⟨jm_up M 119 k kk, rfl, fun b _ _ b3 => jup_ne b3, fun t _ => by rw [jup_ne (by omega)], by rw [if_neg hne, jup_ne (by omega)], fun g hg => ⟨?_, ?_⟩⟩
      · rw [jup_ne (by omega), if_neg (fun q => by have := (nI_eq (by omega) (by omega)).mp (e.symm.trans q); omega)]
      · by_cases c : g = k
        · subst c
          rw [jup_eq, if_pos e]
        · rw [jup_nj c, if_neg (fun q => c (by have := (nI_eq (by omega) (by omega)).mp (e.symm.trans q); omega))]
section
variable {D : hD}
theorem two_m (k : Nat) : 2 * nI k = nI (2 * k) := pk_mul 2 k
theorem nI_inj {a b : Nat} (ha : a < 1000) (hb : b < 1000) (h : nI a = nI b) : a = b := (nI_eq (by omega) (by omega)).mp h
theorem f150_77_d (hk : hok D) {p : Nat} (hp : p < 6) (ke0 : jm_MM → Option jm_MM) : ∀ (q : Nat) (o : Nat → Nat) (n d f w : Nat) (of : Int32) (M : jm_MM) (fu : Nat), n < q → hM M 0 D → gr D p o n → (∀ i, i < n → M 121 (f + i) = nI (o i)) → f + n ≤ 24 → d + n ≤ 24 → w + n + 1 ≤ 48 →
    M 113 11 = nI (w + 1) → M 122 w = nI f → M 123 w = nI (f + n) → M 124 w = nI d → M 125 w = of → (of = -1 ∨ ∃ k b, k < 24 ∧ b < 2 ∧ of = nI (2 * k + b) ∧ ∀ i, i < n → o i ≠ k) → (∀ i, i < n → M 118 (o i) = -1 ∧ M 119 (o i) = -1) → 2 * n + 1 ≤ fu →
    ∃ M', f150_77 ke0 fu M (nI p) = f150_77 ke0 (fu - (2 * n + 1)) M' (nI p) ∧ M' 113 11 = nI w ∧ (∀ c, 122 ≤ c → c ≤ 125 → ∀ j, j < w → M' c j = M c j) ∧ isT (kx D p) (M' 118) (M' 119) (M' 120) n o n d ∧
      (∀ g, g < 24 → (∀ i, i < n → o i ≠ g) → (M' 118 g = if of = nI (2 * g) ∧ 0 < n then rt (kx D p) o n d else M 118 g) ∧ (M' 119 g = if of = nI (2 * g + 1) ∧ 0 < n then rt (kx D p) o n d else M 119 g) ∧ M' 120 g = M 120 g) ∧
      (M' 113 6 = if of = -1 ∧ 0 < n then rt (kx D p) o n d else M 113 6) ∧ (∀ j, j < f ∨ f + n ≤ j → M' 121 j = M 121 j) ∧ (∀ b, b ≠ 113 → b < 118 ∨ 125 < b → M' b = M b) ∧ ∀ t, t ≠ 6 → t ≠ 11 → M' 113 t = M 113 t := by
  intro q
  induction q with
  | zero => intro o n d f w of M fu hn; omega
  | succ q ih =>
    intro o n d f w of M fu hn hM0 ho hs hf hd hw h11 h122 h123 h124 h125 hof hini hfu
    obtain ⟨fu', rfl⟩ : ∃ fu', fu = fu' + 1 := ⟨fu - 1, by omega⟩
    obtain ⟨M0, hM0d⟩ : ∃ M0, M0 = jm_up M 113 11 (nI w) := ⟨_, rfl⟩
    have z0 : ∀ b, b ≠ 113 → M0 b = M b := fun b hb => by rw [hM0d, jup_ne hb]
    have z1 : ∀ t, t ≠ 11 → M0 113 t = M 113 t := fun t ht => by rw [hM0d, jup_nj ht]
    have z2 : M0 113 11 = nI w := by rw [hM0d, jup_eq]
    have e0 : decide (nI (w + 1) ≤ 0) = false := decide_eq_false (nI_nle (by omega) (by omega))
    by_cases h0 : n = 0
    · subst h0
      refine ⟨M0, ?_, z2, fun c c1 c2 j _ => by rw [z0 c (by omega)], isT_0 _ _ _ _ _ _ _, fun g _ _ => ⟨?_, ?_, ?_⟩, ?_, fun j _ => by rw [z0 121 (by omega)], fun b b1 _ => z0 b b1, fun t _ t2 => z1 t t2⟩
      · rw [f150_77, h11, e0, cond_false, nI_p1, ← hM0d, z2, inb_s (show w < 48 by omega) (by omega), gd_t, gd_t, gd_t, gd_t, cl_s (by omega), z0 122 (by omega), z0 123 (by omega), h122, h123, dle (by omega) (by omega), decide_eq_true (by omega), cond_true]
        rfl
      · rw [if_neg (by omega), z0 118 (by omega)]
      · rw [if_neg (by omega), z0 119 (by omega)]
      · rw [z0 120 (by omega)]
      · rw [if_neg (by omega), z1 6 (by omega)]
    · obtain ⟨M1, a1, a2, a3, a4⟩ := f148_d hk (M := M0) (hM_fr hM0 (z0 114 (by omega))) hp (show d < 2 ^ 31 by omega) (show 1 ≤ n by omega) hf ho (fun i hi => by rw [z0 121 (by omega)]; exact hs i hi)
      have hg := gr_sr ho (kx D p d)
      obtain ⟨k, hkk⟩ : ∃ k, k = sr (kx D p d) o n (n / 2) := ⟨_, rfl⟩
      have hk24 : k < 24 := by rw [hkk]; exact (hg.1 (n / 2) (by omega)).1
      have ek : M1 121 (f + n / 2) = nI k := by rw [a3 (n / 2) (by omega), hkk]
      have ert : rt (kx D p) o n d = nI k := by unfold rt; rw [if_neg h0, hkk]
      obtain ⟨M3, b1, b2, b3, b4, b5⟩ := lnk_s (fun m => f150_228 (f150_77 ke0 fu') ke0 m (nI p) (nI f) (nI (f + n)) (nI d) (nI (f + n / 2)) (nI k)) (jm_up M1 120 k (nI d)) of (nI k) (by
        rcases hof with r | ⟨k', b', r1, r2, r3, -⟩
        · exact Or.inl r
        · exact Or.inr ⟨k', b', r1, r2, r3⟩)
      have step : f150_77 ke0 (fu' + 1) M (nI p) = f150_228 (f150_77 ke0 fu') ke0 M3 (nI p) (nI f) (nI (f + n)) (nI d) (nI (f + n / 2)) (nI k) := by
        refine Eq.trans ?_ b1
        rw [f150_77, h11, e0, cond_false, nI_p1, ← hM0d, z2, inb_s (show w < 48 by omega) (by omega), gd_t, gd_t, gd_t, gd_t, cl_s (show w < 2 ^ 31 by omega), z0 122 (by omega), z0 123 (by omega), z0 124 (by omega), z0 125 (by omega), h122, h123, h124, h125, dle (by omega) (by omega), decide_eq_false (by omega), cond_false, a1, bd_s, mid_s hf, inb24 (show f + n / 2 < 24 by omega), gd_t, cl_s (show f + n / 2 < 2 ^ 31 by omega), ek, inb24 hk24, gd_t, cl_s (show k < 2 ^ 31 by omega)]
      have m2 : ∀ b, b ≠ 120 → jm_up M1 120 k (nI d) b = M1 b := fun b hb => jup_ne hb
      have y11 : M3 113 11 = nI w := by rw [b3 11 (by omega), m2 113 (by omega), a2 113 (by omega), z2]
      obtain ⟨M4, c1, c2, c3, c4, c5, c6, c7, c8, c9⟩ := f149_s y11 (show w < 48 by omega) (nI f) (nI (f + n / 2)) (nI (d + 1)) (nI (2 * k))
      obtain ⟨M5, d1, d2, d3, d4, d5, d6, d7, d8, d9⟩ := f149_s c4 (show w + 1 < 48 by omega) (nI (f + n / 2 + 1)) (nI (f + n)) (nI (d + 1)) (nI (2 * k + 1))
      have step2 : f150_77 ke0 (fu' + 1) M (nI p) = f150_77 ke0 fu' M5 (nI p) := by
        rw [step]
        unfold f150_228
        rw [nI_1, nI_1, two_m, c1, bd_s, nI_1, d1, bd_s]
      have x5 : ∀ b, b ≠ 113 → b < 122 ∨ 125 < b → M5 b = M3 b := fun b q1 q2 => by rw [d2 b q1 q2, c2 b q1 q2]
      have x113 : ∀ t, t ≠ 11 → M5 113 t = M3 113 t := fun t ht => by rw [d3 t ht, c3 t ht]
      have x120 : ∀ g, M5 120 g = if g = k then nI d else M 120 g := fun g => by
        rw [x5 120 (by omega) (by omega), b2 120 (by omega) (by omega) (by omega)]
        by_cases c : g = k
        · rw [if_pos c, c, jup_eq]
        · rw [if_neg c, jup_nj c, a2 120 (by omega), z0 120 (by omega)]
      have x118 : ∀ g, g < 24 → M5 118 g = if of = nI (2 * g) then nI k else M 118 g := fun g hg2 => by
        rw [x5 118 (by omega) (by omega), (b5 g (by omega)).1, m2 118 (by omega), a2 118 (by omega), z0 118 (by omega)]
      have x119 : ∀ g, g < 24 → M5 119 g = if of = nI (2 * g + 1) then nI k else M 119 g := fun g hg2 => by
        rw [x5 119 (by omega) (by omega), (b5 g (by omega)).2, m2 119 (by omega), a2 119 (by omega), z0 119 (by omega)]
      have x121 : ∀ j, M5 121 j = M1 121 j := fun j => by rw [x5 121 (by omega) (by omega), b2 121 (by omega) (by omega) (by omega), m2 121 (by omega)]
      have xout : ∀ b, b ≠ 113 → b < 118 ∨ 125 < b → M5 b = M b := fun b q1 q2 => by rw [x5 b q1 (by omega), b2 b q1 (by omega) (by omega), m2 b (by omega), a2 b (by omega), z0 b q1]
      have osg : ∀ i, i < n → ∃ j, j < n ∧ sr (kx D p d) o n i = o j := fun i hi => sr_mem (kx D p d) o n i hi
      have xl : ∀ i, i < n → M5 118 (sr (kx D p d) o n i) = -1 ∧ M5 119 (sr (kx D p d) o n i) = -1 := fun i hi => by
        obtain ⟨j, j1, j2⟩ := osg i hi
        obtain ⟨r1, r2⟩ := hini j j1
        have hj := (ho.1 j j1).1
        rw [j2, x118 _ hj, x119 _ hj, r1, r2]
        rcases hof with r | ⟨k', b', s1, s2, s3, s4⟩
        · rw [r, if_neg (fun q => nM1 (n := 2 * o j) (by omega) q.symm), if_neg (fun q => nM1 (n := 2 * o j + 1) (by omega) q.symm)]
          exact ⟨rfl, rfl⟩
        · have := s4 j j1
          rw [s3, if_neg (fun q => by have := nI_inj (by omega) (by omega) q; omega), if_neg (fun q => by have := nI_inj (by omega) (by omega) q; omega)]
          exact ⟨rfl, rfl⟩
      have knl : ∀ i, i < n / 2 → sr (kx D p d) o n i ≠ k := fun i hi => by rw [hkk]; exact hg.2 i (n / 2) (by omega) (by omega) (by omega)
      have knr : ∀ i, i < n - n / 2 - 1 → rgt (kx D p) o n d i ≠ k := fun i hi => by rw [hkk]; exact hg.2 (n / 2 + 1 + i) (n / 2) (by omega) (by omega) (by omega)
      have lnr : ∀ i j, i < n / 2 → j < n - n / 2 - 1 → rgt (kx D p) o n d j ≠ sr (kx D p d) o n i := fun i j hi hj => hg.2 (n / 2 + 1 + j) i (by omega) (by omega) (by omega)
      have hr : gr D p (rgt (kx D p) o n d) (n - n / 2 - 1) := gr_sub hg (n / 2 + 1) (n - n / 2 - 1) (by omega)
      obtain ⟨M6, e1, e2, e3, e4, e5, e6, e7, e8, e9⟩ := ih (rgt (kx D p) o n d) (n - n / 2 - 1) (d + 1) (f + n / 2 + 1) (w + 1) (nI (2 * k + 1)) M5 fu' (by omega) (hM_fr hM0 (xout 114 (by omega) (by omega))) hr (fun i hi => by
        rw [x121, show f + n / 2 + 1 + i = f + (n / 2 + 1 + i) by omega, a3 _ (by omega)]
        rfl) (by omega) (by omega) (by omega) d4 d5 (by rw [d6, show f + n / 2 + 1 + (n - n / 2 - 1) = f + n by omega]) d7 d8 (Or.inr ⟨k, 1, hk24, by omega, rfl, knr⟩) (fun i hi => xl (n / 2 + 1 + i) (by omega)) (by omega)
      have w118 : ∀ g, g < 24 → (∀ i, i < n - n / 2 - 1 → rgt (kx D p) o n d i ≠ g) → M6 118 g = M5 118 g := fun g hg2 hn2 => by
        rw [(e5 g hg2 hn2).1, if_neg (fun q => by have := nI_inj (by omega) (by omega) q.1; omega)]
      have w119 : ∀ g, g < 24 → g ≠ k → (∀ i, i < n - n / 2 - 1 → rgt (kx D p) o n d i ≠ g) → M6 119 g = M5 119 g := fun g hg2 hgk hn2 => by
        rw [(e5 g hg2 hn2).2.1, if_neg (fun q => hgk (by have := nI_inj (by omega) (by omega) q.1; omega))]
      have w121 : ∀ j, j < f + n / 2 + 1 ∨ f + n ≤ j → M6 121 j = M1 121 j := fun j hj => by rw [e7 j (by omega), x121]
      have lst : ∀ c, 122 ≤ c → c ≤ 125 → M6 c w = M4 c w := fun c q1 q2 => by rw [e3 c q1 q2 w (by omega), d9 c q1 q2 w (by omega)]
      obtain ⟨M7, g1, g2, g3, g4, g5, g6, g7, g8, g9⟩ := ih (sr (kx D p d) o n) (n / 2) (d + 1) f w (nI (2 * k)) M6 (fu' - (2 * (n - n / 2 - 1) + 1)) (by omega) (hM_fr hM0 (by rw [e8 114 (by omega) (by omega), xout 114 (by omega) (by omega)])) (gr_l hg (n / 2) (by omega)) (fun i hi => by rw [w121 _ (by omega), a3 i (by omega)]) (by omega) (by omega) (by omega) e2 (by rw [lst 122 (by omega) (by omega), c5]) (by rw [lst 123 (by omega) (by omega), c6]) (by rw [lst 124 (by omega) (by omega), c7]) (by rw [lst 125 (by omega) (by omega), c8]) (Or.inr ⟨k, 0, hk24, by omega, rfl, knl⟩) (fun i hi => by
        have hl := (hg.1 i (by omega)).1
        have hnr : ∀ j, j < n - n / 2 - 1 → rgt (kx D p) o n d j ≠ sr (kx D p d) o n i := fun j hj => lnr i j hi hj
        rw [w118 _ hl hnr, w119 _ hl (knl i hi) hnr]
        exact xl i (by omega)) (by omega)
      refine ⟨M7, ?_, g2, fun c q1 q2 j hj => ?_, ?_, fun g hg2 hgn => ?_, ?_, fun j hj => ?_, fun b q1 q2 => ?_, fun t t1 t2 => ?_⟩
      · rw [step2, e1, g1]
        congr 1
        omega
      · have hM3c : M3 c j = M c j := by rw [b2 c (by omega) (by omega) (by omega), m2 c (by omega), a2 c (by omega), z0 c (by omega)]
        rw [g3 c q1 q2 j hj, e3 c q1 q2 j (by omega), d9 c q1 q2 j (by omega), c9 c q1 q2 j (by omega), hM3c]
      · obtain ⟨m, rfl⟩ : ∃ m, n = m + 1 := ⟨n - 1, by omega⟩
        obtain ⟨r1, r2, r3⟩ := g5 k hk24 knl
        obtain ⟨s1, s2, s3⟩ := e5 k hk24 knr
        have hx := xl ((m + 1) / 2) (by omega)
        rw [← hkk] at hx
        refine Or.inr ⟨?_, ?_, ?_, ?_, ?_⟩
        · rw [← hkk, r1]
          by_cases c : 0 < (m + 1) / 2
          · rw [if_pos ⟨rfl, c⟩]
          · rw [if_neg (fun q => c q.2), w118 k hk24 knr, hx.1]
            unfold rt
            rw [if_pos (by omega)]
        · rw [← hkk, r2, if_neg (fun q => by have := nI_inj (by omega) (by omega) q.1; omega), s2]
          by_cases c : 0 < m + 1 - (m + 1) / 2 - 1
          · rw [if_pos ⟨rfl, c⟩]
          · rw [if_neg (fun q => c q.2), hx.2]
            unfold rt
            rw [if_pos (by omega)]
        · rw [← hkk, r3, s3, x120, if_pos rfl]
        · exact isT_up _ _ _ _ _ _ _ _ _ g4 (Nat.le_refl _) (by omega)
        · refine isT_up _ _ _ _ _ _ _ _ _ (isT_fr _ _ _ _ (fun i hi => ?_) e4) (Nat.le_refl _) (by omega)
          have hgi : rgt (kx D p) o (m + 1) d i < 24 := (hr.1 i hi).1
          obtain ⟨u1, u2, u3⟩ := g5 (rgt (kx D p) o (m + 1) d i) hgi (fun j hj q => lnr j i hj hi q.symm)
          refine ⟨?_, ?_, u3⟩
          · rw [u1, if_neg (fun q => knr i hi (by have := nI_inj (by omega) (by omega) q.1; omega))]
          · rw [u2, if_neg (fun q => by have := nI_inj (by omega) (by omega) q.1; omega)]
      · have k1 : g ≠ k := fun e => by
          obtain ⟨j, j1, j2⟩ := sr_mem (kx D p d) o n (n / 2) (by omega)
          exact hgn j j1 (by rw [← j2, ← hkk, e])
        have k2 : ∀ i, i < n / 2 → sr (kx D p d) o n i ≠ g := fun i hi e => by
          obtain ⟨j, j1, j2⟩ := sr_mem (kx D p d) o n i (by omega)
          exact hgn j j1 (by rw [← j2, e])
        have k3 : ∀ i, i < n - n / 2 - 1 → rgt (kx D p) o n d i ≠ g := fun i hi e => by
          obtain ⟨j, j1, j2⟩ := sr_mem (kx D p d) o n (n / 2 + 1 + i) (by omega)
          exact hgn j j1 (by rw [← j2]; exact e)
        obtain ⟨u1, u2, u3⟩ := g5 g hg2 k2
        obtain ⟨v1, v2, v3⟩ := e5 g hg2 k3
        refine ⟨?_, ?_, ?_⟩
        · rw [u1, if_neg (fun q => k1 (by have := nI_inj (by omega) (by omega) q.1; omega)), w118 g hg2 k3, x118 g hg2, ert]
          by_cases c : of = nI (2 * g)
          · rw [if_pos c, if_pos ⟨c, by omega⟩]
          · rw [if_neg c, if_neg (fun q => c q.1)]
        · rw [u2, if_neg (fun q => by have := nI_inj (by omega) (by omega) q.1; omega), w119 g hg2 k1 k3, x119 g hg2, ert]
          by_cases c : of = nI (2 * g + 1)
          · rw [if_pos c, if_pos ⟨c, by omega⟩]
          · rw [if_neg c, if_neg (fun q => c q.1)]
        · rw [u3, v3, x120, if_neg k1]
      · rw [g6, if_neg (fun q => nM1 (n := 2 * k) (by omega) q.1), e6, if_neg (fun q => nM1 (n := 2 * k + 1) (by omega) q.1), x113 6 (by omega), b4, m2 113 (by omega), a2 113 (by omega), z1 6 (by omega), ert]
        by_cases c : of = -1
        · rw [if_pos c, if_pos ⟨c, by omega⟩]
        · rw [if_neg c, if_neg (fun q => c q.1)]
      · rw [g7 j (by omega), w121 j (by omega), a4 j hj, z0 121 (by omega)]
      · rw [g8 b q1 q2, e8 b q1 q2, xout b q1 q2]
      · rw [g9 t t1 t2, e9 t t1 t2, x113 t t2, b3 t t1, m2 113 (by omega), a2 113 (by omega), z1 t t2]
theorem f150_d {M : jm_MM} (h : hM M 0 D) (hk : hok D) {p : Nat} (hp : p < 6) :
    ∃ M', f150 M (nI p) = some M' ∧ (∀ b, b ≠ 113 → b < 118 ∨ 125 < b → M' b = M b) ∧ (∀ t, t ≠ 6 → t ≠ 11 → M' 113 t = M 113 t) ∧ M' 113 6 = rt (kx D p) (eo D p) (ec D p) 0 ∧ isTr D p (M' 118) (M' 119) (M' 120) := by
  have hec := ec_le D p
  unfold f150
  have hx := lpI (fun n (a : jm_MM × Int32) u => f150_4 (fun Me11 ve12 ve13 => jm_bd (f149 (jm_up (jm_up Me11 113 6 (-1)) 113 11 0) 0 ve13 0 (-1)) (fun q14 => f150_77 (fun Me34 => some Me34) jm_F q14 ve12)) n a.1 (nI p) a.2 u) (fun a => jm_bd (f149 (jm_up (jm_up a.1 113 6 (-1)) 113 11 0) 0 a.2 0 (-1)) (fun q14 => f150_77 (fun Me34 => some Me34) jm_F q14 (nI p)))
    (fun i a => a.2 = nI (fb_ct (di D p) i) ∧ (∀ b, b < 118 ∨ 121 < b → a.1 b = M b) ∧ (∀ g, g < i → a.1 118 g = -1 ∧ a.1 119 g = -1 ∧ a.1 120 g = -1) ∧ ∀ j, j < fb_ct (di D p) i → a.1 121 j = nI (en D p i j)) 24 (by omega) ?_ ?_ (M, 0) ?_
  · obtain ⟨⟨N, v⟩, q1, q2, q3, q4, q5⟩ := hx
    simp only at q1 q2 q3 q4 q5
    rw [q1, q2]
    obtain ⟨N0, hN0⟩ : ∃ N0, N0 = jm_up (jm_up N 113 6 (-1)) 113 11 0 := ⟨_, rfl⟩
    have y0 : ∀ b, b ≠ 113 → N0 b = N b := fun b hb => by rw [hN0, jup_ne hb, jup_ne hb]
    have y1 : ∀ t, t ≠ 6 → t ≠ 11 → N0 113 t = N 113 t := fun t t1 t2 => by rw [hN0, jup_nj t2, jup_nj t1]
    have y6 : N0 113 6 = -1 := by rw [hN0, jup_nj (by omega), jup_eq]
    have y11 : N0 113 11 = nI 0 := by rw [hN0, jup_eq, nI_0]
    rw [← hN0]
    obtain ⟨N1, c1, c2, c3, c4, c5, c6, c7, c8, c9⟩ := f149_s y11 (show 0 < 48 by omega) 0 (nI (ec D p)) 0 (-1)
    show ∃ M', jm_bd (f149 N0 0 (nI (ec D p)) 0 (-1)) _ = some M' ∧ _
    rw [c1, bd_s]
    have hin : ∀ b, b ≠ 113 → b < 118 → N1 b = M b := fun b q1 q2 => by rw [c2 b q1 (by omega), y0 b q1, q3 b (by omega)]
    have hrow : ∀ c, 118 ≤ c → c ≤ 121 → N1 c = N c := fun c r1 r2 => by rw [c2 c (by omega) (by omega), y0 c (by omega)]
    obtain ⟨M', g1, g2, g3, g4, g5, g6, g7, g8, g9⟩ := f150_77_d hk hp (fun Me34 => some Me34) 30 (eo D p) (ec D p) 0 0 0 (-1) N1 jm_F (by omega) (hM_fr h (hin 114 (by omega) (by omega))) (eo_gr D p) (fun i hi => by rw [Nat.zero_add, hrow 121 (by omega) (by omega)]; exact q5 i hi) (by omega) (by omega) (by omega) c4 (by rw [c5, nI_0]) (by rw [c6, Nat.zero_add]) (by rw [c7, nI_0]) c8 (Or.inl rfl) (fun i hi => by
      rw [hrow 118 (by omega) (by omega), hrow 119 (by omega) (by omega)]
      obtain ⟨r1, r2, -⟩ := q4 (eo D p i) ((eo_gr D p).1 i hi).1
      exact ⟨r1, r2⟩) (show 2 * ec D p + 1 ≤ 5000 by omega)
    rw [g1]
    obtain ⟨fu, hfu⟩ : ∃ fu, jm_F - (2 * ec D p + 1) = fu + 1 := ⟨5000 - (2 * ec D p + 1) - 1, by show 5000 - (2 * ec D p + 1) = _; omega⟩
    rw [hfu, f150_77, g2, show decide (nI 0 ≤ 0) = true by decide +kernel, cond_true]
    refine ⟨M', rfl, fun b b1 b2 => ?_, fun t t1 t2 => ?_, ?_, g4, fun g hg e => ?_⟩
    · rw [g8 b b1 b2, c2 b b1 (by omega), y0 b b1, q3 b (by omega)]
    · rw [g9 t t1 t2, c3 t t2, y1 t t1 t2, q3 113 (by omega)]
    · rw [g6]
      by_cases c : 0 < ec D p
      · rw [if_pos ⟨rfl, c⟩]
      · rw [if_neg (fun q => c q.2), c3 6 (by omega), y6]
        unfold rt
        rw [if_pos (by omega)]
    · obtain ⟨u1, u2, u3⟩ := g5 g hg (fun i hi e2 => by
        have := (en_in D p 24 i hi).2
        rw [show en D p 24 i = g from e2, e] at this
        cases this)
      rw [u1, u2, u3, if_neg (fun q => nM1 (n := 2 * g) (by omega) q.1.symm), if_neg (fun q => nM1 (n := 2 * g + 1) (by omega) q.1.symm), hrow 118 (by omega) (by omega), hrow 119 (by omega) (by omega), hrow 120 (by omega) (by omega)]
      exact q4 g hg
  · rintro n ⟨w, v⟩ _
    show f150_4 _ (n + 1) w (nI p) v (nI 24) = _
    rw [f150_4, c24e, cond_true]
  · rintro n i ⟨w, v⟩ hi ⟨q2, q3, q4, q5⟩
    simp only at q2 q3 q4 q5
    obtain ⟨w3, hw3⟩ : ∃ w3, w3 = jm_up (jm_up (jm_up w 118 i (-1)) 119 i (-1)) 120 i (-1) := ⟨_, rfl⟩
    have y0 : ∀ b, b < 118 ∨ 120 < b → w3 b = w b := fun b hb => by rw [hw3, jup_ne (by omega), jup_ne (by omega), jup_ne (by omega)]
    have y1 : ∀ g, g < i + 1 → w3 118 g = -1 ∧ w3 119 g = -1 ∧ w3 120 g = -1 := fun g hg => by
      rw [hw3, jup_ne (show (118 : Nat) ≠ 120 by omega), jup_ne (show (118 : Nat) ≠ 119 by omega), jup_ne (show (119 : Nat) ≠ 120 by omega)]
      by_cases c : g = i
      · subst c
        rw [jup_eq, jup_eq, jup_eq]
        exact ⟨rfl, rfl, rfl⟩
      · obtain ⟨r1, r2, r3⟩ := q4 g (by omega)
        rw [jup_nj c, jup_nj c, jup_nj c, jup_ne (show (119 : Nat) ≠ 118 by omega), jup_ne (show (120 : Nat) ≠ 119 by omega), jup_ne (show (120 : Nat) ≠ 118 by omega)]
        exact ⟨r1, r2, r3⟩
    have hw : hM w3 0 D := hM_fr h (by rw [y0 114 (by omega), q3 114 (by omega)])
    have hct := fb_ct_le (di D p) i
    cases e : di D p i
    · refine ⟨(w3, v), ?_, ?_, fun b hb => by simp only; rw [y0 b (by omega), q3 b hb], y1, fun j hj => ?_⟩
      · show f150_4 _ (n + 1) w (nI p) v (nI i) = f150_4 _ n w3 (nI p) v (nI (i + 1))
        rw [f150_4, c24 hi, cond_false, inb24 hi, gd_t, gd_t, gd_t, cl_s (by omega), ← hw3, f102_d hw hp, bd_s, f94_s w3 _ (by omega), bd_s, bI_0, b_mkl hi, e, nI_1]
        rfl
      · rw [fb_ct_succ, e]
        exact q2
      · rw [fb_ct_succ, e] at hj
        rw [en, e, if_neg (by simp)]
        simp only
        rw [y0 121 (by omega)]
        exact q5 j (by simpa using hj)
    · refine ⟨(jm_up w3 121 (fb_ct (di D p) i) (nI i), nI (fb_ct (di D p) i + 1)), ?_, ?_, fun b hb => ?_, fun g hg => ?_, fun j hj => ?_⟩
      · show f150_4 _ (n + 1) w (nI p) v (nI i) = f150_4 _ n _ (nI p) _ (nI (i + 1))
        rw [f150_4, c24 hi, cond_false, inb24 hi, gd_t, gd_t, gd_t, cl_s (by omega), ← hw3, f102_d hw hp, bd_s, f94_s w3 _ (by omega), bd_s, bI_0, b_mkl hi, e, q2, inb24 (by omega), gd_t, cl_s (by omega), nI_1, nI_1]
        rfl
      · rw [fb_ct_succ, e]
        rfl
      · simp only
        rw [jup_ne (by omega), y0 b (by omega), q3 b hb]
      · simp only
        rw [jup_ne (by omega), jup_ne (by omega), jup_ne (by omega)]
        exact y1 g hg
      · rw [fb_ct_succ, e] at hj
        have hj : j < fb_ct (di D p) i + 1 := hj
        rw [en, e, if_pos rfl]
        show jm_up w3 121 (fb_ct (di D p) i) (nI i) 121 j = nI (if j = fb_ct (di D p) i then i else en D p i j)
        by_cases c : j = fb_ct (di D p) i
        · rw [c, jup_eq, if_pos rfl]
        · rw [jup_nj c, y0 121 (by omega), if_neg c, q5 j (by omega)]
  · exact ⟨nI_0.symm, fun _ _ => rfl, fun g hg => absurd hg (Nat.not_lt_zero g), fun j hj => absurd hj (Nat.not_lt_zero j)⟩
/-! the longest way down -/
def eN (x : Int32) : Nat := if x = -1 then 0 else x.toNatClampNeg + 1
theorem eN_s {x : Int32} (h : x = -1 ∨ ∃ e, e < 1000 ∧ x = nI e) : x + 1 = nI (eN x) := by
  unfold eN
  rcases h with h | ⟨e, h1, h2⟩
  · rw [h]
    decide +kernel
  · rw [h2, if_neg (nM1 (by omega)), cl_s (by omega), nI_1]
theorem mxb_ge {b : Nat} {f : Nat → Nat} : ∀ {n k : Nat}, k < n → f k ≤ mxb b f n
  | 0, k, h => absurd h (Nat.not_lt_zero k)
  | n + 1, k, h => by
    rw [mxb]
    by_cases c : k = n
    · subst c
      split <;> omega
    · have := mxb_ge (b := b) (f := f) (show k < n by omega)
      split <;> omega
theorem f151_d {M : jm_MM} (h : hM M 0 D) (hk : hok D) {p : Nat} (hp : p < 6) {L R E : Nat → Int32} {H : Nat} (hT : isTr D p L R E) (hH : isHt E (eo D p) (ec D p) 0 H) (hH2 : H ≤ 24) :
    ∃ M', f151 M (nI p) = some (nI H, M') ∧ (∀ b, b ≠ 113 → b < 118 ∨ 125 < b → M' b = M b) ∧ (∀ t, t ≠ 6 → t ≠ 11 → M' 113 t = M 113 t) := by
  obtain ⟨M', q1, q2, q3, q4, q5⟩ := f150_d h hk hp
  refine ⟨M', ?_, q2, q3⟩
  have eE : ∀ g, g < 24 → M' 120 g = E g := fun g hg => (isTr_same hT q5 hg).2.2
  have eC : ∀ g, g < 24 → (E g = -1 ∧ di D p g = false) ∨ ∃ e, e + 1 ≤ H ∧ E g = nI e := fun g hg => by
    cases e : di D p g
    · exact Or.inl ⟨(hT.2 g hg e).2.2, rfl⟩
    · obtain ⟨j, j1, j2⟩ := en_on D p 24 g hg e
      obtain ⟨x, x1, x2⟩ := hH.2.1 j j1
      exact Or.inr ⟨x, x2, by rw [← x1]; unfold eo; rw [j2]⟩
  have eL : ∀ g, g < 24 → eN (E g) ≤ H := fun g hg => by
    unfold eN
    rcases eC g hg with ⟨r, -⟩ | ⟨x, x1, x2⟩
    · rw [if_pos r]
      omega
    · rw [x2, if_neg (nM1 (by omega)), cl_s (by omega)]
      exact x1
  have eM : ∀ i, i ≤ 24 → mxb 0 (fun g => eN (E g)) i ≤ H := fun i hi => mxb_le (by omega) i (fun k hk => eL k (by omega))
  have eF : mxb 0 (fun g => eN (E g)) 24 = H := by
    refine Nat.le_antisymm (eM 24 (Nat.le_refl _)) ?_
    rcases hH.2.2 with r | ⟨i, hi, x, x1, x2⟩
    · omega
    · have hg := ((eo_gr D p).1 i hi).1
      have := mxb_ge (b := 0) (f := fun g => eN (E g)) hg
      have e2 : eN (E (eo D p i)) = H := by
        unfold eN
        rw [x1, if_neg (nM1 (by omega)), cl_s (by omega), x2]
      simp only [e2] at this
      exact this
  unfold f151
  rw [q1, bd_s]
  have hx := lpV (fun n a v => f151_9 (fun Me7 ve8 => some (ve8, Me7)) n M' a v) (fun i => nI (mxb 0 (fun g => eN (E g)) i)) (some (nI H, M')) 24 (by omega) (fun n => ?_) (fun n i hi => ?_)
  · exact hx
  · show f151_9 _ (n + 1) M' _ (nI 24) = _
    rw [f151_9, c24e, cond_true, eF]
  · show f151_9 _ (n + 1) M' _ (nI i) = f151_9 _ n M' _ (nI (i + 1))
    have h1 := eM i (by omega)
    have h2 := eL i hi
    rw [f151_9, c24 hi, cond_false, inb24 hi, gd_t, gd_t, cl_s (by omega), eE i hi, eN_s (by
      rcases eC i hi with ⟨r, -⟩ | ⟨x, x1, x2⟩
      · exact Or.inl r
      · exact Or.inr ⟨x, by omega, x2⟩), dle (by omega) (by omega), nI_1, mxb]
    by_cases c : mxb 0 (fun g => eN (E g)) i < eN (E i)
    · rw [if_pos c, decide_eq_false (by omega)]
      rfl
    · rw [if_neg c, decide_eq_true (by omega)]
      rfl
end
