/-! ===== what is asked of halos, on both sides ===== -/
/-- the reference's halos are laid -/
def HM (M : jm_MM) (D : hD) : Prop := hM M 0 D ∧ ∀ p, p < dn D → isHm M p (hH D p) (hN D p)
section
variable {M : jm_MM} {D : hD}
theorem f127_d (h : HM M D) (hk : hok D) {p k : Nat} (hp : p < dn D) (hh : k < hN D p) : f127 M (nI p) (nI k) = some (hH D p k) := by
  have h6 := hk.1
  have hle := hN_le D p
  unfold f127
  rw [ix24', inb_s (show 24 * p + k < 144 by omega) (by omega), gd_t, cl_s (by omega), (h.2 p hp).2 k hh]
theorem f128_d (h : HM M D) (hk : hok D) {p k : Nat} (hp : p < dn D) (hh : k < hN D p) : f128 M (nI p) (nI k) = some (gO D p k) := by
  have h6 := hk.1
  unfold f128 gO
  rw [nI_1, hM_n h.1, dlt (by omega) (by omega)]
  by_cases c : p + 1 < dn D
  · have hle := hN_le D (p + 1)
    rw [decide_eq_true c, cond_true, if_pos c]
    refine lpV (fun n (a : Int32 × Int32) v => f128_22 M (fun ve12 => some ve12) n (nI p) (nI k) a.1 a.2 v) (gsg (wD D) (hH D (p + 1)) (hH D p k)) _ (hN D (p + 1)) (by omega) (fun n => ?_) (fun n i hi => ?_)
    · show f128_22 M _ (n + 1) _ _ _ _ (nI _) = _
      rw [f128_22, nI_1, inb6 (by omega), gd_t, cl_s (by omega), (h.2 (p + 1) c).1, dle (by omega) (by omega), decide_eq_true (Nat.le_refl _), cond_true]
    · show f128_22 M _ (n + 1) _ _ _ _ (nI i) = f128_22 M _ n _ _ _ _ (nI (i + 1))
      rw [f128_22, nI_1, inb6 (by omega), gd_t, cl_s (by omega), (h.2 (p + 1) c).1, dle (by omega) (by omega), decide_eq_false (by omega), cond_false, f127_d h hk hp hh, bd_s, f127_d h hk c hi, bd_s, f119_d h.1, bd_s, dnl, gsg]
      unfold f128_70
      rw [dnl, nI_1]
      by_cases q : (gsg (wD D) (hH D (p + 1)) (hH D p k) i).2 < wD D (hH D p k &&& hH D (p + 1) i)
      · rw [if_pos q, decide_eq_true q]
        rfl
      · rw [if_neg q, decide_eq_false q]
        rfl
  · rw [decide_eq_false c, cond_false, if_neg c]
theorem f129_d (h : HM M D) (hk : hok D) {p k : Nat} (hp : p < dn D) : f129 M (nI p) (nI k) = some (cF D p k) := by
  have h6 := hk.1
  unfold f129
  cases p with
  | zero =>
    show f129_5 M _ (4999 + 1) (nI 0) (nI k) 0 0 = some 0
    rw [f129_5, show decide (nI 0 ≤ 0) = true by decide +kernel, cond_true]
  | succ q =>
    have hle := hN_le D q
    have e0 : decide (nI (q + 1) ≤ 0) = false := decide_eq_false (nI_nle (by omega) (by omega))
    refine lpV (fun n a v => f129_5 M (fun ve7 => some ve7) n (nI (q + 1)) (nI k) a v) (mkN (gP D q k)) _ (hN D q) (by omega) (fun n => ?_) (fun n i hi => ?_)
    · show f129_5 M _ (n + 1) _ _ _ (nI _) = _
      rw [f129_5, e0, cond_false, nI_p1, inb6 (by omega), gd_t, cl_s (by omega), (h.2 q (by omega)).1, dle (by omega) (by omega), decide_eq_true (Nat.le_refl _), cond_true]
      rfl
    · show f129_5 M _ (n + 1) _ _ _ (nI i) = f129_5 M _ n _ _ _ (nI (i + 1))
      rw [f129_5, e0, cond_false, nI_p1, inb6 (by omega), gd_t, cl_s (by omega), (h.2 q (by omega)).1, dle (by omega) (by omega), decide_eq_false (by omega), cond_false, f128_d h hk (by omega) hi, bd_s, or_z, nI_1, mkN_s]
      unfold gP
      cases decide (gO D q i = nI k) <;> rfl
theorem f130_d (h : HM M D) (hk : hok D) {p k : Nat} (hp : p < dn D) : f130 M (nI p) (nI k) = some (mN D p k) := by
  unfold f130
  rw [f129_d h hk hp, bd_s]
  rcases mN_cases D p k with ⟨h1, h2, -⟩ | ⟨q, j, h1, h2, h3, -, h4, h5⟩
  · rw [h1, h2]
    rfl
  · have hle := hN_le D q
    have hne : ¬ cF D p k = 0 := by
      intro e
      rw [e, b_0] at h4
      cases h4
    rw [decide_eq_false hne, f122_s M (show j < 24 by omega) h4 h5, h3]
    rfl
theorem f131_8_d (h : HM M D) (hk : hok D) (ke0 : Int32 → Option Int32) : ∀ (p n c k : Nat), p < dn D → p + 1 < n → k < hN D p → f131_8 M ke0 n (nI c) (nI p) (nI k) = ke0 (nI (c + bL D p k)) := by
  intro p
  induction p with
  | zero =>
    intro n c k hp hn hh
    have hle := hN_le D 0
    obtain ⟨m, rfl⟩ : ∃ m, n = m + 1 + 1 := ⟨n - 2, by omega⟩
    rw [f131_8, cM1 (by omega), cond_false, f130_d h hk hp, bd_s]
    show f131_8 M ke0 (m + 1) (nI c + 1) _ (-1) = _
    rw [f131_8, decide_eq_true rfl, cond_true, nI_1]
    rfl
  | succ q ih =>
    intro n c k hp hn hh
    have hle := hN_le D (q + 1)
    obtain ⟨m, rfl⟩ : ∃ m, n = m + 1 := ⟨n - 1, by omega⟩
    rw [f131_8, cM1 (by omega), cond_false, f130_d h hk hp, bd_s, pk_m1, nI_1]
    rcases mN_cases D (q + 1) k with ⟨h1, -, h3⟩ | ⟨q', j, h1, h2, h3, h4, -⟩
    · obtain ⟨m', rfl⟩ : ∃ m', m = m' + 1 := ⟨m - 1, by omega⟩
      rw [h1, f131_8, decide_eq_true rfl, cond_true, h3]
    · have e : q' = q := by omega
      subst e
      rw [h3, ih m (c + 1) j (by omega) (by omega) h2, h4]
      congr 2
      omega
theorem f131_d (h : HM M D) (hk : hok D) {p k : Nat} (hp : p < dn D) (hh : k < hN D p) : f131 M (nI p) (nI k) = some (nI (bL D p k)) := by
  have h6 := hk.1
  unfold f131
  have := f131_8_d h hk (fun ve4 => some ve4) p jm_F 0 k hp (show p + 1 < 5000 by omega) hh
  rw [Nat.zero_add, nI_0] at this
  exact this
/-- the k-th of a branch -/
def bB (D : hD) : Nat → Nat → Nat → Int32
  | 0, _, h => nI h
  | k + 1, p, h => if mN D p h = -1 then -1 else bB D k (p - 1) (mN D p h).toNatClampNeg
theorem bB_none (D : hD) : ∀ k p h, bL D p h ≤ k → bB D k p h = -1
  | 0, p, h, hk => by
    exfalso
    rcases mN_cases D p h with ⟨-, -, h3⟩ | ⟨q, j, -, -, -, h4, -⟩ <;> omega
  | k + 1, p, h, hk => by
    rw [bB]
    rcases mN_cases D p h with ⟨h1, -, -⟩ | ⟨q, j, h1, h2, h3, h4, -⟩
    · rw [if_pos h1]
    · have hle := hN_le D q
      rw [h3, if_neg (nM1 (by omega)), cl_s (by omega), h1]
      exact bB_none D k q j (by omega)
theorem f145_25_d (h : HM M D) (hk : hok D) (ke0 : jm_MM → Int32 → Option (Int32 × jm_MM)) (p0 : Nat) (hp0 : p0 < dn D) : ∀ (p n b k g : Nat), p + b = p0 → p + 2 < n → g < hN D p → b + k < 2 ^ 31 → f145_25 ke0 n M (nI p0) (nI (b + k)) (nI g) (nI b) = ke0 M (bB D k p g) := by
  have h6 := hk.1
  intro p
  induction p with
  | zero =>
    intro n b k g hb hn hg hk2
    have hle := hN_le D 0
    obtain ⟨m, rfl⟩ : ∃ m, n = m + 1 + 1 := ⟨n - 2, by omega⟩
    rw [f145_25, dle (by omega) (by omega)]
    cases k with
    | zero =>
      rw [decide_eq_true (by omega), cond_true]
      rfl
    | succ k =>
      rw [decide_eq_false (by omega), cond_false, cM1 (by omega), cond_false, pk_sub (by omega), show p0 - b = 0 by omega, f130_d h hk (by omega), bd_s, bB]
      show f145_25 ke0 (m + 1) M (nI p0) _ (-1) _ = ke0 M (if (-1 : Int32) = -1 then -1 else _)
      rw [f145_25, decide_eq_true (rfl : (-1 : Int32) = -1), if_pos rfl]
      cases decide (nI (b + (k + 1)) ≤ nI b + 1) <;> rfl
  | succ q ih =>
    intro n b k g hb hn hg hk2
    have hle := hN_le D (q + 1)
    obtain ⟨m, rfl⟩ : ∃ m, n = m + 1 + 1 := ⟨n - 2, by omega⟩
    rw [f145_25, dle (by omega) (by omega)]
    cases k with
    | zero =>
      rw [decide_eq_true (by omega), cond_true]
      rfl
    | succ k =>
      rw [decide_eq_false (by omega), cond_false, cM1 (by omega), cond_false, pk_sub (by omega), show p0 - b = q + 1 by omega, f130_d h hk (by omega), bd_s, bB, nI_1]
      rcases mN_cases D (q + 1) g with ⟨h1, -, -⟩ | ⟨q', j, h1, h2, h3, -⟩
      · rw [h1, f145_25, decide_eq_true (rfl : (-1 : Int32) = -1), if_pos rfl]
        cases decide (nI (b + (k + 1)) ≤ nI (b + 1)) <;> rfl
      · have e : q' = q := by omega
        subst e
        have hle2 := hN_le D q'
        rw [h3, if_neg (nM1 (by omega)), cl_s (by omega), show b + (k + 1) = b + 1 + k by omega, ih (m + 1) (b + 1) k j (by omega) (by omega) h2 (by omega)]
        rfl
theorem f23_23_d (hs : Sv M D) (hk : hok D) (ke0 : Int32 → Option Int32) (p0 : Nat) (hp0 : p0 < dn D) : ∀ (p n b k g : Nat), p + b = p0 → p + 2 < n → g < hN D p → k < bL D p g → f23_23 M ke0 n (nI p0) (nI (b + k)) (nI g) (nI b) = ke0 (bB D k p g) := by
  have h6 := hk.1
  intro p
  induction p with
  | zero =>
    intro n b k g hb hn hg hk2
    have hle := hN_le D 0
    obtain ⟨m, rfl⟩ : ∃ m, n = m + 1 + 1 := ⟨n - 2, by omega⟩
    have e : k = 0 := by
      have : bL D 0 g = 1 := rfl
      omega
    subst e
    rw [f23_23, dle (by omega) (by omega), decide_eq_true (by omega), cond_true]
    rfl
  | succ q ih =>
    intro n b k g hb hn hg hk2
    have hle := hN_le D (q + 1)
    have hbl := bL_le D (q + 1) g
    obtain ⟨m, rfl⟩ : ∃ m, n = m + 1 + 1 := ⟨n - 2, by omega⟩
    rw [f23_23, dle (by omega) (by omega)]
    cases k with
    | zero =>
      rw [decide_eq_true (by omega), cond_true]
      rfl
    | succ k =>
      rcases mN_cases D (q + 1) g with ⟨-, -, h1⟩ | ⟨q', j, h1, h2, h3, h4, -⟩
      · omega
      · have e : q' = q := by omega
        subst e
        have hle2 := hN_le D q'
        rw [decide_eq_false (by omega), cond_false, dle (by omega) (by omega), decide_eq_false (by omega), cond_false, cM1 (by omega), cond_false, pk_sub (by omega), show p0 - b = q' + 1 by omega, inb6 (by omega), gd_t, inb24 (by omega), gd_t, cl_s (by omega), cl_s (by omega), ((hs.2 (q' + 1) (by omega)).2.2 g (by omega)).2.1, h3, nI_1, bB, h3, if_neg (nM1 (by omega)), cl_s (by omega), show b + (k + 1) = b + 1 + k by omega, ih (m + 1) (b + 1) k j (by omega) (by omega) h2 (by omega)]
        rfl
theorem f23_d (hs : Sv M D) (hk : hok D) {p g k : Nat} (hp : p < dn D) (hg : g < hN D p) (hk2 : k < 2 ^ 31) : f23 M (nI p) (nI g) (nI k) = some (bB D k p g) := by
  have h6 := hk.1
  have hle := hN_le D p
  have hbl := bL_le D p g
  unfold f23
  rw [inb6 (by omega), gd_t, inb24 (by omega), gd_t, cl_s (by omega), cl_s (by omega), ((hs.2 p hp).2.2 g (by omega)).2.2, dlt hk2 (by omega)]
  by_cases c : k < bL D p g
  · rw [decide_eq_true c, cond_true]
    have := f23_23_d hs hk (fun ve9 => some ve9) p hp p jm_F 0 k g (by omega) (show p + 2 < 5000 by omega) hg c
    rw [Nat.zero_add, nI_0] at this
    exact this
  · rw [decide_eq_false c, cond_false, bB_none D k p g (by omega)]
/-- the weight of the main one -/
def wM (D : hD) (p g : Nat) : Int32 := if mN D p g = -1 then 0 else wD D (hH D (p - 1) (mN D p g).toNatClampNeg)
theorem f24_d (hs : Sv M D) (hk : hok D) {p g : Nat} (hp : p < dn D) (hg : g < hN D p) : f24 M (nI p) (nI g) = some (wM D p g) := by
  have h6 := hk.1
  have hle := hN_le D p
  unfold f24 wM
  rw [inb6 (by omega), gd_t, inb24 (by omega), gd_t, cl_s (by omega), cl_s (by omega), ((hs.2 p hp).2.2 g (by omega)).2.1]
  rcases mN_cases D p g with ⟨h1, -, -⟩ | ⟨q, j, h1, h2, h3, -⟩
  · rw [if_pos h1, decide_eq_true h1, cond_true]
  · subst h1
    have hle2 := hN_le D q
    rw [h3, if_neg (nM1 (by omega)), cM1 (by omega), cond_false, cl_s (by omega)]
    have e1 : decide ((1 : Int32) ≤ nI (q + 1)) = true := by
      show decide (nI 1 ≤ nI (q + 1)) = true
      rw [dle (by omega) (by omega)]
      exact decide_eq_true (by omega)
    rw [e1, cond_true, nI_p1, inb6 (by omega), gd_t, inb24 (by omega), gd_t, cl_s (by omega), ((hs.2 q (by omega)).1.2.2 j h2).2]
    rfl
theorem zsub (x : Int32) : x - 0 = x := by
  apply Int32.toBitVec_inj.mp
  rw [Int32.toBitVec_sub]
  exact BitVec.sub_zero _
theorem f142_d (h : HM M D) (hk : hok D) {p g : Nat} (hp : p < dn D) (hg : g < hN D p) : f142 M (nI p) (nI g) = some (wD D (hH D p g) - wM D p g) := by
  have h6 := hk.1
  unfold f142 wM
  rw [f130_d h hk hp, bd_s, f127_d h hk hp hg, bd_s, f119_d h.1, bd_s]
  rcases mN_cases D p g with ⟨h1, -, -⟩ | ⟨q, j, h1, h2, h3, -⟩
  · rw [h1, if_pos rfl]
    rfl
  · subst h1
    have hle2 := hN_le D q
    rw [h3, if_neg (nM1 (by omega)), cM1 (by omega), cl_s (by omega), nI_p1, f127_d h hk (by omega) h2, bd_s, f119_d h.1, bd_s]
    rfl
/-- who strayed -/
def sT (D : hD) (p g : Nat) : Int32 := if p + 1 < dn D then wD D ((hH D p g &&& mk (di D (p + 1))) &&& ((if gO D p g = -1 then 0 else hH D (p + 1) (gO D p g).toNatClampNeg) ^^^ (-1))) else 0
theorem and_m1 (x : Int32) : x &&& (0 ^^^ (-1)) = x := b_ext fun i hi => by rw [b_and, b_not _ hi, b_0, Bool.not_false, Bool.and_true]
theorem f132_d (h : HM M D) (hk : hok D) {p g : Nat} (hp : p < dn D) (hg : g < hN D p) : f132 M (nI p) (nI g) = some (sT D p g) := by
  have h6 := hk.1
  unfold f132 sT
  rw [nI_1, hM_n h.1, dlt (by omega) (by omega)]
  by_cases c : p + 1 < dn D
  · rw [decide_eq_true c, cond_true, if_pos c, f128_d h hk hp hg, bd_s, f127_d h hk hp hg, bd_s, f102_d h.1 (by omega), bd_s]
    rcases gO_in D p g with q | ⟨j, q1, q2, q3, q4⟩
    · rw [q, if_pos rfl, and_m1]
      unfold f132_61
      rw [f119_d h.1]
      rfl
    · rw [q4, cM1 (by omega), if_neg (nM1 (by omega)), cl_s (by omega), f127_d h hk c q3, bd_s]
      unfold f132_61
      rw [f119_d h.1]
      rfl
  · rw [decide_eq_false c, cond_false, if_neg c]
theorem f91_d (hC : hC M 2 D) (hs : Sv M D) (h39 : M 39 0 = 1) (hk : hok D) {p g : Nat} (hp : p < dn D) (hg : g < hN D p) : f91 M (nI p) (nI g) = some (sT D p g, M) := by
  have h6 := hk.1
  have hle := hN_le D p
  have e22 : f22 M = some M := by
    unfold f22
    rw [h39]
    rfl
  unfold f91 sT
  rw [nI_1, hC.1, dlt (by omega) (by omega)]
  by_cases c : p + 1 < dn D
  · rw [decide_eq_true c, cond_true, if_pos c, e22, bd_s, inb6 (show p < 6 by omega), gd_t, inb24 (show g < 24 by omega), gd_t, f18_d hC hk (by omega), bd_s, gd_t, gd_t, cl_s (show p < 2 ^ 31 by omega), cl_s (show g < 2 ^ 31 by omega), (hs.2 p hp).2.1 g hg, ((hs.2 p hp).1.2.2 g hg).1]
    rcases gO_in D p g with q | ⟨j, q1, q2, q3, q4⟩
    · unfold f91_82
      rw [q, if_pos rfl, decide_eq_true (rfl : (-1 : Int32) = -1), Bool.not_true, cond_false, f20_d hC]
      rfl
    · rw [q4, cM1 (by omega), if_neg (nM1 (by omega)), cl_s (show j < 2 ^ 31 by omega), inb6 (show p + 1 < 6 by omega), inb24 q1, gd_t, gd_t, cl_s (show p + 1 < 2 ^ 31 by omega), ((hs.2 (p + 1) c).1.2.2 j q3).1]
      unfold f91_82
      rw [f20_d hC]
      rfl
  · rw [decide_eq_false c, cond_false, if_neg c]
/-! in which halo a grain is -/
def iH (D : hD) (p g : Nat) : Int32 := fst1 (fun i => bt (hH D p i) g) (hN D p)
theorem f32_d (hs : Sv M D) {p g : Nat} (hp : p < dn D) (hg : g < 24) : f32 M (45 + 10 * p) (nI g) = some (iH D p g) := by
  have hle := hN_le D p
  have hh := (hs.2 p hp).1.2
  unfold f32 iH
  refine lpX0 (fun n (_ : Unit) u => f32_2 M (45 + 10 * p) (some (-1)) (fun ve6 ve7 => some ve7) n (nI g) u) (fun r => r = some (fst1 (fun i => bt (hH D p i) g) (hN D p))) (fun i _ => ∀ m, m < i → bt (hH D p m) g = false) (hN D p) (by omega) ?_ ?_ () (fun m hm => absurd hm (Nat.not_lt_zero m))
  · intro n _ q
    show f32_2 M _ _ _ (n + 1) (nI g) (nI _) = _
    rw [f32_2, hh.1, dle (by omega) (by omega), decide_eq_true (Nat.le_refl _), cond_true]
    rcases fst1_cases (fun i => bt (hH D p i) g) (hN D p) (by omega) with ⟨h1, -⟩ | ⟨k, h1, h2, h3, -⟩
    · rw [h1]
    · have h3 : bt (hH D p k) g = true := h3
      rw [q k h1] at h3
      cases h3
  · intro n i _ hi q
    have es : f32_2 M (45 + 10 * p) (some (-1)) (fun ve6 ve7 => some ve7) (n + 1) (nI g) (nI i) = bif bt (hH D p i) g then some (nI i) else f32_2 M (45 + 10 * p) (some (-1)) (fun ve6 ve7 => some ve7) n (nI g) (nI (i + 1)) := by
      rw [f32_2, hh.1, dle (by omega) (by omega), decide_eq_false (by omega), cond_false, inb24 (by omega), gd_t, cl_s (by omega), (hh.2 i hi).1, f87_s M _ (by omega), bd_s, bI_0, nI_1]
      cases bt (hH D p i) g <;> rfl
    cases e : bt (hH D p i) g
    · right
      rw [e] at es
      refine ⟨(), es, fun m hm => ?_⟩
      by_cases c : m = i
      · rw [c]; exact e
      · exact q m (by omega)
    · left
      rw [e] at es
      refine es.trans ?_
      rcases fst1_cases (fun i => bt (hH D p i) g) (hN D p) (by omega) with ⟨h1, h2⟩ | ⟨k, h1, h2, h3, h4⟩
      · have h2 : bt (hH D p i) g = false := h2 i hi
        rw [e] at h2
        cases h2
      · have h3 : bt (hH D p k) g = true := h3
        have : k = i := by
          rcases Nat.lt_trichotomy k i with c | c | c
          · rw [q k c] at h3
            cases h3
          · exact c
          · have h4 : bt (hH D p i) g = false := h4 i c
            rw [e] at h4
            cases h4
        rw [h2, this]
        rfl
theorem hH_dis (D : hD) (p : Nat) {i j g : Nat} (hi : i < hN D p) (hj : j < hN D p) (hg : g < 24) (h1 : bt (hH D p i) g = true) (h2 : bt (hH D p j) g = true) : i = j :=
  Classical.byContradiction fun hne => hst_dis D p 24 (Nat.le_refl _) i j hi hj hne g hg ⟨h1, h2⟩
theorem f139_d (h : hM M 0 D) (hk : hok D) {p g : Nat} (hp : p < 6) (hg : g < 24) : ∃ M', f139 M (nI p) (nI g) = some (iH D p g, M') ∧ ∀ b, b ≠ 116 → b ≠ 117 → M' b = M b := by
  obtain ⟨M', q1, q2, -, -, q5⟩ := f124_d h hk hp
  have hle := hN_le D p
  refine ⟨M', ?_, q2⟩
  unfold f139 iH
  rw [q1, bd_s]
  refine lpV (fun n a v => f139_10 (fun Me10 ve11 => some (ve11, Me10)) n M' (nI p) (nI g) a v) (fst1 (fun i => bt (hH D p i) g)) _ (hN D p) (by omega) (fun n => ?_) (fun n i hi => ?_)
  · show f139_10 _ (n + 1) M' _ _ _ (nI _) = _
    rw [f139_10, inb6 hp, gd_t, cl_s (by omega), q5.1, dle (by omega) (by omega), decide_eq_true (Nat.le_refl _), cond_true]
  · show f139_10 _ (n + 1) M' _ _ _ (nI i) = f139_10 _ n M' _ _ _ (nI (i + 1))
    have e127 : f127 M' (nI p) (nI i) = some (hH D p i) := by
      unfold f127
      rw [ix24', inb_s (show 24 * p + i < 144 by omega) (by omega), gd_t, cl_s (by omega), q5.2 i hi]
    rw [f139_10, inb6 hp, gd_t, cl_s (by omega), q5.1, dle (by omega) (by omega), decide_eq_false (by omega), cond_false, e127, bd_s, f94_s M' _ (by omega), bd_s, bI_0, nI_1, fst1]
    cases e : bt (hH D p i) g
    · have : (if fst1 (fun i => bt (hH D p i) g) i = -1 then (if false = true then nI i else -1) else fst1 (fun i => bt (hH D p i) g) i) = fst1 (fun i => bt (hH D p i) g) i := by
        split
        · rename_i q
          rw [q]
          rfl
        · rfl
      rw [this]
      rfl
    · rcases fst1_cases (fun i => bt (hH D p i) g) i (by omega) with ⟨h1, -⟩ | ⟨k, h1, -, h3, -⟩
      · rw [h1, if_pos rfl]
        rfl
      · have := hH_dis D p (show k < hN D p by omega) hi hg h3 e
        omega
end
