/-! ===== sums over all halos ===== -/
def mxb (b : Nat) (f : Nat → Nat) : Nat → Nat
  | 0 => b
  | n + 1 => if mxb b f n < f n then f n else mxb b f n
theorem mxb_le {b c : Nat} {f : Nat → Nat} (hb : b ≤ c) : ∀ n, (∀ k, k < n → f k ≤ c) → mxb b f n ≤ c
  | 0, _ => hb
  | n + 1, h => by
    have := mxb_le hb n (fun k hk => h k (by omega))
    have := h n (by omega)
    rw [mxb]
    split <;> omega
def mxo (f : Nat → Nat → Nat) (c : Nat → Nat) : Nat → Nat
  | 0 => 0
  | p + 1 => mxb (mxo f c p) (f p) (c p)
theorem mxo_le {f : Nat → Nat → Nat} {c : Nat → Nat} {b : Nat} : ∀ n, (∀ p k, p < n → f p k ≤ b) → mxo f c n ≤ b
  | 0, _ => Nat.zero_le _
  | n + 1, h => mxb_le (mxo_le n (fun p k hp => h p k (by omega))) _ (fun k _ => h n k (by omega))
/-- the inner loop's shape, twice -/
theorem lpV2 {α β : Type} (F : Nat → α → Int32 → Option β) (s : Nat → α) (R : Option β) (N : Nat) (hN : N < 5000) (i : Nat) (hi : i ≤ N)
    (hend : ∀ n, F (n + 1) (s N) (nI N) = R)
    (hstep : ∀ n j, i ≤ j → j < N → F (n + 1) (s j) (nI j) = F n (s (j + 1)) (nI (j + 1))) : F jm_F (s i) (nI i) = R := by
  obtain ⟨a', h1, h2⟩ := lpI1 F (fun _ => R) (fun j a => a = s j) N i hi hN (fun n a h => by rw [h]; exact hend n) (fun n j a hj1 hj h => ⟨s (j + 1), by rw [h]; exact hstep n j hj1 hj, rfl⟩) (s i) rfl
  exact h1
section
variable {M : jm_MM} {D : hD}
theorem f25_d (hs : Sv M D) (hk : hok D) : f25 M = some (nI (fb_sm (hN D) (dn D))) := by
  have h6 := hk.1
  unfold f25
  refine lpV (fun n a v => f25_4 M (fun ve3 => some ve3) n a v) (fun i => nI (fb_sm (hN D) i)) _ (dn D) (by omega) (fun n => ?_) (fun n i hi => ?_)
  · show f25_4 M _ (n + 1) _ (nI _) = _
    rw [f25_4, hs.1, dle (by omega) (by omega), decide_eq_true (Nat.le_refl _), cond_true]
  · show f25_4 M _ (n + 1) _ (nI i) = f25_4 M _ n _ (nI (i + 1))
    rw [f25_4, hs.1, dle (by omega) (by omega), decide_eq_false (by omega), cond_false, inb6 (by omega), gd_t, cl_s (by omega), (hs.2 i hi).1.2.1, nI_add, nI_1, fb_sm_succ]
def endC (D : hD) (p h : Nat) : Bool := decide (gO D p h = -1)
def begC (D : hD) (p h : Nat) : Bool := decide (cF D p h = 0)
theorem f26_d (hs : Sv M D) (hk : hok D) : f26 M = some (nI (fb_sm (fun p => fb_ct (endC D p) (hN D p)) (dn D - 1))) := by
  have h6 := hk.1
  unfold f26
  by_cases c : dn D = 0
  · show f26_4 M _ (4999 + 1) 0 0 = _
    rw [f26_4, hs.1, c, show decide (nI 0 - 1 ≤ 0) = true by decide +kernel, cond_true]
    rfl
  · have e1 : nI (dn D) - 1 = nI (dn D - 1) := by
      obtain ⟨m, hm⟩ : ∃ m, dn D = m + 1 := ⟨dn D - 1, by omega⟩
      rw [hm, nI_p1]
      rfl
    refine lpV (fun n a v => f26_4 M (fun ve9 => some ve9) n a v) (fun i => nI (fb_sm (fun p => fb_ct (endC D p) (hN D p)) i)) _ (dn D - 1) (by omega) (fun n => ?_) (fun n i hi => ?_)
    · show f26_4 M _ (n + 1) _ (nI _) = _
      rw [f26_4, hs.1, e1, dle (by omega) (by omega), decide_eq_true (Nat.le_refl _), cond_true]
    · show f26_4 M _ (n + 1) _ (nI i) = f26_4 M _ n _ (nI (i + 1))
      have hle := hN_le D i
      obtain ⟨q1, q2, q3⟩ := hs.2 i (by omega)
      rw [f26_4, hs.1, e1, dle (by omega) (by omega), decide_eq_false (by omega), cond_false]
      refine lpV (fun m a v => f26_16 M (fun ve7 ve8 => f26_4 M (fun ve9 => some ve9) n ve7 (ve8 + 1)) m a (nI i) v) (fun j => nI (fb_sm (fun p => fb_ct (endC D p) (hN D p)) i + fb_ct (endC D i) j)) _ (hN D i) (by omega) (fun m => ?_) (fun m j hj => ?_)
      · show f26_16 M _ (m + 1) _ (nI i) (nI _) = _
        rw [f26_16, inb6 (by omega), gd_t, cl_s (by omega), q1.2.1, dle (by omega) (by omega), decide_eq_true (Nat.le_refl _), cond_true, nI_1, fb_sm_succ]
      · show f26_16 M _ (m + 1) _ (nI i) (nI j) = f26_16 M _ m _ (nI i) (nI (j + 1))
        rw [f26_16, inb6 (by omega), gd_t, cl_s (by omega), q1.2.1, dle (by omega) (by omega), decide_eq_false (by omega), cond_false, gd_t, inb24 (by omega), gd_t, cl_s (by omega), q2 j hj, nI_1, nI_1, zadd, fb_ct_succ]
        unfold endC
        cases decide (gO D i j = -1) <;> rfl
theorem f27_d (hs : Sv M D) (hk : hok D) : f27 M = some (nI (fb_sm (fun p => if 0 < p then fb_ct (begC D p) (hN D p) else 0) (dn D))) := by
  have h6 := hk.1
  unfold f27
  have hx := lpV2 (fun n a v => f27_4 M (fun ve9 => some ve9) n a v) (fun i => nI (fb_sm (fun p => if 0 < p then fb_ct (begC D p) (hN D p) else 0) i)) (some (nI (fb_sm (fun p => if 0 < p then fb_ct (begC D p) (hN D p) else 0) (dn D)))) (max 1 (dn D)) (by omega) 1 (by omega) (fun n => ?_) (fun n i hi1 hi => ?_)
  · exact hx
  · show f27_4 M _ (n + 1) _ (nI _) = _
    rw [f27_4, hs.1, dle (by omega) (by omega), decide_eq_true (by omega), cond_true]
    rcases Nat.eq_zero_or_pos (dn D) with c | c
    · rw [c]
      rfl
    · rw [show max 1 (dn D) = dn D by omega]
  · show f27_4 M _ (n + 1) _ (nI i) = f27_4 M _ n _ (nI (i + 1))
    have hid : i < dn D := by omega
    have hle := hN_le D i
    obtain ⟨q1, q2, q3⟩ := hs.2 i hid
    rw [f27_4, hs.1, dle (by omega) (by omega), decide_eq_false (by omega), cond_false]
    refine lpV (fun m a v => f27_14 M (fun ve7 ve8 => f27_4 M (fun ve9 => some ve9) n ve7 (ve8 + 1)) m a (nI i) v) (fun j => nI (fb_sm (fun p => if 0 < p then fb_ct (begC D p) (hN D p) else 0) i + fb_ct (begC D i) j)) _ (hN D i) (by omega) (fun m => ?_) (fun m j hj => ?_)
    · show f27_14 M _ (m + 1) _ (nI i) (nI _) = _
      rw [f27_14, inb6 (by omega), gd_t, cl_s (by omega), q1.2.1, dle (by omega) (by omega), decide_eq_true (Nat.le_refl _), cond_true, nI_1, fb_sm_succ, if_pos (by omega)]
    · show f27_14 M _ (m + 1) _ (nI i) (nI j) = f27_14 M _ m _ (nI i) (nI (j + 1))
      rw [f27_14, inb6 (by omega), gd_t, cl_s (by omega), q1.2.1, dle (by omega) (by omega), decide_eq_false (by omega), cond_false, gd_t, inb24 (by omega), gd_t, cl_s (by omega), (q3 j (by omega)).1, nI_1, nI_1, zadd, fb_ct_succ]
      unfold begC
      cases decide (cF D i j = 0) <;> rfl
theorem f28_d (hs : Sv M D) (hk : hok D) : f28 M = some (nI (mxo (bL D) (hN D) (dn D))) := by
  have h6 := hk.1
  unfold f28
  refine lpV (fun n a v => f28_4 M (fun ve8 => some ve8) n a v) (fun i => nI (mxo (bL D) (hN D) i)) _ (dn D) (by omega) (fun n => ?_) (fun n i hi => ?_)
  · show f28_4 M _ (n + 1) _ (nI _) = _
    rw [f28_4, hs.1, dle (by omega) (by omega), decide_eq_true (Nat.le_refl _), cond_true]
  · show f28_4 M _ (n + 1) _ (nI i) = f28_4 M _ n _ (nI (i + 1))
    have hle := hN_le D i
    have hm : mxo (bL D) (hN D) i ≤ 7 := mxo_le i (fun p k hp => Nat.le_trans (bL_le D p k) (by omega))
    obtain ⟨q1, q2, q3⟩ := hs.2 i hi
    rw [f28_4, hs.1, dle (by omega) (by omega), decide_eq_false (by omega), cond_false]
    refine lpV (fun m a v => f28_14 M (fun ve6 ve7 => f28_4 M (fun ve8 => some ve8) n ve6 (ve7 + 1)) m a (nI i) v) (fun j => nI (mxb (mxo (bL D) (hN D) i) (bL D i) j)) _ (hN D i) (by omega) (fun m => ?_) (fun m j hj => ?_)
    · show f28_14 M _ (m + 1) _ (nI i) (nI _) = _
      rw [f28_14, inb6 (by omega), gd_t, cl_s (by omega), q1.2.1, dle (by omega) (by omega), decide_eq_true (Nat.le_refl _), cond_true, nI_1]
      rfl
    · show f28_14 M _ (m + 1) _ (nI i) (nI j) = f28_14 M _ m _ (nI i) (nI (j + 1))
      have hb : mxb (mxo (bL D) (hN D) i) (bL D i) j ≤ 7 := mxb_le hm j (fun k _ => Nat.le_trans (bL_le D i k) (by omega))
      have hbl := bL_le D i j
      rw [f28_14, inb6 (by omega), gd_t, cl_s (by omega), q1.2.1, dle (by omega) (by omega), decide_eq_false (by omega), cond_false, gd_t, inb24 (by omega), gd_t, cl_s (by omega), (q3 j (by omega)).2.2, nI_1, mxb]
      congr 1
      by_cases c : mxb (mxo (bL D) (hN D) i) (bL D i) j < bL D i j
      · rw [if_pos c, if_pos ((nI_ltI (by omega) (by omega)).mpr c)]
      · rw [if_neg c, if_neg (fun q => c ((nI_ltI (by omega) (by omega)).mp q))]
def cW (D : hD) (t p h : Nat) : Bool := decide (t = 3) || (decide (t = 4) && decide (p + 1 < dn D) && endC D p h) || (decide (t = 5) && decide (0 < p) && begC D p h)
def mW (D : hD) (t p h : Nat) : Nat := if t = 6 then bL D p h else 0
theorem f133_25_s (h : HM M D) (hk : hok D) (ke0 : jm_MM → Int32 → Int32 → Int32 → Int32 → Option (Int32 × jm_MM)) {t p k a b : Nat} (ht : t = 3 ∨ t = 4 ∨ t = 5 ∨ t = 6) (hp : p < dn D) (hh : k < hN D p) (hb : b < 100) (n : Nat) :
    f133_25 ke0 (n + 1) M (nI t) (nI a) (nI b) (nI p) (nI k) = f133_25 ke0 n M (nI t) (nI (a + if cW D t p k then 1 else 0)) (nI (if b < mW D t p k then mW D t p k else b)) (nI p) (nI (k + 1)) := by
  have h6 := hk.1
  have hle := hN_le D p
  have hbl := bL_le D p k
  have z0 : decide ((0 : Int32) ≤ nI b) = true := decide_eq_true (nI_pos' (by omega))
  have zp : decide (nI p ≤ (0 : Int32)) = !decide (0 < p) := by
    show decide (nI p ≤ nI 0) = _
    rw [dle (by omega) (by omega)]
    by_cases c : 0 < p
    · rw [decide_eq_true c, decide_eq_false (by omega)]
      rfl
    · rw [decide_eq_false c, decide_eq_true (by omega)]
      rfl
  rw [f133_25, inb6 (by omega), gd_t, cl_s (by omega), (h.2 p hp).1, dle (by omega) (by omega), decide_eq_false (by omega), cond_false, nI_1, hM_n h.1, dle (by omega) (by omega), f128_d h hk hp hh, bd_s]
  unfold f133_94 f133_73 f133_94 f133_98 f133_99 f133_119
  rw [f129_d h hk hp, bd_s, zp, z0, nI_1, nI_1, zadd, f131_d h hk hp hh]
  rcases ht with rfl | rfl | rfl | rfl
  · rfl
  · rw [show cW D 4 p k = (decide (p + 1 < dn D) && endC D p k) by unfold cW; simp]
    unfold endC
    by_cases c : p + 1 < dn D
    · rw [decide_eq_true c, decide_eq_false (show ¬ dn D ≤ p + 1 by omega)]
      cases decide (gO D p k = -1) <;> rfl
    · rw [decide_eq_false c, decide_eq_true (show dn D ≤ p + 1 by omega)]
      rfl
  · rw [show cW D 5 p k = (decide (0 < p) && begC D p k) by unfold cW; simp]
    unfold begC
    cases decide (0 < p)
    · rfl
    · cases decide (cF D p k = 0) <;> rfl
  · show (bif decide (nI (bL D p k) ≤ nI b) then _ else _) = _
    rw [dle (by omega) (by omega)]
    unfold mW
    rw [if_pos rfl]
    by_cases c : b < bL D p k
    · rw [if_pos c, decide_eq_false (by omega)]
      rfl
    · rw [if_neg c, decide_eq_true (by omega)]
      rfl
theorem f133_d (h : hM M 0 D) (hk : hok D) {t : Nat} (ht : t = 3 ∨ t = 4 ∨ t = 5 ∨ t = 6) :
    ∃ M', f133 M (nI t) = some (if t = 6 then nI (mxo (mW D t) (hN D) (dn D)) else nI (fb_sm (fun p => fb_ct (cW D t p) (hN D p)) (dn D)), M') ∧ ∀ b, b ≠ 116 → b ≠ 117 → M' b = M b := by
  have h6 := hk.1
  obtain ⟨M1, q1, q2, q3⟩ := f125_d h hk
  have hH : HM M1 D := ⟨hM_fr h (q2 114 (by omega) (by omega)), q3⟩
  refine ⟨M1, ?_, q2⟩
  unfold f133
  rw [q1, bd_s]
  refine lpV (fun n (a : Int32 × Int32) v => f133_11 (fun Me26 ve27 ve28 ve29 => bif !decide (ve27 = 6) then (some (ve28, Me26)) else (some (ve29, Me26))) n M1 (nI t) a.1 a.2 v) (fun i => (nI (fb_sm (fun p => fb_ct (cW D t p) (hN D p)) i), nI (mxo (mW D t) (hN D) i))) _ (dn D) (by omega) (fun n => ?_) (fun n i hi => ?_)
  · show f133_11 _ (n + 1) M1 (nI t) _ _ (nI _) = _
    rw [f133_11, hM_n hH.1, dle (by omega) (by omega), decide_eq_true (Nat.le_refl _), cond_true]
    rcases ht with rfl | rfl | rfl | rfl <;> rfl
  · show f133_11 _ (n + 1) M1 (nI t) _ _ (nI i) = f133_11 _ n M1 (nI t) _ _ (nI (i + 1))
    have hle := hN_le D i
    have hw : ∀ p k, p < 6 → mW D t p k ≤ 7 := fun p k hp => by
      unfold mW
      split
      · exact Nat.le_trans (bL_le D p k) (by omega)
      · omega
    have hm : mxo (mW D t) (hN D) i ≤ 7 := mxo_le i (fun p k hp => hw p k (by omega))
    rw [f133_11, hM_n hH.1, dle (by omega) (by omega), decide_eq_false (by omega), cond_false]
    refine lpV (fun m (a : Int32 × Int32) v => f133_25 (fun Me21 ve22 ve23 ve24 ve25 => f133_11 (fun Me26 ve27 ve28 ve29 => bif !decide (ve27 = 6) then (some (ve28, Me26)) else (some (ve29, Me26))) n Me21 ve22 ve23 ve24 (ve25 + 1)) m M1 (nI t) a.1 a.2 (nI i) v) (fun j => (nI (fb_sm (fun p => fb_ct (cW D t p) (hN D p)) i + fb_ct (cW D t i) j), nI (mxb (mxo (mW D t) (hN D) i) (mW D t i) j))) _ (hN D i) (by omega) (fun m => ?_) (fun m j hj => ?_)
    · show f133_25 _ (m + 1) M1 (nI t) _ _ (nI i) (nI _) = _
      rw [f133_25, inb6 (by omega), gd_t, cl_s (by omega), (hH.2 i hi).1, dle (by omega) (by omega), decide_eq_true (Nat.le_refl _), cond_true, nI_1, fb_sm_succ]
      rfl
    · have hb : mxb (mxo (mW D t) (hN D) i) (mW D t i) j ≤ 7 := mxb_le hm j (fun k _ => hw i k (by omega))
      show f133_25 _ (m + 1) M1 (nI t) (nI (fb_sm (fun p => fb_ct (cW D t p) (hN D p)) i + fb_ct (cW D t i) j)) (nI (mxb (mxo (mW D t) (hN D) i) (mW D t i) j)) (nI i) (nI j) = f133_25 _ m M1 (nI t) (nI (fb_sm (fun p => fb_ct (cW D t p) (hN D p)) i + fb_ct (cW D t i) (j + 1))) (nI (mxb (mxo (mW D t) (hN D) i) (mW D t i) (j + 1))) (nI i) (nI (j + 1))
      rw [f133_25_s hH hk _ ht hi hj (show mxb (mxo (mW D t) (hN D) i) (mW D t i) j < 100 by omega) m, fb_ct_succ, Nat.add_assoc, mxb]
/-- the sums agree -/
theorem sum3 (D : hD) : fb_sm (fun p => fb_ct (cW D 3 p) (hN D p)) (dn D) = fb_sm (hN D) (dn D) := fb_sm_cong fun p _ => fb_ct_all.mpr fun k _ => rfl
theorem sum4 (D : hD) : fb_sm (fun p => fb_ct (cW D 4 p) (hN D p)) (dn D) = fb_sm (fun p => fb_ct (endC D p) (hN D p)) (dn D - 1) := by
  have e1 : ∀ p h, cW D 4 p h = (decide (p + 1 < dn D) && endC D p h) := fun p h => by unfold cW; simp
  have e2 : ∀ n, n + 1 ≤ dn D → fb_sm (fun p => fb_ct (cW D 4 p) (hN D p)) n = fb_sm (fun p => fb_ct (endC D p) (hN D p)) n := fun n hn => fb_sm_cong fun p hp => fb_ct_cong fun k _ => by rw [e1, decide_eq_true (show p + 1 < dn D by omega)]; rfl
  rcases Nat.eq_zero_or_pos (dn D) with c | c
  · rw [c]
    rfl
  · obtain ⟨m, hm⟩ : ∃ m, dn D = m + 1 := ⟨dn D - 1, by omega⟩
    have e3 : fb_ct (cW D 4 m) (hN D m) = 0 := fb_ct_zero.mpr fun k _ => by rw [e1, decide_eq_false (by omega)]; rfl
    have e4 := e2 m (by omega)
    rw [hm, fb_sm_succ, e3, e4]
    rfl
theorem sum5 (D : hD) : fb_sm (fun p => fb_ct (cW D 5 p) (hN D p)) (dn D) = fb_sm (fun p => if 0 < p then fb_ct (begC D p) (hN D p) else 0) (dn D) := by
  have e1 : ∀ p h, cW D 5 p h = (decide (0 < p) && begC D p h) := fun p h => by unfold cW; simp
  refine fb_sm_cong fun p _ => ?_
  by_cases c : 0 < p
  · rw [if_pos c]
    exact fb_ct_cong fun k _ => by rw [e1, decide_eq_true c]; rfl
  · rw [if_neg c]
    exact fb_ct_zero.mpr fun k _ => by rw [e1, decide_eq_false c]; rfl
theorem sum6 (D : hD) : mxo (mW D 6) (hN D) (dn D) = mxo (bL D) (hN D) (dn D) := by
  have : mW D 6 = bL D := by
    funext p h
    unfold mW
    rw [if_pos rfl]
  rw [this]
/-! ===== who lies within, who is nearest ===== -/
theorem f156_60_d (h : hM M 0 D) (hk : hok D) (ke0 : jm_MM → Int32 → Int32 → Int32 → Int32 → Int32 → Int32 → Option (Int32 × jm_MM)) {p X Y w : Nat} (x5 : Int32) (hp : p < 6) (hX : X < 64) (hY : Y < 64) (hw : w < 10000) :
    f156_60 ke0 jm_F M (nI p) (nI X) (nI Y) (nI w) x5 0 0 = ke0 M (nI p) (nI X) (nI Y) (nI w) x5 (mk (fun g => di D p g && decide (far D p g X Y ≤ w))) := by
  refine lpV (fun n a v => f156_60 ke0 n M (nI p) (nI X) (nI Y) (nI w) x5 a v) (mkN (fun g => di D p g && decide (far D p g X Y ≤ w))) _ 24 (by omega) (fun n => ?_) (fun n i hi => ?_)
  · show f156_60 ke0 (n + 1) M _ _ _ _ _ _ (nI 24) = _
    rw [f156_60, c24e, cond_true]
    rfl
  · show f156_60 ke0 (n + 1) M _ _ _ _ _ _ (nI i) = f156_60 ke0 n M _ _ _ _ _ _ (nI (i + 1))
    rw [f156_60, c24 hi, cond_false, f102_d h hp, bd_s, f94_s M _ (by omega), bd_s, bI_0, b_mkl hi, nI_1, or_z, mkN_s]
    cases e : di D p i
    · rfl
    · have hf := far_le hk hp hi e hX hY
      rw [f154_d h hp hi hk e hX hY, bd_s, dlt (by omega) (by omega)]
      by_cases c : far D p i X Y ≤ w
      · rw [decide_eq_false (show ¬ w < far D p i X Y by omega), decide_eq_true c]
        rfl
      · rw [decide_eq_true (show w < far D p i X Y by omega), decide_eq_false c]
        rfl
def nr (D : hD) (p X Y : Nat) : Nat → Option Nat
  | 0 => none
  | i + 1 => if di D p i then (match nr D p X Y i with
    | none => some i
    | some b => if far D p i X Y < far D p b X Y then some i else some b) else nr D p X Y i
theorem nr_in (D : hD) (p X Y : Nat) : ∀ i b, nr D p X Y i = some b → b < i ∧ di D p b = true
  | 0, b, h => by cases h
  | i + 1, b, h => by
    rw [nr] at h
    cases e : di D p i
    · rw [e, if_neg (by simp)] at h
      obtain ⟨h1, h2⟩ := nr_in D p X Y i b h
      exact ⟨by omega, h2⟩
    · rw [e, if_pos rfl] at h
      cases e2 : nr D p X Y i with
      | none =>
        rw [e2] at h
        cases h
        exact ⟨by omega, e⟩
      | some b2 =>
        rw [e2] at h
        simp only at h
        obtain ⟨h1, h2⟩ := nr_in D p X Y i b2 e2
        by_cases c : far D p i X Y < far D p b2 X Y
        · rw [if_pos c] at h
          cases h
          exact ⟨by omega, e⟩
        · rw [if_neg c] at h
          cases h
          exact ⟨by omega, h2⟩
def oI (o : Option Nat) : Int32 := match o with
  | none => -1
  | some b => nI b
def oF (D : hD) (p X Y : Nat) (o : Option Nat) : Int32 := match o with
  | none => 0
  | some b => nI (far D p b X Y)
theorem f73_31_d (h : hC M 2 D) (hk : hok D) {p X Y : Nat} (hp : p < 6) (hX : X < 64) (hY : Y < 64) : f73_31 M (fun ve15 => some ve15) jm_F (nI p) (nI X) (nI Y) (-1) 0 0 = some (oI (nr D p X Y 24)) := by
  refine lpV (fun n (a : Int32 × Int32) v => f73_31 M (fun ve15 => some ve15) n (nI p) (nI X) (nI Y) a.1 a.2 v) (fun i => (oI (nr D p X Y i), oF D p X Y (nr D p X Y i))) _ 24 (by omega) (fun n => ?_) (fun n i hi => ?_)
  · show f73_31 M _ (n + 1) _ _ _ _ _ (nI 24) = _
    rw [f73_31, c24e, cond_true]
  · show f73_31 M _ (n + 1) _ _ _ _ _ (nI i) = f73_31 M _ n _ _ _ _ _ (nI (i + 1))
    rw [f73_31, c24 hi, cond_false, f14_d h hp hi hk, bd_s, bI_0, nI_1, nr]
    cases e : di D p i
    · rfl
    · have hf := far_le hk hp hi e hX hY
      rw [f17_d h hp hi hk e hX hY, bd_s, if_pos rfl]
      cases e2 : nr D p X Y i with
      | none => rfl
      | some b =>
        obtain ⟨h1, h2⟩ := nr_in D p X Y i b e2
        have hf2 := far_le hk hp (show b < 24 by omega) h2 hX hY
        show (bif !true then _ else (bif decide (nI b = -1) then _ else (bif decide (nI (far D p b X Y) ≤ nI (far D p i X Y)) then _ else _))) = _
        rw [cM1 (by omega), dle (by omega) (by omega)]
        simp only
        by_cases c : far D p i X Y < far D p b X Y
        · rw [if_pos c, decide_eq_false (by omega)]
          rfl
        · rw [if_neg c, decide_eq_true (by omega)]
          rfl
theorem f157_34_d (h : hM M 0 D) (hk : hok D) {p X Y : Nat} (hp : p < 6) (hX : X < 64) (hY : Y < 64) : f157_34 M (fun ve23 => some ve23) jm_F (nI p) (nI X) (nI Y) (-1) 0 = some (oI (nr D p X Y 24)) := by
  refine lpV (fun n a v => f157_34 M (fun ve23 => some ve23) n (nI p) (nI X) (nI Y) a v) (fun i => oI (nr D p X Y i)) _ 24 (by omega) (fun n => ?_) (fun n i hi => ?_)
  · show f157_34 M _ (n + 1) _ _ _ _ (nI 24) = _
    rw [f157_34, c24e, cond_true]
  · show f157_34 M _ (n + 1) _ _ _ _ (nI i) = f157_34 M _ n _ _ _ _ (nI (i + 1))
    rw [f157_34, c24 hi, cond_false, f102_d h hp, bd_s, f94_s M _ (by omega), bd_s, bI_0, b_mkl hi, nr]
    unfold f157_85 f157_81 f157_86
    rw [nI_1]
    cases e : di D p i
    · rfl
    · have hf := far_le hk hp hi e hX hY
      rw [f154_d h hp hi hk e hX hY, bd_s, if_pos rfl]
      cases e2 : nr D p X Y i with
      | none => rfl
      | some b =>
        obtain ⟨h1, h2⟩ := nr_in D p X Y i b e2
        have hf2 := far_le hk hp (show b < 24 by omega) h2 hX hY
        show (bif !true then _ else (bif decide (nI b = -1) then _ else (jm_bd (f154 M (nI p) (nI b) (nI X) (nI Y)) _))) = _
        rw [cM1 (by omega), f154_d h hp (show b < 24 by omega) hk h2 hX hY, bd_s, dle (by omega) (by omega)]
        simp only
        by_cases c : far D p i X Y < far D p b X Y
        · rw [if_pos c, decide_eq_false (show ¬ far D p b X Y ≤ far D p i X Y by omega)]
          rfl
        · rw [if_neg c, decide_eq_true (show far D p b X Y ≤ far D p i X Y by omega)]
          rfl
end
