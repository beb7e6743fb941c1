/-! ===== how halos go on ===== -/
def gsg (W : Int32 → Int32) (F : Nat → Int32) (x : Int32) : Nat → Int32 × Int32
  | 0 => (-1, 0)
  | k + 1 => if (gsg W F x k).2 < W (x &&& F k) then (nI k, W (x &&& F k)) else gsg W F x k
theorem gsg_in (W : Int32 → Int32) (F : Nat → Int32) (x : Int32) : ∀ k, (gsg W F x k).1 = -1 ∨ ∃ j, j < k ∧ (gsg W F x k).1 = nI j
  | 0 => Or.inl rfl
  | k + 1 => by
    rw [gsg]
    split
    · exact Or.inr ⟨k, by omega, rfl⟩
    · rcases gsg_in W F x k with h | ⟨j, h1, h2⟩
      · exact Or.inl h
      · exact Or.inr ⟨j, by omega, h2⟩
def gO (D : hD) (p h : Nat) : Int32 := if p + 1 < dn D then (gsg (wD D) (hH D (p + 1)) (hH D p h) (hN D (p + 1))).1 else -1
theorem gO_in (D : hD) (p h : Nat) : gO D p h = -1 ∨ ∃ j, j < 24 ∧ p + 1 < dn D ∧ j < hN D (p + 1) ∧ gO D p h = nI j := by
  unfold gO
  have hle := hN_le D (p + 1)
  by_cases c : p + 1 < dn D
  · rw [if_pos c]
    rcases gsg_in (wD D) (hH D (p + 1)) (hH D p h) (hN D (p + 1)) with q | ⟨j, h1, h2⟩
    · exact Or.inl q
    · exact Or.inr ⟨j, by omega, c, h1, h2⟩
  · rw [if_neg c]
    exact Or.inl rfl
def fst1 (P : Nat → Bool) : Nat → Int32
  | 0 => -1
  | n + 1 => if fst1 P n = -1 then (if P n then nI n else -1) else fst1 P n
theorem fst1_cases (P : Nat → Bool) : ∀ n, n < 2 ^ 31 → (fst1 P n = -1 ∧ ∀ k, k < n → P k = false) ∨ ∃ k, k < n ∧ fst1 P n = nI k ∧ P k = true ∧ ∀ j, j < k → P j = false
  | 0, _ => Or.inl ⟨rfl, fun k hk => absurd hk (Nat.not_lt_zero k)⟩
  | n + 1, hn => by
    rw [fst1]
    rcases fst1_cases P n (by omega) with ⟨h1, h2⟩ | ⟨k, h1, h2, h3, h4⟩
    · rw [if_pos h1]
      cases e : P n
      · rw [if_neg (by simp)]
        refine Or.inl ⟨rfl, fun k hk => ?_⟩
        by_cases c : k = n
        · rw [c]; exact e
        · exact h2 k (by omega)
      · rw [if_pos rfl]
        exact Or.inr ⟨n, by omega, rfl, e, h2⟩
    · rw [if_neg (by rw [h2]; exact nM1 (by omega))]
      exact Or.inr ⟨k, by omega, h2, h3, h4⟩
def gP (D : hD) (p h k : Nat) : Bool := decide (gO D p k = nI h)
def cF (D : hD) (p h : Nat) : Int32 := match p with
  | 0 => 0
  | q + 1 => mkN (gP D q h) (hN D q)
def mN (D : hD) (p h : Nat) : Int32 := match p with
  | 0 => -1
  | q + 1 => fst1 (gP D q h) (hN D q)
def bL (D : hD) : Nat → Nat → Nat
  | 0, _ => 1
  | q + 1, h => if fst1 (gP D q h) (hN D q) = -1 then 1 else bL D q (fst1 (gP D q h) (hN D q)).toNatClampNeg + 1
theorem mN_cases (D : hD) (p h : Nat) : (mN D p h = -1 ∧ cF D p h = 0 ∧ bL D p h = 1) ∨ ∃ q k, p = q + 1 ∧ k < hN D q ∧ mN D p h = nI k ∧ bL D p h = bL D q k + 1 ∧ bt (cF D p h) k = true ∧ ∀ j, j < k → bt (cF D p h) j = false := by
  cases p with
  | zero => exact Or.inl ⟨rfl, rfl, rfl⟩
  | succ q =>
    have hle := hN_le D q
    rcases fst1_cases (gP D q h) (hN D q) (by omega) with ⟨h1, h2⟩ | ⟨k, h1, h2, h3, h4⟩
    · refine Or.inl ⟨h1, ?_, ?_⟩
      · refine b_ext fun i hi => ?_
        show bt (mkN (gP D q h) (hN D q)) i = bt 0 i
        rw [b_mkN _ hi _ (by omega), b_0]
        by_cases c : i < hN D q
        · rw [h2 i c, Bool.and_false]
        · rw [decide_eq_false c, Bool.false_and]
      · rw [bL, if_pos h1]
    · refine Or.inr ⟨q, k, rfl, h1, h2, ?_, ?_, fun j hj => ?_⟩
      · rw [bL, if_neg (by rw [h2]; exact nM1 (by omega)), h2, cl_s (by omega)]
      · show bt (mkN (gP D q h) (hN D q)) k = true
        rw [b_mkN _ (by omega) _ (by omega), h3, decide_eq_true h1]
        rfl
      · show bt (mkN (gP D q h) (hN D q)) j = false
        rw [b_mkN _ (by omega) _ (by omega), h4 j hj, Bool.and_false]
theorem bL_le (D : hD) : ∀ p h, bL D p h ≤ p + 1
  | 0, _ => Nat.le_refl _
  | q + 1, h => by
    rw [bL]
    split
    · omega
    · have := bL_le D q (fst1 (gP D q h) (hN D q)).toNatClampNeg
      omega
theorem wD_0 (D : hD) : wD D 0 = 0 := ws_0 _ 24
theorem and_c (x y : Int32) : x &&& y = y &&& x := b_ext fun i _ => by rw [b_and, b_and, Bool.and_comm]
theorem f35_d {M : jm_MM} {D : hD} (h : hC M 2 D) {a0 : Nat} {F : Nat → Int32} {c : Nat} (hc : c ≤ 24) (hh : isHal M a0 (wD D) F c) (x : Int32) : f35 M a0 x = some (gsg (wD D) F x c).1 := by
  unfold f35
  refine lpV (fun n (a : Int32 × Int32) v => f35_8 M a0 (fun ve7 => some ve7) n x a.1 a.2 v) (gsg (wD D) F x) (some (gsg (wD D) F x c).1) c (by omega) (fun n => ?_) (fun n i hi => ?_)
  · show f35_8 M a0 _ (n + 1) x _ _ (nI c) = _
    rw [f35_8, hh.1, dle (by omega) (by omega), decide_eq_true (Nat.le_refl c), cond_true]
  · show f35_8 M a0 _ (n + 1) x _ _ (nI i) = f35_8 M a0 _ n x _ _ (nI (i + 1))
    have e1 : f35_43 M a0 (f35_8 M a0 (fun ve7 => some ve7) n) (fun ve7 => some ve7) x (gsg (wD D) F x i).1 (gsg (wD D) F x i).2 (nI i) (wD D (x &&& F i)) = f35_8 M a0 (fun ve7 => some ve7) n x (gsg (wD D) F x (i + 1)).1 (gsg (wD D) F x (i + 1)).2 (nI (i + 1)) := by
      unfold f35_43
      rw [dnl, nI_1, gsg]
      by_cases q : (gsg (wD D) F x i).2 < wD D (x &&& F i)
      · rw [if_pos q, decide_eq_true q]
        rfl
      · rw [if_neg q, decide_eq_false q]
        rfl
    rw [f35_8, hh.1, dle (by omega) (by omega), decide_eq_false (by omega), cond_false, inb24 (by omega), gd_t, cl_s (by omega), (hh.2 i hi).1, and_c (F i) x, f20_d h, bd_s, e1]
    by_cases q : x &&& F i = 0
    · rw [q, wD_0] at e1
      rw [decide_eq_true q, e1]
      rfl
    · rw [decide_eq_false q]
      rfl
theorem f34_d {M : jm_MM} {D : hD} (h : hC M 2 D) {a0 b0 : Nat} {F G : Nat → Int32} {c e : Nat} (ha : 5 ≤ a0) (hb : a0 + 3 < b0) (hc : c ≤ 24) (he : e ≤ 24) (h1 : isHal M a0 (wD D) F c) (h2 : isHal M b0 (wD D) G e) :
    ∃ M', f34 M a0 b0 = some M' ∧ (∀ b, b ≠ a0 + 3 → M' b = M b) ∧ ∀ k, k < c → M' (a0 + 3) k = (gsg (wD D) G (F k) e).1 := by
  unfold f34
  refine lpI (fun n (w : jm_MM) u => f34_2 a0 b0 (fun Me6 => some Me6) n w u) (fun a => some a) (fun i w => (∀ b, b ≠ a0 + 3 → w b = M b) ∧ ∀ k, k < i → w (a0 + 3) k = (gsg (wD D) G (F k) e).1) c (by omega) ?_ ?_ M ⟨fun _ _ => rfl, fun k hk => absurd hk (Nat.not_lt_zero k)⟩
  · rintro n w ⟨g1, -⟩
    show f34_2 a0 b0 _ (n + 1) w (nI c) = _
    rw [f34_2, g1 a0 (by omega), h1.1, dle (by omega) (by omega), decide_eq_true (Nat.le_refl c), cond_true]
  · rintro n i w hi ⟨g1, g2⟩
    have hw : hC w 2 D := hC_fr h (g1 2 (by omega)) (g1 3 (by omega)) (g1 4 (by omega))
    have h2' : isHal w b0 (wD D) G e := ⟨by rw [g1 b0 (by omega)]; exact h2.1, fun j hj => by rw [g1 (b0 + 1) (by omega), g1 (b0 + 2) (by omega)]; exact h2.2 j hj⟩
    refine ⟨jm_up w (a0 + 3) i (gsg (wD D) G (F i) e).1, ?_, fun b hb => by rw [jup_ne hb, g1 b hb], fun k hk => ?_⟩
    · show f34_2 a0 b0 _ (n + 1) w (nI i) = f34_2 a0 b0 _ n _ (nI (i + 1))
      rw [f34_2, g1 a0 (by omega), h1.1, dle (by omega) (by omega), decide_eq_false (by omega), cond_false, inb24 (by omega), gd_t, cl_s (by omega), g1 (a0 + 1) (by omega), (h1.2 i hi).1, f35_d hw he h2', bd_s, gd_t, nI_1]
    · by_cases q : k = i
      · subst q
        rw [jup_eq]
      · rw [jup_nj q, g2 k (by omega)]
theorem f36_d (M : jm_MM) (a0 : Nat) : ∃ M', f36 M a0 = some M' ∧ (∀ b, b ≠ a0 + 4 → b ≠ a0 + 5 → b ≠ a0 + 6 → M' b = M b) ∧ ∀ k, k < 24 → M' (a0 + 4) k = 0 ∧ M' (a0 + 5) k = -1 ∧ M' (a0 + 6) k = 1 := by
  obtain ⟨M1, a1, a2, a3⟩ := fil M (a0 + 4) 24 0
  obtain ⟨M2, b1, b2, b3⟩ := fil M1 (a0 + 5) 24 (-1)
  obtain ⟨M3, c1, c2, c3⟩ := fil M2 (a0 + 6) 24 1
  refine ⟨M3, ?_, fun b q1 q2 q3 => by rw [c2 b q3, b2 b q2, a2 b q1], fun k hk => ⟨?_, ?_, c3 k hk⟩⟩
  · unfold f36
    rw [a1, bd_s, b1, bd_s, c1, bd_s]
  · rw [c2 _ (by omega), b2 _ (by omega), a3 k hk]
  · rw [c2 _ (by omega), b3 k hk]
theorem f33_d (M : jm_MM) (a0 : Nat) : ∃ M', f33 M a0 = some M' ∧ (∀ b, b ≠ a0 + 3 → M' b = M b) ∧ ∀ k, k < 24 → M' (a0 + 3) k = -1 := by
  obtain ⟨M1, a1, a2, a3⟩ := fil M (a0 + 3) 24 (-1)
  refine ⟨M1, ?_, a2, a3⟩
  unfold f33
  rw [a1, bd_s]
def blS (P : Nat → Bool) (bl : Nat → Nat) (n : Nat) : Nat := if fst1 P n = -1 then 1 else bl (fst1 P n).toNatClampNeg + 1
theorem f37_s {M : jm_MM} {a0 b0 c : Nat} (gg : Nat → Int32) (bl : Nat → Nat) (hab : b0 + 6 < a0) (hc : c ≤ 24) (h0 : M b0 0 = nI c) (hg : ∀ k, k < c → M (b0 + 3) k = gg k) (hgi : ∀ k, gg k = -1 ∨ ∃ j, j < 24 ∧ gg k = nI j) (hb : ∀ k, k < c → M (b0 + 6) k = nI (bl k)) (hz : ∀ k, k < 24 → M (a0 + 4) k = 0 ∧ M (a0 + 5) k = -1 ∧ M (a0 + 6) k = 1) :
    ∃ M', f37 M a0 b0 = some M' ∧ (∀ b, b ≠ a0 + 4 → b ≠ a0 + 5 → b ≠ a0 + 6 → M' b = M b) ∧ ∀ h, h < 24 → M' (a0 + 4) h = mkN (fun k => decide (gg k = nI h)) c ∧ M' (a0 + 5) h = fst1 (fun k => decide (gg k = nI h)) c ∧ M' (a0 + 6) h = nI (blS (fun k => decide (gg k = nI h)) bl c) := by
  unfold f37
  refine lpI (fun n (w : jm_MM) u => f37_2 a0 b0 (fun Me13 => some Me13) n w u) (fun a => some a) (fun i w => (∀ b, b ≠ a0 + 4 → b ≠ a0 + 5 → b ≠ a0 + 6 → w b = M b) ∧ ∀ h, h < 24 → w (a0 + 4) h = mkN (fun k => decide (gg k = nI h)) i ∧ w (a0 + 5) h = fst1 (fun k => decide (gg k = nI h)) i ∧ w (a0 + 6) h = nI (blS (fun k => decide (gg k = nI h)) bl i)) c (by omega) ?_ ?_ M ⟨fun _ _ _ _ => rfl, fun h hh => hz h hh⟩
  · rintro n w ⟨g1, -⟩
    show f37_2 a0 b0 _ (n + 1) w (nI c) = _
    rw [f37_2, g1 b0 (by omega) (by omega) (by omega), h0, dle (by omega) (by omega), decide_eq_true (Nat.le_refl c), cond_true]
  · rintro n i w hi ⟨g1, g2⟩
    have e3 : w (b0 + 3) i = gg i := by rw [g1 _ (by omega) (by omega) (by omega), hg i hi]
    have e6 : w (b0 + 6) i = nI (bl i) := by rw [g1 _ (by omega) (by omega) (by omega), hb i hi]
    rcases hgi i with q | ⟨j, hj, q⟩
    · have en : ∀ h, h < 24 → decide (gg i = nI h) = false := fun h hh => decide_eq_false fun q2 => nM1 (n := h) (by omega) (q2.symm.trans q)
      refine ⟨w, ?_, g1, fun h hh => ?_⟩
      · show f37_2 a0 b0 _ (n + 1) w (nI i) = f37_2 a0 b0 _ n w (nI (i + 1))
        rw [f37_2, g1 b0 (by omega) (by omega) (by omega), h0, dle (by omega) (by omega), decide_eq_false (by omega), cond_false, inb24 (by omega), gd_t, cl_s (by omega), e3, decide_eq_true q, nI_1]
        rfl
      · have e7 : fst1 (fun k => decide (gg k = nI h)) (i + 1) = fst1 (fun k => decide (gg k = nI h)) i := by
          rw [fst1, en h hh]
          split
          · rename_i q3
            rw [q3]
            rfl
          · rfl
        obtain ⟨r1, r2, r3⟩ := g2 h hh
        refine ⟨?_, by rw [e7, r2], ?_⟩
        · rw [mkN_s, en h hh, r1]
          rfl
        · rw [r3]
          unfold blS
          rw [e7]
    · have hne : ¬ gg i = -1 := by rw [q]; exact nM1 (by omega)
      have en : ∀ h, h < 24 → h ≠ j → decide (gg i = nI h) = false := fun h hh hne2 => decide_eq_false fun q2 => hne2 ((nI_eq (by omega) (by omega)).mp (q2.symm.trans q))
      have ej : decide (gg i = nI j) = true := decide_eq_true q
      obtain ⟨r1, r2, r3⟩ := g2 j hj
      by_cases c1 : fst1 (fun k => decide (gg k = nI j)) i = -1
      · obtain ⟨w1, hw1⟩ : ∃ w1, w1 = jm_up w (a0 + 5) j (nI i) := ⟨_, rfl⟩
        obtain ⟨w2, hw2⟩ : ∃ w2, w2 = jm_up w1 (a0 + 6) j (w1 (b0 + 6) i + 1) := ⟨_, rfl⟩
        refine ⟨jm_up w2 (a0 + 4) j (w2 (a0 + 4) j ||| (1 <<< (nI i &&& 31))), ?_, fun b q1 q2 q3 => by rw [jup_ne q1, hw2, jup_ne q3, hw1, jup_ne q2, g1 b q1 q2 q3], fun h hh => ?_⟩
        · show f37_2 a0 b0 _ (n + 1) w (nI i) = f37_2 a0 b0 _ n _ (nI (i + 1))
          rw [f37_2, g1 b0 (by omega) (by omega) (by omega), h0, dle (by omega) (by omega), decide_eq_false (by omega), cond_false, inb24 (show i < 24 by omega), gd_t, cl_s (show i < 2 ^ 31 by omega), e3, decide_eq_false hne, cond_false, q, inb24 hj, cl_s (show j < 2 ^ 31 by omega), gd_t, gd_t, gd_t, gd_t, gd_t, gd_t, r2, decide_eq_true c1, nI_1, ← hw1, ← hw2]
          rfl
        · have e4 : w2 (a0 + 4) j = w (a0 + 4) j := by rw [hw2, jup_ne (by omega), hw1, jup_ne (by omega)]
          by_cases c2 : h = j
          · subst c2
            have e7 : fst1 (fun k => decide (gg k = nI h)) (i + 1) = nI i := by rw [fst1, if_pos c1, ej, if_pos rfl]
            refine ⟨?_, ?_, ?_⟩
            · rw [jup_eq, e4, r1, mkN_s, ej]
              rfl
            · rw [jup_ne (by omega), hw2, jup_ne (by omega), hw1, jup_eq, e7]
            · rw [jup_ne (by omega), hw2, jup_eq, hw1, jup_ne (by omega), e6, nI_1]
              unfold blS
              rw [e7, if_neg (nM1 (by omega)), cl_s (by omega)]
          · have e7 : fst1 (fun k => decide (gg k = nI h)) (i + 1) = fst1 (fun k => decide (gg k = nI h)) i := by
              rw [fst1, en h hh c2]
              split
              · rename_i q3
                rw [q3]
                rfl
              · rfl
            obtain ⟨s1, s2, s3⟩ := g2 h hh
            refine ⟨?_, ?_, ?_⟩
            · rw [jup_nj c2, hw2, jup_ne (by omega), hw1, jup_ne (by omega), s1, mkN_s, en h hh c2]
              rfl
            · rw [jup_ne (by omega), hw2, jup_ne (by omega), hw1, jup_nj c2, s2, e7]
            · rw [jup_ne (by omega), hw2, jup_nj c2, hw1, jup_ne (by omega), s3]
              unfold blS
              rw [e7]
      · refine ⟨jm_up w (a0 + 4) j (w (a0 + 4) j ||| (1 <<< (nI i &&& 31))), ?_, fun b q1 q2 q3 => by rw [jup_ne q1, g1 b q1 q2 q3], fun h hh => ?_⟩
        · show f37_2 a0 b0 _ (n + 1) w (nI i) = f37_2 a0 b0 _ n _ (nI (i + 1))
          rw [f37_2, g1 b0 (by omega) (by omega) (by omega), h0, dle (by omega) (by omega), decide_eq_false (by omega), cond_false, inb24 (show i < 24 by omega), gd_t, cl_s (show i < 2 ^ 31 by omega), e3, decide_eq_false hne, cond_false, q, inb24 hj, cl_s (show j < 2 ^ 31 by omega), gd_t, gd_t, gd_t, r2, decide_eq_false c1, nI_1]
          rfl
        · by_cases c2 : h = j
          · subst c2
            have e7 : fst1 (fun k => decide (gg k = nI h)) (i + 1) = fst1 (fun k => decide (gg k = nI h)) i := by rw [fst1, if_neg c1]
            refine ⟨?_, ?_, ?_⟩
            · rw [jup_eq, r1, mkN_s, ej]
              rfl
            · rw [jup_ne (by omega), r2, e7]
            · rw [jup_ne (by omega), r3]
              unfold blS
              rw [e7]
          · have e7 : fst1 (fun k => decide (gg k = nI h)) (i + 1) = fst1 (fun k => decide (gg k = nI h)) i := by
              rw [fst1, en h hh c2]
              split
              · rename_i q3
                rw [q3]
                rfl
              · rfl
            obtain ⟨s1, s2, s3⟩ := g2 h hh
            refine ⟨?_, ?_, ?_⟩
            · rw [jup_nj c2, s1, mkN_s, en h hh c2]
              rfl
            · rw [jup_ne (by omega), s2, e7]
            · rw [jup_ne (by omega), s3]
              unfold blS
              rw [e7]
/-! ===== all pictures ===== -/
def sH (M : jm_MM) (D : hD) (p : Nat) : Prop := isClp M (42 + 10 * p) D p (dl D) ∧ isHal M (45 + 10 * p) (wD D) (hH D p) (hN D p)
def sF (M : jm_MM) (D : hD) (p : Nat) : Prop := ∀ h, h < 24 → M (45 + 10 * p + 4) h = cF D p h ∧ M (45 + 10 * p + 5) h = mN D p h ∧ M (45 + 10 * p + 6) h = nI (bL D p h)
/-- the forest holds what is so -/
def Sv (M : jm_MM) (D : hD) : Prop := M 39 1 = nI (dn D) ∧ ∀ p, p < dn D → sH M D p ∧ (∀ h, h < hN D p → M (45 + 10 * p + 3) h = gO D p h) ∧ sF M D p
theorem sH_fr {M M' : jm_MM} {D : hD} {p : Nat} (h : sH M D p) (hf : ∀ b, 42 + 10 * p ≤ b → b < 48 + 10 * p → M' b = M b) : sH M' D p := by
  refine ⟨isClp_fr h.1 (hf _ (by omega) (by omega)) (hf _ (by omega) (by omega)) (hf _ (by omega) (by omega)), ?_, fun i hi => ?_⟩
  · rw [hf _ (by omega) (by omega)]
    exact h.2.1
  · rw [hf _ (by omega) (by omega), hf _ (by omega) (by omega)]
    exact h.2.2 i hi
theorem sF_fr {M M' : jm_MM} {D : hD} {p : Nat} (h : sF M D p) (hf : ∀ b, 49 + 10 * p ≤ b → b < 52 + 10 * p → M' b = M b) : sF M' D p := by
  intro k hk
  rw [hf _ (by omega) (by omega), hf _ (by omega) (by omega), hf _ (by omega) (by omega)]
  exact h k hk
theorem Sv_fr {M M' : jm_MM} {D : hD} (h : Sv M D) (hk : hok D) (hf : ∀ b, 39 ≤ b → b < 102 → M' b = M b) : Sv M' D := by
  have h6 := hk.1
  refine ⟨by rw [hf 39 (by omega) (by omega)]; exact h.1, fun p hp => ?_⟩
  obtain ⟨a, b, c⟩ := h.2 p hp
  refine ⟨sH_fr a (fun b h1 h2 => hf b (by omega) (by omega)), fun k hk2 => ?_, sF_fr c (fun b h1 h2 => hf b (by omega) (by omega))⟩
  rw [hf _ (by omega) (by omega)]
  exact b k hk2
theorem sv1 {M : jm_MM} {D : hD} (h : hC M 2 D) (hk : hok D) {p : Nat} (hp : p < 6) :
    ∃ M1 M2 M3 M4 M5, f1 M (42 + 10 * p) (nI p) (nI (dl D)) = some M1 ∧ f18 M1 (nI p) = some (mk (di D p)) ∧ f3 M1 (42 + 10 * p) (mk (di D p)) = some M2 ∧ f30 M2 (45 + 10 * p) (42 + 10 * p) = some M3 ∧ f33 M3 (45 + 10 * p) = some M4 ∧ f36 M4 (45 + 10 * p) = some M5 ∧ (∀ b, b < 42 + 10 * p ∨ 52 + 10 * p ≤ b → M5 b = M b) ∧ sH M5 D p ∧ (∀ k, k < 24 → M5 (45 + 10 * p + 3) k = -1) ∧ ∀ k, k < 24 → M5 (45 + 10 * p + 4) k = 0 ∧ M5 (45 + 10 * p + 5) k = -1 ∧ M5 (45 + 10 * p + 6) k = 1 := by
  have hL : dl D ≤ 90 := Nat.le_trans hk.2.1 (by omega)
  obtain ⟨M1, M2, a1, a2, a3, a4, a5⟩ := clump_d h hk hp hL (show 5 ≤ 42 + 10 * p by omega)
  have hw : hC M2 2 D := hC_fr h (a4 2 (by omega) (by omega) (by omega)) (a4 3 (by omega) (by omega) (by omega)) (a4 4 (by omega) (by omega) (by omega))
  obtain ⟨M3, b1, b2, b3⟩ := f30_d hw (show 5 ≤ 45 + 10 * p by omega) (show 42 + 10 * p + 2 < 45 + 10 * p ∨ 45 + 10 * p + 2 < 42 + 10 * p by omega) a5
  obtain ⟨M4, c1, c2, c3⟩ := f33_d M3 (45 + 10 * p)
  obtain ⟨M5, d1, d2, d3⟩ := f36_d M4 (45 + 10 * p)
  refine ⟨M1, M2, M3, M4, M5, a1, a2, a3, b1, c1, d1, fun b hb => ?_, ?_, fun k hk2 => ?_, d3⟩
  · rw [d2 b (by omega) (by omega) (by omega), c2 b (by omega), b2 b (by omega) (by omega) (by omega), a4 b (by omega) (by omega) (by omega)]
  · have hf : ∀ b, b < 48 + 10 * p → M5 b = M3 b := fun b hb => by rw [d2 b (by omega) (by omega) (by omega), c2 b (by omega)]
    refine sH_fr (M := M3) ⟨isClp_fr a5 (b2 _ (by omega) (by omega) (by omega)) (b2 _ (by omega) (by omega) (by omega)) (b2 _ (by omega) (by omega) (by omega)), b3⟩ (fun b _ hb => hf b (by omega))
  · rw [d2 _ (by omega) (by omega) (by omega), c3 k hk2]
theorem f22_d {M : jm_MM} {D : hD} (h : hC M 2 D) (hk : hok D) (hF : M 39 0 = 0 ∨ (M 39 0 = 1 ∧ Sv M D)) :
    ∃ M', f22 M = some M' ∧ (∀ b, b < 39 ∨ 102 ≤ b → M' b = M b) ∧ M' 39 0 = 1 ∧ Sv M' D := by
  have h6 := hk.1
  unfold f22
  rcases hF with h0 | ⟨h0, h1⟩
  · rw [decide_eq_true h0, cond_true]
    obtain ⟨M0, hM0⟩ : ∃ M0, M0 = jm_up M 39 1 (M 2 0) := ⟨_, rfl⟩
    rw [← hM0]
    have z39 : M0 39 1 = nI (dn D) := by rw [hM0, jup_eq, h.1]
    have zfr : ∀ b, b ≠ 39 → M0 b = M b := fun b hb => by rw [hM0, jup_ne hb]
    have hC0 : hC M0 2 D := hC_fr h (zfr 2 (by omega)) (zfr 3 (by omega)) (zfr 4 (by omega))
    have l1 := lpI (fun n (w : jm_MM) u => f22_19 (fun Me21 => f22_98 (fun Me31 => some (jm_up Me31 39 0 1)) jm_F Me21 1) n w u) (fun Me21 => f22_98 (fun Me31 => some (jm_up Me31 39 0 1)) jm_F Me21 1)
      (fun i w => (∀ b, b < 42 ∨ 102 ≤ b → w b = M0 b) ∧ ∀ p, p < i → sH w D p ∧ (∀ k, k < 24 → w (45 + 10 * p + 3) k = -1) ∧ ∀ k, k < 24 → w (45 + 10 * p + 4) k = 0 ∧ w (45 + 10 * p + 5) k = -1 ∧ w (45 + 10 * p + 6) k = 1) (dn D) (by omega) ?_ ?_ M0 ⟨fun _ _ => rfl, fun p hp => absurd hp (Nat.not_lt_zero p)⟩
    · obtain ⟨N1, a1, a2, a3⟩ := l1
      rw [a1]
      have l2 := lpI1 (fun n (w : jm_MM) u => f22_98 (fun Me31 => some (jm_up Me31 39 0 1)) n w u) (fun Me31 => some (jm_up Me31 39 0 1))
        (fun q w => (∀ b, b < 42 ∨ 102 ≤ b → w b = M0 b) ∧ ∀ p, p < dn D → sH w D p ∧ (p + 1 < q → ∀ k, k < hN D p → w (45 + 10 * p + 3) k = gO D p k) ∧ (q ≤ p + 1 → ∀ k, k < 24 → w (45 + 10 * p + 3) k = -1) ∧ (p < q → sF w D p) ∧ (q ≤ p → ∀ k, k < 24 → w (45 + 10 * p + 4) k = 0 ∧ w (45 + 10 * p + 5) k = -1 ∧ w (45 + 10 * p + 6) k = 1)) (max 1 (dn D)) 1 (by omega) (by omega) ?_ ?_ N1 ?_
      · obtain ⟨N2, b1, b2, b3⟩ := l2
        refine ⟨_, b1, fun b hb => ?_, jup_eq, ?_, fun p hp => ?_⟩
        · rw [jup_ne (by omega), b2 b (by omega), zfr b (by omega)]
        · rw [jup_nj (by omega), b2 39 (by omega), z39]
        · have hle := hN_le D p
          obtain ⟨c1, c2, c3, c4, -⟩ := b3 p hp
          have hfr : ∀ b, 40 ≤ b → jm_up N2 39 0 1 b = N2 b := fun b hb => jup_ne (by omega)
          refine ⟨sH_fr c1 (fun b q1 _ => hfr b (by omega)), fun k hk2 => ?_, sF_fr (c4 (by omega)) (fun b q1 _ => hfr b (by omega))⟩
          rw [hfr _ (by omega)]
          by_cases c : p + 1 < dn D
          · exact c2 (by omega) k hk2
          · rw [c3 (by omega) k (by omega)]
            unfold gO
            rw [if_neg c]
      · rintro n w ⟨g1, -⟩
        show f22_98 _ (n + 1) w (nI (max 1 (dn D))) = _
        rw [f22_98, g1 39 (by omega), z39, dle (by omega) (by omega), decide_eq_true (by omega), cond_true]
      · rintro n j w hj1 hj ⟨g1, g2⟩
        have hjd : j < dn D := by omega
        obtain ⟨q, rfl⟩ : ∃ q, j = q + 1 := ⟨j - 1, by omega⟩
        have hw : hC w 2 D := hC_fr hC0 (g1 2 (by omega)) (g1 3 (by omega)) (g1 4 (by omega))
        obtain ⟨p1, p2, p3, p4, -⟩ := g2 q (by omega)
        obtain ⟨n1, n2, n3, n4, n5⟩ := g2 (q + 1) hjd
        obtain ⟨W1, u1, u2, u3⟩ := f34_d hw (show 5 ≤ 45 + 10 * q by omega) (show 45 + 10 * q + 3 < 45 + 10 * (q + 1) by omega) (hN_le D q) (hN_le D (q + 1)) p1.2 n1.2
        have hgo : ∀ k, (gsg (wD D) (hH D (q + 1)) (hH D q k) (hN D (q + 1))).1 = gO D q k := fun k => by
          unfold gO
          rw [if_pos hjd]
        have hle := hN_le D q
        obtain ⟨W2, v1, v2, v3⟩ := f37_s (M := W1) (a0 := 45 + 10 * (q + 1)) (b0 := 45 + 10 * q) (c := hN D q) (gO D q) (bL D q) (by omega) hle (by rw [u2 _ (by omega)]; exact p1.2.1) (fun k hk2 => by rw [u3 k hk2, hgo]) (fun k => by
          rcases gO_in D q k with r | ⟨j, r1, -, -, r2⟩
          · exact Or.inl r
          · exact Or.inr ⟨j, r1, r2⟩) (fun k hk2 => by rw [u2 _ (by omega)]; exact (p4 (by omega) k (by omega)).2.2) (fun k hk2 => by rw [u2 _ (by omega), u2 _ (by omega), u2 _ (by omega)]; exact n5 (Nat.le_refl _) k hk2)
        have hfr : ∀ b, b ≠ 45 + 10 * q + 3 → b ≠ 45 + 10 * (q + 1) + 4 → b ≠ 45 + 10 * (q + 1) + 5 → b ≠ 45 + 10 * (q + 1) + 6 → W2 b = w b := fun b r1 r2 r3 r4 => by rw [v2 b r2 r3 r4, u2 b r1]
        refine ⟨W2, ?_, fun b hb => by rw [hfr b (by omega) (by omega) (by omega) (by omega), g1 b hb], fun p hp => ?_⟩
        · show f22_98 _ (n + 1) w (nI (q + 1)) = f22_98 _ n W2 (nI (q + 1 + 1))
          rw [f22_98, g1 39 (by omega), z39, dle (by omega) (by omega), decide_eq_false (by omega), cond_false, nI_p1, inb6 (show q < 6 by omega), gd_t, inb6 (show q + 1 < 6 by omega), gd_t, cl_s (show q < 2 ^ 31 by omega), cl_s (show q + 1 < 2 ^ 31 by omega), u1, bd_s, gd_t, gd_t, v1, bd_s, nI_1]
        · obtain ⟨c1, c2, c3, c4, c5⟩ := g2 p hp
          refine ⟨sH_fr c1 (fun b r1 r2 => hfr b (by omega) (by omega) (by omega) (by omega)), fun r k hk2 => ?_, fun r k hk2 => ?_, fun r => ?_, fun r k hk2 => ?_⟩
          · by_cases c : p = q
            · subst c
              rw [v2 _ (by omega) (by omega) (by omega), u3 k hk2, hgo]
            · rw [hfr _ (by omega) (by omega) (by omega) (by omega), c2 (by omega) k hk2]
          · rw [hfr _ (by omega) (by omega) (by omega) (by omega), c3 (by omega) k hk2]
          · by_cases c : p = q + 1
            · subst c
              intro k hk2
              exact v3 k hk2
            · exact sF_fr (c4 (by omega)) (fun b r1 r2 => hfr b (by omega) (by omega) (by omega) (by omega))
          · rw [hfr _ (by omega) (by omega) (by omega) (by omega), hfr _ (by omega) (by omega) (by omega) (by omega), hfr _ (by omega) (by omega) (by omega) (by omega)]
            exact c5 (by omega) k hk2
      · refine ⟨a2, fun p hp => ?_⟩
        obtain ⟨c1, c2, c3⟩ := a3 p hp
        refine ⟨c1, fun r => by omega, fun _ => c2, fun r k hk2 => ?_, fun _ => c3⟩
        have e : p = 0 := by omega
        subst e
        exact c3 k hk2
    · rintro n w ⟨g1, -⟩
      show f22_19 _ (n + 1) w (nI (dn D)) = _
      rw [f22_19, g1 39 (by omega), z39, dle (by omega) (by omega), decide_eq_true (Nat.le_refl _), cond_true]
    · rintro n i w hi ⟨g1, g2⟩
      have hw : hC w 2 D := hC_fr hC0 (g1 2 (by omega)) (g1 3 (by omega)) (g1 4 (by omega))
      obtain ⟨M1, M2, M3, M4, M5, s1, s2, s3, s4, s5, s6, s7, s8, s9, s10⟩ := sv1 hw hk (show i < 6 by omega)
      refine ⟨M5, ?_, fun b hb => by rw [s7 b (by omega), g1 b hb], fun p hp => ?_⟩
      · show f22_19 _ (n + 1) w (nI i) = f22_19 _ n M5 (nI (i + 1))
        rw [f22_19, g1 39 (by omega), z39, dle (by omega) (by omega), decide_eq_false (by omega), cond_false, inb6 (show i < 6 by omega), gd_t, cl_s (show i < 2 ^ 31 by omega), hw.2.1, s1, bd_s, gd_t, s2, bd_s, s3, bd_s, gd_t, gd_t, s4, bd_s, gd_t, s5, bd_s, gd_t, s6, bd_s, nI_1]
      · by_cases c : p = i
        · subst c
          exact ⟨s8, s9, s10⟩
        · obtain ⟨c1, c2, c3⟩ := g2 p (by omega)
          have hfr : ∀ b, b < 52 + 10 * p → M5 b = w b := fun b hb => s7 b (by omega)
          refine ⟨sH_fr c1 (fun b _ r => hfr b (by omega)), fun k hk2 => by rw [hfr _ (by omega)]; exact c2 k hk2, fun k hk2 => ?_⟩
          rw [hfr _ (by omega), hfr _ (by omega), hfr _ (by omega)]
          exact c3 k hk2
  · rw [decide_eq_false (by rw [h0]; decide), cond_false]
    exact ⟨M, rfl, fun _ _ => rfl, h0, h1⟩
