/-! ===== the tree: its knots, the one side ===== -/
def rt (K : Nat → Nat → Nat) (o : Nat → Nat) (n d : Nat) : Int32 := if n = 0 then -1 else nI (sr (K d) o n (n / 2))
def rgt (K : Nat → Nat → Nat) (o : Nat → Nat) (n d : Nat) : Nat → Nat := fun i => sr (K d) o n (n / 2 + 1 + i)
/-- left, right and depth hold the tree over o 0 .. o (n - 1) at depth d -/
def isT (K : Nat → Nat → Nat) (L R E : Nat → Int32) : Nat → (Nat → Nat) → Nat → Nat → Prop
  | 0, _, _, _ => True
  | q + 1, o, n, d => n = 0 ∨ (L (sr (K d) o n (n / 2)) = rt K (sr (K d) o n) (n / 2) (d + 1) ∧ R (sr (K d) o n (n / 2)) = rt K (rgt K o n d) (n - n / 2 - 1) (d + 1) ∧ E (sr (K d) o n (n / 2)) = nI d ∧ isT K L R E q (sr (K d) o n) (n / 2) (d + 1) ∧ isT K L R E q (rgt K o n d) (n - n / 2 - 1) (d + 1))
theorem isT_0 (K : Nat → Nat → Nat) (L R E : Nat → Int32) (q : Nat) (o : Nat → Nat) (d : Nat) : isT K L R E q o 0 d := by
  cases q
  · trivial
  · exact Or.inl rfl
theorem isT_fr {K : Nat → Nat → Nat} {L R E L' R' E' : Nat → Int32} : ∀ (q : Nat) (o : Nat → Nat) (n d : Nat), (∀ i, i < n → L' (o i) = L (o i) ∧ R' (o i) = R (o i) ∧ E' (o i) = E (o i)) → isT K L R E q o n d → isT K L' R' E' q o n d
  | 0, _, _, _, _, _ => trivial
  | q + 1, o, n, d, hf, h => by
    rcases h with h | ⟨h1, h2, h3, h4, h5⟩
    · exact Or.inl h
    · by_cases hn : n = 0
      · exact Or.inl hn
      · have hs : ∀ i, i < n → L' (sr (K d) o n i) = L (sr (K d) o n i) ∧ R' (sr (K d) o n i) = R (sr (K d) o n i) ∧ E' (sr (K d) o n i) = E (sr (K d) o n i) := fun i hi => by
          obtain ⟨j, a1, a2⟩ := sr_mem (K d) o n i hi
          rw [a2]
          exact hf j a1
        obtain ⟨m1, m2, m3⟩ := hs (n / 2) (by omega)
        refine Or.inr ⟨by rw [m1, h1], by rw [m2, h2], by rw [m3, h3], isT_fr q _ _ _ (fun i hi => hs i (by omega)) h4, isT_fr q _ _ _ (fun i hi => hs _ (by omega)) h5⟩
theorem isT_same {K : Nat → Nat → Nat} {L R E L' R' E' : Nat → Int32} : ∀ (q : Nat) (o : Nat → Nat) (n d : Nat), n ≤ q → isT K L R E q o n d → isT K L' R' E' q o n d → ∀ i, i < n → L' (o i) = L (o i) ∧ R' (o i) = R (o i) ∧ E' (o i) = E (o i)
  | 0, _, _, _, hq, _, _, i, hi => by omega
  | q + 1, o, n, d, hq, h, h', i, hi => by
    rcases h with h | ⟨h1, h2, h3, h4, h5⟩
    · omega
    rcases h' with h' | ⟨g1, g2, g3, g4, g5⟩
    · omega
    obtain ⟨j, a1, a2⟩ := sr_mem' (K d) o n i hi
    rw [← a2]
    rcases Nat.lt_trichotomy j (n / 2) with c | c | c
    · exact isT_same q _ _ _ (by omega) h4 g4 j c
    · rw [c]
      exact ⟨by rw [h1, g1], by rw [h2, g2], by rw [h3, g3]⟩
    · have := isT_same q _ _ _ (by omega) h5 g5 (j - (n / 2 + 1)) (by omega)
      unfold rgt at this
      rw [show n / 2 + 1 + (j - (n / 2 + 1)) = j by omega] at this
      exact this
theorem isT_up (K : Nat → Nat → Nat) (L R E : Nat → Int32) : ∀ (q : Nat) (o : Nat → Nat) (n d q' : Nat), isT K L R E q o n d → n ≤ q → n ≤ q' → isT K L R E q' o n d
  | 0, o, n, d, q', _, h2, _ => by
    have e : n = 0 := by omega
    subst e
    exact isT_0 _ _ _ _ _ _ _
  | q + 1, o, n, d, 0, _, _, _ => trivial
  | q + 1, o, n, d, q' + 1, h, h2, h3 => by
    rcases h with h | ⟨h1, h4, h5, h6, h7⟩
    · exact Or.inl h
    · by_cases hn : n = 0
      · exact Or.inl hn
      · exact Or.inr ⟨h1, h4, h5, isT_up K L R E q _ _ _ q' h6 (by omega) (by omega), isT_up K L R E q _ _ _ q' h7 (by omega) (by omega)⟩
/-- the greatest depth and one, over some, and a number that stood ahead -/
def isHt (E : Nat → Int32) (o : Nat → Nat) (n H H' : Nat) : Prop := H ≤ H' ∧ (∀ i, i < n → ∃ e, E (o i) = nI e ∧ e + 1 ≤ H') ∧ (H' = H ∨ ∃ i, i < n ∧ ∃ e, E (o i) = nI e ∧ e + 1 = H')
section
variable {D : hD}
theorem mid_s {f n : Nat} (h : f + n ≤ 24) : nI f + (nI (f + n) - nI f) / 2 = nI (f + n / 2) := by
  rw [pk_sub (by omega), show f + n - f = n by omega]
  show nI f + nI n / nI 2 = _
  rw [pk_div (by omega) (by omega) (by omega), nI_add]
theorem f51_d (hk : hok D) {p : Nat} (hp : p < 6) : ∀ (q : Nat) (o : Nat → Nat) (n d f H : Nat) (M : jm_MM), n < q → XY M D p → gr D p o n → (∀ i, i < n → M 109 (f + i) = nI (o i)) → f + n ≤ 24 → d + n ≤ 24 → M 105 1 = nI H → H ≤ 24 →
    ∃ M', f51 q M (nI f) (nI (f + n)) (nI d) = some (rt (kx D p) o n d, M') ∧ isT (kx D p) (M' 106) (M' 107) (M' 108) n o n d ∧ (∀ g, (∀ i, i < n → o i ≠ g) → M' 106 g = M 106 g ∧ M' 107 g = M 107 g ∧ M' 108 g = M 108 g) ∧ (∀ j, j < f ∨ f + n ≤ j → M' 109 j = M 109 j) ∧ (∀ b, b < 105 ∨ 109 < b → M' b = M b) ∧ ∃ H', M' 105 1 = nI H' ∧ H' ≤ 24 ∧ isHt (M' 108) o n H H' := by
  intro q
  induction q with
  | zero => intro o n d f H M hn; omega
  | succ q ih =>
    intro o n d f H M hn hXY ho hs hf hd hH hH2
    rw [f51]
    by_cases h0 : n = 0
    · subst h0
      refine ⟨M, ?_, isT_0 _ _ _ _ _ _ _, fun _ _ => ⟨rfl, rfl, rfl⟩, fun _ _ => rfl, fun _ _ => rfl, H, hH, hH2, Nat.le_refl _, fun i hi => absurd hi (Nat.not_lt_zero i), Or.inl rfl⟩
      rw [dle (by omega) (by omega), decide_eq_true (by omega), cond_true]
      rfl
    · have e24 : decide (nI d < 24) = true := by
        show decide (nI d < nI 24) = true
        rw [dlt (by omega) (by omega)]
        exact decide_eq_true (by omega)
      obtain ⟨M1, a1, a2, a3, a4⟩ := f52_d hk hXY hp (show d < 2 ^ 31 by omega) (show 1 ≤ n by omega) hf ho hs
      have hg := gr_sr ho (kx D p d)
      obtain ⟨k, hkk⟩ : ∃ k, k = sr (kx D p d) o n (n / 2) := ⟨_, rfl⟩
      have hk24 : k < 24 := by rw [hkk]; exact (hg.1 (n / 2) (by omega)).1
      have ek : M1 109 (f + n / 2) = nI k := by rw [a3 (n / 2) (by omega), hkk]
      rw [dle (by omega) (by omega), decide_eq_false (by omega), cond_false, e24, cond_true, a1, bd_s, mid_s hf, inb24 (show f + n / 2 < 24 by omega), gd_t, cl_s (show f + n / 2 < 2 ^ 31 by omega), ek, inb24 hk24, gd_t, cl_s (show k < 2 ^ 31 by omega), nI_1, nI_1]
      obtain ⟨H1, hH1⟩ : ∃ H1, H1 = if H < d + 1 then d + 1 else H := ⟨_, rfl⟩
      have hH1b : H ≤ H1 ∧ d + 1 ≤ H1 ∧ H1 ≤ 24 ∧ (H1 = H ∨ H1 = d + 1) := by
        rw [hH1]
        split <;> omega
      have e105 : jm_up M1 108 k (nI d) 105 1 = nI H := by rw [jup_ne (by omega), a2 105 (by omega), hH]
      have eH1 : (if jm_up M1 108 k (nI d) 105 1 < nI (d + 1) then nI (d + 1) else jm_up M1 108 k (nI d) 105 1) = nI H1 := by
        rw [e105, hH1]
        by_cases c : H < d + 1
        · rw [if_pos c, if_pos (nI_lt c (by omega))]
        · rw [if_neg c, if_neg (nI_nlt (by omega) (by omega))]
      rw [eH1]
      obtain ⟨M3, hM3⟩ : ∃ M3, M3 = jm_up (jm_up M1 108 k (nI d)) 105 1 (nI H1) := ⟨_, rfl⟩
      rw [← hM3]
      have m3 : ∀ b, b ≠ 105 → b ≠ 108 → M3 b = M1 b := fun b b1 b2 => by rw [hM3, jup_ne b1, jup_ne b2]
      have m3k : ∀ g, M3 108 g = if g = k then nI d else M1 108 g := fun g => by
        rw [hM3, jup_ne (by omega)]
        by_cases c : g = k
        · rw [if_pos c, c, jup_eq]
        · rw [if_neg c, jup_nj c]
      have m3H : M3 105 1 = nI H1 := by rw [hM3, jup_eq]
      have knl : ∀ i, i < n / 2 → sr (kx D p d) o n i ≠ k := fun i hi => by rw [hkk]; exact hg.2 i (n / 2) (by omega) (by omega) (by omega)
      have knr : ∀ i, i < n - n / 2 - 1 → rgt (kx D p) o n d i ≠ k := fun i hi => by rw [hkk]; exact hg.2 (n / 2 + 1 + i) (n / 2) (by omega) (by omega) (by omega)
      have lnr : ∀ i j, i < n / 2 → j < n - n / 2 - 1 → rgt (kx D p) o n d j ≠ sr (kx D p d) o n i := fun i j hi hj => hg.2 (n / 2 + 1 + j) i (by omega) (by omega) (by omega)
      obtain ⟨M4, b1, b2, b3, b4, b5, H2, b6, b7, b8⟩ := ih (sr (kx D p d) o n) (n / 2) (d + 1) f H1 M3 (by omega) (fun g hg2 e => by rw [m3 110 (by omega) (by omega), m3 111 (by omega) (by omega), a2 110 (by omega), a2 111 (by omega)]; exact hXY g hg2 e) (gr_l hg (n / 2) (by omega)) (fun i hi => by rw [m3 109 (by omega) (by omega), a3 i (by omega)]) (by omega) (by omega) m3H hH1b.2.2.1
      rw [b1, bd_s, gd_t]
      obtain ⟨M5, hM5⟩ : ∃ M5, M5 = jm_up M4 106 k (rt (kx D p) (sr (kx D p d) o n) (n / 2) (d + 1)) := ⟨_, rfl⟩
      show ∃ M', jm_bd (f51 q (jm_up M4 106 k (rt (kx D p) (sr (kx D p d) o n) (n / 2) (d + 1))) (nI (f + n / 2 + 1)) (nI (f + n)) (nI (d + 1))) _ = _ ∧ _
      rw [← hM5]
      have m5 : ∀ b, b ≠ 106 → M5 b = M4 b := fun b hb => by rw [hM5, jup_ne hb]
      have m5k : ∀ g, M5 106 g = if g = k then rt (kx D p) (sr (kx D p d) o n) (n / 2) (d + 1) else M4 106 g := fun g => by
        rw [hM5]
        by_cases c : g = k
        · rw [if_pos c, c, jup_eq]
        · rw [if_neg c, jup_nj c]
      have hr : gr D p (rgt (kx D p) o n d) (n - n / 2 - 1) := gr_sub hg (n / 2 + 1) (n - n / 2 - 1) (by omega)
      obtain ⟨M6, c1, c2, c3, c4, c5, H3, c6, c7, c8⟩ := ih (rgt (kx D p) o n d) (n - n / 2 - 1) (d + 1) (f + n / 2 + 1) H2 M5 (by omega) (fun g hg2 e => by rw [m5 110 (by omega), m5 111 (by omega), b5 110 (by omega), b5 111 (by omega), m3 110 (by omega) (by omega), m3 111 (by omega) (by omega), a2 110 (by omega), a2 111 (by omega)]; exact hXY g hg2 e) hr (fun i hi => by
        rw [m5 109 (by omega), b4 _ (by omega), m3 109 (by omega) (by omega), show f + n / 2 + 1 + i = f + (n / 2 + 1 + i) by omega, a3 _ (by omega)]
        rfl) (by omega) (by omega) (by rw [m5 105 (by omega), b6]) b7
      rw [show f + n / 2 + 1 + (n - n / 2 - 1) = f + n by omega] at c1 c4
      rw [c1, bd_s, gd_t]
      obtain ⟨M7, hM7⟩ : ∃ M7, M7 = jm_up M6 107 k (rt (kx D p) (rgt (kx D p) o n d) (n - n / 2 - 1) (d + 1)) := ⟨_, rfl⟩
      refine ⟨M7, ?_, ?_, fun g hgn => ?_, fun j hj => ?_, fun b hb => ?_, H3, ?_, c7, ?_⟩
      · rw [hM7, show rt (kx D p) o n d = nI k by unfold rt; rw [if_neg h0, hkk]]
      · obtain ⟨m, rfl⟩ : ∃ m, n = m + 1 := ⟨n - 1, by omega⟩
        obtain ⟨r1, r2, r3⟩ := c3 k knr
        obtain ⟨l1, l2, l3⟩ := b3 k knl
        have m7 : ∀ b, b ≠ 107 → M7 b = M6 b := fun b hb => by rw [hM7, jup_ne hb]
        have m7k : ∀ g, M7 107 g = if g = k then rt (kx D p) (rgt (kx D p) o (m + 1) d) (m + 1 - (m + 1) / 2 - 1) (d + 1) else M6 107 g := fun g => by
          rw [hM7]
          by_cases c : g = k
          · rw [if_pos c, c, jup_eq]
          · rw [if_neg c, jup_nj c]
        refine Or.inr ⟨?_, ?_, ?_, ?_, ?_⟩
        · rw [← hkk, m7 106 (by omega), r1, m5k, if_pos rfl]
        · rw [← hkk, m7k, if_pos rfl]
        · rw [← hkk, m7 108 (by omega), r3, m5 108 (by omega), l3, m3k, if_pos rfl]
        · have t1 : isT (kx D p) (M7 106) (M7 107) (M7 108) ((m + 1) / 2) (sr (kx D p d) o (m + 1)) ((m + 1) / 2) (d + 1) := by
            refine isT_fr _ _ _ _ (fun i hi => ?_) b2
            obtain ⟨s1, s2, s3⟩ := c3 (sr (kx D p d) o (m + 1) i) (fun j hj => lnr i j hi hj)
            refine ⟨?_, ?_, ?_⟩
            · rw [m7 106 (by omega), s1, m5k, if_neg (knl i hi)]
            · rw [m7k, if_neg (knl i hi), s2, m5 107 (by omega)]
            · rw [m7 108 (by omega), s3, m5 108 (by omega)]
          exact isT_up _ _ _ _ _ _ _ _ _ t1 (Nat.le_refl _) (by omega)
        · have t1 : isT (kx D p) (M7 106) (M7 107) (M7 108) (m + 1 - (m + 1) / 2 - 1) (rgt (kx D p) o (m + 1) d) (m + 1 - (m + 1) / 2 - 1) (d + 1) := by
            refine isT_fr _ _ _ _ (fun i hi => ?_) c2
            refine ⟨by rw [m7 106 (by omega)], by rw [m7k, if_neg (knr i hi)], by rw [m7 108 (by omega)]⟩
          exact isT_up _ _ _ _ _ _ _ _ _ t1 (Nat.le_refl _) (by omega)
      · have g1 : g ≠ k := fun e => by
          obtain ⟨j, j1, j2⟩ := sr_mem (kx D p d) o n (n / 2) (by omega)
          exact hgn j j1 (by rw [← j2, ← hkk, e])
        have g2 : ∀ i, i < n / 2 → sr (kx D p d) o n i ≠ g := fun i hi e => by
          obtain ⟨j, j1, j2⟩ := sr_mem (kx D p d) o n i (by omega)
          exact hgn j j1 (by rw [← j2, e])
        have g3 : ∀ i, i < n - n / 2 - 1 → rgt (kx D p) o n d i ≠ g := fun i hi e => by
          obtain ⟨j, j1, j2⟩ := sr_mem (kx D p d) o n (n / 2 + 1 + i) (by omega)
          exact hgn j j1 (by rw [← j2]; exact e)
        obtain ⟨r1, r2, r3⟩ := c3 g g3
        obtain ⟨l1, l2, l3⟩ := b3 g g2
        refine ⟨?_, ?_, ?_⟩
        · rw [hM7, jup_ne (by omega), r1, m5k, if_neg g1, l1, m3 106 (by omega) (by omega), a2 106 (by omega)]
        · rw [hM7, jup_nj g1, r2, m5 107 (by omega), l2, m3 107 (by omega) (by omega), a2 107 (by omega)]
        · rw [hM7, jup_ne (by omega), r3, m5 108 (by omega), l3, m3k, if_neg g1, a2 108 (by omega)]
      · rw [hM7, jup_ne (by omega), c4 j (by omega), m5 109 (by omega), b4 j (by omega), m3 109 (by omega) (by omega), a4 j hj]
      · rw [hM7, jup_ne (by omega), c5 b hb, m5 b (by omega), b5 b hb, m3 b (by omega) (by omega), a2 b (by omega)]
      · rw [hM7, jup_ne (by omega), c6]
      · obtain ⟨u1, u2, u3⟩ := b8
        obtain ⟨v1, v2, v3⟩ := c8
        have e7 : ∀ g, M7 108 g = M6 108 g := fun g => by rw [hM7, jup_ne (by omega)]
        obtain ⟨r1, r2, r3⟩ := c3 k knr
        obtain ⟨l1, l2, l3⟩ := b3 k knl
        have ek7 : M7 108 k = nI d := by rw [e7, r3, m5 108 (by omega), l3, m3k, if_pos rfl]
        have el7 : ∀ i, i < n / 2 → M7 108 (sr (kx D p d) o n i) = M4 108 (sr (kx D p d) o n i) := fun i hi => by
          rw [e7, (c3 _ (fun j hj => lnr i j hi hj)).2.2, m5 108 (by omega)]
        refine ⟨by omega, fun i hi => ?_, ?_⟩
        · obtain ⟨j, j1, j2⟩ := sr_mem' (kx D p d) o n i hi
          rw [← j2]
          rcases Nat.lt_trichotomy j (n / 2) with c | c | c
          · obtain ⟨e, e1, e2⟩ := u2 j c
            exact ⟨e, by rw [el7 j c, e1], by omega⟩
          · exact ⟨d, by rw [c, ← hkk, ek7], by omega⟩
          · obtain ⟨e, e1, e2⟩ := v2 (j - (n / 2 + 1)) (by omega)
            refine ⟨e, ?_, e2⟩
            unfold rgt at e1
            rw [show n / 2 + 1 + (j - (n / 2 + 1)) = j by omega] at e1
            rw [e7, e1]
        · have mem : ∀ j, j < n → ∃ i, i < n ∧ o i = sr (kx D p d) o n j := fun j hj => by
            obtain ⟨i, i1, i2⟩ := sr_mem (kx D p d) o n j hj
            exact ⟨i, i1, i2.symm⟩
          rcases v3 with w | ⟨j, w1, e, w2, w3⟩
          · rcases u3 with w' | ⟨j, w1, e, w2, w3⟩
            · rcases hH1b.2.2.2 with w'' | w''
              · exact Or.inl (by omega)
              · obtain ⟨i, i1, i2⟩ := mem (n / 2) (by omega)
                exact Or.inr ⟨i, i1, d, by rw [i2, ← hkk, ek7], by omega⟩
            · obtain ⟨i, i1, i2⟩ := mem j (by omega)
              exact Or.inr ⟨i, i1, e, by rw [i2, el7 j w1, w2], by omega⟩
          · obtain ⟨i, i1, i2⟩ := mem (n / 2 + 1 + j) (by omega)
            exact Or.inr ⟨i, i1, e, by rw [i2, e7]; exact w2, w3⟩
/-- the grains of a picture, rising -/
def en (D : hD) (p : Nat) : Nat → Nat → Nat
  | 0 => fun _ => 0
  | i + 1 => if di D p i then (fun j => if j = fb_ct (di D p) i then i else en D p i j) else en D p i
theorem en_in (D : hD) (p : Nat) : ∀ i j, j < fb_ct (di D p) i → en D p i j < i ∧ di D p (en D p i j) = true
  | 0, j, h => absurd h (Nat.not_lt_zero j)
  | i + 1, j, h => by
    rw [fb_ct_succ] at h
    rw [en]
    cases e : di D p i
    · rw [e] at h
      rw [if_neg (by simp)]
      obtain ⟨h1, h2⟩ := en_in D p i j (by simpa using h)
      exact ⟨by omega, h2⟩
    · rw [e] at h
      rw [if_pos rfl]
      have h : j < fb_ct (di D p) i + 1 := h
      show (if j = fb_ct (di D p) i then i else en D p i j) < i + 1 ∧ di D p (if j = fb_ct (di D p) i then i else en D p i j) = true
      by_cases c : j = fb_ct (di D p) i
      · rw [if_pos c]
        exact ⟨by omega, e⟩
      · rw [if_neg c]
        obtain ⟨h1, h2⟩ := en_in D p i j (by omega)
        exact ⟨by omega, h2⟩
theorem en_inj (D : hD) (p : Nat) : ∀ i, injOn (en D p i) (fb_ct (di D p) i)
  | 0 => fun j _ h => absurd h (Nat.not_lt_zero j)
  | i + 1 => by
    have ih := en_inj D p i
    intro j k hj hk hne
    rw [fb_ct_succ] at hj hk
    rw [en]
    cases e : di D p i
    · rw [e] at hj hk
      rw [if_neg (by simp)]
      exact ih j k (by simpa using hj) (by simpa using hk) hne
    · rw [e] at hj hk
      rw [if_pos rfl]
      have hj : j < fb_ct (di D p) i + 1 := hj
      have hk : k < fb_ct (di D p) i + 1 := hk
      show (if j = fb_ct (di D p) i then i else en D p i j) ≠ (if k = fb_ct (di D p) i then i else en D p i k)
      by_cases c : j = fb_ct (di D p) i
      · rw [if_pos c, if_neg (by omega)]
        have := (en_in D p i k (by omega)).1
        omega
      · rw [if_neg c]
        by_cases c2 : k = fb_ct (di D p) i
        · rw [if_pos c2]
          have := (en_in D p i j (by omega)).1
          omega
        · rw [if_neg c2]
          exact ih j k (by omega) (by omega) hne
theorem en_on (D : hD) (p : Nat) : ∀ i g, g < i → di D p g = true → ∃ j, j < fb_ct (di D p) i ∧ en D p i j = g
  | 0, g, h, _ => absurd h (Nat.not_lt_zero g)
  | i + 1, g, h, hd => by
    rw [fb_ct_succ, en]
    by_cases c : g = i
    · subst c
      rw [hd, if_pos rfl]
      exact ⟨fb_ct (di D p) g, Nat.lt_succ_self _, by simp⟩
    · obtain ⟨j, h1, h2⟩ := en_on D p i g (by omega) hd
      cases e : di D p i
      · rw [if_neg (by simp)]
        exact ⟨j, by simpa using h1, h2⟩
      · rw [if_pos rfl]
        refine ⟨j, Nat.lt_succ_of_lt h1, ?_⟩
        show (if j = fb_ct (di D p) i then i else en D p i j) = g
        rw [if_neg (by omega), h2]
def eo (D : hD) (p : Nat) : Nat → Nat := en D p 24
def ec (D : hD) (p : Nat) : Nat := fb_ct (di D p) 24
theorem ec_le (D : hD) (p : Nat) : ec D p ≤ 24 := fb_ct_le _ 24
theorem eo_gr (D : hD) (p : Nat) : gr D p (eo D p) (ec D p) := ⟨fun i hi => en_in D p 24 i hi, en_inj D p 24⟩
/-- the tree stands in three rows -/
def isTr (D : hD) (p : Nat) (L R E : Nat → Int32) : Prop := isT (kx D p) L R E (ec D p) (eo D p) (ec D p) 0 ∧ ∀ g, g < 24 → di D p g = false → L g = -1 ∧ R g = -1 ∧ E g = -1
theorem isTr_same {p : Nat} {L R E L' R' E' : Nat → Int32} (h : isTr D p L R E) (h' : isTr D p L' R' E') {g : Nat} (hg : g < 24) : L' g = L g ∧ R' g = R g ∧ E' g = E g := by
  cases e : di D p g
  · obtain ⟨a1, a2, a3⟩ := h.2 g hg e
    obtain ⟨b1, b2, b3⟩ := h'.2 g hg e
    exact ⟨by rw [a1, b1], by rw [a2, b2], by rw [a3, b3]⟩
  · obtain ⟨j, h1, h2⟩ := en_on D p 24 g hg e
    have := isT_same _ _ _ _ (Nat.le_refl _) h.1 h'.1 j h1
    unfold eo at this
    rw [h2] at this
    exact this
theorem f50_d {M : jm_MM} (h : hC M 2 D) (hk : hok D) {p : Nat} (hp : p < 6) :
    ∃ M', f50 M (nI p) = some M' ∧ (∀ b, b < 105 ∨ 111 < b → M' b = M b) ∧ XY M' D p ∧ M' 105 0 = rt (kx D p) (eo D p) (ec D p) 0 ∧ isTr D p (M' 106) (M' 107) (M' 108) ∧ ∃ H, M' 105 1 = nI H ∧ H ≤ 24 ∧ isHt (M' 108) (eo D p) (ec D p) 0 H := by
  obtain ⟨M1, a1, a2, a3⟩ := fil M 106 24 (-1)
  obtain ⟨M2, b1, b2, b3⟩ := fil M1 107 24 (-1)
  obtain ⟨M3, c1, c2, c3⟩ := fil M2 108 24 (-1)
  have hec := ec_le D p
  unfold f50
  rw [a1, bd_s, b1, bd_s, c1, bd_s]
  have hx := lpI (fun n (a : jm_MM × Int32) u => f50_34 (fun Me18 ve19 => jm_bd (f51 30 Me18 0 ve19 0) (fun q20 => some (jm_up q20.2 105 0 q20.1))) n a.1 (nI p) a.2 u) (fun a => jm_bd (f51 30 a.1 0 a.2 0) (fun q20 => some (jm_up q20.2 105 0 q20.1)))
    (fun i a => a.2 = nI (fb_ct (di D p) i) ∧ (∀ b, b < 105 ∨ 111 < b → a.1 b = M b) ∧ a.1 105 1 = 0 ∧ (∀ g, g < 24 → a.1 106 g = -1 ∧ a.1 107 g = -1 ∧ a.1 108 g = -1) ∧ (∀ g, g < i → di D p g = true → a.1 110 g = nI (dx D p g) ∧ a.1 111 g = nI (dy D p g)) ∧ ∀ j, j < fb_ct (di D p) i → a.1 109 j = nI (en D p i j)) 24 (by omega) ?_ ?_ (jm_up M3 105 1 0, 0) ?_
  · obtain ⟨⟨w, v⟩, q1, q2, q3, q4, q5, q6, q7⟩ := hx
    simp only at q1 q2 q3 q4 q5 q6 q7
    obtain ⟨M', r1, r2, r3, r4, r5, H, r6, r7, r8⟩ := f51_d hk hp 30 (eo D p) (ec D p) 0 0 0 w (by omega) q6 (eo_gr D p) (fun i hi => by rw [Nat.zero_add]; exact q7 i hi) (by omega) (by omega) (by rw [q4, nI_0]) (by omega)
    rw [Nat.zero_add, nI_0] at r1
    rw [q1, q2]
    show ∃ M', jm_bd (f51 30 w 0 (nI (ec D p)) 0) _ = some M' ∧ _
    rw [r1, bd_s]
    refine ⟨jm_up M' 105 0 (rt (kx D p) (eo D p) (ec D p) 0), rfl, fun b hb => ?_, fun g hg e => ?_, jup_eq, ⟨?_, fun g hg e => ?_⟩, H, ?_, r7, ?_⟩
    · rw [jup_ne (by omega), r5 b (by omega), q3 b hb]
    · rw [jup_ne (by omega), jup_ne (by omega), r5 110 (by omega), r5 111 (by omega)]
      exact q6 g hg e
    · rw [jup_ne (by omega), jup_ne (by omega), jup_ne (by omega)]
      exact r2
    · rw [jup_ne (by omega), jup_ne (by omega), jup_ne (by omega)]
      obtain ⟨s1, s2, s3⟩ := r3 g (fun i hi e2 => by
        have := (en_in D p 24 i hi).2
        rw [show en D p 24 i = g from e2, e] at this
        cases this)
      rw [s1, s2, s3]
      exact q5 g hg
    · rw [jup_nj (by omega), r6]
    · rw [jup_ne (by omega)]
      exact r8
  · rintro n ⟨w, v⟩ _
    show f50_34 _ (n + 1) w (nI p) v (nI 24) = _
    rw [f50_34, c24e, cond_true]
  · rintro n i ⟨w, v⟩ hi ⟨q2, q3, q4, q5, q6, q7⟩
    simp only at q2 q3 q4 q5 q6 q7
    have hw : hC w 2 D := hC_fr h (q3 2 (by omega)) (q3 3 (by omega)) (q3 4 (by omega))
    have hct := fb_ct_le (di D p) i
    cases e : di D p i
    · refine ⟨(w, v), ?_, ?_, q3, q4, q5, fun g hg e2 => ?_, fun j hj => ?_⟩
      · show f50_34 _ (n + 1) w (nI p) v (nI i) = f50_34 _ n w (nI p) v (nI (i + 1))
        rw [f50_34, c24 hi, cond_false, f14_d hw hp hi hk, bd_s, bI_0, e, nI_1]
        rfl
      · rw [fb_ct_succ, e]
        exact q2
      · by_cases c : g = i
        · rw [c, e] at e2
          cases e2
        · exact q6 g (by omega) e2
      · rw [fb_ct_succ, e] at hj
        rw [en, e, if_neg (by simp)]
        exact q7 j (by simpa using hj)
    · obtain ⟨w1, hw1⟩ : ∃ w1, w1 = jm_up w 110 i (nI (dx D p i)) := ⟨_, rfl⟩
      have hC1 : hC w1 2 D := hC_fr hw (by rw [hw1, jup_ne (by omega)]) (by rw [hw1, jup_ne (by omega)]) (by rw [hw1, jup_ne (by omega)])
      refine ⟨(jm_up (jm_up w1 111 i (nI (dy D p i))) 109 (fb_ct (di D p) i) (nI i), nI (fb_ct (di D p) i + 1)), ?_, ?_, fun b hb => ?_, ?_, fun g hg => ?_, fun g hg e2 => ?_, fun j hj => ?_⟩
      · show f50_34 _ (n + 1) w (nI p) v (nI i) = f50_34 _ n _ (nI p) _ (nI (i + 1))
        rw [f50_34, c24 hi, cond_false, f14_d hw hp hi hk, bd_s, bI_0, e, f15_d hw hp hi hk e, bd_s, inb24 hi, gd_t, cl_s (by omega), ← hw1, f16_d hC1 hp hi hk e, bd_s, gd_t, q2, inb24 (by omega), gd_t, cl_s (by omega), nI_1, nI_1]
        rfl
      · rw [fb_ct_succ, e]
        rfl
      · simp only
        rw [jup_ne (by omega), jup_ne (by omega), hw1, jup_ne (by omega), q3 b hb]
      · simp only
        rw [jup_ne (by omega), jup_ne (by omega), hw1, jup_ne (by omega), q4]
      · simp only
        rw [jup_ne (by omega), jup_ne (by omega), jup_ne (by omega), jup_ne (by omega), jup_ne (by omega), jup_ne (by omega), hw1, jup_ne (by omega), jup_ne (by omega), jup_ne (by omega)]
        exact q5 g hg
      · simp only
        rw [jup_ne (by omega), jup_ne (by omega), jup_ne (by omega)]
        by_cases c : g = i
        · subst c
          rw [jup_eq, hw1, jup_eq]
          exact ⟨rfl, rfl⟩
        · rw [jup_nj c, hw1, jup_nj c, jup_ne (by omega)]
          exact q6 g (by omega) e2
      · rw [fb_ct_succ, e] at hj
        have hj : j < fb_ct (di D p) i + 1 := hj
        rw [en, e, if_pos rfl]
        show jm_up (jm_up w1 111 i (nI (dy D p i))) 109 (fb_ct (di D p) i) (nI i) 109 j = nI (if j = fb_ct (di D p) i then i else en D p i j)
        by_cases c : j = fb_ct (di D p) i
        · rw [c, jup_eq, if_pos rfl]
        · rw [jup_nj c, jup_ne (by omega), hw1, jup_ne (by omega), if_neg c, q7 j (by omega)]
  · refine ⟨nI_0.symm, fun b hb => ?_, (by show jm_up M3 105 1 0 105 1 = 0; rw [jup_eq]), fun g hg => ?_, fun g hg => absurd hg (Nat.not_lt_zero g), fun j hj => absurd hj (Nat.not_lt_zero j)⟩
    · show jm_up M3 105 1 0 b = M b
      rw [jup_ne (by omega), c2 b (by omega), b2 b (by omega), a2 b (by omega)]
    · show jm_up M3 105 1 0 106 g = -1 ∧ jm_up M3 105 1 0 107 g = -1 ∧ jm_up M3 105 1 0 108 g = -1
      rw [jup_ne (by omega), jup_ne (by omega), jup_ne (by omega), c3 g hg, c2 106 (by omega), b2 106 (by omega), a3 g hg, c2 107 (by omega), b3 g hg]
      exact ⟨rfl, rfl, rfl⟩
end
