/-! ===== how many bits, the quick way ===== -/
theorem and8 {a m : Nat} (b n : Nat) (ha : a < 256) (hm : m < 256) : (256 * b + a) &&& (256 * n + m) = 256 * (b &&& n) + (a &&& m) := by
  have h1 : (a &&& m) < 2 ^ 8 := Nat.and_lt_two_pow a hm
  apply Nat.eq_of_testBit_eq
  intro i
  show ((2 ^ 8 * b + a) &&& (2 ^ 8 * n + m)).testBit i = (2 ^ 8 * (b &&& n) + (a &&& m)).testBit i
  rw [Nat.testBit_and, Nat.testBit_two_pow_mul_add b (show a < 2 ^ 8 from ha), Nat.testBit_two_pow_mul_add n (show m < 2 ^ 8 from hm), Nat.testBit_two_pow_mul_add (b &&& n) h1]
  by_cases c : i < 8
  · rw [if_pos c, if_pos c, if_pos c, Nat.testBit_and]
  · rw [if_neg c, if_neg c, if_neg c, Nat.testBit_and]
def pa (a : Nat) : Nat := a - ((a / 2) &&& 85)
def pb (a : Nat) : Nat := (a &&& 51) + ((a / 4) &&& 51)
theorem pc_1 : ∀ a, a < 256 → ∀ e, e < 2 → ((a / 2 + 128 * e) &&& 85) = ((a / 2) &&& 85) := by decide +kernel
theorem pc_1l : ∀ a, a < 256 → ((a / 2) &&& 85) ≤ a ∧ a - ((a / 2) &&& 85) < 256 := by decide +kernel
theorem pc_2 : ∀ a, a < 256 → ∀ e, e < 4 → ((a / 4 + 64 * e) &&& 51) = ((a / 4) &&& 51) := by decide +kernel
theorem pc_3 : ∀ a, a < 256 → pb (pa a) ≤ 68 ∧ pb (pa a) % 16 ≤ 4 ∧ (pb (pa a) + pb (pa a) / 16) % 16 = fb_ct (fun i => a.testBit i) 8 ∧ fb_ct (fun i => a.testBit i) 8 ≤ 8 := by decide +kernel
theorem pc_4 : ∀ a, a < 256 → (a &&& 15) = a % 16 := by decide +kernel
theorem pc_c : ∀ c, c < 256 → ((c / 2) &&& 21845) = ((c / 2) &&& 85) ∧ (c &&& 13107) = (c &&& 51) ∧ ((c / 4) &&& 13107) = ((c / 4) &&& 51) := by decide +kernel
theorem pc_c4 : ∀ a, a < 136 → (a &&& 3855) = a % 16 := by decide +kernel
theorem pc_m {a b c m k : Nat} (n : Nat) (ha : a < 256) (hb : b < 256) (hm : m < 256) (hk : k < 256) : (256 * (256 * c + b) + a) &&& (256 * (256 * n + m) + k) = 256 * (256 * (c &&& n) + (b &&& m)) + (a &&& k) := by
  rw [and8 _ _ ha hk, and8 _ _ hb hm]
theorem bits_X {x : Int32} (hx : sm24 x) : ∃ a b c, a < 256 ∧ b < 256 ∧ c < 256 ∧ x = nI (256 * (256 * c + b) + a) ∧ fb_ct (bt x) 24 = fb_ct (fun i => a.testBit i) 8 + fb_ct (fun i => b.testBit i) 8 + fb_ct (fun i => c.testBit i) 8 := by
  obtain ⟨X, hX⟩ : ∃ X, X = x.toBitVec.toNat := ⟨_, rfl⟩
  have hxX : x = nI X := by
    apply Int32.toBitVec_inj.mp
    show x.toBitVec = BitVec.ofNat 32 X
    apply BitVec.eq_of_toNat_eq
    rw [BitVec.toNat_ofNat, hX, Nat.mod_eq_of_lt x.toBitVec.isLt]
  have hbt : ∀ i, bt x i = X.testBit i := fun i => by rw [hX]; rfl
  have hlt : X < 2 ^ 24 := Nat.lt_pow_two_of_testBit X fun i hi => by rw [← hbt i]; exact hx i hi
  refine ⟨X % 256, X / 256 % 256, X / 65536, by omega, by omega, by omega, ?_, ?_⟩
  · rw [hxX]
    congr 1
    omega
  · have e0 : X = 2 ^ 8 * (X / 256) + X % 256 := by omega
    have e1 : X / 256 = 2 ^ 8 * (X / 65536) + X / 256 % 256 := by omega
    have g : ∀ (Y c a : Nat), a < 2 ^ 8 → Y = 2 ^ 8 * c + a → ∀ n, fb_ct (fun i => Y.testBit i) (8 + n) = fb_ct (fun i => a.testBit i) 8 + fb_ct (fun i => c.testBit i) n := by
      intro Y c a ha hY n
      rw [fb_ct_split]
      congr 1
      · refine fb_ct_cong fun k hk => ?_
        rw [hY, Nat.testBit_two_pow_mul_add c ha, if_pos hk]
      · refine fb_ct_cong fun k _ => ?_
        rw [hY, Nat.testBit_two_pow_mul_add c ha, if_neg (by omega), Nat.add_sub_cancel_left]
    have h1 := g X (X / 256) (X % 256) (by omega) e0 16
    have h2 := g (X / 256) (X / 65536) (X / 256 % 256) (by omega) e1 8
    have h3 : fb_ct (bt x) 24 = fb_ct (fun i => X.testBit i) 24 := fb_ct_cong fun k _ => hbt k
    rw [h3]
    have h1 : fb_ct (fun i => X.testBit i) 24 = _ := h1
    have h2 : fb_ct (fun i => (X / 256).testBit i) 16 = _ := h2
    rw [h1, h2, Nat.add_assoc]
def t1 (x : Int32) : Int32 := x - (((x.toUInt32 >>> (Int32.toUInt32 1 &&& Int32.toUInt32 31)).toInt32) &&& 1431655765)
def t2 (x : Int32) : Int32 := (x &&& 858993459) + (((x.toUInt32 >>> (Int32.toUInt32 2 &&& Int32.toUInt32 31)).toInt32) &&& 858993459)
def t3 (x : Int32) : Int32 := (x + ((x.toUInt32 >>> (Int32.toUInt32 4 &&& Int32.toUInt32 31)).toInt32)) &&& 252645135
def t4 (x : Int32) : Int32 := x + ((x.toUInt32 >>> (Int32.toUInt32 8 &&& Int32.toUInt32 31)).toInt32)
def t5 (x : Int32) : Int32 := x + ((x.toUInt32 >>> (Int32.toUInt32 16 &&& Int32.toUInt32 31)).toInt32)
theorem f164_t (M : jm_MM) (x : Int32) : f164 M x = some (t5 (t4 (t3 (t2 (t1 x)))) &&& 63) := rfl
theorem t1_s {a b c : Nat} (ha : a < 256) (hb : b < 256) (hc : c < 256) : t1 (nI (256 * (256 * c + b) + a)) = nI (256 * (256 * pa c + pa b) + pa a) := by
  unfold t1
  rw [pk_ushrN (by omega) 1 1 (by decide +kernel)]
  show nI (256 * (256 * c + b) + a) - (nI ((256 * (256 * c + b) + a) / 2 ^ 1) &&& nI (256 * (256 * 21845 + 85) + 85)) = _
  rw [fa_and, show (256 * (256 * c + b) + a) / 2 ^ 1 = 256 * (256 * (c / 2) + (b / 2 + 128 * (c % 2))) + (a / 2 + 128 * (b % 2)) by omega,
    pc_m 21845 (by omega) (by omega) (by omega) (by omega), pc_1 a ha _ (by omega), pc_1 b hb _ (by omega), (pc_c c hc).1]
  have h1 := pc_1l a ha
  have h2 := pc_1l b hb
  have h3 := pc_1l c hc
  rw [pk_sub (by omega)]
  unfold pa
  congr 1
  omega
theorem t2_s {a b c : Nat} (ha : a < 256) (hb : b < 256) (hc : c < 256) : t2 (nI (256 * (256 * c + b) + a)) = nI (256 * (256 * pb c + pb b) + pb a) := by
  unfold t2
  rw [pk_ushrN (by omega) 2 2 (by decide +kernel)]
  show (nI (256 * (256 * c + b) + a) &&& nI (256 * (256 * 13107 + 51) + 51)) + (nI ((256 * (256 * c + b) + a) / 2 ^ 2) &&& nI (256 * (256 * 13107 + 51) + 51)) = _
  rw [fa_and, fa_and, show (256 * (256 * c + b) + a) / 2 ^ 2 = 256 * (256 * (c / 4) + (b / 4 + 64 * (c % 4))) + (a / 4 + 64 * (b % 4)) by omega,
    pc_m 13107 (by omega) (by omega) (by omega) (by omega), pc_m 13107 (by omega) (by omega) (by omega) (by omega), pc_2 a ha _ (by omega), pc_2 b hb _ (by omega), (pc_c c hc).2.1, (pc_c c hc).2.2, nI_add]
  unfold pb
  congr 1
  omega
theorem t3_s {a b c : Nat} (ha : a ≤ 68) (hb : b ≤ 68) (hc : c ≤ 68) (hb2 : b % 16 ≤ 4) (hc2 : c % 16 ≤ 4) : t3 (nI (256 * (256 * c + b) + a)) = nI (256 * (256 * ((c + c / 16) % 16) + (b + b / 16) % 16) + (a + a / 16) % 16) := by
  unfold t3
  rw [pk_ushrN (by omega) 4 4 (by decide +kernel)]
  show (nI (256 * (256 * c + b) + a) + nI ((256 * (256 * c + b) + a) / 2 ^ 4)) &&& nI (256 * (256 * 3855 + 15) + 15) = _
  rw [nI_add, fa_and, show 256 * (256 * c + b) + a + (256 * (256 * c + b) + a) / 2 ^ 4 = 256 * (256 * (c + c / 16) + (b + b / 16 + 16 * (c % 16))) + (a + a / 16 + 16 * (b % 16)) by omega,
    pc_m 3855 (by omega) (by omega) (by omega) (by omega), pc_4 _ (by omega), pc_4 _ (by omega), pc_c4 _ (by omega), Nat.add_mul_mod_self_left, Nat.add_mul_mod_self_left]
theorem t5_s {a b c : Nat} (ha : a ≤ 8) (hb : b ≤ 8) (hc : c ≤ 8) : t5 (t4 (nI (256 * (256 * c + b) + a))) &&& 63 = nI (a + b + c) := by
  have e4 : t4 (nI (256 * (256 * c + b) + a)) = nI (65536 * c + (256 * (b + c) + (a + b))) := by
    unfold t4
    rw [pk_ushrN (by omega) 8 8 (by decide +kernel), nI_add, show (256 * (256 * c + b) + a) / 2 ^ 8 = 256 * c + b by omega]
    congr 1
    omega
  rw [e4]
  unfold t5
  rw [pk_ushrN (by omega) 16 16 (by decide +kernel), nI_add, show (65536 * c + (256 * (b + c) + (a + b))) / 2 ^ 16 = c by omega]
  show nI _ &&& nI (2 ^ 6 - 1) = _
  rw [fa_mask]
  congr 1
  omega
theorem f164_s (M : jm_MM) {x : Int32} (hx : sm24 x) : f164 M x = some (nI (fb_ct (bt x) 24)) := by
  obtain ⟨a, b, c, ha, hb, hc, e, e2⟩ := bits_X hx
  obtain ⟨a1, a2, a3, a4⟩ := pc_3 a ha
  obtain ⟨b1, b2, b3, b4⟩ := pc_3 b hb
  obtain ⟨c1, c2, c3, c4⟩ := pc_3 c hc
  have a5 : pa a < 256 := (pc_1l a ha).2
  have b5 : pa b < 256 := (pc_1l b hb).2
  have c5 : pa c < 256 := (pc_1l c hc).2
  rw [f164_t, e2, e, t1_s ha hb hc, t2_s a5 b5 c5, t3_s a1 b1 c1 b2 c2, a3, b3, c3, t5_s a4 b4 c4]
theorem f164_mk (M : jm_MM) (P : Nat → Bool) : f164 M (mk P) = some (nI (fb_ct P 24)) := by
  rw [f164_s M (sm_mk P), ct_mk]
theorem f95_mk (M : jm_MM) (P : Nat → Bool) : f95 M (mk P) = some (nI (fb_ct P 24)) := by
  rw [f95_s, ct_mk]
/-! ===== links, as the one side lays them ===== -/
def sL (D : hD) (p L g k : Nat) : Bool := di D p g && di D p k && lk D p L g k
theorem sL_sym (D : hD) (p L g k : Nat) : sL D p L g k = sL D p L k g := by
  unfold sL
  rw [lk_sym, Bool.and_comm (di D p g)]
theorem sL_irr (D : hD) (p L g : Nat) : sL D p L g g = false := by
  unfold sL
  rw [lk_irr, Bool.and_false]
def eL (D : hD) (p L G j g k : Nat) : Bool := sL D p L g k && (decide (g < G ∧ k < G) || decide (g = G ∧ k < j) || decide (k = G ∧ g < j))
theorem eL_iff {D : hD} {p L G j g k : Nat} : eL D p L G j g k = true ↔ sL D p L g k = true ∧ ((g < G ∧ k < G) ∨ (g = G ∧ k < j) ∨ (k = G ∧ g < j)) := by
  unfold eL
  rw [Bool.and_eq_true, Bool.or_eq_true, Bool.or_eq_true, decide_eq_true_eq, decide_eq_true_eq, decide_eq_true_eq, or_assoc]
theorem eL_old {D : hD} {p L G j : Nat} (h : sL D p L G j = false) (g k : Nat) : eL D p L G (j + 1) g k = eL D p L G j g k := by
  have n1 : sL D p L g k = true → ¬ (g = G ∧ k = j) := fun h1 ⟨a, b⟩ => by
    subst a b
    rw [h] at h1
    cases h1
  have n2 : sL D p L g k = true → ¬ (k = G ∧ g = j) := fun h1 ⟨a, b⟩ => by
    subst a b
    rw [sL_sym, h] at h1
    cases h1
  rw [Bool.eq_iff_iff, eL_iff, eL_iff]
  constructor
  · rintro ⟨h1, h2⟩
    have := n1 h1
    have := n2 h1
    exact ⟨h1, by omega⟩
  · rintro ⟨h1, h2⟩
    exact ⟨h1, by omega⟩
theorem eL_skip {D : hD} {p L G : Nat} (h : di D p G = false) (g k : Nat) : eL D p L (G + 1) 0 g k = eL D p L G 0 g k := by
  have n1 : sL D p L g k = true → ¬ g = G ∧ ¬ k = G := fun h1 => by
    unfold sL at h1
    rw [Bool.and_eq_true, Bool.and_eq_true] at h1
    constructor
    · intro e
      rw [e, h] at h1
      cases h1.1.1
    · intro e
      rw [e, h] at h1
      cases h1.1.2
  rw [Bool.eq_iff_iff, eL_iff, eL_iff]
  constructor
  · rintro ⟨h1, h2⟩
    have := n1 h1
    exact ⟨h1, by omega⟩
  · rintro ⟨h1, h2⟩
    exact ⟨h1, by omega⟩
theorem eL_next {D : hD} {p L G : Nat} (g k : Nat) : eL D p L (G + 1) 0 g k = eL D p L G G g k := by
  have n1 : sL D p L g k = true → ¬ (g = G ∧ k = G) := fun h1 ⟨a, b⟩ => by
    subst a b
    rw [sL_irr] at h1
    cases h1
  rw [Bool.eq_iff_iff, eL_iff, eL_iff]
  constructor
  · rintro ⟨h1, h2⟩
    have := n1 h1
    exact ⟨h1, by omega⟩
  · rintro ⟨h1, h2⟩
    exact ⟨h1, by omega⟩
theorem f2_d {M : jm_MM} {D : hD} (h : hC M 2 D) (hk : hok D) {p L G a0 c0 : Nat} (hp : p < 6) (hG : G < 24) (hL : L ≤ 90) (ha : 5 ≤ a0) (e : di D p G = true) (hc : M a0 0 = nI c0) (hr : ∀ g, g < 24 → M (a0 + 1) g = mk (eL D p L G 0 g)) :
    ∃ M', f2 M a0 (nI p) (nI G) (nI (L * L)) = some M' ∧ (∀ b, b ≠ a0 → b ≠ a0 + 1 → M' b = M b) ∧ (∀ t, t ≠ 0 → M' a0 t = M a0 t) ∧ M' a0 0 = nI (c0 + fb_ct (sL D p L G) G) ∧ ∀ g, g < 24 → M' (a0 + 1) g = mk (eL D p L G G g) := by
  obtain ⟨hx, hy⟩ := hk.2.2.2.2 p G hp hG e
  have hL2 : L * L ≤ 90 * 90 := Nat.mul_le_mul hL hL
  unfold f2
  rw [f15_d h hp hG hk e, bd_s, f16_d h hp hG hk e, bd_s]
  refine lpI (fun n (w : jm_MM) u => f2_19 a0 (fun Me16 => some Me16) n w (nI p) (nI G) (nI (L * L)) (nI (dx D p G)) (nI (dy D p G)) u) (fun v => some v)
    (fun j w => (∀ b, b ≠ a0 → b ≠ a0 + 1 → w b = M b) ∧ (∀ t, t ≠ 0 → w a0 t = M a0 t) ∧ w a0 0 = nI (c0 + fb_ct (sL D p L G) j) ∧ ∀ g, g < 24 → w (a0 + 1) g = mk (eL D p L G j g)) G (by omega) ?_ ?_ M ⟨fun _ _ _ => rfl, fun _ _ => rfl, hc, hr⟩
  · intro n w _
    show f2_19 a0 _ (n + 1) w _ (nI G) _ _ _ (nI G) = _
    rw [f2_19, dle (by omega) (by omega), decide_eq_true (Nat.le_refl G), cond_true]
  · rintro n j w hj ⟨g1, g2, g3, g4⟩
    have hw : hC w 2 D := hC_fr h (g1 2 (by omega) (by omega)) (g1 3 (by omega) (by omega)) (g1 4 (by omega) (by omega))
    have hj4 : j < 24 := by omega
    cases es : sL D p L G j
    · refine ⟨w, ?_, g1, g2, ?_, fun g hg => ?_⟩
      · show f2_19 a0 _ (n + 1) w _ (nI G) _ _ _ (nI j) = f2_19 a0 _ n w _ (nI G) _ _ _ (nI (j + 1))
        rw [f2_19, dle (by omega) (by omega), decide_eq_false (show ¬ G ≤ j by omega), cond_false, f14_d hw hp hj4 hk, bd_s, bI_0, nI_1]
        cases ej : di D p j
        · rfl
        · have hf := far_le hk hp hj4 ej hx hy
          rw [f17_d hw hp hj4 hk ej hx hy, bd_s, dlt (by omega) (by omega)]
          have e3 : L * L < far D p j (dx D p G) (dy D p G) := by
            unfold sL lk at es
            rw [e, ej, far_sym, Bool.true_and, Bool.true_and, decide_eq_false (show ¬ G = j by omega), Bool.not_false, Bool.true_and] at es
            have := of_decide_eq_false es
            omega
          rw [decide_eq_true e3]
          rfl
      · rw [g3, fb_ct_succ, es]
        rfl
      · rw [g4 g hg]
        exact (mk_ext fun k _ => eL_old es g k).symm
    · have es2 := es
      unfold sL lk at es2
      rw [Bool.and_eq_true, Bool.and_eq_true, Bool.and_eq_true, decide_eq_true_eq] at es2
      obtain ⟨⟨-, ej⟩, -, e3⟩ := es2
      have hf := far_le hk hp hj4 ej hx hy
      rw [far_sym] at e3
      obtain ⟨w1, hw1⟩ : ∃ w1, w1 = jm_up w (a0 + 1) G (w (a0 + 1) G ||| (1 <<< (nI j &&& 31))) := ⟨_, rfl⟩
      obtain ⟨w2, hw2⟩ : ∃ w2, w2 = jm_up w1 (a0 + 1) j (w1 (a0 + 1) j ||| (1 <<< (nI G &&& 31))) := ⟨_, rfl⟩
      have k1 : ∀ b, b ≠ a0 + 1 → w2 b = w b := fun b hb => by rw [hw2, jup_ne hb, hw1, jup_ne hb]
      refine ⟨jm_up w2 a0 0 (w2 a0 0 + 1), ?_, fun b hb hb2 => ?_, fun t ht => ?_, ?_, fun g hg => ?_⟩
      · show f2_19 a0 _ (n + 1) w _ (nI G) _ _ _ (nI j) = f2_19 a0 _ n (jm_up w2 a0 0 (w2 a0 0 + 1)) _ (nI G) _ _ _ (nI (j + 1))
        rw [f2_19, dle (by omega) (by omega), decide_eq_false (show ¬ G ≤ j by omega), cond_false, f14_d hw hp hj4 hk, bd_s, bI_0, nI_1, ej, f17_d hw hp hj4 hk ej hx hy, bd_s, dlt (by omega) (by omega), decide_eq_false (show ¬ L * L < far D p j (dx D p G) (dy D p G) by omega), inb24 hG, inb24 hj4, gd_t, gd_t, gd_t, gd_t, cl_s (show G < 2 ^ 31 by omega), cl_s (show j < 2 ^ 31 by omega), ← hw1, ← hw2]
        rfl
      · rw [jup_ne hb, k1 b hb2, g1 b hb hb2]
      · rw [jup_nj ht, k1 a0 (by omega), g2 t ht]
      · rw [jup_eq, k1 a0 (by omega), g3, nI_1, fb_ct_succ, es]
        rfl
      · rw [jup_ne (by omega)]
        have r1 : ∀ g, w1 (a0 + 1) g = if g = G then w (a0 + 1) G ||| (1 <<< (nI j &&& 31)) else w (a0 + 1) g := fun g => by
          rw [hw1]
          by_cases c : g = G
          · subst c
            rw [jup_eq, if_pos rfl]
          · rw [jup_nj c, if_neg c]
        have r2 : w2 (a0 + 1) g = if g = j then w (a0 + 1) j ||| (1 <<< (nI G &&& 31)) else w1 (a0 + 1) g := by
          rw [hw2]
          by_cases c : g = j
          · subst c
            rw [jup_eq, if_pos rfl, r1, if_neg (by omega)]
          · rw [jup_nj c, if_neg c]
        rw [r2, r1]
        by_cases c : g = j
        · subst c
          rw [if_pos rfl, g4 g hj4]
          refine mk_eq (sm_or (sm_mk _) (sm_ob hG)) fun k hk => ?_
          rw [b_or, b_mkl hk, b_ob (by omega) (by omega), Bool.eq_iff_iff, Bool.or_eq_true, eL_iff, eL_iff, decide_eq_true_eq]
          constructor
          · rintro (⟨h1, h2⟩ | h1)
            · exact ⟨h1, by omega⟩
            · subst h1
              exact ⟨by rw [sL_sym]; exact es, by omega⟩
          · rintro ⟨h1, h2⟩
            by_cases c2 : k = G
            · exact Or.inr c2
            · exact Or.inl ⟨h1, by omega⟩
        · rw [if_neg c]
          by_cases c3 : g = G
          · subst c3
            rw [if_pos rfl, g4 g hg]
            refine mk_eq (sm_or (sm_mk _) (sm_ob hj4)) fun k hk => ?_
            rw [b_or, b_mkl hk, b_ob (by omega) (by omega), Bool.eq_iff_iff, Bool.or_eq_true, eL_iff, eL_iff, decide_eq_true_eq]
            constructor
            · rintro (⟨h1, h2⟩ | h1)
              · exact ⟨h1, by omega⟩
              · subst h1
                exact ⟨es, by omega⟩
            · rintro ⟨h1, h2⟩
              by_cases c2 : k = j
              · exact Or.inr c2
              · refine Or.inl ⟨h1, ?_⟩
                omega
          · rw [if_neg c3, g4 g hg]
            refine mk_ext fun k hk => ?_
            rw [Bool.eq_iff_iff, eL_iff, eL_iff]
            constructor
            · rintro ⟨h1, h2⟩
              exact ⟨h1, by omega⟩
            · rintro ⟨h1, h2⟩
              exact ⟨h1, by omega⟩
theorem f1_d {M : jm_MM} {D : hD} (h : hC M 2 D) (hk : hok D) {p L a0 : Nat} (hp : p < 6) (hL : L ≤ 90) (ha : 5 ≤ a0) :
    ∃ M', f1 M a0 (nI p) (nI L) = some M' ∧ (∀ b, b ≠ a0 → b ≠ a0 + 1 → M' b = M b) ∧ (∀ t, t ≠ 0 → M' a0 t = M a0 t) ∧ M' a0 0 = nI (nlk D p L) ∧ ∀ g, g < 24 → M' (a0 + 1) g = mk (sL D p L g) := by
  unfold f1
  obtain ⟨M1, k1, k2, k3⟩ := fil (jm_up M a0 0 0) (a0 + 1) 24 0
  rw [k1, bd_s]
  have hx := lpI (fun n (w : jm_MM) u => f1_16 a0 (fun Me9 => some Me9) n w (nI p) (nI L) u) (fun v => some v)
    (fun i w => (∀ b, b ≠ a0 → b ≠ a0 + 1 → w b = M b) ∧ (∀ t, t ≠ 0 → w a0 t = M a0 t) ∧ w a0 0 = nI (fb_sm (fun g => fb_ct (sL D p L g) g) i) ∧ ∀ g, g < 24 → w (a0 + 1) g = mk (eL D p L i 0 g)) 24 (by omega) ?_ ?_ M1 ?_
  · obtain ⟨M', h1, h2, h3, h4, h5⟩ := hx
    refine ⟨M', h1, h2, h3, h4, fun g hg => ?_⟩
    rw [h5 g hg]
    refine mk_ext fun k hk => ?_
    rw [Bool.eq_iff_iff, eL_iff]
    exact ⟨fun q => q.1, fun q => ⟨q, by omega⟩⟩
  · intro n w _
    show f1_16 a0 _ (n + 1) w _ _ (nI 24) = _
    rw [f1_16, c24e, cond_true]
  · rintro n i w hi ⟨g1, g2, g3, g4⟩
    have hw : hC w 2 D := hC_fr h (g1 2 (by omega) (by omega)) (g1 3 (by omega) (by omega)) (g1 4 (by omega) (by omega))
    cases e : di D p i
    · refine ⟨w, ?_, g1, g2, ?_, fun g hg => ?_⟩
      · show f1_16 a0 _ (n + 1) w _ _ (nI i) = f1_16 a0 _ n w _ _ (nI (i + 1))
        rw [f1_16, c24 hi, cond_false, f14_d hw hp hi hk, bd_s, bI_0, nI_1, e]
        rfl
      · have e0 : fb_ct (sL D p L i) i = 0 := fb_ct_zero.mpr fun k _ => by
          unfold sL
          rw [e]
          rfl
        rw [g3, fb_sm_succ, e0]
        rfl
      · rw [g4 g hg]
        exact (mk_ext fun k _ => eL_skip e g k).symm
    · obtain ⟨M2, q1, q2, q3, q4, q5⟩ := f2_d hw hk hp hi hL ha e g3 g4
      refine ⟨M2, ?_, fun b hb hb2 => by rw [q2 b hb hb2, g1 b hb hb2], fun t ht => by rw [q3 t ht, g2 t ht], ?_, fun g hg => ?_⟩
      · show f1_16 a0 _ (n + 1) w _ _ (nI i) = f1_16 a0 _ n M2 _ _ (nI (i + 1))
        rw [f1_16, c24 hi, cond_false, f14_d hw hp hi hk, bd_s, bI_0, nI_1, e, pk_mul, q1, bd_s]
        rfl
      · rw [q4, fb_sm_succ]
      · rw [q5 g hg]
        exact (mk_ext fun k _ => eL_next g k).symm
  · refine ⟨fun b hb hb2 => by rw [k2 b hb2, jup_ne hb], fun t ht => by rw [k2 a0 (by omega), jup_nj ht], by rw [k2 a0 (by omega), jup_eq]; rfl, fun g hg => ?_⟩
    rw [k3 g hg]
    refine (mk_0.mpr fun k _ => ?_).symm
    cases q : eL D p L 0 0 g k
    · rfl
    · have := (eL_iff.mp q).2
      omega
/-- one picture's links and clumps by a length -/
def isClp (M : jm_MM) (a0 : Nat) (D : hD) (p L : Nat) : Prop := M a0 0 = nI (nlk D p L) ∧ M a0 1 = nI (fb_ct (nwf (lk D p L) (di D p)) 24) ∧ (∀ g, g < 24 → M (a0 + 1) g = mk (sL D p L g)) ∧ ∀ g, g < 24 → M (a0 + 2) g = if di D p g then mk (cp (lk D p L) (di D p) g) else 0
theorem isClp_fr {M M' : jm_MM} {a0 : Nat} {D : hD} {p L : Nat} (h : isClp M a0 D p L) (h0 : M' a0 = M a0) (h1 : M' (a0 + 1) = M (a0 + 1)) (h2 : M' (a0 + 2) = M (a0 + 2)) : isClp M' a0 D p L := by
  unfold isClp at h ⊢
  rw [h0, h1, h2]
  exact h
theorem clump_d {M : jm_MM} {D : hD} (h : hC M 2 D) (hk : hok D) {p L a0 : Nat} (hp : p < 6) (hL : L ≤ 90) (ha : 5 ≤ a0) :
    ∃ M1 M2, f1 M a0 (nI p) (nI L) = some M1 ∧ f18 M1 (nI p) = some (mk (di D p)) ∧ f3 M1 a0 (mk (di D p)) = some M2 ∧ (∀ b, b ≠ a0 → b ≠ a0 + 1 → b ≠ a0 + 2 → M2 b = M b) ∧ isClp M2 a0 D p L := by
  obtain ⟨M1, h1, h2, h3, h4, h5⟩ := f1_d h hk hp hL ha
  have hw : hC M1 2 D := hC_fr h (h2 2 (by omega) (by omega)) (h2 3 (by omega) (by omega)) (h2 4 (by omega) (by omega))
  obtain ⟨M2, q1, q2, q3, q4, q5⟩ := f3_s M1 a0 (lk D p L) (di D p) (di D p) (fun a b _ _ => lk_sym D p L a b) (fun _ _ q => q) h5
  refine ⟨M1, M2, h1, f18_d hw hk hp, q1, fun b hb hb1 hb2 => by rw [q2 b hb hb2, h2 b hb hb1], ?_, q4, fun g hg => ?_, q5⟩
  · rw [q3 0 (by omega), h4]
  · rw [q2 (a0 + 1) (by omega) (by omega), h5 g hg]
