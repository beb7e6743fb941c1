/-! ===== what is so: pictures, L, M; weights; who is in which picture, and where ===== -/
abbrev hD : Type := (Nat × Nat × Nat) × (Nat → Nat) × (Nat → Nat → Bool) × (Nat → Nat → Nat) × (Nat → Nat → Nat)
def dn (D : hD) : Nat := D.1.1
def dl (D : hD) : Nat := D.1.2.1
def dm (D : hD) : Nat := D.1.2.2
def dw (D : hD) : Nat → Nat := D.2.1
def di (D : hD) : Nat → Nat → Bool := D.2.2.1
def dx (D : hD) : Nat → Nat → Nat := D.2.2.2.1
def dy (D : hD) : Nat → Nat → Nat := D.2.2.2.2
def hok (D : hD) : Prop := dn D ≤ 6 ∧ dl D ≤ 40 ∧ dm D ≤ 99 ∧ (∀ g, g < 24 → dw D g ≤ 9) ∧ ∀ p g, p < 6 → g < 24 → di D p g = true → dx D p g < 64 ∧ dy D p g < 64
/-- cells a, a + 1, a + 2 hold it -/
def hC (M : jm_MM) (a : Nat) (D : hD) : Prop := M a 0 = nI (dn D) ∧ M a 1 = nI (dl D) ∧ M a 2 = nI (dm D) ∧ (∀ g, g < 24 → M (a + 1) g = nI (dw D g)) ∧ ∀ p g, p < 6 → g < 24 → M (a + 2) (24 * p + g) = if di D p g then nI (64 * dx D p g + dy D p g) else -1
/-- the reference's row holds it from o on -/
def hM (M : jm_MM) (o : Nat) (D : hD) : Prop := M 114 o = nI (dl D) ∧ M 114 (o + 1) = nI (dm D) ∧ M 114 (o + 2) = nI (dn D) ∧ (∀ g, g < 24 → M 114 (o + (3 + g)) = nI (dw D g)) ∧ (∀ p, p < 6 → M 114 (o + (27 + 49 * p)) = mk (di D p)) ∧ ∀ p g, p < 6 → g < 24 → di D p g = true → M 114 (o + (27 + 49 * p + 1 + g)) = nI (dx D p g) ∧ M 114 (o + (27 + 49 * p + 25 + g)) = nI (dy D p g)
theorem hC_fr {M M' : jm_MM} {a : Nat} {D : hD} (h : hC M a D) (h0 : M' a = M a) (h1 : M' (a + 1) = M (a + 1)) (h2 : M' (a + 2) = M (a + 2)) : hC M' a D := by
  unfold hC at h ⊢
  rw [h0, h1, h2]
  exact h
theorem hM_fr {M M' : jm_MM} {o : Nat} {D : hD} (h : hM M o D) (h0 : M' 114 = M 114) : hM M' o D := by
  unfold hM at h ⊢
  rw [h0]
  exact h
theorem ix24 (p g : Nat) : nI p * 24 + nI g = nI (24 * p + g) := by
  show nI p * nI 24 + nI g = _
  rw [pk_mul, nI_add, Nat.mul_comm]
/-- the square of a difference -/
def dq (a b : Nat) : Nat := (a - b) * (a - b) + (b - a) * (b - a)
theorem dq_comm (a b : Nat) : dq a b = dq b a := Nat.add_comm _ _
theorem dq_s {a b : Nat} (ha : a < 64) (hb : b < 64) : (nI a - nI b) * (nI a - nI b) = nI (dq a b) := (by decide +kernel : ∀ a, a < 64 → ∀ b, b < 64 → (nI a - nI b) * (nI a - nI b) = nI (dq a b)) a ha b hb
theorem dq_le {a b : Nat} (ha : a < 64) (hb : b < 64) : dq a b ≤ 3969 := by
  unfold dq
  rcases Nat.le_total a b with h | h
  · rw [Nat.sub_eq_zero_of_le h, Nat.zero_mul, Nat.zero_add]
    exact Nat.mul_le_mul (show b - a ≤ 63 by omega) (show b - a ≤ 63 by omega)
  · rw [Nat.sub_eq_zero_of_le h, Nat.zero_mul, Nat.add_zero]
    exact Nat.mul_le_mul (show a - b ≤ 63 by omega) (show a - b ≤ 63 by omega)
theorem dq_self (a : Nat) : dq a a = 0 := by unfold dq; rw [Nat.sub_self]
def far (D : hD) (p g X Y : Nat) : Nat := dq (dx D p g) X + dq (dy D p g) Y
def lk (D : hD) (p L a b : Nat) : Bool := !decide (a = b) && decide (far D p a (dx D p b) (dy D p b) ≤ L * L)
theorem far_sym (D : hD) (p a b : Nat) : far D p a (dx D p b) (dy D p b) = far D p b (dx D p a) (dy D p a) := by
  unfold far
  rw [dq_comm, dq_comm (dy D p a)]
theorem lk_sym (D : hD) (p L a b : Nat) : lk D p L a b = lk D p L b a := by
  unfold lk
  rw [far_sym]
  congr 2
  exact decide_eq_decide.mpr ⟨Eq.symm, Eq.symm⟩
theorem lk_irr (D : hD) (p L a : Nat) : lk D p L a a = false := by
  unfold lk
  rw [decide_eq_true rfl]
  rfl
theorem far_le {D : hD} (hk : hok D) {p g X Y : Nat} (hp : p < 6) (hg : g < 24) (h : di D p g = true) (hX : X < 64) (hY : Y < 64) : far D p g X Y ≤ 7938 := by
  obtain ⟨h1, h2⟩ := hk.2.2.2.2 p g hp hg h
  have := dq_le h1 hX
  have := dq_le h2 hY
  unfold far
  omega
/-- the weight of a set -/
def wD (D : hD) (x : Int32) : Int32 := ws (fun g => nI (dw D g)) x 24
section
variable {M : jm_MM} {D : hD}
theorem f14_d (h : hC M 2 D) {p g : Nat} (hp : p < 6) (hg : g < 24) (hk : hok D) : f14 M (nI p) (nI g) = some (bI (di D p g)) := by
  unfold f14
  rw [ix24, inb_s (show 24 * p + g < 144 by omega) (by omega), gd_t, cl_s (by omega), h.2.2.2.2 p g hp hg]
  cases e : di D p g
  · rfl
  · obtain ⟨h1, h2⟩ := hk.2.2.2.2 p g hp hg e
    rw [if_pos rfl, cM1 (by omega)]
    rfl
theorem f15_d (h : hC M 2 D) {p g : Nat} (hp : p < 6) (hg : g < 24) (hk : hok D) (e : di D p g = true) : f15 M (nI p) (nI g) = some (nI (dx D p g)) := by
  obtain ⟨h1, h2⟩ := hk.2.2.2.2 p g hp hg e
  unfold f15
  rw [ix24, inb_s (show 24 * p + g < 144 by omega) (by omega), gd_t, cl_s (by omega), h.2.2.2.2 p g hp hg, e, if_pos rfl]
  show some (nI (64 * dx D p g + dy D p g) / nI 64) = _
  rw [pk_div (by omega) (by omega) (by omega), show (64 * dx D p g + dy D p g) / 64 = dx D p g by omega]
theorem f16_d (h : hC M 2 D) {p g : Nat} (hp : p < 6) (hg : g < 24) (hk : hok D) (e : di D p g = true) : f16 M (nI p) (nI g) = some (nI (dy D p g)) := by
  obtain ⟨h1, h2⟩ := hk.2.2.2.2 p g hp hg e
  unfold f16
  rw [ix24, inb_s (show 24 * p + g < 144 by omega) (by omega), gd_t, cl_s (by omega), h.2.2.2.2 p g hp hg, e, if_pos rfl]
  show some (nI (64 * dx D p g + dy D p g) - nI (64 * dx D p g + dy D p g) / nI 64 * nI 64) = _
  rw [pk_rem (by omega) (by omega) (by omega), show (64 * dx D p g + dy D p g) % 64 = dy D p g by omega]
theorem f17_d (h : hC M 2 D) {p g X Y : Nat} (hp : p < 6) (hg : g < 24) (hk : hok D) (e : di D p g = true) (hX : X < 64) (hY : Y < 64) : f17 M (nI p) (nI g) (nI X) (nI Y) = some (nI (far D p g X Y)) := by
  obtain ⟨h1, h2⟩ := hk.2.2.2.2 p g hp hg e
  unfold f17
  rw [f15_d h hp hg hk e, bd_s, f16_d h hp hg hk e, bd_s, dq_s h1 hX, dq_s h2 hY, nI_add]
  rfl
theorem f18_d (h : hC M 2 D) (hk : hok D) {p : Nat} (hp : p < 6) : f18 M (nI p) = some (mk (di D p)) := by
  unfold f18
  refine lpV (fun n a v => f18_4 M (fun ve5 => some ve5) n (nI p) a v) (mkN (di D p)) _ 24 (by omega) (fun n => ?_) (fun n i hi => ?_)
  · show f18_4 M _ (n + 1) _ _ (nI 24) = _
    rw [f18_4, c24e, cond_true]
    rfl
  · show f18_4 M _ (n + 1) _ _ (nI i) = f18_4 M _ n _ _ (nI (i + 1))
    rw [f18_4, c24 hi, cond_false, f14_d h hp hi hk, bd_s, bI_0, nI_1, mkN_s]
    cases di D p i <;> rfl
theorem f19_d (h : hC M 2 D) (hk : hok D) {p X Y w : Nat} (hp : p < 6) (hX : X < 64) (hY : Y < 64) (hw : w < 10000) : f19 M (nI p) (nI X) (nI Y) (nI w) = some (mk (fun g => di D p g && decide (far D p g X Y ≤ w))) := by
  unfold f19
  refine lpV (fun n a v => f19_6 M (fun ve8 => some ve8) n (nI p) (nI X) (nI Y) (nI w) a v) (mkN (fun g => di D p g && decide (far D p g X Y ≤ w))) _ 24 (by omega) (fun n => ?_) (fun n i hi => ?_)
  · show f19_6 M _ (n + 1) _ _ _ _ _ (nI 24) = _
    rw [f19_6, c24e, cond_true]
    rfl
  · show f19_6 M _ (n + 1) _ _ _ _ _ (nI i) = f19_6 M _ n _ _ _ _ _ (nI (i + 1))
    rw [f19_6, c24 hi, cond_false, f14_d h hp hi hk, bd_s, bI_0, nI_1, mkN_s]
    cases e : di D p i
    · rfl
    · have hf := far_le hk hp hi e hX hY
      rw [f17_d h hp hi hk e hX hY, bd_s, dlt (by omega) (by omega)]
      by_cases c : far D p i X Y ≤ w
      · rw [decide_eq_false (show ¬ w < far D p i X Y by omega), decide_eq_true c]
        rfl
      · rw [decide_eq_true (show w < far D p i X Y by omega), decide_eq_false c]
        rfl
theorem f20_d (h : hC M 2 D) (x : Int32) : f20 M x = some (wD D x) := by
  rw [f20_s]
  exact congrArg some (ws_cong 24 (fun i hi => h.2.2.2.1 i hi) (fun _ _ => rfl))
/-! the reference's -/
theorem hM_l (h : hM M 0 D) : M 114 0 = nI (dl D) := h.1
theorem hM_m (h : hM M 0 D) : M 114 1 = nI (dm D) := h.2.1
theorem hM_n (h : hM M 0 D) : M 114 2 = nI (dn D) := h.2.2.1
theorem hM_w (h : hM M 0 D) {g : Nat} (hg : g < 24) : M 114 (3 + g) = nI (dw D g) := by
  have := h.2.2.2.1 g hg
  rwa [Nat.zero_add] at this
theorem hM_s (h : hM M 0 D) {p : Nat} (hp : p < 6) : M 114 (27 + 49 * p) = mk (di D p) := by
  have := h.2.2.2.2.1 p hp
  rwa [Nat.zero_add] at this
theorem hM_x (h : hM M 0 D) {p g : Nat} (hp : p < 6) (hg : g < 24) (e : di D p g = true) : M 114 (27 + 49 * p + 1 + g) = nI (dx D p g) := by
  have := (h.2.2.2.2.2 p g hp hg e).1
  rwa [Nat.zero_add] at this
theorem hM_y (h : hM M 0 D) {p g : Nat} (hp : p < 6) (hg : g < 24) (e : di D p g = true) : M 114 (27 + 49 * p + 25 + g) = nI (dy D p g) := by
  have := (h.2.2.2.2.2 p g hp hg e).2
  rwa [Nat.zero_add] at this
theorem f101_s (M : jm_MM) (p : Nat) : f101 M (nI p) = some (nI (27 + 49 * p)) := by
  unfold f101
  show some (nI 27 + nI 49 * nI p) = _
  rw [pk_mul, nI_add]
theorem f102_d (h : hM M 0 D) {p : Nat} (hp : p < 6) : f102 M (nI p) = some (mk (di D p)) := by
  unfold f102
  rw [f101_s, bd_s, inb_s (show 27 + 49 * p < 3531 by omega) (by omega), gd_t, cl_s (by omega), hM_s h hp]
theorem f103_d (h : hM M 0 D) {p g : Nat} (hp : p < 6) (hg : g < 24) (e : di D p g = true) : f103 M (nI p) (nI g) = some (nI (dx D p g)) := by
  unfold f103
  rw [f101_s, bd_s, nI_1, nI_add, inb_s (show 27 + 49 * p + 1 + g < 3531 by omega) (by omega), gd_t, cl_s (by omega), hM_x h hp hg e]
theorem f104_d (h : hM M 0 D) {p g : Nat} (hp : p < 6) (hg : g < 24) (e : di D p g = true) : f104 M (nI p) (nI g) = some (nI (dy D p g)) := by
  unfold f104
  rw [f101_s, bd_s, show nI (27 + 49 * p) + 25 = nI (27 + 49 * p + 25) from nI_add _ 25, nI_add, inb_s (show 27 + 49 * p + 25 + g < 3531 by omega) (by omega), gd_t, cl_s (by omega), hM_y h hp hg e]
theorem f117_d (h : hM M 0 D) {p a b : Nat} (hp : p < 6) (ha : a < 24) (hb : b < 24) (hk : hok D) (e : di D p a = true) (e2 : di D p b = true) : f117 M (nI p) (nI a) (nI b) = some (nI (far D p a (dx D p b) (dy D p b))) := by
  obtain ⟨h1, h2⟩ := hk.2.2.2.2 p a hp ha e
  obtain ⟨h3, h4⟩ := hk.2.2.2.2 p b hp hb e2
  unfold f117
  rw [f103_d h hp ha e, bd_s, f103_d h hp hb e2, bd_s, f104_d h hp ha e, bd_s, f104_d h hp hb e2, bd_s, dq_s h1 h3, dq_s h2 h4, nI_add]
  rfl
theorem f118_d (h : hM M 0 D) {p a b L : Nat} (hp : p < 6) (ha : a < 24) (hb : b < 24) (hk : hok D) (hL : L ≤ 90) (e : di D p a = true) (e2 : di D p b = true) : f118 M (nI p) (nI a) (nI b) (nI L) = some (bI (lk D p L a b)) := by
  obtain ⟨h3, h4⟩ := hk.2.2.2.2 p b hp hb e2
  have hf := far_le hk hp ha e h3 h4
  have hL2 : L * L ≤ 90 * 90 := Nat.mul_le_mul hL hL
  unfold f118
  rw [deq (by omega) (by omega), f117_d h hp ha hb hk e e2, bd_s, pk_mul, dlt (by omega) (by omega)]
  unfold lk
  cases c : decide (a = b)
  · by_cases c2 : far D p a (dx D p b) (dy D p b) ≤ L * L
    · rw [decide_eq_false (show ¬ L * L < far D p a (dx D p b) (dy D p b) by omega), decide_eq_true c2]
      rfl
    · rw [decide_eq_true (show L * L < far D p a (dx D p b) (dy D p b) by omega), decide_eq_false c2]
      rfl
  · rfl
theorem f119_d (h : hM M 0 D) (x : Int32) : f119 M x = some (wD D x) := by
  rw [f119_s]
  exact congrArg some (ws_cong 24 (fun i hi => hM_w h hi) (fun _ _ => rfl))
theorem f154_d (h : hM M 0 D) {p g X Y : Nat} (hp : p < 6) (hg : g < 24) (hk : hok D) (e : di D p g = true) (hX : X < 64) (hY : Y < 64) : f154 M (nI p) (nI g) (nI X) (nI Y) = some (nI (far D p g X Y)) := by
  obtain ⟨h1, h2⟩ := hk.2.2.2.2 p g hp hg e
  unfold f154
  rw [f103_d h hp hg e, bd_s, f104_d h hp hg e, bd_s, dq_s hX h1, dq_s hY h2, nI_add, dq_comm X, dq_comm Y]
  rfl
theorem f135_d (h : hM M 0 D) {p g : Nat} (hp : p < 6) (hg : g < 24) (hk : hok D) (e : di D p g = true) : f135 M (nI p) (nI g) = some (mk (fun k => di D p k && lk D p (dl D) g k)) := by
  unfold f135
  refine lpV (fun n a v => f135_5 M (fun ve10 => some ve10) n (nI p) (nI g) a v) (mkN (fun k => di D p k && lk D p (dl D) g k)) _ 24 (by omega) (fun n => ?_) (fun n i hi => ?_)
  · show f135_5 M _ (n + 1) _ _ _ (nI 24) = _
    rw [f135_5, c24e, cond_true]
    rfl
  · show f135_5 M _ (n + 1) _ _ _ (nI i) = f135_5 M _ n _ _ _ (nI (i + 1))
    rw [f135_5, c24 hi, cond_false, f102_d h hp, bd_s, f94_s M _ (by omega), bd_s, bI_0, b_mkl hi, nI_1, or_z, mkN_s]
    cases e2 : di D p i
    · rfl
    · rw [hM_l h, f118_d h hp hg hi hk (Nat.le_trans hk.2.1 (by omega)) e e2, bd_s, bI_0]
      cases lk D p (dl D) g i <;> rfl
theorem ct_mk (P : Nat → Bool) : fb_ct (bt (mk P)) 24 = fb_ct P 24 := fb_ct_cong fun _ hk => b_mkl hk
/-- pairs, counted from either side -/
theorem pairs {S : Nat → Nat → Bool} (hs : ∀ a b, S a b = S b a) (hi : ∀ a, S a a = false) : ∀ n, fb_sm (fun g => fb_ct (S g) n) n = 2 * fb_sm (fun g => fb_ct (S g) g) n
  | 0 => rfl
  | n + 1 => by
    have ih := pairs hs hi n
    have e1 : fb_sm (fun g => fb_ct (S g) (n + 1)) n = fb_sm (fun g => fb_ct (S g) n) n + fb_sm (fun g => if S g n then 1 else 0) n := by
      rw [← fb_sm_add]
      exact fb_sm_cong fun k _ => fb_ct_succ _ _
    have e2 : ∀ m, fb_sm (fun g => if S g n then 1 else 0) m = fb_ct (S n) m := by
      intro m
      induction m with
      | zero => rfl
      | succ m im => rw [fb_sm_succ, fb_ct_succ, im, hs m n]
    rw [fb_sm_succ, fb_sm_succ, e1, e2, ih, fb_ct_succ, hi n]
    simp only [Bool.false_eq_true, if_false]
    omega
theorem fb_lt (f : Nat → Nat) {c : Nat} (h : ∀ k, k < 24 → f k ≤ c) : ∀ i, i ≤ 24 → fb_sm f i ≤ 24 * c := fun i hi => by
  have h1 := fb_sm_mono f i (24 - i)
  rw [Nat.add_sub_cancel' hi] at h1
  exact Nat.le_trans h1 (fb_sm_bound h)
/-- how many links -/
def nlk (D : hD) (p L : Nat) : Nat := fb_sm (fun g => fb_ct (fun k => di D p g && di D p k && lk D p L g k) g) 24
theorem f136_d (h : hM M 0 D) {p : Nat} (hp : p < 6) (hk : hok D) : f136 M (nI p) = some (nI (nlk D p (dl D))) := by
  have hS := pairs (S := fun g k => di D p g && di D p k && lk D p (dl D) g k) (fun a b => by rw [lk_sym, Bool.and_comm (di D p a)]) (fun a => by rw [lk_irr, Bool.and_false]) 24
  unfold f136
  have hx := lpV (fun n a v => f136_4 M (fun ve11 => some (ve11 / 2)) n (nI p) a v) (fun i => nI (fb_sm (fun g => fb_ct (fun k => di D p g && di D p k && lk D p (dl D) g k) 24) i)) (some (nI (nlk D p (dl D)))) 24 (by omega) (fun n => ?_) (fun n i hi => ?_)
  · exact hx
  · show f136_4 M _ (n + 1) _ _ (nI 24) = _
    rw [f136_4, c24e, cond_true]
    have hb := fb_lt (fun g => fb_ct (fun k => di D p g && di D p k && lk D p (dl D) g k) 24) (c := 24) (fun k _ => fb_ct_le _ 24) 24 (Nat.le_refl _)
    show some (nI _ / nI 2) = _
    rw [pk_div (by omega) (by omega) (by omega), hS, Nat.mul_comm, Nat.mul_div_cancel _ (by omega)]
    rfl
  · show f136_4 M _ (n + 1) _ _ (nI i) = f136_4 M _ n _ _ (nI (i + 1))
    rw [f136_4, c24 hi, cond_false, f102_d h hp, bd_s, f94_s M _ (by omega), bd_s, bI_0, b_mkl hi, nI_1, zadd, fb_sm_succ]
    cases e : di D p i
    · have e2 : fb_ct (fun k => false && di D p k && lk D p (dl D) i k) 24 = 0 := fb_ct_zero.mpr fun _ _ => rfl
      rw [e2]
      rfl
    · rw [f135_d h hp hi hk e, bd_s, f95_s, bd_s, ct_mk, nI_add]
      rfl
end
