/-! ===== the tree: its order ===== -/
def psK (K : Nat → Nat) (x : Nat) (o : Nat → Nat) : Nat → Nat
  | 0 => 0
  | c + 1 => if K x < K (o c) then psK K x o c else c + 1
theorem psK_le (K : Nat → Nat) (x : Nat) (o : Nat → Nat) : ∀ c, psK K x o c ≤ c
  | 0 => Nat.le_refl _
  | c + 1 => by
    have := psK_le K x o c
    rw [psK]
    split <;> omega
def inK (K : Nat → Nat) (x : Nat) (o : Nat → Nat) (c : Nat) : Nat → Nat := fun j => if j < psK K x o c then o j else if j = psK K x o c then x else if j ≤ c then o (j - 1) else o j
theorem inK_lt {K : Nat → Nat} {x : Nat} {o : Nat → Nat} {c j : Nat} (h : j < psK K x o c) : inK K x o c j = o j := if_pos h
theorem inK_eq {K : Nat → Nat} {x : Nat} {o : Nat → Nat} {c : Nat} : inK K x o c (psK K x o c) = x := by
  unfold inK
  rw [if_neg (Nat.lt_irrefl _), if_pos rfl]
theorem inK_gt {K : Nat → Nat} {x : Nat} {o : Nat → Nat} {c j : Nat} (h : psK K x o c < j) (h2 : j ≤ c) : inK K x o c j = o (j - 1) := by
  unfold inK
  rw [if_neg (by omega), if_neg (by omega), if_pos h2]
theorem inK_out {K : Nat → Nat} {x : Nat} {o : Nat → Nat} {c j : Nat} (h : c < j) : inK K x o c j = o j := by
  have := psK_le K x o c
  unfold inK
  rw [if_neg (by omega), if_neg (by omega), if_neg (by omega)]
/-- the first n of a row, put in order one after the other -/
def sr (K : Nat → Nat) (o : Nat → Nat) : Nat → Nat → Nat
  | 0 => o
  | n + 1 => inK K (o n) (sr K o n) n
theorem sr_out (K : Nat → Nat) (o : Nat → Nat) : ∀ n j, n ≤ j → sr K o n j = o j
  | 0, _, _ => rfl
  | n + 1, j, h => by
    rw [sr, inK_out (by omega)]
    exact sr_out K o n j (by omega)
theorem sr_1 (K : Nat → Nat) (o : Nat → Nat) (j : Nat) : sr K o 1 j = o j := by
  rw [sr]
  by_cases c : j = 0
  · subst c
    exact inK_eq (o := o) (c := 0)
  · exact inK_out (by omega)
theorem sr_mem (K : Nat → Nat) (o : Nat → Nat) : ∀ n i, i < n → ∃ j, j < n ∧ sr K o n i = o j
  | 0, i, h => absurd h (Nat.not_lt_zero i)
  | n + 1, i, h => by
    have hp := psK_le K (o n) (sr K o n) n
    rw [sr]
    rcases Nat.lt_trichotomy i (psK K (o n) (sr K o n) n) with c | c | c
    · obtain ⟨j, h1, h2⟩ := sr_mem K o n i (by omega)
      exact ⟨j, by omega, by rw [inK_lt c, h2]⟩
    · exact ⟨n, by omega, by rw [c, inK_eq]⟩
    · obtain ⟨j, h1, h2⟩ := sr_mem K o n (i - 1) (by omega)
      exact ⟨j, by omega, by rw [inK_gt c (by omega), h2]⟩
theorem sr_mem' (K : Nat → Nat) (o : Nat → Nat) : ∀ n j, j < n → ∃ i, i < n ∧ sr K o n i = o j
  | 0, j, h => absurd h (Nat.not_lt_zero j)
  | n + 1, j, h => by
    have hp := psK_le K (o n) (sr K o n) n
    rw [sr]
    by_cases c : j = n
    · exact ⟨psK K (o n) (sr K o n) n, by omega, by rw [inK_eq, c]⟩
    · obtain ⟨i, h1, h2⟩ := sr_mem' K o n j (by omega)
      by_cases c2 : i < psK K (o n) (sr K o n) n
      · exact ⟨i, by omega, by rw [inK_lt c2, h2]⟩
      · exact ⟨i + 1, by omega, by rw [inK_gt (by omega) (by omega), Nat.add_sub_cancel, h2]⟩
def injOn (o : Nat → Nat) (n : Nat) : Prop := ∀ i j, i < n → j < n → i ≠ j → o i ≠ o j
theorem sr_inj (K : Nat → Nat) (o : Nat → Nat) : ∀ n, injOn o n → injOn (sr K o n) n
  | 0, _ => fun i _ h => absurd h (Nat.not_lt_zero i)
  | n + 1, h => by
    have ih := sr_inj K o n (fun i j hi hj => h i j (by omega) (by omega))
    have hp := psK_le K (o n) (sr K o n) n
    have hx : ∀ i, i < n → sr K o n i ≠ o n := fun i hi => by
      obtain ⟨j, h1, h2⟩ := sr_mem K o n i hi
      rw [h2]
      exact h j n (by omega) (by omega) (by omega)
    have key : ∀ i j, i < j → j < n + 1 → inK K (o n) (sr K o n) n i ≠ inK K (o n) (sr K o n) n j := by
      intro i j hij hj
      rcases Nat.lt_trichotomy j (psK K (o n) (sr K o n) n) with c | c | c
      · rw [inK_lt c, inK_lt (show i < psK K (o n) (sr K o n) n by omega)]
        exact ih i j (by omega) (by omega) (by omega)
      · rw [c, inK_eq, inK_lt (show i < psK K (o n) (sr K o n) n by omega)]
        exact hx i (by omega)
      · rw [inK_gt c (by omega)]
        rcases Nat.lt_trichotomy i (psK K (o n) (sr K o n) n) with c2 | c2 | c2
        · rw [inK_lt c2]
          exact ih i (j - 1) (by omega) (by omega) (by omega)
        · rw [c2, inK_eq]
          exact fun e => hx (j - 1) (by omega) e.symm
        · rw [inK_gt c2 (by omega)]
          exact ih (i - 1) (j - 1) (by omega) (by omega) (by omega)
    intro i j hi hj hne
    rw [sr]
    rcases Nat.lt_or_ge i j with c | c
    · exact key i j c hj
    · exact fun e => key j i (by omega) hi e.symm
/-- the keys of both sides -/
def kx (D : hD) (p d g : Nat) : Nat := if d % 2 = 0 then (dx D p g * 64 + dy D p g) * 24 + g else (dy D p g * 64 + dx D p g) * 24 + g
def ky (D : hD) (p d g : Nat) : Nat := if d % 2 = 0 then 100000 * dx D p g + 100 * dy D p g + g else 100000 * dy D p g + 100 * dx D p g + g
theorem key_lt {a b g a' b' g' : Nat} (ha : a < 64) (hb : b < 64) (hg : g < 24) (ha' : a' < 64) (hb' : b' < 64) (hg' : g' < 24) : (a * 64 + b) * 24 + g < (a' * 64 + b') * 24 + g' ↔ 100000 * a + 100 * b + g < 100000 * a' + 100 * b' + g' := by
  rcases Nat.lt_trichotomy a a' with c | c | c
  · constructor <;> intro _ <;> omega
  · subst c
    rcases Nat.lt_trichotomy b b' with c | c | c
    · constructor <;> intro _ <;> omega
    · subst c
      constructor <;> intro _ <;> omega
    · constructor <;> intro _ <;> omega
  · constructor <;> intro _ <;> omega
section
variable {M : jm_MM} {D : hD}
theorem kxy (hk : hok D) {p d a b : Nat} (hp : p < 6) (ha : a < 24) (hb : b < 24) (ea : di D p a = true) (eb : di D p b = true) : kx D p d a < kx D p d b ↔ ky D p d a < ky D p d b := by
  obtain ⟨h1, h2⟩ := hk.2.2.2.2 p a hp ha ea
  obtain ⟨h3, h4⟩ := hk.2.2.2.2 p b hp hb eb
  unfold kx ky
  by_cases c : d % 2 = 0
  · rw [if_pos c, if_pos c, if_pos c, if_pos c]
    exact key_lt h1 h2 ha h3 h4 hb
  · rw [if_neg c, if_neg c, if_neg c, if_neg c]
    exact key_lt h2 h1 ha h4 h3 hb
theorem kx_le (hk : hok D) {p a : Nat} (d : Nat) (hp : p < 6) (ha : a < 24) (ea : di D p a = true) : kx D p d a < 100000 := by
  obtain ⟨h1, h2⟩ := hk.2.2.2.2 p a hp ha ea
  unfold kx
  split <;> omega
theorem ky_le (hk : hok D) {p a : Nat} (d : Nat) (hp : p < 6) (ha : a < 24) (ea : di D p a = true) : ky D p d a < 10000000 := by
  obtain ⟨h1, h2⟩ := hk.2.2.2.2 p a hp ha ea
  unfold ky
  split <;> omega
theorem rem2 {d : Nat} (hd : d < 2 ^ 31) : nI d - nI d / 2 * 2 = nI (d % 2) := pk_rem (d := 2) hd (by decide) (by decide)
theorem dz2 {d : Nat} (hd : d < 2 ^ 31) : decide (nI d - nI d / 2 * 2 = 0) = decide (d % 2 = 0) := by
  rw [rem2 hd]
  show decide (nI (d % 2) = nI 0) = _
  rw [deq (by omega) (by omega)]
/-- where each grain lies stands beside the tree -/
def XY (M : jm_MM) (D : hD) (p : Nat) : Prop := ∀ g, g < 24 → di D p g = true → M 110 g = nI (dx D p g) ∧ M 111 g = nI (dy D p g)
theorem f53_d {p : Nat} (h : XY M D p) {g d : Nat} (hg : g < 24) (e : di D p g = true) (hd : d < 2 ^ 31) : f53 M (nI g) (nI d) = some (nI (kx D p d g)) := by
  obtain ⟨h1, h2⟩ := h g hg e
  unfold f53 f53_11 f53_31
  rw [dz2 hd, inb24 hg, gd_t, gd_t, gd_t, gd_t, cl_s (by omega), h1, h2]
  unfold kx
  by_cases c : d % 2 = 0
  · rw [decide_eq_true c, if_pos c]
    show some ((nI (dx D p g) * nI 64 + nI (dy D p g)) * nI 24 + nI g) = _
    rw [pk_mul, nI_add, pk_mul, nI_add]
  · rw [decide_eq_false c, if_neg c]
    show some ((nI (dy D p g) * nI 64 + nI (dx D p g)) * nI 24 + nI g) = _
    rw [pk_mul, nI_add, pk_mul, nI_add]
theorem f147_d (h : hM M 0 D) {p g d : Nat} (hp : p < 6) (hg : g < 24) (e : di D p g = true) (hd : d < 2 ^ 31) : f147 M (nI p) (nI g) (nI d) = some (nI (ky D p d g)) := by
  unfold f147
  rw [dz2 hd, f103_d h hp hg e, f104_d h hp hg e, bd_s, bd_s, bd_s, bd_s]
  unfold ky
  by_cases c : d % 2 = 0
  · rw [decide_eq_true c, if_pos c]
    show some ((nI 100000 * nI (dx D p g) + nI 100 * nI (dy D p g)) + nI g) = _
    rw [pk_mul, pk_mul, nI_add, nI_add]
  · rw [decide_eq_false c, if_neg c]
    show some ((nI 100000 * nI (dy D p g) + nI 100 * nI (dx D p g)) + nI g) = _
    rw [pk_mul, pk_mul, nI_add, nI_add]
/-- grains of the picture, each once -/
def gr (D : hD) (p : Nat) (o : Nat → Nat) (n : Nat) : Prop := (∀ i, i < n → o i < 24 ∧ di D p (o i) = true) ∧ injOn o n
theorem gr_sr {p : Nat} {o : Nat → Nat} {n : Nat} (h : gr D p o n) (K : Nat → Nat) : gr D p (sr K o n) n := by
  refine ⟨fun i hi => ?_, sr_inj K o n h.2⟩
  obtain ⟨j, h1, h2⟩ := sr_mem K o n i hi
  rw [h2]
  exact h.1 j h1
theorem gr_sub {p : Nat} {o : Nat → Nat} {n : Nat} (h : gr D p o n) (a m : Nat) (hm : a + m ≤ n) : gr D p (fun i => o (a + i)) m :=
  ⟨fun i hi => h.1 (a + i) (by omega), fun i j hi hj hne => h.2 (a + i) (a + j) (by omega) (by omega) (by omega)⟩
theorem gr_l {p : Nat} {o : Nat → Nat} {n : Nat} (h : gr D p o n) (m : Nat) (hm : m ≤ n) : gr D p o m :=
  ⟨fun i hi => h.1 i (by omega), fun i j hi hj hne => h.2 i j (by omega) (by omega) hne⟩
/-! putting in order, the one side -/
theorem f52_33_d (hk : hok D) {p d f : Nat} (hp : p < 6) (hd : d < 2 ^ 31) (ke0 : jm_MM → Int32 → Int32 → Int32 → Int32 → Int32 → Int32 → Option jm_MM) (v2 v4 v5 : Int32) (o : Nat → Nat) {x : Nat} (hx : x < 24) (ex : di D p x = true) :
    ∀ (c n : Nat) (M : jm_MM), XY M D p → c < n → f + c < 24 → (∀ i, i < c → o i < 24 ∧ di D p (o i) = true) → (∀ i, i < c → M 109 (f + i) = nI (o i)) →
    ∃ M', f52_33 ke0 n M (nI f) v2 (nI d) v4 v5 (nI (kx D p d x)) (nI (f + c)) = ke0 M' (nI f) v2 (nI d) v4 v5 (nI (f + psK (kx D p d) x o c)) ∧ (∀ b, b ≠ 109 → M' b = M b) ∧ ∀ j, M' 109 j = if f + psK (kx D p d) x o c < j ∧ j ≤ f + c then nI (o (j - f - 1)) else M 109 j := by
  intro c
  induction c with
  | zero =>
    intro n M _ hn _ _ _
    obtain ⟨m, rfl⟩ : ∃ m, n = m + 1 := ⟨n - 1, by omega⟩
    refine ⟨M, ?_, fun _ _ => rfl, fun j => by rw [if_neg (by omega)]⟩
    rw [f52_33, dle (by omega) (by omega), decide_eq_true (by omega), cond_true, psK]
  | succ c ih =>
    intro n M hXY hn h24 ho hs
    obtain ⟨m, rfl⟩ : ∃ m, n = m + 1 := ⟨n - 1, by omega⟩
    obtain ⟨o1, o2⟩ := ho c (by omega)
    have k1 := kx_le hk d hp hx ex
    have k2 := kx_le hk d hp o1 o2
    rw [f52_33, dle (by omega) (by omega), decide_eq_false (by omega), cond_false, show nI (f + (c + 1)) - 1 = nI (f + c) from nI_pred (f + c), inb24 (show f + c < 24 by omega), gd_t, cl_s (show f + c < 2 ^ 31 by omega), hs c (by omega), f53_d hXY o1 o2 hd, bd_s, dle (by omega) (by omega), psK]
    by_cases c1 : kx D p d x < kx D p d (o c)
    · rw [if_pos c1, decide_eq_false (show ¬ kx D p d (o c) ≤ kx D p d x by omega), cond_false, gd_t, inb24 h24, gd_t, cl_s (by omega), show nI (f + (c + 1)) + (-1) = nI (f + c) from pk_m1 (f + c)]
      have hpl := psK_le (kx D p d) x o c
      have r1 : ∀ j, jm_up M 109 (f + (c + 1)) (nI (o c)) 109 j = if j = f + (c + 1) then nI (o c) else M 109 j := fun j => by
        by_cases q : j = f + (c + 1)
        · subst q
          rw [jup_eq, if_pos rfl]
        · rw [jup_nj q, if_neg q]
      obtain ⟨M', q1, q2, q3⟩ := ih m (jm_up M 109 (f + (c + 1)) (nI (o c))) (fun g hg e => by rw [jup_ne (by omega), jup_ne (by omega)]; exact hXY g hg e) (by omega) (by omega) (fun i hi => ho i (by omega)) (fun i hi => by rw [r1, if_neg (by omega)]; exact hs i (by omega))
      refine ⟨M', q1, fun b hb => by rw [q2 b hb, jup_ne hb], fun j => ?_⟩
      rw [q3, r1]
      by_cases a1 : f + psK (kx D p d) x o c < j ∧ j ≤ f + c
      · rw [if_pos a1, if_pos (by omega)]
      · rw [if_neg a1]
        by_cases a2 : j = f + (c + 1)
        · rw [if_pos a2, if_pos (by omega), show j - f - 1 = c by omega]
        · rw [if_neg a2, if_neg (by omega)]
    · rw [if_neg c1, decide_eq_true (show kx D p d (o c) ≤ kx D p d x by omega), cond_true]
      exact ⟨M, rfl, fun _ _ => rfl, fun j => by rw [if_neg (by omega)]⟩
theorem f52_d (hk : hok D) {p d f n : Nat} {o : Nat → Nat} (hXY : XY M D p) (hp : p < 6) (hd : d < 2 ^ 31) (hn : 1 ≤ n) (hf : f + n ≤ 24) (ho : gr D p o n) (hs : ∀ i, i < n → M 109 (f + i) = nI (o i)) :
    ∃ M', f52 M (nI f) (nI (f + n)) (nI d) = some M' ∧ (∀ b, b ≠ 109 → M' b = M b) ∧ (∀ i, i < n → M' 109 (f + i) = nI (sr (kx D p d) o n i)) ∧ ∀ j, j < f ∨ f + n ≤ j → M' 109 j = M 109 j := by
  unfold f52
  have hx := lpI1 (fun m (w : jm_MM) u => f52_5 (fun Me20 => some Me20) m w (nI f) (nI (f + n)) (nI d) u) (fun w => some w)
    (fun j w => f < j ∧ (∀ b, b ≠ 109 → w b = M b) ∧ (∀ i, i < n → w 109 (f + i) = nI (sr (kx D p d) o (j - f) i)) ∧ ∀ i, i < f ∨ f + n ≤ i → w 109 i = M 109 i) (f + n) (f + 1) (by omega) (by omega) ?_ ?_ M ⟨by omega, fun _ _ => rfl, fun i hi => by rw [show f + 1 - f = 1 by omega, sr_1, hs i hi], fun _ _ => rfl⟩
  · obtain ⟨M', h1, -, h2, h3, h4⟩ := hx
    rw [show f + n - f = n by omega] at h3
    refine ⟨M', ?_, h2, h3, h4⟩
    rw [nI_1]
    exact h1
  · intro m w _
    show f52_5 _ (m + 1) w _ _ _ (nI (f + n)) = _
    rw [f52_5, dle (by omega) (by omega), decide_eq_true (Nat.le_refl _), cond_true]
  · rintro m j w hj1 hj ⟨g0, g1, g2, g3⟩
    obtain ⟨c, rfl⟩ : ∃ c, j = f + c := ⟨j - f, by omega⟩
    rw [show f + c - f = c by omega] at g2
    have hc : c < n := by omega
    have hXw : XY w D p := fun g hg e => by rw [g1 110 (by omega), g1 111 (by omega)]; exact hXY g hg e
    have ho2 : ∀ i, i < c → sr (kx D p d) o c i < 24 ∧ di D p (sr (kx D p d) o c i) = true := fun i hi => by
      obtain ⟨j, h1, h2⟩ := sr_mem (kx D p d) o c i hi
      rw [h2]
      exact ho.1 j (by omega)
    have hwc : w 109 (f + c) = nI (o c) := by rw [g2 c hc, sr_out _ _ _ _ (Nat.le_refl c)]
    obtain ⟨h1, h2⟩ := ho.1 c hc
    obtain ⟨w', q1, q2, q3⟩ := f52_33_d hk hp hd (fun Me12 ve13 ve14 ve15 ve16 ve17 ve18 => jm_gd (jm_inb ve18 24) ((f52_5 (fun Me20 => some Me20) m) (jm_up Me12 109 ve18.toNatClampNeg ve17) ve13 ve14 ve15 (ve16 + 1))) (nI (f + n)) (nI (f + c)) (nI (o c)) (sr (kx D p d) o c) h1 h2 c jm_F w hXw (show c < 5000 by omega) (by omega) ho2 (fun i hi => g2 i (by omega))
    have hpl := psK_le (kx D p d) (o c) (sr (kx D p d) o c) c
    refine ⟨jm_up w' 109 (f + psK (kx D p d) (o c) (sr (kx D p d) o c) c) (nI (o c)), ?_, by omega, fun b hb => by rw [jup_ne hb, q2 b hb, g1 b hb], fun i hi => ?_, fun i hi => ?_⟩
    · show f52_5 _ (m + 1) w _ _ _ (nI (f + c)) = f52_5 _ m _ _ _ _ (nI (f + c + 1))
      rw [f52_5, dle (by omega) (by omega), decide_eq_false (by omega), cond_false, inb24 (by omega), gd_t, cl_s (by omega), hwc, f53_d hXw h1 h2 hd, bd_s, q1, inb24 (by omega), gd_t, cl_s (by omega), nI_1]
    · rw [show f + c + 1 - f = c + 1 by omega, sr]
      rcases Nat.lt_trichotomy i (psK (kx D p d) (o c) (sr (kx D p d) o c) c) with a | a | a
      · rw [jup_nj (by omega), q3, if_neg (by omega), g2 i hi, inK_lt a]
      · rw [a, jup_eq, inK_eq]
      · rw [jup_nj (by omega), q3]
        by_cases a2 : i ≤ c
        · rw [if_pos (by omega), inK_gt a a2, show f + i - f - 1 = i - 1 by omega]
        · rw [if_neg (by omega), inK_out (by omega), g2 i hi]
    · rw [jup_nj (by omega), q3, if_neg (by omega), g3 i hi]
/-! putting in order, the reference -/
theorem f148_24_d (hk : hok D) {p d f : Nat} (hp : p < 6) (hd : d < 2 ^ 31) (ke0 : jm_MM → Int32 → Int32 → Int32 → Int32 → Int32 → Int32 → Int32 → Option jm_MM) (v3 v5 : Int32) (o : Nat → Nat) {x : Nat} (hx : x < 24) (ex : di D p x = true) :
    ∀ (c n : Nat) (M : jm_MM), hM M 0 D → c < n → f + c < 24 → (∀ i, i < c → o i < 24 ∧ di D p (o i) = true) → (∀ i, i < c → M 121 (f + i) = nI (o i)) →
    ∃ M', f148_24 ke0 n M (nI p) (nI f) v3 (nI d) v5 (nI x) (nI (f + c)) = ke0 M' (nI p) (nI f) v3 (nI d) v5 (nI x) (nI (f + psK (kx D p d) x o c)) ∧ (∀ b, b ≠ 121 → M' b = M b) ∧ ∀ j, M' 121 j = if f + psK (kx D p d) x o c < j ∧ j ≤ f + c then nI (o (j - f - 1)) else M 121 j := by
  intro c
  induction c with
  | zero =>
    intro n M _ hn _ _ _
    obtain ⟨m, rfl⟩ : ∃ m, n = m + 1 := ⟨n - 1, by omega⟩
    refine ⟨M, ?_, fun _ _ => rfl, fun j => by rw [if_neg (by omega)]⟩
    rw [f148_24, dle (by omega) (by omega), decide_eq_true (by omega), cond_true, psK]
  | succ c ih =>
    intro n M hM0 hn h24 ho hs
    obtain ⟨m, rfl⟩ : ∃ m, n = m + 1 := ⟨n - 1, by omega⟩
    obtain ⟨o1, o2⟩ := ho c (by omega)
    have k1 := ky_le hk d hp hx ex
    have k2 := ky_le hk d hp o1 o2
    have k3 := kxy hk (d := d) hp hx o1 ex o2
    rw [f148_24, dle (by omega) (by omega), decide_eq_false (by omega), cond_false, show nI (f + (c + 1)) - 1 = nI (f + c) from nI_pred (f + c), inb24 (show f + c < 24 by omega), gd_t, cl_s (show f + c < 2 ^ 31 by omega), hs c (by omega), f147_d hM0 hp o1 o2 hd, bd_s, f147_d hM0 hp hx ex hd, bd_s, dle (by omega) (by omega), psK]
    by_cases c1 : kx D p d x < kx D p d (o c)
    · have c2 := k3.mp c1
      rw [if_pos c1, decide_eq_false (show ¬ ky D p d (o c) ≤ ky D p d x by omega), cond_false, gd_t, inb24 h24, gd_t, cl_s (by omega), show nI (f + (c + 1)) + (-1) = nI (f + c) from pk_m1 (f + c)]
      have hpl := psK_le (kx D p d) x o c
      have r1 : ∀ j, jm_up M 121 (f + (c + 1)) (nI (o c)) 121 j = if j = f + (c + 1) then nI (o c) else M 121 j := fun j => by
        by_cases q : j = f + (c + 1)
        · subst q
          rw [jup_eq, if_pos rfl]
        · rw [jup_nj q, if_neg q]
      obtain ⟨M', q1, q2, q3⟩ := ih m (jm_up M 121 (f + (c + 1)) (nI (o c))) (hM_fr hM0 (jup_ne (by omega))) (by omega) (by omega) (fun i hi => ho i (by omega)) (fun i hi => by rw [r1, if_neg (by omega)]; exact hs i (by omega))
      refine ⟨M', q1, fun b hb => by rw [q2 b hb, jup_ne hb], fun j => ?_⟩
      rw [q3, r1]
      by_cases a1 : f + psK (kx D p d) x o c < j ∧ j ≤ f + c
      · rw [if_pos a1, if_pos (by omega)]
      · rw [if_neg a1]
        by_cases a2 : j = f + (c + 1)
        · rw [if_pos a2, if_pos (by omega), show j - f - 1 = c by omega]
        · rw [if_neg a2, if_neg (by omega)]
    · have c2 : ¬ ky D p d x < ky D p d (o c) := fun q => c1 (k3.mpr q)
      rw [if_neg c1, decide_eq_true (show ky D p d (o c) ≤ ky D p d x by omega), cond_true]
      exact ⟨M, rfl, fun _ _ => rfl, fun j => by rw [if_neg (by omega)]⟩
theorem f148_d (hk : hok D) {p d f n : Nat} {o : Nat → Nat} (hM0 : hM M 0 D) (hp : p < 6) (hd : d < 2 ^ 31) (hn : 1 ≤ n) (hf : f + n ≤ 24) (ho : gr D p o n) (hs : ∀ i, i < n → M 121 (f + i) = nI (o i)) :
    ∃ M', f148 M (nI p) (nI f) (nI (f + n)) (nI d) = some M' ∧ (∀ b, b ≠ 121 → M' b = M b) ∧ (∀ i, i < n → M' 121 (f + i) = nI (sr (kx D p d) o n i)) ∧ ∀ j, j < f ∨ f + n ≤ j → M' 121 j = M 121 j := by
  unfold f148
  have hx := lpI1 (fun m (w : jm_MM) u => f148_5 (fun Me21 => some Me21) m w (nI p) (nI f) (nI (f + n)) (nI d) u) (fun w => some w)
    (fun j w => f < j ∧ (∀ b, b ≠ 121 → w b = M b) ∧ (∀ i, i < n → w 121 (f + i) = nI (sr (kx D p d) o (j - f) i)) ∧ ∀ i, i < f ∨ f + n ≤ i → w 121 i = M 121 i) (f + n) (f + 1) (by omega) (by omega) ?_ ?_ M ⟨by omega, fun _ _ => rfl, fun i hi => by rw [show f + 1 - f = 1 by omega, sr_1, hs i hi], fun _ _ => rfl⟩
  · obtain ⟨M', h1, -, h2, h3, h4⟩ := hx
    rw [show f + n - f = n by omega] at h3
    refine ⟨M', ?_, h2, h3, h4⟩
    rw [nI_1]
    exact h1
  · intro m w _
    show f148_5 _ (m + 1) w _ _ _ _ (nI (f + n)) = _
    rw [f148_5, dle (by omega) (by omega), decide_eq_true (Nat.le_refl _), cond_true]
  · rintro m j w hj1 hj ⟨g0, g1, g2, g3⟩
    obtain ⟨c, rfl⟩ : ∃ c, j = f + c := ⟨j - f, by omega⟩
    rw [show f + c - f = c by omega] at g2
    have hc : c < n := by omega
    have hXw : hM w 0 D := hM_fr hM0 (g1 114 (by omega))
    have ho2 : ∀ i, i < c → sr (kx D p d) o c i < 24 ∧ di D p (sr (kx D p d) o c i) = true := fun i hi => by
      obtain ⟨j, h1, h2⟩ := sr_mem (kx D p d) o c i hi
      rw [h2]
      exact ho.1 j (by omega)
    have hwc : w 121 (f + c) = nI (o c) := by rw [g2 c hc, sr_out _ _ _ _ (Nat.le_refl c)]
    obtain ⟨h1, h2⟩ := ho.1 c hc
    obtain ⟨w', q1, q2, q3⟩ := f148_24_d hk hp hd (fun Me12 ve13 ve14 ve15 ve16 ve17 ve18 ve19 => jm_gd (jm_inb ve19 24) ((f148_5 (fun Me21 => some Me21) m) (jm_up Me12 121 ve19.toNatClampNeg ve18) ve13 ve14 ve15 ve16 (ve17 + 1))) (nI (f + n)) (nI (f + c)) (sr (kx D p d) o c) h1 h2 c jm_F w hXw (show c < 5000 by omega) (by omega) ho2 (fun i hi => g2 i (by omega))
    have hpl := psK_le (kx D p d) (o c) (sr (kx D p d) o c) c
    refine ⟨jm_up w' 121 (f + psK (kx D p d) (o c) (sr (kx D p d) o c) c) (nI (o c)), ?_, by omega, fun b hb => by rw [jup_ne hb, q2 b hb, g1 b hb], fun i hi => ?_, fun i hi => ?_⟩
    · show f148_5 _ (m + 1) w _ _ _ _ (nI (f + c)) = f148_5 _ m _ _ _ _ _ (nI (f + c + 1))
      rw [f148_5, dle (by omega) (by omega), decide_eq_false (by omega), cond_false, inb24 (by omega), gd_t, cl_s (by omega), hwc, q1, inb24 (by omega), gd_t, cl_s (by omega), nI_1]
    · rw [show f + c + 1 - f = c + 1 by omega, sr]
      rcases Nat.lt_trichotomy i (psK (kx D p d) (o c) (sr (kx D p d) o c) c) with a | a | a
      · rw [jup_nj (by omega), q3, if_neg (by omega), g2 i hi, inK_lt a]
      · rw [a, jup_eq, inK_eq]
      · rw [jup_nj (by omega), q3]
        by_cases a2 : i ≤ c
        · rw [if_pos (by omega), inK_gt a a2, show f + i - f - 1 = i - 1 by omega]
        · rw [if_neg (by omega), inK_out (by omega), g2 i hi]
    · rw [jup_nj (by omega), q3, if_neg (by omega), g3 i hi]
end
