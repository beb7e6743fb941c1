/-! ===== Int32 by its bits: bt x i ===== -/
def bt (x : Int32) (i : Nat) : Bool := x.toBitVec.getLsbD i
theorem b_ext {x y : Int32} (h : ∀ i, i < 32 → bt x i = bt y i) : x = y := Int32.toBitVec_inj.mp (BitVec.eq_of_getLsbD_eq (fun i hi => h i hi))
theorem b_or (x y : Int32) (i : Nat) : bt (x ||| y) i = (bt x i || bt y i) := by unfold bt; rw [Int32.toBitVec_or, BitVec.getLsbD_or]
theorem b_and (x y : Int32) (i : Nat) : bt (x &&& y) i = (bt x i && bt y i) := by unfold bt; rw [Int32.toBitVec_and, BitVec.getLsbD_and]
theorem b_xor (x y : Int32) (i : Nat) : bt (x ^^^ y) i = (bt x i ^^ bt y i) := by unfold bt; rw [Int32.toBitVec_xor, BitVec.getLsbD_xor]
theorem b_big {x : Int32} {i : Nat} (h : 32 ≤ i) : bt x i = false := BitVec.getLsbD_of_ge _ _ h
theorem b_255 (i : Nat) : bt 255 i = decide (i < 8) := by
  rcases Nat.lt_or_ge i 32 with h | h
  · exact (by decide +kernel : ∀ i, i < 32 → bt 255 i = decide (i < 8)) i h
  · rw [b_big h, decide_eq_false (by omega)]
theorem b_65535 (i : Nat) : bt 65535 i = decide (i < 16) := by
  rcases Nat.lt_or_ge i 32 with h | h
  · exact (by decide +kernel : ∀ i, i < 32 → bt 65535 i = decide (i < 16)) i h
  · rw [b_big h, decide_eq_false (by omega)]
theorem b_m1 : ∀ i, i < 32 → bt (-1) i = true := by decide +kernel
theorem b_0 (i : Nat) : bt 0 i = false := BitVec.getLsbD_zero
theorem s_l : ∀ n, n < 32 → ((nI n &&& 31).toBitVec.smod 32).toNat = n := by decide +kernel
theorem s_u : ∀ n, n < 32 → (((nI n).toUInt32 &&& Int32.toUInt32 31).toBitVec % 32).toNat = n := by decide +kernel
theorem b_shl (n : Nat) (hn : n < 32) (x : Int32) {i : Nat} (hi : i < 32) : bt (x <<< (nI n &&& 31)) i = (decide (n ≤ i) && bt x (i - n)) := by
  unfold bt
  rw [Int32.toBitVec_shiftLeft]
  show (x.toBitVec <<< ((nI n &&& 31).toBitVec.smod 32).toNat).getLsbD i = _
  rw [s_l n hn, BitVec.getLsbD_shiftLeft]
  rcases Nat.lt_or_ge i n with h | h
  · simp [h, Nat.not_le.mpr h]
  · simp [hi, h, Nat.not_lt.mpr h]
theorem b_ushr (n : Nat) (hn : n < 32) (x : Int32) (i : Nat) : bt ((x.toUInt32 >>> ((nI n).toUInt32 &&& Int32.toUInt32 31)).toInt32) i = bt x (n + i) := by
  show (x.toUInt32 >>> ((nI n).toUInt32 &&& Int32.toUInt32 31)).toBitVec.getLsbD i = x.toUInt32.toBitVec.getLsbD (n + i)
  rw [UInt32.toBitVec_shiftRight]
  show (x.toUInt32.toBitVec >>> (((nI n).toUInt32 &&& Int32.toUInt32 31).toBitVec % 32).toNat).getLsbD i = _
  rw [s_u n hn, BitVec.getLsbD_ushiftRight]
theorem b_sshr (n : Nat) (hn : n < 32) (x : Int32) {i : Nat} (hi : i < 32) : bt (x >>> (nI n &&& 31)) i = if n + i < 32 then bt x (n + i) else bt x 31 := by
  unfold bt
  rw [Int32.toBitVec_shiftRight]
  show (x.toBitVec.sshiftRight ((nI n &&& 31).toBitVec.smod 32).toNat).getLsbD i = _
  rw [s_l n hn, BitVec.getLsbD_sshiftRight, BitVec.msb_eq_getLsbD_last]
  simp [hi]
/-! ===== order of ints, in all its forms, and through longs ===== -/
theorem fa_lt (a b : Int32) : a < b ↔ a.toInt < b.toInt := Int32.lt_iff_toInt_lt
theorem fa_le (a b : Int32) : a ≤ b ↔ a.toInt ≤ b.toInt := Int32.le_iff_toInt_le
theorem fa_eq (a b : Int32) : a = b ↔ a.toInt = b.toInt := Int32.toInt_inj.symm
theorem fa_lt64 (a b : Int64) : a < b ↔ a.toInt < b.toInt := Int64.lt_iff_toInt_lt
theorem fa_le64 (a b : Int64) : a ≤ b ↔ a.toInt ≤ b.toInt := Int64.le_iff_toInt_le
theorem fa_eq64 (a b : Int64) : a = b ↔ a.toInt = b.toInt := Int64.toInt_inj.symm
/-- a comparison of two ints taken as longs -/
theorem fa_wide_lt (a b : Int32) : a.toInt64 < b.toInt64 ↔ a < b := by rw [fa_lt64, fa_lt, Int32.toInt_toInt64, Int32.toInt_toInt64]
theorem fa_wide_le (a b : Int32) : a.toInt64 ≤ b.toInt64 ↔ a ≤ b := by rw [fa_le64, fa_le, Int32.toInt_toInt64, Int32.toInt_toInt64]
theorem fa_wide_eq (a b : Int32) : a.toInt64 = b.toInt64 ↔ a = b := by rw [fa_eq64, fa_eq, Int32.toInt_toInt64, Int32.toInt_toInt64]
/-- one strict comparison gives all the others -/
theorem fa_of_lt {a b : Int32} (h : a < b) : a ≤ b ∧ ¬ b ≤ a ∧ ¬ b < a ∧ a ≠ b ∧ b ≠ a := by
  rw [fa_lt] at h
  refine ⟨?_, ?_, ?_, ?_, ?_⟩
  · rw [fa_le]; omega
  · rw [fa_le]; omega
  · rw [fa_lt]; omega
  · intro e; rw [fa_eq] at e; omega
  · intro e; rw [fa_eq] at e; omega
theorem fa_of_nlt {a b : Int32} (h : ¬ a < b) : b ≤ a := by
  rw [fa_lt] at h
  rw [fa_le]
  omega
theorem fa_of_nle {a b : Int32} (h : ¬ a ≤ b) : b < a := by
  rw [fa_le] at h
  rw [fa_lt]
  omega
theorem fa_le_ne {a b : Int32} (h : a ≤ b) (h2 : a ≠ b) : a < b := by
  rw [fa_le] at h
  rw [fa_lt]
  have h3 : a.toInt ≠ b.toInt := fun e => h2 ((fa_eq a b).mpr e)
  omega
theorem fa_three (a b : Int32) : a < b ∨ a = b ∨ b < a := by
  rw [fa_lt, fa_lt, fa_eq]
  omega
theorem fa_trans {a b c : Int32} (h : a < b) (h2 : b ≤ c) : a < c := by
  rw [fa_lt] at *
  rw [fa_le] at h2
  omega
/-! ===== small literals as numbers ===== -/
theorem fa_lit (n : Nat) : (OfNat.ofNat n : Int32) = nI n := rfl
theorem fa_litL (n : Nat) : (OfNat.ofNat n : Int64) = lN n := rfl
/-! ===== bits of a number: 'or', masks, one bit ===== -/
theorem fa_and (a b : Nat) : nI a &&& nI b = nI (a &&& b) := by
  apply Int32.toBitVec_inj.1
  show BitVec.ofNat 32 a &&& BitVec.ofNat 32 b = BitVec.ofNat 32 (a &&& b)
  apply BitVec.eq_of_getLsbD_eq
  intro i hi
  simp [hi]
theorem fa_or (a b : Nat) : nI a ||| nI b = nI (a ||| b) := by
  apply Int32.toBitVec_inj.1
  show BitVec.ofNat 32 a ||| BitVec.ofNat 32 b = BitVec.ofNat 32 (a ||| b)
  apply BitVec.eq_of_getLsbD_eq
  intro i hi
  simp [hi]
/-- a remainder by a power of two, as a mask -/
theorem fa_mask (n k : Nat) : nI n &&& nI (2 ^ k - 1) = nI (n % 2 ^ k) := by rw [fa_and, Nat.and_two_pow_sub_one_eq_mod]
/-- 'or' of a high part and a low one that don't meet is their sum -/
theorem fa_or_sum {a k : Nat} (b : Nat) (h : a < 2 ^ k) : nI (2 ^ k * b) ||| nI a = nI (2 ^ k * b + a) := by rw [fa_or, Nat.two_pow_add_eq_or_of_lt h]
/-! ===== how many places have a property ===== -/
def fb_ct (p : Nat → Bool) : Nat → Nat
  | 0 => 0
  | n + 1 => fb_ct p n + (if p n then 1 else 0)
theorem fb_ct_succ (p : Nat → Bool) (n : Nat) : fb_ct p (n + 1) = fb_ct p n + (if p n then 1 else 0) := rfl
theorem fb_ct_le (p : Nat → Bool) : ∀ n, fb_ct p n ≤ n
  | 0 => Nat.le_refl _
  | n + 1 => by
    have h := fb_ct_le p n
    rw [fb_ct_succ]
    split <;> omega
theorem fb_ct_step (p : Nat → Bool) (m : Nat) : ∀ n, fb_ct p m ≤ fb_ct p (m + n)
  | 0 => Nat.le_refl _
  | n + 1 => by
    have h := fb_ct_step p m n
    show fb_ct p m ≤ fb_ct p (m + n + 1)
    rw [fb_ct_succ]
    omega
theorem fb_ct_mono (p : Nat → Bool) {m n : Nat} (h : m ≤ n) : fb_ct p m ≤ fb_ct p n := by
  have := fb_ct_step p m (n - m)
  rwa [Nat.add_sub_cancel' h] at this
theorem fb_ct_cong {p q : Nat → Bool} : ∀ {n : Nat}, (∀ k, k < n → p k = q k) → fb_ct p n = fb_ct q n
  | 0, _ => rfl
  | n + 1, h => by
    rw [fb_ct_succ, fb_ct_succ, fb_ct_cong (fun k hk => h k (by omega)), h n (by omega)]
/-- one place changed -/
theorem fb_ct_out (p : Nat → Bool) (b : Bool) {i n : Nat} (h : n ≤ i) : fb_ct (fun k => if k = i then b else p k) n = fb_ct p n :=
  fb_ct_cong fun k hk => if_neg (by omega)
theorem fb_ct_upd (p : Nat → Bool) (b : Bool) {i : Nat} : ∀ {n : Nat}, i < n → fb_ct (fun k => if k = i then b else p k) n + (if p i then 1 else 0) = fb_ct p n + (if b then 1 else 0)
  | 0, h => absurd h (Nat.not_lt_zero i)
  | n + 1, h => by
    rw [fb_ct_succ, fb_ct_succ]
    rcases Nat.lt_or_ge i n with q | q
    · have := fb_ct_upd p b q
      have e : (if n = i then b else p n) = p n := if_neg (by omega)
      rw [e]
      omega
    · have e : i = n := by omega
      subst e
      rw [fb_ct_out p b (Nat.le_refl _)]
      simp only [if_true]
      omega
theorem fb_ct_sub {p q : Nat → Bool} : ∀ {n : Nat}, (∀ k, k < n → p k = true → q k = true) → fb_ct p n ≤ fb_ct q n
  | 0, _ => Nat.le_refl _
  | n + 1, h => by
    have h1 := fb_ct_sub (n := n) (p := p) (q := q) (fun k hk => h k (by omega))
    have h2 := h n (by omega)
    rw [fb_ct_succ, fb_ct_succ]
    cases hp : p n <;> cases hq : q n <;> simp_all <;> omega
theorem fb_ct_or {p q : Nat → Bool} : ∀ {n : Nat}, (∀ k, k < n → ¬ (p k = true ∧ q k = true)) → fb_ct (fun k => p k || q k) n = fb_ct p n + fb_ct q n
  | 0, _ => rfl
  | n + 1, h => by
    have h1 := fb_ct_or (n := n) (p := p) (q := q) (fun k hk => h k (by omega))
    have h2 := h n (by omega)
    rw [fb_ct_succ, fb_ct_succ, fb_ct_succ, h1]
    cases hp : p n <;> cases hq : q n <;> simp_all <;> omega
theorem fb_ct_not (p : Nat → Bool) : ∀ n, fb_ct p n + fb_ct (fun k => !p k) n = n
  | 0 => rfl
  | n + 1 => by
    have h := fb_ct_not p n
    rw [fb_ct_succ, fb_ct_succ]
    cases p n <;> simp <;> omega
theorem fb_ct_split (p : Nat → Bool) (m : Nat) : ∀ n, fb_ct p (m + n) = fb_ct p m + fb_ct (fun k => p (m + k)) n
  | 0 => rfl
  | n + 1 => by
    have h := fb_ct_split p m n
    show fb_ct p (m + n + 1) = _
    rw [fb_ct_succ, fb_ct_succ, h, Nat.add_assoc]
theorem fb_ct_zero {p : Nat → Bool} : ∀ {n : Nat}, fb_ct p n = 0 ↔ ∀ k, k < n → p k = false
  | 0 => ⟨fun _ k hk => absurd hk (Nat.not_lt_zero k), fun _ => rfl⟩
  | n + 1 => by
    have h := fb_ct_zero (p := p) (n := n)
    rw [fb_ct_succ]
    constructor
    · intro e k hk
      have e1 : fb_ct p n = 0 := by omega
      rcases Nat.lt_or_ge k n with q | q
      · exact h.mp e1 k q
      · have ek : k = n := by omega
        subst ek
        cases hp : p k
        · rfl
        · simp [hp] at e
    · intro a
      rw [h.mpr (fun k hk => a k (by omega)), a n (by omega)]
      rfl
theorem fb_ct_pos {p : Nat → Bool} {n : Nat} : 0 < fb_ct p n ↔ ∃ k, k < n ∧ p k = true := by
  constructor
  · intro h
    refine Classical.byContradiction fun hx => ?_
    have := fb_ct_zero.mpr (fun k hk => by
      cases hp : p k
      · rfl
      · exact absurd ⟨k, hk, hp⟩ hx : ∀ k, k < n → p k = false)
    omega
  · rintro ⟨k, hk, hp⟩
    rcases Nat.eq_zero_or_pos (fb_ct p n) with e | e
    · have := fb_ct_zero.mp e k hk
      rw [this] at hp
      cases hp
    · exact e
theorem fb_ct_all {p : Nat → Bool} {n : Nat} : fb_ct p n = n ↔ ∀ k, k < n → p k = true := by
  have h := fb_ct_not p n
  constructor
  · intro e k hk
    have z : fb_ct (fun k => !p k) n = 0 := by omega
    have := fb_ct_zero.mp z k hk
    cases hp : p k
    · simp [hp] at this
    · rfl
  · intro a
    have z : fb_ct (fun k => !p k) n = 0 := fb_ct_zero.mpr (fun k hk => by simp [a k hk])
    omega
/-- the k-th place with the property -/
theorem fb_ct_kth {p : Nat → Bool} {k : Nat} : ∀ {n : Nat}, k < fb_ct p n → ∃ i, i < n ∧ p i = true ∧ fb_ct p i = k
  | 0, h => absurd h (Nat.not_lt_zero k)
  | n + 1, h => by
    rcases Nat.lt_or_ge k (fb_ct p n) with q | q
    · obtain ⟨i, h1, h2⟩ := fb_ct_kth q
      exact ⟨i, by omega, h2⟩
    · rw [fb_ct_succ] at h
      cases hp : p n
      · simp [hp] at h; omega
      · simp [hp] at h
        exact ⟨n, by omega, hp, by omega⟩
theorem fb_ct_kth_one {p : Nat → Bool} {i j : Nat} (hi : p i = true) (hj : p j = true) (e : fb_ct p i = fb_ct p j) : i = j := by
  have key : ∀ a b : Nat, a < b → p a = true → fb_ct p a < fb_ct p b := by
    intro a b hab ha
    have h := fb_ct_mono p (show a + 1 ≤ b from hab)
    rw [fb_ct_succ, ha] at h
    simp at h
    omega
  rcases Nat.lt_trichotomy i j with q | q | q
  · have := key i j q hi; omega
  · exact q
  · have := key j i q hj; omega
/-! ===== sums over a range: one place changed, parts, bounds ===== -/
def fb_sm (f : Nat → Nat) : Nat → Nat
  | 0 => 0
  | n + 1 => fb_sm f n + f n
theorem fb_sm_succ (f : Nat → Nat) (n : Nat) : fb_sm f (n + 1) = fb_sm f n + f n := rfl
theorem fb_sm_cong {f g : Nat → Nat} : ∀ {n : Nat}, (∀ k, k < n → f k = g k) → fb_sm f n = fb_sm g n
  | 0, _ => rfl
  | n + 1, h => by rw [fb_sm_succ, fb_sm_succ, fb_sm_cong (fun k hk => h k (by omega)), h n (by omega)]
theorem fb_sm_out (f : Nat → Nat) (v : Nat) {i n : Nat} (h : n ≤ i) : fb_sm (fun k => if k = i then v else f k) n = fb_sm f n :=
  fb_sm_cong fun k hk => if_neg (by omega)
theorem fb_sm_upd (f : Nat → Nat) (v : Nat) {i : Nat} : ∀ {n : Nat}, i < n → fb_sm (fun k => if k = i then v else f k) n + f i = fb_sm f n + v
  | 0, h => absurd h (Nat.not_lt_zero i)
  | n + 1, h => by
    rw [fb_sm_succ, fb_sm_succ]
    rcases Nat.lt_or_ge i n with q | q
    · have := fb_sm_upd f v q
      have e : (if n = i then v else f n) = f n := if_neg (by omega)
      rw [e]
      omega
    · have e : i = n := by omega
      subst e
      rw [fb_sm_out f v (Nat.le_refl _)]
      simp only [if_true]
      omega
theorem fb_sm_add (f g : Nat → Nat) : ∀ n, fb_sm (fun k => f k + g k) n = fb_sm f n + fb_sm g n
  | 0 => rfl
  | n + 1 => by
    have h := fb_sm_add f g n
    rw [fb_sm_succ, fb_sm_succ, fb_sm_succ, h]
    omega
theorem fb_sm_le {f g : Nat → Nat} : ∀ {n : Nat}, (∀ k, k < n → f k ≤ g k) → fb_sm f n ≤ fb_sm g n
  | 0, _ => Nat.le_refl _
  | n + 1, h => by
    have h1 := fb_sm_le (n := n) (f := f) (g := g) (fun k hk => h k (by omega))
    have h2 := h n (by omega)
    rw [fb_sm_succ, fb_sm_succ]
    omega
theorem fb_sm_const (c : Nat) : ∀ n, fb_sm (fun _ => c) n = n * c
  | 0 => by rw [Nat.zero_mul]; rfl
  | n + 1 => by rw [fb_sm_succ, fb_sm_const c n, Nat.succ_mul]
theorem fb_sm_bound {f : Nat → Nat} {c n : Nat} (h : ∀ k, k < n → f k ≤ c) : fb_sm f n ≤ n * c := by
  rw [← fb_sm_const c n]
  exact fb_sm_le h
theorem fb_sm_mono (f : Nat → Nat) (m : Nat) : ∀ n, fb_sm f m ≤ fb_sm f (m + n)
  | 0 => Nat.le_refl _
  | n + 1 => by
    have h := fb_sm_mono f m n
    show fb_sm f m ≤ fb_sm f (m + n + 1)
    rw [fb_sm_succ]
    omega
theorem fb_sm_part (f : Nat → Nat) {i n : Nat} (h : i < n) : fb_sm f i + f i ≤ fb_sm f n := by
  have := fb_sm_mono f (i + 1) (n - (i + 1))
  rw [fb_sm_succ, show i + 1 + (n - (i + 1)) = n by omega] at this
  exact this
theorem fb_sm_split (f : Nat → Nat) (m : Nat) : ∀ n, fb_sm f (m + n) = fb_sm f m + fb_sm (fun k => f (m + k)) n
  | 0 => rfl
  | n + 1 => by
    have h := fb_sm_split f m n
    show fb_sm f (m + n + 1) = _
    rw [fb_sm_succ, fb_sm_succ, h, Nat.add_assoc]
theorem fb_sm_zero {f : Nat → Nat} {n : Nat} (h : fb_sm f n = 0) : ∀ k, k < n → f k = 0 := fun k hk => by
  have := fb_sm_part f hk
  omega
/-! ===== words and rules of the pure part ===== -/
def bI (b : Bool) : Int32 := if b then 1 else 0
theorem bI_0 (b : Bool) : decide (bI b = 0) = !b := by cases b <;> decide +kernel
theorem bI_1 (b : Bool) : decide (bI b = 1) = b := by cases b <;> decide +kernel
theorem bI_z (b : Bool) : jm_z1 (bI b) = true := by cases b <;> decide +kernel
theorem bI_t : bI true = 1 := rfl
theorem bI_f : bI false = 0 := rfl
theorem bd_s {α β : Type} (a : α) (f : α → Option β) : jm_bd (some a) f = f a := rfl
theorem gd_t {α : Type} (x : Option α) : jm_gd true x = x := rfl
theorem inb_s {i n : Nat} (h : i < n) (hn : n < 2 ^ 31) : jm_inb (nI i) n = true := jm_inb_nI h hn
theorem inb24 {i : Nat} (h : i < 24) : jm_inb (nI i) 24 = true := jm_inb_nI h (by omega)
theorem inb6 {i : Nat} (h : i < 6) : jm_inb (nI i) 6 = true := jm_inb_nI h (by omega)
theorem cl_s {n : Nat} (h : n < 2 ^ 31) : (nI n).toNatClampNeg = n := nI_clamp h
theorem dle {a b : Nat} (ha : a < 2 ^ 31) (hb : b < 2 ^ 31) : decide (nI a ≤ nI b) = decide (a ≤ b) := by
  by_cases h : a ≤ b
  · rw [decide_eq_true h, decide_eq_true ((nI_leI ha hb).mpr h)]
  · rw [decide_eq_false h, decide_eq_false (fun e => h ((nI_leI ha hb).mp e))]
theorem dlt {a b : Nat} (ha : a < 2 ^ 31) (hb : b < 2 ^ 31) : decide (nI a < nI b) = decide (a < b) := by
  by_cases h : a < b
  · rw [decide_eq_true h, decide_eq_true ((nI_ltI ha hb).mpr h)]
  · rw [decide_eq_false h, decide_eq_false (fun e => h ((nI_ltI ha hb).mp e))]
theorem deq {a b : Nat} (ha : a < 2 ^ 31) (hb : b < 2 ^ 31) : decide (nI a = nI b) = decide (a = b) := by
  by_cases h : a = b
  · rw [decide_eq_true h, decide_eq_true ((nI_eq ha hb).mpr h)]
  · rw [decide_eq_false h, decide_eq_false (fun e => h ((nI_eq ha hb).mp e))]
theorem c24 {i : Nat} (h : i < 24) : decide ((24 : Int32) ≤ nI i) = false := by
  rw [show (24 : Int32) = nI 24 from rfl, dle (by omega) (by omega)]
  exact decide_eq_false (by omega)
theorem c24e : decide ((24 : Int32) ≤ nI 24) = true := by decide +kernel
theorem cM1 {n : Nat} (h : n < 2 ^ 31) : decide (nI n = (-1 : Int32)) = false := by
  refine decide_eq_false fun e => ?_
  have h1 := nI_toInt h
  rw [e] at h1
  have h2 : (-1 : Int32).toInt = -1 := by decide +kernel
  omega
theorem nM1 {n : Nat} (h : n < 2 ^ 31) : nI n ≠ (-1 : Int32) := of_decide_eq_false (cM1 h)
/-- a loop that may end early: what holds at its end holds of its answer -/
theorem lpX {α β : Type} (F : Nat → α → Int32 → Option β) (Q : Option β → Prop) (P : Nat → α → Prop) (N : Nat)
    (hend : ∀ n a, P N a → Q (F (n + 1) a (nI N)))
    (hstep : ∀ n i a, i < N → P i a → Q (F (n + 1) a (nI i)) ∨ ∃ a', F (n + 1) a (nI i) = F n a' (nI (i + 1)) ∧ P (i + 1) a') :
    ∀ m i n a, i + m = N → m < n → P i a → Q (F n a (nI i)) := by
  intro m
  induction m with
  | zero =>
    intro i n a h1 h2 h3
    obtain ⟨k, rfl⟩ : ∃ k, n = k + 1 := ⟨n - 1, by omega⟩
    have e : i = N := by omega
    subst e
    exact hend k a h3
  | succ m ih =>
    intro i n a h1 h2 h3
    obtain ⟨k, rfl⟩ : ∃ k, n = k + 1 := ⟨n - 1, by omega⟩
    rcases hstep k i a (by omega) h3 with h | ⟨a', h, h4⟩
    · exact h
    · rw [h]
      exact ih (i + 1) k a' (by omega) (by omega) h4
theorem lpX0 {α β : Type} (F : Nat → α → Int32 → Option β) (Q : Option β → Prop) (P : Nat → α → Prop) (N : Nat) (hN : N < 5000)
    (hend : ∀ n a, P N a → Q (F (n + 1) a (nI N)))
    (hstep : ∀ n i a, i < N → P i a → Q (F (n + 1) a (nI i)) ∨ ∃ a', F (n + 1) a (nI i) = F n a' (nI (i + 1)) ∧ P (i + 1) a')
    (a : α) (h0 : P 0 a) : Q (F jm_F a 0) := by
  have h := lpX F Q P N hend hstep N 0 jm_F a (by omega) hN h0
  rwa [nI_0] at h
/-- a loop that runs to its end -/
theorem lpI {α β : Type} (F : Nat → α → Int32 → Option β) (K : α → Option β) (P : Nat → α → Prop) (N : Nat) (hN : N < 5000)
    (hend : ∀ n a, P N a → F (n + 1) a (nI N) = K a)
    (hstep : ∀ n i a, i < N → P i a → ∃ a', F (n + 1) a (nI i) = F n a' (nI (i + 1)) ∧ P (i + 1) a')
    (a : α) (h0 : P 0 a) : ∃ a', F jm_F a 0 = K a' ∧ P N a' :=
  lpX0 F (fun r => ∃ a', r = K a' ∧ P N a') P N hN (fun n a h => ⟨a, hend n a h, h⟩) (fun n i a hi h => Or.inr (hstep n i a hi h)) a h0
theorem lpI1 {α β : Type} (F : Nat → α → Int32 → Option β) (K : α → Option β) (P : Nat → α → Prop) (N i : Nat) (hi : i ≤ N) (hN : N < 5000)
    (hend : ∀ n a, P N a → F (n + 1) a (nI N) = K a)
    (hstep : ∀ n j a, i ≤ j → j < N → P j a → ∃ a', F (n + 1) a (nI j) = F n a' (nI (j + 1)) ∧ P (j + 1) a')
    (a : α) (h0 : P i a) : ∃ a', F jm_F a (nI i) = K a' ∧ P N a' := by
  have h := lpX F (fun r => ∃ a', r = K a' ∧ P N a') (fun j a => i ≤ j ∧ P j a) N (fun n a h => ⟨a, hend n a h.2, h.2⟩) (fun n j a hj h => Or.inr (by
    obtain ⟨a', h1, h2⟩ := hstep n j a h.1 hj h.2
    exact ⟨a', h1, by omega, h2⟩)) (N - i) i jm_F a (by omega) (by show N - i < 5000; omega) ⟨Nat.le_refl _, h0⟩
  exact h
/-- a loop whose value at each turn is known -/
theorem lpV {α β : Type} (F : Nat → α → Int32 → Option β) (s : Nat → α) (R : Option β) (N : Nat) (hN : N < 5000)
    (hend : ∀ n, F (n + 1) (s N) (nI N) = R)
    (hstep : ∀ n i, i < N → F (n + 1) (s i) (nI i) = F n (s (i + 1)) (nI (i + 1))) : F jm_F (s 0) 0 = R :=
  lpX0 F (fun r => r = R) (fun i a => a = s i) N hN (fun n a h => by rw [h]; exact hend n) (fun n i a hi h => Or.inr ⟨s (i + 1), by rw [h]; exact hstep n i hi, rfl⟩) (s 0) rfl
/-! bits -/
theorem b_1 : ∀ i, i < 32 → bt 1 i = decide (i = 0) := by decide +kernel
theorem b_bI (b : Bool) {i : Nat} (hi : i < 32) : bt (bI b) i = (b && decide (i = 0)) := by
  cases b
  · rw [bI_f, b_0, Bool.false_and]
  · rw [bI_t, b_1 i hi, Bool.true_and]
theorem hs_bit (x : Int32) {k : Nat} (hk : k < 32) : (x >>> (nI k &&& 31)) &&& 1 = bI (bt x k) := by
  refine b_ext fun i hi => ?_
  rw [b_and, b_sshr k hk x hi, b_1 i hi, b_bI _ hi]
  by_cases h : i = 0
  · subst h
    rw [if_pos (by omega)]
    rfl
  · rw [decide_eq_false h, Bool.and_false, Bool.and_false]
theorem b_ob {k : Nat} (hk : k < 32) {i : Nat} (hi : i < 32) : bt (1 <<< (nI k &&& 31)) i = decide (i = k) := by
  rw [b_shl k hk 1 hi, b_1 (i - k) (by omega)]
  by_cases h : i = k
  · subst h
    simp
  · by_cases h2 : k ≤ i
    · rw [decide_eq_true h2, decide_eq_false (show ¬ i - k = 0 by omega), decide_eq_false h]
      rfl
    · rw [decide_eq_false h2, decide_eq_false h]
      rfl
theorem b_not (x : Int32) {i : Nat} (hi : i < 32) : bt (x ^^^ (-1)) i = !bt x i := by
  rw [b_xor, b_m1 i hi, Bool.xor_true]
theorem f87_s (M : jm_MM) (x : Int32) {k : Nat} (hk : k < 32) : f87 M x (nI k) = some (bI (bt x k)) := by
  unfold f87
  rw [hs_bit x hk, bI_0]
  cases bt x k <;> rfl
theorem f94_s (M : jm_MM) (x : Int32) {k : Nat} (hk : k < 32) : f94 M x (nI k) = some (bI (bt x k)) := by
  unfold f94
  rw [hs_bit x hk, bI_1]
  cases bt x k <;> rfl
/-- the set of those below n that have a property -/
def mkN (P : Nat → Bool) : Nat → Int32
  | 0 => 0
  | n + 1 => if P n then mkN P n ||| (1 <<< (nI n &&& 31)) else mkN P n
def mk (P : Nat → Bool) : Int32 := mkN P 24
theorem mkN_s (P : Nat → Bool) (n : Nat) : mkN P (n + 1) = if P n then mkN P n ||| (1 <<< (nI n &&& 31)) else mkN P n := rfl
theorem b_mkN (P : Nat → Bool) {i : Nat} (hi : i < 32) : ∀ n, n ≤ 32 → bt (mkN P n) i = (decide (i < n) && P i)
  | 0, _ => by
    rw [mkN, b_0, decide_eq_false (Nat.not_lt_zero i), Bool.false_and]
  | n + 1, h => by
    have ih := b_mkN P hi n (by omega)
    rw [mkN_s]
    by_cases e : i = n
    · subst e
      cases hp : P i
      · rw [if_neg (by simp), ih, hp, Bool.and_false, Bool.and_false]
      · rw [if_pos rfl, b_or, b_ob (by omega) hi, decide_eq_true rfl, Bool.or_true, decide_eq_true (Nat.lt_succ_self i)]
        rfl
    · have e2 : decide (i < n + 1) = decide (i < n) := by
        by_cases h2 : i < n
        · rw [decide_eq_true h2, decide_eq_true (by omega)]
        · rw [decide_eq_false h2, decide_eq_false (by omega)]
      cases hp : P n
      · rw [if_neg (by simp), ih, e2]
      · rw [if_pos rfl, b_or, b_ob (by omega) hi, decide_eq_false e, Bool.or_false, ih, e2]
theorem b_mk (P : Nat → Bool) (i : Nat) : bt (mk P) i = (decide (i < 24) && P i) := by
  rcases Nat.lt_or_ge i 32 with h | h
  · exact b_mkN P h 24 (by omega)
  · rw [b_big h, decide_eq_false (by omega), Bool.false_and]
theorem b_mkl {P : Nat → Bool} {i : Nat} (h : i < 24) : bt (mk P) i = P i := by
  rw [b_mk, decide_eq_true h, Bool.true_and]
theorem b_mkg {P : Nat → Bool} {i : Nat} (h : 24 ≤ i) : bt (mk P) i = false := by
  rw [b_mk, decide_eq_false (by omega), Bool.false_and]
/-- no grain but 0 .. 23 -/
def sm24 (x : Int32) : Prop := ∀ i, 24 ≤ i → bt x i = false
theorem sm_mk (P : Nat → Bool) : sm24 (mk P) := fun _ h => b_mkg h
theorem sm_eq {x y : Int32} (hx : sm24 x) (hy : sm24 y) (h : ∀ i, i < 24 → bt x i = bt y i) : x = y := by
  refine b_ext fun i _ => ?_
  rcases Nat.lt_or_ge i 24 with q | q
  · exact h i q
  · rw [hx i q, hy i q]
theorem mk_eq {x : Int32} {P : Nat → Bool} (hx : sm24 x) (h : ∀ i, i < 24 → bt x i = P i) : x = mk P := sm_eq hx (sm_mk P) fun i hi => by rw [h i hi, b_mkl hi]
theorem mk_ext {P Q : Nat → Bool} (h : ∀ i, i < 24 → P i = Q i) : mk P = mk Q := mk_eq (sm_mk P) fun i hi => by rw [b_mkl hi, h i hi]
theorem mkN_ext {P Q : Nat → Bool} : ∀ n, (∀ i, i < n → P i = Q i) → mkN P n = mkN Q n
  | 0, _ => rfl
  | n + 1, h => by rw [mkN_s, mkN_s, mkN_ext n (fun i hi => h i (by omega)), h n (by omega)]
theorem mk_inj {P Q : Nat → Bool} (h : mk P = mk Q) {i : Nat} (hi : i < 24) : P i = Q i := by
  rw [← b_mkl (P := P) hi, h, b_mkl hi]
theorem mk_0 {P : Nat → Bool} : mk P = 0 ↔ ∀ i, i < 24 → P i = false := by
  constructor
  · intro h i hi
    rw [← b_mkl (P := P) hi, h, b_0]
  · intro h
    exact (mk_eq (x := 0) (fun i _ => b_0 i) (fun i hi => by rw [b_0, h i hi])).symm
theorem sm_0 : sm24 0 := fun i _ => b_0 i
theorem sm_or {x y : Int32} (hx : sm24 x) (hy : sm24 y) : sm24 (x ||| y) := fun i h => by rw [b_or, hx i h, hy i h]; rfl
theorem sm_andl {x y : Int32} (hx : sm24 x) : sm24 (x &&& y) := fun i h => by rw [b_and, hx i h]; rfl
theorem sm_andr {x y : Int32} (hy : sm24 y) : sm24 (x &&& y) := fun i h => by rw [b_and, hy i h, Bool.and_false]
theorem sm_ob {k : Nat} (hk : k < 24) : sm24 (1 <<< (nI k &&& 31)) := fun i h => by
  rcases Nat.lt_or_ge i 32 with q | q
  · rw [b_ob (by omega) q, decide_eq_false (by omega)]
  · exact b_big q
theorem mkN_or0 (P : Nat → Bool) (n : Nat) : mkN P n ||| 0 = mkN P n := b_ext fun i _ => by rw [b_or, b_0, Bool.or_false]
theorem or_z (x : Int32) : x ||| 0 = x := b_ext fun i _ => by rw [b_or, b_0, Bool.or_false]
/-- the weight of a set -/
def ws (w : Nat → Int32) (x : Int32) : Nat → Int32
  | 0 => 0
  | n + 1 => if bt x n then ws w x n + w n else ws w x n
theorem ws_cong {w v : Nat → Int32} {x y : Int32} : ∀ n, (∀ i, i < n → w i = v i) → (∀ i, i < n → bt x i = bt y i) → ws w x n = ws v y n
  | 0, _, _ => rfl
  | n + 1, h, h2 => by rw [ws, ws, ws_cong n (fun i hi => h i (by omega)) (fun i hi => h2 i (by omega)), h n (by omega), h2 n (by omega)]
theorem ws_0 (w : Nat → Int32) : ∀ n, ws w 0 n = 0
  | 0 => rfl
  | n + 1 => by rw [ws, b_0, if_neg (by simp), ws_0 w n]
theorem f20_s (M : jm_MM) (x : Int32) : f20 M x = some (ws (M 3) x 24) := by
  unfold f20
  refine lpV (fun n a v => f20_4 M (fun ve6 => some ve6) n x a v) (ws (M 3) x) _ 24 (by omega) (fun n => ?_) (fun n i hi => ?_)
  · show f20_4 M _ (n + 1) x _ (nI 24) = _
    rw [f20_4, c24e, cond_true]
  · show f20_4 M _ (n + 1) x _ (nI i) = f20_4 M _ n x _ (nI (i + 1))
    rw [f20_4, c24 hi, cond_false, f87_s M x (by omega), bd_s, bI_0, inb24 hi, gd_t, cl_s (by omega), nI_1, ws]
    cases bt x i <;> rfl
theorem zadd (x : Int32) : x + 0 = x := by
  apply Int32.toBitVec_inj.mp
  rw [Int32.toBitVec_add]
  exact BitVec.add_zero _
theorem f119_s (M : jm_MM) (x : Int32) : f119 M x = some (ws (fun g => M 114 (3 + g)) x 24) := by
  unfold f119
  refine lpV (fun n a v => f119_4 M (fun ve6 => some ve6) n x a v) (ws (fun g => M 114 (3 + g)) x) _ 24 (by omega) (fun n => ?_) (fun n i hi => ?_)
  · show f119_4 M _ (n + 1) x _ (nI 24) = _
    rw [f119_4, c24e, cond_true]
  · show f119_4 M _ (n + 1) x _ (nI i) = f119_4 M _ n x _ (nI (i + 1))
    rw [f119_4, c24 hi, cond_false, f94_s M x (by omega), bd_s, bI_0, show (3 : Int32) + nI i = nI (3 + i) from nI_add 3 i, inb_s (show 3 + i < 3531 by omega) (by omega), gd_t, cl_s (by omega), nI_1, ws, zadd]
    cases bt x i <;> rfl
/-- how many -/
theorem f95_s (M : jm_MM) (x : Int32) : f95 M x = some (nI (fb_ct (bt x) 24)) := by
  unfold f95
  refine lpV (fun n a v => f95_4 M (fun ve2 => some ve2) n x a v) (fun i => nI (fb_ct (bt x) i)) _ 24 (by omega) (fun n => ?_) (fun n i hi => ?_)
  · show f95_4 M _ (n + 1) x _ (nI 24) = _
    rw [f95_4, c24e, cond_true]
  · show f95_4 M _ (n + 1) x _ (nI i) = f95_4 M _ n x _ (nI (i + 1))
    rw [f95_4, c24 hi, cond_false, hs_bit x (by omega), nI_1, fb_ct_succ]
    cases bt x i
    · rw [bI_f, zadd]
      rfl
    · rw [bI_t, nI_1]
      rfl
