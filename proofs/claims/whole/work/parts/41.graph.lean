/-! ===== coming to others by links ===== -/
def anyB (p : Nat → Bool) : Nat → Bool
  | 0 => false
  | n + 1 => anyB p n || p n
theorem anyB_iff {p : Nat → Bool} : ∀ {n : Nat}, anyB p n = true ↔ ∃ j, j < n ∧ p j = true
  | 0 => ⟨fun h => (by cases h), fun ⟨j, h, _⟩ => absurd h (Nat.not_lt_zero j)⟩
  | n + 1 => by
    rw [anyB, Bool.or_eq_true, anyB_iff]
    constructor
    · rintro (⟨j, h1, h2⟩ | h)
      · exact ⟨j, by omega, h2⟩
      · exact ⟨n, by omega, h⟩
    · rintro ⟨j, h1, h2⟩
      by_cases e : j = n
      · exact Or.inr (e ▸ h2)
      · exact Or.inl ⟨j, by omega, h2⟩
theorem anyB_f {p : Nat → Bool} {n : Nat} : anyB p n = false ↔ ∀ j, j < n → p j = false := by
  constructor
  · intro h j hj
    cases e : p j
    · rfl
    · rw [anyB_iff.mpr ⟨j, hj, e⟩] at h
      cases h
  · intro h
    cases e : anyB p n
    · rfl
    · obtain ⟨j, h1, h2⟩ := anyB_iff.mp e
      rw [h j h1] at h2
      cases h2
theorem ct_lt {p q : Nat → Bool} {n k : Nat} (h : ∀ i, i < n → p i = true → q i = true) (hk : k < n) (hp : p k = false) (hq : q k = true) : fb_ct p n < fb_ct q n := by
  have h1 := fb_ct_upd p true hk
  rw [hp] at h1
  have h2 : fb_ct (fun i => if i = k then true else p i) n ≤ fb_ct q n := fb_ct_sub fun i hi e => by
    by_cases c : i = k
    · rw [c]; exact hq
    · simp only [if_neg c] at e
      exact h i hi e
  have h3 : fb_ct (fun i => if i = k then true else p i) n + 0 = fb_ct p n + 1 := h1
  omega
def rc (A : Nat → Nat → Bool) (Q : Nat → Bool) (s : Nat) : Nat → Nat → Bool
  | 0, k => decide (k = s)
  | n + 1, k => rc A Q s n k || (Q k && anyB (fun j => rc A Q s n j && A j k) 24)
/-- all that come to s -/
def cp (A : Nat → Nat → Bool) (Q : Nat → Bool) (s k : Nat) : Bool := rc A Q s 23 k
def clo (A : Nat → Nat → Bool) (Q R : Nat → Bool) : Prop := ∀ j k, j < 24 → k < 24 → R j = true → A j k = true → Q k = true → R k = true
theorem rc_s {A : Nat → Nat → Bool} {Q : Nat → Bool} {s n k : Nat} : rc A Q s (n + 1) k = true ↔ rc A Q s n k = true ∨ (Q k = true ∧ ∃ j, j < 24 ∧ rc A Q s n j = true ∧ A j k = true) := by
  rw [rc, Bool.or_eq_true, Bool.and_eq_true, anyB_iff]
  simp only [Bool.and_eq_true]
theorem rc_up {A : Nat → Nat → Bool} {Q : Nat → Bool} {s n k : Nat} (h : rc A Q s n k = true) : rc A Q s (n + 1) k = true := rc_s.mpr (Or.inl h)
theorem rc_self {A : Nat → Nat → Bool} {Q : Nat → Bool} {s : Nat} : ∀ n, rc A Q s n s = true
  | 0 => by rw [rc]; exact decide_eq_true rfl
  | n + 1 => rc_up (rc_self n)
theorem rc_st {A : Nat → Nat → Bool} {Q : Nat → Bool} {s n k : Nat} (hc : clo A Q (rc A Q s n)) (hk : k < 24) (h : rc A Q s (n + 1) k = true) : rc A Q s n k = true := by
  rcases rc_s.mp h with h | ⟨h1, j, h2, h3, h4⟩
  · exact h
  · exact hc j k h2 hk h3 h4 h1
theorem rc_clo1 {A : Nat → Nat → Bool} {Q : Nat → Bool} {s n : Nat} (hc : clo A Q (rc A Q s n)) : clo A Q (rc A Q s (n + 1)) := fun j k hj hk h1 h2 h3 => rc_up (hc j k hj hk (rc_st hc hj h1) h2 h3)
theorem rc_grow {A : Nat → Nat → Bool} {Q : Nat → Bool} {s : Nat} (hs : s < 24) : ∀ n, clo A Q (rc A Q s n) ∨ n + 1 ≤ fb_ct (rc A Q s n) 24
  | 0 => Or.inr (fb_ct_pos.mpr ⟨s, hs, rc_self 0⟩)
  | n + 1 => by
    rcases rc_grow hs n with h | h
    · exact Or.inl (rc_clo1 h)
    · by_cases hc : clo A Q (rc A Q s n)
      · exact Or.inl (rc_clo1 hc)
      · refine Or.inr ?_
        have hx : ∃ j k, j < 24 ∧ k < 24 ∧ rc A Q s n j = true ∧ A j k = true ∧ Q k = true ∧ rc A Q s n k = false := by
          refine Classical.byContradiction fun hx => hc fun j k hj hk h1 h2 h3 => ?_
          cases e : rc A Q s n k
          · exact absurd ⟨j, k, hj, hk, h1, h2, h3, e⟩ hx
          · rfl
        obtain ⟨j, k, hj, hk, h1, h2, h3, h4⟩ := hx
        have := ct_lt (p := rc A Q s n) (q := rc A Q s (n + 1)) (n := 24) (fun i _ h => rc_up h) hk h4 (rc_s.mpr (Or.inr ⟨h3, j, hj, h1, h2⟩))
        omega
theorem cp_clo {A : Nat → Nat → Bool} {Q : Nat → Bool} {s : Nat} (hs : s < 24) : clo A Q (cp A Q s) := by
  rcases rc_grow (A := A) (Q := Q) hs 23 with h | h
  · exact h
  · have h2 := fb_ct_le (rc A Q s 23) 24
    have h3 := fb_ct_all.mp (show fb_ct (rc A Q s 23) 24 = 24 by omega)
    exact fun j k hj hk _ _ _ => h3 k hk
theorem cp_self {A : Nat → Nat → Bool} {Q : Nat → Bool} {s : Nat} : cp A Q s s = true := rc_self 23
theorem rc_least {A : Nat → Nat → Bool} {Q R : Nat → Bool} {s : Nat} (hr : R s = true) (hc : clo A Q R) : ∀ n k, k < 24 → rc A Q s n k = true → R k = true
  | 0, k, hk, h => by
    rw [rc] at h
    rw [of_decide_eq_true h]
    exact hr
  | n + 1, k, hk, h => by
    rcases rc_s.mp h with h | ⟨h1, j, h2, h3, h4⟩
    · exact rc_least hr hc n k hk h
    · exact hc j k h2 hk (rc_least hr hc n j h2 h3) h4 h1
theorem cp_least {A : Nat → Nat → Bool} {Q R : Nat → Bool} {s k : Nat} (hr : R s = true) (hc : clo A Q R) (hk : k < 24) (h : cp A Q s k = true) : R k = true := rc_least hr hc 23 k hk h
theorem rc_cp {A : Nat → Nat → Bool} {Q : Nat → Bool} {s : Nat} (hs : s < 24) {n k : Nat} (hk : k < 24) (h : rc A Q s n k = true) : cp A Q s k = true := rc_least cp_self (cp_clo hs) n k hk h
theorem cp_in {A : Nat → Nat → Bool} {Q : Nat → Bool} {s k : Nat} (hQ : Q s = true) (hk : k < 24) (h : cp A Q s k = true) : Q k = true := cp_least (R := Q) hQ (fun _ _ _ _ _ _ h => h) hk h
theorem cp_uniq {A : Nat → Nat → Bool} {Q R : Nat → Bool} {s : Nat} (hr : R s = true) (hc : clo A Q R) (hi : ∀ k, k < 24 → R k = true → cp A Q s k = true) {k : Nat} (hk : k < 24) : R k = cp A Q s k := by
  cases e : cp A Q s k
  · cases e2 : R k
    · rfl
    · rw [hi k hk e2] at e
      cases e
  · exact cp_least hr hc hk e
theorem cp_trans {A : Nat → Nat → Bool} {Q : Nat → Bool} {a b c : Nat} (ha : a < 24) (hc : c < 24) (h1 : cp A Q a b = true) (h2 : cp A Q b c = true) : cp A Q a c = true := cp_least h1 (cp_clo ha) hc h2
theorem cp_one {A : Nat → Nat → Bool} {Q : Nat → Bool} {a b : Nat} (ha : a < 24) (hb : b < 24) (h1 : A a b = true) (h2 : Q b = true) : cp A Q a b = true := cp_clo ha a b ha hb cp_self h1 h2
theorem cp_sym {A : Nat → Nat → Bool} {Q : Nat → Bool} (hA : ∀ a b, a < 24 → b < 24 → A a b = A b a) {s k : Nat} (hs : s < 24) (hk : k < 24) (hQ : Q s = true) (h : cp A Q s k = true) : cp A Q k s = true := by
  have h2 : (fun j => Q j && cp A Q j s) k = true := by
    refine cp_least (A := A) (Q := Q) (s := s) (k := k) (R := fun j => Q j && cp A Q j s) ?_ ?_ hk h
    · show (Q s && cp A Q s s) = true
      rw [hQ, cp_self]
      rfl
    · intro i j hi hj h1 h2 h3
      have h1 : (Q i && cp A Q i s) = true := h1
      rw [Bool.and_eq_true] at h1
      show (Q j && cp A Q j s) = true
      rw [h3, Bool.true_and]
      exact cp_trans hj hs (cp_one hj hi ((hA j i hj hi).trans h2) h1.1) h1.2
  have h3 : (Q k && cp A Q k s) = true := h2
  rw [Bool.and_eq_true] at h3
  exact h3.2
theorem cp_same {A : Nat → Nat → Bool} {Q : Nat → Bool} (hA : ∀ a b, a < 24 → b < 24 → A a b = A b a) {s k : Nat} (hs : s < 24) (hk : k < 24) (hQ : Q s = true) (h : cp A Q s k = true) {i : Nat} (hi : i < 24) : cp A Q k i = cp A Q s i := by
  have h2 := cp_sym hA hs hk hQ h
  cases e : cp A Q s i
  · cases e2 : cp A Q k i
    · rfl
    · rw [cp_trans hs hi h e2] at e
      cases e
  · exact cp_trans hk hi h2 e
/-- one of those below n, that is among them, comes to h -/
def dnf (A : Nat → Nat → Bool) (Q : Nat → Bool) (n h : Nat) : Bool := anyB (fun j => Q j && cp A Q j h) n
/-- the least of its own -/
def nwf (A : Nat → Nat → Bool) (Q : Nat → Bool) (g : Nat) : Bool := Q g && !dnf A Q g g
theorem dnf_s (A : Nat → Nat → Bool) (Q : Nat → Bool) (n h : Nat) : dnf A Q (n + 1) h = (dnf A Q n h || (Q n && cp A Q n h)) := rfl
theorem dnf_old {A : Nat → Nat → Bool} {Q : Nat → Bool} {g h : Nat} (hg : g < 24) (hh : h < 24) (e : nwf A Q g = false) : dnf A Q (g + 1) h = dnf A Q g h := by
  rw [dnf_s]
  cases h1 : Q g && cp A Q g h
  · rw [Bool.or_false]
  · rw [Bool.or_true]
    rw [Bool.and_eq_true] at h1
    rw [nwf, h1.1, Bool.true_and, Bool.not_eq_false'] at e
    obtain ⟨j, hj, h3⟩ := anyB_iff.mp e
    rw [Bool.and_eq_true] at h3
    refine (anyB_iff.mpr ⟨j, hj, ?_⟩).symm
    rw [Bool.and_eq_true]
    exact ⟨h3.1, cp_trans (by omega) hh h3.2 h1.2⟩
theorem dnf_new {A : Nat → Nat → Bool} {Q : Nat → Bool} {g h : Nat} (e : nwf A Q g = true) : dnf A Q (g + 1) h = (dnf A Q g h || cp A Q g h) := by
  rw [nwf, Bool.and_eq_true] at e
  rw [dnf_s, e.1, Bool.true_and]
theorem dnf_all {A : Nat → Nat → Bool} {Q : Nat → Bool} {n h : Nat} (hh : h < n) (hQ : Q h = true) : dnf A Q n h = true := anyB_iff.mpr ⟨h, hh, by rw [hQ, cp_self]; rfl⟩
/-- none of its own is less, said from itself -/
theorem nwf_iff {A : Nat → Nat → Bool} {Q : Nat → Bool} (hA : ∀ a b, a < 24 → b < 24 → A a b = A b a) {g : Nat} (hg : g < 24) : nwf A Q g = (Q g && !anyB (cp A Q g) g) := by
  rw [nwf, dnf]
  cases hQ : Q g
  · rfl
  · rw [Bool.true_and, Bool.true_and]
    congr 1
    cases e : anyB (cp A Q g) g
    · rw [anyB_f] at e ⊢
      intro j hj
      cases h1 : Q j && cp A Q j g
      · rfl
      · rw [Bool.and_eq_true] at h1
        have h5 := cp_sym hA (show j < 24 by omega) hg h1.1 h1.2
        rw [e j hj] at h5
        cases h5
    · rw [anyB_iff] at e ⊢
      obtain ⟨j, hj, h1⟩ := e
      refine ⟨j, hj, ?_⟩
      rw [Bool.and_eq_true]
      exact ⟨cp_in hQ (by omega) h1, cp_sym hA hg (by omega) hQ h1⟩
