/-! ===== steps, who holds, by another length, join ===== -/
theorem cp_mono {A A' : Nat → Nat → Bool} {Q : Nat → Bool} (h : ∀ a b, a < 24 → b < 24 → A a b = true → A' a b = true) {s k : Nat} (hs : s < 24) (hk : k < 24) (e : cp A Q s k = true) : cp A' Q s k = true :=
  cp_least (R := cp A' Q s) cp_self (fun i j hi hj h1 h2 h3 => cp_clo hs i j hi hj h1 (h i j hi hj h2) h3) hk e
theorem rc_in {A : Nat → Nat → Bool} {Q : Nat → Bool} {s n k : Nat} (hs : s < 24) (hQ : Q s = true) (hk : k < 24) (h : rc A Q s n k = true) : Q k = true := cp_in hQ hk (rc_cp hs hk h)
/-- the fewest steps -/
def isLst (A : Nat → Nat → Bool) (Q : Nat → Bool) (s k n : Nat) : Prop := n < 24 ∧ rc A Q s n k = true ∧ ∀ m, m < n → rc A Q s m k = false
theorem lst_one {A : Nat → Nat → Bool} {Q : Nat → Bool} {s k n m : Nat} (h : isLst A Q s k n) (h2 : isLst A Q s k m) : n = m := by
  rcases Nat.lt_trichotomy n m with c | c | c
  · have := h2.2.2 n c
    rw [h.2.1] at this
    cases this
  · exact c
  · have := h.2.2 m c
    rw [h2.2.1] at this
    cases this
theorem rc_0 (A : Nat → Nat → Bool) (Q : Nat → Bool) {s : Nat} (hs : s < 24) : 1 <<< (nI s &&& 31) = mk (rc A Q s 0) := mk_eq (sm_ob hs) fun k hk => by
  rw [b_ob (by omega) (by omega)]
  rfl
theorem f7_d {M : jm_MM} {a0 : Nat} {D : hD} {p L : Nat} (h : isClp M a0 D p L) {g o : Nat} (hg : g < 24) (ho : o < 24) :
    (di D p g = false ∧ f7 M a0 (nI g) (nI o) = some (-1)) ∨ (di D p g = true ∧ cp (lk D p L) (di D p) g o = false ∧ f7 M a0 (nI g) (nI o) = some (-1)) ∨ (di D p g = true ∧ ∃ n, isLst (lk D p L) (di D p) g o n ∧ f7 M a0 (nI g) (nI o) = some (nI n)) := by
  unfold f7
  rw [inb24 hg, gd_t, cl_s (by omega), f87_s M _ (by omega), bd_s, bI_0, h.2.2.2 g hg]
  cases e : di D p g
  · left
    refine ⟨rfl, ?_⟩
    rw [if_neg (by simp), b_0]
    rfl
  · right
    rw [if_pos rfl, b_mkl ho]
    cases c : cp (lk D p L) (di D p) g o
    · exact Or.inl ⟨rfl, rfl, rfl⟩
    · refine Or.inr ⟨rfl, ?_⟩
      show ∃ n, isLst (lk D p L) (di D p) g o n ∧ f7_22 M a0 (fun ve11 => some ve11) jm_F (nI o) (1 <<< (nI g &&& 31)) 0 = some (nI n)
      refine lpX0 (fun n w u => f7_22 M a0 (fun ve11 => some ve11) n (nI o) w u) (fun r => ∃ n, isLst (lk D p L) (di D p) g o n ∧ r = some (nI n)) (fun i R => R = mk (rc (lk D p L) (di D p) g i) ∧ ∀ m, m < i → rc (lk D p L) (di D p) g m o = false) 24 (by omega) ?_ ?_ _ ⟨rc_0 _ _ hg, fun m hm => absurd hm (Nat.not_lt_zero m)⟩
      · rintro n R ⟨-, h2⟩
        have := h2 23 (by omega)
        rw [show rc (lk D p L) (di D p) g 23 o = cp (lk D p L) (di D p) g o from rfl, c] at this
        cases this
      · rintro n i R hi ⟨h1, h2⟩
        cases e2 : rc (lk D p L) (di D p) g i o
        · right
          refine ⟨mk (rc (lk D p L) (di D p) g (i + 1)), ?_, rfl, fun m hm => ?_⟩
          · show f7_22 M a0 _ (n + 1) (nI o) R (nI i) = f7_22 M a0 _ n (nI o) _ (nI (i + 1))
            rw [f7_22, c24 hi, cond_false, f87_s M _ (by omega), bd_s, bI_0, h1, b_mkl ho, e2, f6_s, bd_s, nI_1]
            have e3 : mk (rc (lk D p L) (di D p) g i) ||| la (M (a0 + 1)) (mk (rc (lk D p L) (di D p) g i)) 24 = mk (rc (lk D p L) (di D p) g (i + 1)) := by
              refine mk_eq (sm_or (sm_mk _) fun k hk => ?_) fun k hk => ?_
              · rw [b_la, anyB_f]
                intro j hj
                rw [h.2.2.1 j hj, b_mkg hk, Bool.and_false]
              · rw [b_or, b_la, b_mkl hk, Bool.eq_iff_iff, Bool.or_eq_true, anyB_iff, rc_s]
                constructor
                · rintro (q | ⟨j, hj, q⟩)
                  · exact Or.inl q
                  · rw [b_mkl hj, h.2.2.1 j hj, b_mkl hk] at q
                    unfold sL at q
                    rw [Bool.and_eq_true, Bool.and_eq_true, Bool.and_eq_true] at q
                    exact Or.inr ⟨q.2.1.2, j, hj, q.1, q.2.2⟩
                · rintro (q | ⟨q1, j, hj, q2, q3⟩)
                  · exact Or.inl q
                  · refine Or.inr ⟨j, hj, ?_⟩
                    rw [b_mkl hj, h.2.2.1 j hj, b_mkl hk]
                    unfold sL
                    rw [q2, rc_in hg e hj q2, q1, q3]
                    rfl
            rw [e3]
            rfl
          · by_cases c2 : m = i
            · rw [c2]; exact e2
            · exact h2 m (by omega)
        · left
          refine ⟨i, ⟨hi, e2, h2⟩, ?_⟩
          show f7_22 M a0 _ (n + 1) (nI o) R (nI i) = _
          rw [f7_22, c24 hi, cond_false, f87_s M _ (by omega), bd_s, bI_0, h1, b_mkl ho, e2]
          rfl
theorem f159_75_s {M : jm_MM} {D : hD} (h : hM M 0 D) (hk : hok D) {p : Nat} (hp : p < 6) (ke0 : Int32 → Int32 → Int32 → Int32 → Option Int32) (x3 x5 S : Int32) (hS : ∀ g, g < 24 → bt S g = true → di D p g = true) :
    f159_75 M ke0 jm_F (nI p) x3 S x5 S 0 = ke0 (nI p) x3 x5 (S ||| la (fun g => mk (fun k => di D p k && lk D p (dl D) g k)) S 24) := by
  have hx := lpV (fun n w u => f159_75 M ke0 n (nI p) x3 S x5 w u) (fun i => S ||| la (fun g => mk (fun k => di D p k && lk D p (dl D) g k)) S i) (ke0 (nI p) x3 x5 (S ||| la (fun g => mk (fun k => di D p k && lk D p (dl D) g k)) S 24)) 24 (by omega) (fun n => ?_) (fun n i hi => ?_)
  · simp only [la, or_z] at hx
    exact hx
  · show f159_75 M ke0 (n + 1) (nI p) x3 S x5 _ (nI 24) = _
    rw [f159_75, c24e, cond_true]
  · show f159_75 M ke0 (n + 1) (nI p) x3 S x5 _ (nI i) = f159_75 M ke0 n (nI p) x3 S x5 _ (nI (i + 1))
    rw [f159_75, c24 hi, cond_false, f94_s M _ (by omega), bd_s, bI_0, nI_1, or_z, la]
    cases e : bt S i
    · rfl
    · rw [f135_d h hp hi hk (hS i hi e), bd_s, if_pos rfl]
      have e5 : (S ||| la (fun g => mk (fun k => di D p k && lk D p (dl D) g k)) S i) ||| mk (fun k => di D p k && lk D p (dl D) i k) = S ||| (la (fun g => mk (fun k => di D p k && lk D p (dl D) g k)) S i ||| mk (fun k => di D p k && lk D p (dl D) i k)) := b_ext fun j _ => by rw [b_or, b_or, b_or, b_or, Bool.or_assoc]
      rw [e5]
      rfl
theorem f159_49_d {M : jm_MM} {D : hD} (h : hM M 0 D) (hk : hok D) {p : Nat} (hp : p < 6) {g o : Nat} (hg : g < 24) (ho : o < 24) (e : di D p g = true) :
    (cp (lk D p (dl D)) (di D p) g o = false ∧ f159_49 M (some (-1)) (fun _ _ _ ve36 => some ve36) jm_F (nI p) (nI o) (1 <<< (nI g &&& 31)) 0 = some (-1)) ∨ (∃ n, isLst (lk D p (dl D)) (di D p) g o n ∧ f159_49 M (some (-1)) (fun _ _ _ ve36 => some ve36) jm_F (nI p) (nI o) (1 <<< (nI g &&& 31)) 0 = some (nI n)) := by
  refine lpX0 (fun n w u => f159_49 M (some (-1)) (fun _ _ _ ve36 => some ve36) n (nI p) (nI o) w u) (fun r => (cp (lk D p (dl D)) (di D p) g o = false ∧ r = some (-1)) ∨ (∃ n, isLst (lk D p (dl D)) (di D p) g o n ∧ r = some (nI n))) (fun i R => R = mk (rc (lk D p (dl D)) (di D p) g i) ∧ ∀ m, m < i → rc (lk D p (dl D)) (di D p) g m o = false) 24 (by omega) ?_ ?_ _ ⟨rc_0 _ _ hg, fun m hm => absurd hm (Nat.not_lt_zero m)⟩
  · rintro n R ⟨-, h2⟩
    refine Or.inl ⟨h2 23 (by omega), ?_⟩
    show f159_49 M _ _ (n + 1) (nI p) (nI o) R (nI 24) = _
    rw [f159_49, c24e, cond_true]
  · rintro n i R hi ⟨h1, h2⟩
    cases e2 : rc (lk D p (dl D)) (di D p) g i o
    · right
      refine ⟨mk (rc (lk D p (dl D)) (di D p) g (i + 1)), ?_, rfl, fun m hm => ?_⟩
      · show f159_49 M _ _ (n + 1) (nI p) (nI o) R (nI i) = f159_49 M _ _ n (nI p) (nI o) _ (nI (i + 1))
        rw [f159_49, c24 hi, cond_false, f94_s M _ (by omega), bd_s, bI_0, h1, b_mkl ho, e2, f159_75_s h hk hp _ _ _ _ (fun j hj q => by
          rw [b_mkl hj] at q
          exact rc_in hg e hj q), nI_1]
        have e3 : mk (rc (lk D p (dl D)) (di D p) g i) ||| la (fun g => mk (fun k => di D p k && lk D p (dl D) g k)) (mk (rc (lk D p (dl D)) (di D p) g i)) 24 = mk (rc (lk D p (dl D)) (di D p) g (i + 1)) := by
          refine mk_eq (sm_or (sm_mk _) fun k hk => ?_) fun k hk => ?_
          · rw [b_la, anyB_f]
            intro j hj
            rw [b_mkg hk, Bool.and_false]
          · rw [b_or, b_la, b_mkl hk, Bool.eq_iff_iff, Bool.or_eq_true, anyB_iff, rc_s]
            constructor
            · rintro (q | ⟨j, hj, q⟩)
              · exact Or.inl q
              · rw [b_mkl hj, b_mkl hk, Bool.and_eq_true, Bool.and_eq_true] at q
                exact Or.inr ⟨q.2.1, j, hj, q.1, q.2.2⟩
            · rintro (q | ⟨q1, j, hj, q2, q3⟩)
              · exact Or.inl q
              · refine Or.inr ⟨j, hj, ?_⟩
                rw [b_mkl hj, b_mkl hk, q2, q1, q3]
                rfl
        rw [e3]
        rfl
      · by_cases c2 : m = i
        · rw [c2]; exact e2
        · exact h2 m (by omega)
    · left
      refine Or.inr ⟨i, ⟨hi, e2, h2⟩, ?_⟩
      show f159_49 M _ _ (n + 1) (nI p) (nI o) R (nI i) = _
      rw [f159_49, c24 hi, cond_false, f94_s M _ (by omega), bd_s, bI_0, h1, b_mkl ho, e2]
      rfl
theorem f159_49_n {M : jm_MM} {D : hD} (h : hM M 0 D) (hk : hok D) {p : Nat} (hp : p < 6) {o : Nat} (ho : o < 24) :
    f159_49 M (some (-1)) (fun _ _ _ ve36 => some ve36) jm_F (nI p) (nI o) 0 0 = some (-1) := by
  refine lpV (fun n w u => f159_49 M (some (-1)) (fun _ _ _ ve36 => some ve36) n (nI p) (nI o) w u) (fun _ => 0) (some (-1)) 24 (by omega) (fun n => ?_) (fun n i hi => ?_)
  · show f159_49 M _ _ (n + 1) (nI p) (nI o) 0 (nI 24) = _
    rw [f159_49, c24e, cond_true]
  · show f159_49 M _ _ (n + 1) (nI p) (nI o) 0 (nI i) = f159_49 M _ _ n (nI p) (nI o) 0 (nI (i + 1))
    rw [f159_49, c24 hi, cond_false, f94_s M _ (by omega), bd_s, bI_0, b_0, f159_75_s h hk hp _ _ _ _ (fun j hj q => by
          rw [b_0] at q
          cases q), nI_1]
    have e3 : (0 : Int32) ||| la (fun g => mk (fun k => di D p k && lk D p (dl D) g k)) 0 24 = 0 := b_ext fun j _ => by
      rw [b_or, b_la, b_0, Bool.false_or, anyB_f]
      intro k _
      rw [b_0]
      rfl
    rw [e3]
    rfl
/-! who holds -/
theorem ct_one (s : Nat) : ∀ n, fb_ct (fun i => decide (i = s)) n ≤ 1
  | 0 => by show 0 ≤ 1; omega
  | n + 1 => by
    rw [fb_ct_succ]
    by_cases c : n = s
    · have : fb_ct (fun i => decide (i = s)) n = 0 := fb_ct_zero.mpr fun k hk => decide_eq_false (by omega)
      rw [this]
      split <;> omega
    · have := ct_one s n
      rw [decide_eq_false c]
      simp only [Bool.false_eq_true, if_false]
      omega
/-- more than one of its own, or one: seen from the least -/
theorem hold_iff {A : Nat → Nat → Bool} {O : Nat → Bool} {s : Nat} (hs : s < 24) (hO : O s = true) (hl : ∀ m, m < s → O m = false) : decide (fb_ct (nwf A O) 24 ≤ 1) = decide (mk (cp A O s) = mk O) := by
  have ns : nwf A O s = true := by
    rw [nwf, hO, Bool.true_and, Bool.not_eq_true']
    exact anyB_f.mpr fun j hj => by rw [hl j hj]; rfl
  by_cases c : mk (cp A O s) = mk O
  · rw [decide_eq_true c, decide_eq_true]
    have h1 : fb_ct (nwf A O) 24 ≤ fb_ct (fun i => decide (i = s)) 24 := fb_ct_sub fun k hk q => by
      refine decide_eq_true (Classical.byContradiction fun e => ?_)
      rw [nwf, Bool.and_eq_true, Bool.not_eq_true'] at q
      have h2 : cp A O s k = true := by rw [mk_inj c hk]; exact q.1
      have h3 : s < k := by
        rcases Nat.lt_or_ge s k with h | h
        · exact h
        · have := hl k (by omega)
          rw [q.1] at this
          cases this
      have h4 := anyB_f.mp q.2 s h3
      rw [hO, h2] at h4
      cases h4
    exact Nat.le_trans h1 (ct_one s 24)
  · rw [decide_eq_false c, decide_eq_false]
    have hx : ∃ k, k < 24 ∧ (O k = true ∧ cp A O s k = false) := by
      refine Classical.byContradiction fun hx => c (mk_ext fun k hk => ?_)
      cases e1 : O k
      · cases e2 : cp A O s k
        · rfl
        · rw [cp_in hO hk e2] at e1
          cases e1
      · cases e2 : cp A O s k
        · exact absurd ⟨k, hk, e1, e2⟩ hx
        · rfl
    have hy : ∃ k, k < 24 ∧ (O k = true ∧ cp A O s k = false) ∧ ∀ j, j < k → ¬ (O j = true ∧ cp A O s j = false) := by
      obtain ⟨k, hk, h1⟩ := hx
      have aux : ∀ n, (∃ k, k < n ∧ k < 24 ∧ (O k = true ∧ cp A O s k = false)) → ∃ k, k < 24 ∧ (O k = true ∧ cp A O s k = false) ∧ ∀ j, j < k → ¬ (O j = true ∧ cp A O s j = false) := by
        intro n
        induction n with
        | zero => rintro ⟨k, hk, _⟩; exact absurd hk (Nat.not_lt_zero k)
        | succ n ih =>
          rintro ⟨k, hk, hk2, h1⟩
          by_cases q : ∃ j, j < k ∧ (O j = true ∧ cp A O s j = false)
          · obtain ⟨j, hj, h2⟩ := q
            exact ih ⟨j, by omega, by omega, h2⟩
          · exact ⟨k, hk2, h1, fun j hj h2 => q ⟨j, hj, h2⟩⟩
      exact aux (k + 1) ⟨k, by omega, hk, h1⟩
    obtain ⟨k, hk, ⟨h1, h2⟩, h3⟩ := hy
    have nk : nwf A O k = true := by
      rw [nwf, h1, Bool.true_and, Bool.not_eq_true']
      refine anyB_f.mpr fun j hj => ?_
      cases q : O j && cp A O j k
      · rfl
      · rw [Bool.and_eq_true] at q
        have q2 : cp A O s j = true := by
          cases q3 : cp A O s j
          · exact absurd ⟨q.1, q3⟩ (h3 j hj)
          · rfl
        rw [cp_trans hs hk q2 q.2] at h2
        cases h2
    have hne : k ≠ s := by
      intro e
      rw [e, cp_self] at h2
      cases h2
    have h4 := ct_lt (p := fun i => decide (i = s)) (q := nwf A O) (n := 24) (fun i _ q => by rw [of_decide_eq_true q]; exact ns) hk (decide_eq_false hne) nk
    have h5 : 0 < fb_ct (fun i => decide (i = s)) 24 := fb_ct_pos.mpr ⟨s, hs, decide_eq_true rfl⟩
    omega
/-- its clump without it -/
def oth (D : hD) (p L g : Nat) (k : Nat) : Bool := cp (lk D p L) (di D p) g k && !decide (k = g)
theorem oth_mk (D : hD) (p L : Nat) {g : Nat} (hg : g < 24) : mk (cp (lk D p L) (di D p) g) &&& ((1 <<< (nI g &&& 31)) ^^^ (-1)) = mk (oth D p L g) := mk_eq (sm_andl (sm_mk _)) fun k hk => by
  rw [b_and, b_mkl hk, b_not _ (by omega), b_ob (by omega) (by omega)]
  rfl
def hld (D : hD) (p L g : Nat) : Bool := di D p g && !decide (fb_ct (nwf (lk D p L) (oth D p L g)) 24 ≤ 1)
theorem f8_d {M : jm_MM} {a0 : Nat} {D : hD} {p L : Nat} (h : isClp M a0 D p L) {g : Nat} (hg : g < 24) : f8 M a0 (nI g) = some (bI (hld D p L g)) := by
  unfold f8
  rw [inb24 hg, gd_t, cl_s (by omega), h.2.2.2 g hg]
  have hz : ∀ (x : Int32), (∀ k, k < 24 → bt x k = false) → f8_15 M a0 (some 0) (fun ve6 ve7 => jm_bd (f5 M a0 ve7 ve6) (fun q8 => bif decide (q8 = ve6) then (some 0) else (some 1))) jm_F x 0 = some 0 := by
    intro x hx
    refine lpV (fun n (w : Unit) u => f8_15 M a0 (some 0) (fun ve6 ve7 => jm_bd (f5 M a0 ve7 ve6) (fun q8 => bif decide (q8 = ve6) then (some 0) else (some 1))) n x u) (fun _ => ()) (some 0) 24 (by omega) (fun n => ?_) (fun n i hi => ?_)
    · show f8_15 M a0 _ _ (n + 1) x (nI 24) = _
      rw [f8_15, c24e, cond_true]
    · show f8_15 M a0 _ _ (n + 1) x (nI i) = f8_15 M a0 _ _ n x (nI (i + 1))
      rw [f8_15, c24 hi, cond_false, f87_s M _ (by omega), bd_s, bI_0, hx i hi, nI_1]
      rfl
  unfold hld
  cases e : di D p g
  · rw [if_neg (by simp), hz _ (fun k _ => by rw [b_and, b_0]; rfl)]
    rfl
  · rw [if_pos rfl, oth_mk D p L hg, Bool.true_and]
    by_cases c : ∀ k, k < 24 → oth D p L g k = false
    · rw [hz _ (fun k hk => by rw [b_mkl hk, c k hk])]
      have : fb_ct (nwf (lk D p L) (oth D p L g)) 24 = 0 := fb_ct_zero.mpr fun k hk => by
        rw [nwf, c k hk]
        rfl
      rw [this]
      rfl
    · refine lpX0 (fun n (w : Unit) u => f8_15 M a0 (some 0) (fun ve6 ve7 => jm_bd (f5 M a0 ve7 ve6) (fun q8 => bif decide (q8 = ve6) then (some 0) else (some 1))) n (mk (oth D p L g)) u) (fun r => r = some (bI (!decide (fb_ct (nwf (lk D p L) (oth D p L g)) 24 ≤ 1)))) (fun i _ => ∀ m, m < i → oth D p L g m = false) 24 (by omega) ?_ ?_ () (fun m hm => absurd hm (Nat.not_lt_zero m))
      · intro n _ q
        exact absurd q c
      · intro n i _ hi q
        cases e2 : oth D p L g i
        · right
          refine ⟨(), ?_, fun m hm => ?_⟩
          · show f8_15 M a0 _ _ (n + 1) _ (nI i) = f8_15 M a0 _ _ n _ (nI (i + 1))
            rw [f8_15, c24 hi, cond_false, f87_s M _ (by omega), bd_s, bI_0, b_mkl hi, e2, nI_1]
            rfl
          · by_cases c2 : m = i
            · rw [c2]; exact e2
            · exact q m (by omega)
        · left
          show f8_15 M a0 _ _ (n + 1) _ (nI i) = _
          rw [f8_15, c24 hi, cond_false, f87_s M _ (by omega), bd_s, bI_0, b_mkl hi, e2]
          show jm_bd (f5 M a0 (nI i) (mk (oth D p L g))) _ = _
          rw [f5_s M a0 (lk D p L) (di D p) (oth D p L g) hi e2 (fun k hk q2 => by
            unfold oth at q2
            rw [Bool.and_eq_true] at q2
            exact cp_in e hk q2.1) h.2.2.1, bd_s, hold_iff hi e2 q]
          cases decide (mk (cp (lk D p L) (oth D p L g) i) = mk (oth D p L g)) <;> rfl
theorem f140_d {M : jm_MM} {D : hD} (h : hM M 0 D) (hk : hok D) {p g : Nat} (hp : p < 6) (hg : g < 24) (e : di D p g = true) : f140 M (nI p) (nI g) = some (bI (hld D p (dl D) g)) := by
  have hL : dl D ≤ 90 := Nat.le_trans hk.2.1 (by omega)
  unfold f140
  rw [f102_d h hp, bd_s, hM_l h, f120_s M (lk D p (dl D)) (di D p) (nI p) (nI (dl D)) hg e (fun a b ha hb q1 q2 => f118_d h hp ha hb hk hL q1 q2), bd_s, oth_mk D p (dl D) hg,
    f121_s M (lk D p (dl D)) (oth D p (dl D) g) (nI p) (nI (dl D)) (fun a b ha hb q1 q2 => f118_d h hp ha hb hk hL (by
      unfold oth at q1
      rw [Bool.and_eq_true] at q1
      exact cp_in e ha q1.1) (by
      unfold oth at q2
      rw [Bool.and_eq_true] at q2
      exact cp_in e hb q2.1)), bd_s]
  have hle := fb_ct_le (nwf (lk D p (dl D)) (oth D p (dl D) g)) 24
  show (bif decide (nI _ ≤ nI 1) then some 0 else some 1) = _
  rw [dle (by omega) (by omega)]
  unfold hld
  rw [e, Bool.true_and]
  cases decide (fb_ct (nwf (lk D p (dl D)) (oth D p (dl D) g)) 24 ≤ 1) <;> rfl
/-! by another length; join -/
theorem f89_d {M : jm_MM} {D : hD} (h : hC M 2 D) (hk : hok D) {p L : Nat} (hp : p < 6) (hL : L ≤ 90) : ∃ M', f89 M (nI p) (nI L) = some M' ∧ (∀ b, b ≠ 102 → b ≠ 103 → b ≠ 104 → M' b = M b) ∧ isClp M' 102 D p L := by
  obtain ⟨M1, M2, h1, h2, h3, h4, h5⟩ := clump_d h hk hp hL (show 5 ≤ 102 by omega)
  refine ⟨M2, ?_, h4, h5⟩
  unfold f89
  rw [h1, bd_s, h2, bd_s, h3, bd_s]
def jn (D : hD) (p g o L : Nat) : Bool := cp (lk D p L) (di D p) g o
theorem jn_mono {D : hD} {p g o L L' : Nat} (hg : g < 24) (ho : o < 24) (hl : L ≤ L') (h : jn D p g o L = true) : jn D p g o L' = true := by
  refine cp_mono (fun a b _ _ q => ?_) hg ho h
  unfold lk at q ⊢
  rw [Bool.and_eq_true, decide_eq_true_eq] at q ⊢
  exact ⟨q.1, Nat.le_trans q.2 (Nat.mul_le_mul hl hl)⟩
theorem jn_90 {D : hD} (hk : hok D) {p g o : Nat} (hp : p < 6) (hg : g < 24) (ho : o < 24) (hne : g ≠ o) (e : di D p g = true) (e2 : di D p o = true) : jn D p g o 90 = true := by
  obtain ⟨h1, h2⟩ := hk.2.2.2.2 p o hp ho e2
  have hf := far_le hk hp hg e h1 h2
  refine cp_one hg ho ?_ e2
  unfold lk
  rw [Bool.and_eq_true, decide_eq_true_eq, decide_eq_false hne]
  exact ⟨rfl, by omega⟩
def isJn (D : hD) (p g o l : Nat) : Prop := jn D p g o l = true ∧ ∀ m, m < l → jn D p g o m = false
theorem jn_one {D : hD} {p g o n m : Nat} (h : isJn D p g o n) (h2 : isJn D p g o m) : n = m := by
  rcases Nat.lt_trichotomy n m with c | c | c
  · have := h2.2 n c
    rw [h.1] at this
    cases this
  · exact c
  · have := h.2 m c
    rw [h2.1] at this
    cases this
theorem f77_60_d {M : jm_MM} {D : hD} (h : hC M 2 D) (hk : hok D) {p g o : Nat} (hp : p < 6) (hg : g < 24) (ho : o < 24) (hne : g ≠ o) (e : di D p g = true) (e2 : di D p o = true) :
    ∃ l M', f77_60 (fun Me22 ve23 => some (ve23, Me22)) jm_F M (nI p) (nI g) (nI o) 0 90 0 = some (nI l, M') ∧ isJn D p g o l ∧ ∀ b, b ≠ 102 → b ≠ 103 → b ≠ 104 → M' b = M b := by
  refine lpX0 (fun n (w : jm_MM × Int32 × Int32) u => f77_60 (fun Me22 ve23 => some (ve23, Me22)) n w.1 (nI p) (nI g) (nI o) w.2.1 w.2.2 u) (fun r => ∃ l M', r = some (nI l, M') ∧ isJn D p g o l ∧ ∀ b, b ≠ 102 → b ≠ 103 → b ≠ 104 → M' b = M b)
    (fun i w => ∃ l u, w.2.1 = nI l ∧ w.2.2 = nI u ∧ l ≤ u ∧ u + i ≤ 90 + l ∧ u ≤ 90 ∧ jn D p g o u = true ∧ (∀ m, m < l → jn D p g o m = false) ∧ ∀ b, b ≠ 102 → b ≠ 103 → b ≠ 104 → w.1 b = M b) 90 (by omega) ?_ ?_ (M, 0, 90) ⟨0, 90, rfl, rfl, by omega, by omega, by omega, jn_90 hk hp hg ho hne e e2, fun m hm => absurd hm (Nat.not_lt_zero m), fun _ _ _ _ => rfl⟩
  · rintro n ⟨w, lo, hi⟩ ⟨l, u, h1, h2, h3, h4, h5, h6, h7, h8⟩
    simp only at h1 h2
    refine ⟨l, w, ?_, ⟨?_, h7⟩, h8⟩
    · show f77_60 _ (n + 1) w (nI p) (nI g) (nI o) lo hi (nI 90) = _
      rw [f77_60, show decide ((90 : Int32) ≤ nI 90) = true by decide +kernel, cond_true, h1]
    · rwa [show l = u by omega]
  · rintro n i ⟨w, lo, hi⟩ hi9 ⟨l, u, h1, h2, h3, h4, h5, h6, h7, h8⟩
    simp only at h1 h2 h8
    have c90 : decide ((90 : Int32) ≤ nI i) = false := by
      show decide (nI 90 ≤ nI i) = false
      rw [dle (by omega) (by omega)]
      exact decide_eq_false (by omega)
    by_cases c : l = u
    · left
      refine ⟨l, w, ?_, ⟨by rwa [c], h7⟩, h8⟩
      show f77_60 _ (n + 1) w (nI p) (nI g) (nI o) lo hi (nI i) = _
      rw [f77_60, c90, cond_false, h1, h2, dle (by omega) (by omega), decide_eq_true (by omega), cond_true]
    · right
      have hw : hC w 2 D := hC_fr h (h8 2 (by omega) (by omega) (by omega)) (h8 3 (by omega) (by omega) (by omega)) (h8 4 (by omega) (by omega) (by omega))
      obtain ⟨w', q1, q2, q3⟩ := f89_d hw hk hp (show (l + u) / 2 ≤ 90 by omega)
      have hfr : ∀ b, b ≠ 102 → b ≠ 103 → b ≠ 104 → w' b = M b := fun b a1 a2 a3 => by rw [q2 b a1 a2 a3, h8 b a1 a2 a3]
      have hq : bt (w' 104 g) o = jn D p g o ((l + u) / 2) := by
        rw [q3.2.2.2 g hg, e, if_pos rfl, b_mkl ho]
        rfl
      have es : f77_60 (fun Me22 ve23 => some (ve23, Me22)) (n + 1) w (nI p) (nI g) (nI o) lo hi (nI i) = (bif !jn D p g o ((l + u) / 2) then f77_60 (fun Me22 ve23 => some (ve23, Me22)) n w' (nI p) (nI g) (nI o) (nI ((l + u) / 2 + 1)) (nI u) (nI (i + 1)) else f77_60 (fun Me22 ve23 => some (ve23, Me22)) n w' (nI p) (nI g) (nI o) (nI l) (nI ((l + u) / 2)) (nI (i + 1))) := by
        rw [f77_60, c90, cond_false, h1, h2, dle (by omega) (by omega), decide_eq_false (by omega), cond_false, nI_add, show nI (l + u) / 2 = nI ((l + u) / 2) from pk_div (d := 2) (by omega) (by decide) (by decide), q1, bd_s, inb24 hg, gd_t, cl_s (by omega), f87_s w' _ (by omega), bd_s, bI_0, hq, nI_1, nI_1]
      cases c2 : jn D p g o ((l + u) / 2)
      · rw [c2] at es
        refine ⟨(w', nI ((l + u) / 2 + 1), nI u), es, (l + u) / 2 + 1, u, rfl, rfl, by omega, by omega, h5, h6, fun m hm => ?_, hfr⟩
        cases c3 : jn D p g o m
        · rfl
        · rw [jn_mono hg ho (show m ≤ (l + u) / 2 by omega) c3] at c2
          cases c2
      · rw [c2] at es
        exact ⟨(w', nI l, nI ((l + u) / 2)), es, l, (l + u) / 2, rfl, rfl, by omega, by omega, by omega, c2, h7, hfr⟩
theorem f161_60_d {M : jm_MM} {D : hD} (h : hM M 0 D) (hk : hok D) {p g o : Nat} (hp : p < 6) (hg : g < 24) (ho : o < 24) (hne : g ≠ o) (e : di D p g = true) (e2 : di D p o = true) :
    ∃ l, f161_60 M (fun ve24 => some ve24) jm_F (nI p) (nI g) (nI o) (mk (di D p)) 0 = some (nI l) ∧ isJn D p g o l := by
  have st : ∀ n i, i ≤ 90 → f161_60 M (fun ve24 => some ve24) (n + 1) (nI p) (nI g) (nI o) (mk (di D p)) (nI i) = bif jn D p g o i then some (nI i) else f161_60 M (fun ve24 => some ve24) n (nI p) (nI g) (nI o) (mk (di D p)) (nI (i + 1)) := by
    intro n i hi
    rw [f161_60, f120_s M (lk D p i) (di D p) (nI p) (nI i) hg e (fun a b ha hb q1 q2 => f118_d h hp ha hb hk hi q1 q2), bd_s, f94_s M _ (by omega), bd_s, bI_0, b_mkl ho, Bool.not_not, nI_1]
    rfl
  refine lpX0 (fun n (w : Unit) u => f161_60 M (fun ve24 => some ve24) n (nI p) (nI g) (nI o) (mk (di D p)) u) (fun r => ∃ l, r = some (nI l) ∧ isJn D p g o l) (fun i _ => ∀ m, m < i → jn D p g o m = false) 90 (by omega) ?_ ?_ () (fun m hm => absurd hm (Nat.not_lt_zero m))
  · intro n _ q
    have h9 := jn_90 hk hp hg ho hne e e2
    refine ⟨90, ?_, h9, q⟩
    show f161_60 M _ (n + 1) _ _ _ _ (nI 90) = _
    rw [st n 90 (by omega), h9]
    rfl
  · intro n i _ hi q
    cases c : jn D p g o i
    · right
      refine ⟨(), ?_, fun m hm => ?_⟩
      · show f161_60 M _ (n + 1) _ _ _ _ (nI i) = _
        rw [st n i (by omega), c]
        rfl
      · by_cases c2 : m = i
        · rw [c2]; exact c
        · exact q m (by omega)
    · left
      refine ⟨i, ?_, c, q⟩
      show f161_60 M _ (n + 1) _ _ _ _ (nI i) = _
      rw [st n i (by omega), c]
      rfl
