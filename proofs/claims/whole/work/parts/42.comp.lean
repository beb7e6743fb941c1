/-! ===== clumps, as both reckon them ===== -/
def la (r : Nat → Int32) (x : Int32) : Nat → Int32
  | 0 => 0
  | n + 1 => if bt x n then la r x n ||| r n else la r x n
theorem b_la (r : Nat → Int32) (x : Int32) (i : Nat) : ∀ n, bt (la r x n) i = anyB (fun g => bt x g && bt (r g) i) n
  | 0 => b_0 i
  | n + 1 => by
    rw [la, anyB, ← b_la r x i n]
    cases bt x n
    · rw [if_neg (by simp), Bool.false_and, Bool.or_false]
    · rw [if_pos rfl, b_or, Bool.true_and]
theorem f6_s (M : jm_MM) (a0 : Nat) (x : Int32) : f6 M a0 x = some (la (M (a0 + 1)) x 24) := by
  unfold f6
  refine lpV (fun n a v => f6_4 M a0 (fun ve6 => some ve6) n x a v) (la (M (a0 + 1)) x) _ 24 (by omega) (fun n => ?_) (fun n i hi => ?_)
  · show f6_4 M a0 _ (n + 1) x _ (nI 24) = _
    rw [f6_4, c24e, cond_true]
  · show f6_4 M a0 _ (n + 1) x _ (nI i) = f6_4 M a0 _ n x _ (nI (i + 1))
    rw [f6_4, c24 hi, cond_false, f87_s M x (by omega), bd_s, bI_0, inb24 hi, gd_t, cl_s (by omega), nI_1, la]
    cases bt x i <;> rfl
theorem cpm_of {A : Nat → Nat → Bool} {Q : Nat → Bool} {s : Nat} {R : Int32} (h1 : sm24 R) (h2 : bt R s = true) (h3 : clo A Q (bt R)) (h4 : ∀ k, k < 24 → bt R k = true → cp A Q s k = true) : R = mk (cp A Q s) := mk_eq h1 fun _ hk => cp_uniq h2 h3 h4 hk
theorem f5_s (M : jm_MM) (a0 : Nat) (A : Nat → Nat → Bool) (Pr Q : Nat → Bool) {s : Nat} (hs : s < 24) (hQs : Q s = true) (hQP : ∀ k, k < 24 → Q k = true → Pr k = true)
    (hl : ∀ g, g < 24 → M (a0 + 1) g = mk (fun k => Pr g && Pr k && A g k)) : f5 M a0 (nI s) (mk Q) = some (mk (cp A Q s)) := by
  unfold f5
  refine lpX0 (fun n (a : Int32 × Int32) v => f5_10 M a0 (fun ve5 => some ve5) n (mk Q) a.1 a.2 v) (fun r => r = some (mk (cp A Q s)))
    (fun i a => sm24 a.1 ∧ sm24 a.2 ∧ bt a.1 s = true ∧ (∀ k, k < 24 → bt a.2 k = true → bt a.1 k = true) ∧ (∀ k, k < 24 → bt a.1 k = true → cp A Q s k = true) ∧ (∀ j k, j < 24 → k < 24 → bt a.1 j = true → bt a.2 j = false → A j k = true → Q k = true → bt a.1 k = true) ∧ (a.2 = 0 ∨ i + 1 ≤ fb_ct (bt a.1) 24)) 24 (by omega) ?_ ?_ (1 <<< (nI s &&& 31), 1 <<< (nI s &&& 31)) ?_
  · rintro n ⟨R, E⟩ ⟨h1, h2, h3, h4, h5, h6, h7⟩
    show f5_10 M a0 _ (n + 1) (mk Q) R E (nI 24) = _
    rw [f5_10, c24e, cond_true]
    have e : E = 0 := by
      rcases h7 with h | h
      · exact h
      · have := fb_ct_le (bt R) 24
        simp only at h
        omega
    exact congrArg some (cpm_of h1 h3 (fun j k hj hk r1 r2 r3 => h6 j k hj hk r1 (by show bt E j = false; rw [e, b_0]) r2 r3) h5)
  · rintro n i ⟨R, E⟩ hi ⟨h1, h2, h3, h4, h5, h6, h7⟩
    simp only at h1 h2 h3 h4 h5 h6 h7
    by_cases e : E = 0
    · left
      show f5_10 M a0 _ (n + 1) (mk Q) R E (nI i) = _
      rw [f5_10, c24 hi, cond_false, decide_eq_true e, cond_true]
      exact congrArg some (cpm_of h1 h3 (fun j k hj hk r1 r2 r3 => h6 j k hj hk r1 (by rw [e, b_0]) r2 r3) h5)
    · right
      obtain ⟨E', hE'⟩ : ∃ E', E' = (la (M (a0 + 1)) E 24 &&& mk Q) &&& (R ^^^ (-1)) := ⟨_, rfl⟩
      have hb : ∀ k, k < 24 → bt E' k = ((anyB (fun g => bt E g && bt (M (a0 + 1) g) k) 24 && Q k) && !bt R k) := fun k hk => by
        rw [hE', b_and, b_and, b_la, b_mkl hk, b_not _ (by omega)]
      have hb2 : ∀ k, k < 24 → (bt E' k = true ↔ (∃ g, g < 24 ∧ bt E g = true ∧ Pr g = true ∧ Pr k = true ∧ A g k = true) ∧ Q k = true ∧ bt R k = false) := fun k hk => by
        rw [hb k hk, Bool.and_eq_true, Bool.and_eq_true, anyB_iff, Bool.not_eq_true']
        constructor
        · rintro ⟨⟨⟨g, hg, h8⟩, h9⟩, h10⟩
          rw [Bool.and_eq_true, hl g hg, b_mkl hk, Bool.and_eq_true, Bool.and_eq_true] at h8
          exact ⟨⟨g, hg, h8.1, h8.2.1.1, h8.2.1.2, h8.2.2⟩, h9, h10⟩
        · rintro ⟨⟨g, hg, h8, h9, h10, h11⟩, h12, h13⟩
          refine ⟨⟨⟨g, hg, ?_⟩, h12⟩, h13⟩
          rw [Bool.and_eq_true, hl g hg, b_mkl hk, h8, h9, h10, h11]
          exact ⟨rfl, rfl⟩
      have hor : ∀ k, bt (R ||| E') k = true ↔ bt R k = true ∨ bt E' k = true := fun k => by rw [b_or, Bool.or_eq_true]
      have hsE : sm24 E' := by rw [hE']; exact sm_andl (sm_andr (sm_mk Q))
      refine ⟨(R ||| E', E'), ?_, sm_or h1 hsE, hsE, (hor s).mpr (Or.inl h3), fun k _ h => (hor k).mpr (Or.inr h), ?_, ?_, ?_⟩
      · show f5_10 M a0 _ (n + 1) (mk Q) R E (nI i) = f5_10 M a0 _ n (mk Q) (R ||| E') E' (nI (i + 1))
        rw [f5_10, c24 hi, cond_false, decide_eq_false e, cond_false, f6_s, bd_s, nI_1, hE']
      · intro k hk h
        rcases (hor k).mp h with h | h
        · exact h5 k hk h
        · obtain ⟨⟨g, hg, q1, q2, q3, q4⟩, q5, q6⟩ := (hb2 k hk).mp h
          exact cp_clo hs g k hg hk (h5 g hg (h4 g hg q1)) q4 q5
      · intro j k hj hk r1 r2 r3 r4
        have r1 : bt R j = true := by
          rcases (hor j).mp r1 with h | h
          · exact h
          · rw [r2] at h
            cases h
        refine (hor k).mpr ?_
        cases e1 : bt R k
        · refine Or.inr ((hb2 k hk).mpr ⟨⟨j, hj, ?_, hQP j hj (cp_in hQs hj (h5 j hj r1)), hQP k hk r4, r3⟩, r4, e1⟩)
          cases e2 : bt E j
          · rw [h6 j k hj hk r1 e2 r3 r4] at e1
            cases e1
          · rfl
        · exact Or.inl rfl
      · by_cases e0 : E' = 0
        · exact Or.inl e0
        · right
          have hx : ∃ k, k < 24 ∧ bt E' k = true := by
            refine Classical.byContradiction fun hx => e0 (sm_eq hsE sm_0 fun k hk => ?_)
            rw [b_0]
            cases e4 : bt E' k
            · rfl
            · exact absurd ⟨k, hk, e4⟩ hx
          obtain ⟨k, hk, h8⟩ := hx
          have := ct_lt (p := bt R) (q := bt (R ||| E')) (n := 24) (fun j _ h => (hor j).mpr (Or.inl h)) hk ((hb2 k hk).mp h8).2.2 ((hor k).mpr (Or.inr h8))
          rcases h7 with h | h
          · exact absurd h e
          · show i + 1 + 1 ≤ fb_ct (bt (R ||| E')) 24
            omega
  · have hb : ∀ k, k < 24 → bt (1 <<< (nI s &&& 31)) k = decide (k = s) := fun k hk => b_ob (by omega) (by omega)
    refine ⟨sm_ob hs, sm_ob hs, ?_, fun _ _ h => h, ?_, ?_, Or.inr (fb_ct_pos.mpr ⟨s, hs, ?_⟩)⟩
    · exact (hb s hs).trans (decide_eq_true rfl)
    · intro k hk h
      simp only at h
      rw [hb k hk] at h
      rw [of_decide_eq_true h]
      exact cp_self
    · intro j k hj hk r1 r2
      simp only at r1 r2
      rw [r2] at r1
      cases r1
    · exact (hb s hs).trans (decide_eq_true rfl)
/-! the reference's way to a clump -/
theorem f120_32_s (M : jm_MM) (ke0 : Int32 → Int32 → Int32 → Int32 → Int32 → Int32 → Option Int32) (A : Nat → Nat → Bool) (Q : Nat → Bool) (x1 x4 v6 : Int32) {a : Nat} (ha : a < 24)
    (h118 : ∀ b, b < 24 → Q a = true → Q b = true → f118 M x1 (nI a) (nI b) x4 = some (bI (A a b))) (v : Int32) (hv : bt v a = true → Q a = true) :
    f120_32 M ke0 jm_F x1 (mk Q) x4 v v6 (nI a) 0 = ke0 x1 (mk Q) x4 (if bt v a then v ||| mk (fun k => Q k && A a k) else v) v6 (nI a) := by
  refine lpX0 (fun n w u => f120_32 M ke0 n x1 (mk Q) x4 w v6 (nI a) u) (fun r => r = ke0 x1 (mk Q) x4 (if bt v a then v ||| mk (fun k => Q k && A a k) else v) v6 (nI a))
    (fun i w => w = if bt v a then v ||| mkN (fun k => Q k && A a k) i else v) 24 (by omega) ?_ ?_ v ?_
  · intro n w hw
    show f120_32 M ke0 (n + 1) x1 (mk Q) x4 w v6 (nI a) (nI 24) = _
    rw [f120_32, c24e, cond_true, hw]
    rfl
  · intro n i w hi hw
    cases e : bt v a
    · left
      rw [e, if_neg (by simp)] at hw
      show f120_32 M ke0 (n + 1) x1 (mk Q) x4 w v6 (nI a) (nI i) = _
      rw [f120_32, c24 hi, cond_false, f94_s M w (by omega), bd_s, bI_0, hw, e, if_neg (by simp)]
      rfl
    · right
      rw [e, if_pos rfl] at hw
      have e2 : bt w a = true := by rw [hw, b_or, e]; rfl
      refine ⟨v ||| mkN (fun k => Q k && A a k) (i + 1), ?_, by rw [if_pos rfl]⟩
      show f120_32 M ke0 (n + 1) x1 (mk Q) x4 w v6 (nI a) (nI i) = f120_32 M ke0 n x1 (mk Q) x4 _ v6 (nI a) (nI (i + 1))
      rw [f120_32, c24 hi, cond_false, f94_s M w (by omega), bd_s, bI_0, e2, f94_s M (mk Q) (by omega), bd_s, bI_0, b_mkl hi, nI_1, or_z, mkN_s]
      cases eQ : Q i
      · rw [hw]
        rfl
      · rw [h118 i hi (hv e) eQ, bd_s, bI_0]
        cases eA : A a i
        · rw [hw]
          rfl
        · have e5 : w ||| (1 <<< (nI i &&& 31)) = v ||| (mkN (fun k => Q k && A a k) i ||| (1 <<< (nI i &&& 31))) := by
            rw [hw]
            refine b_ext fun j _ => ?_
            rw [b_or, b_or, b_or, b_or, Bool.or_assoc]
          show f120_32 M ke0 n x1 (mk Q) x4 (w ||| (1 <<< (nI i &&& 31))) v6 (nI a) (nI (i + 1)) = _
          rw [e5]
          rfl
  · rw [mkN, or_z]
    cases bt v a <;> rfl
theorem f120_s (M : jm_MM) (A : Nat → Nat → Bool) (Q : Nat → Bool) (x1 x4 : Int32) {s : Nat} (hs : s < 24) (hQs : Q s = true)
    (h118 : ∀ a b, a < 24 → b < 24 → Q a = true → Q b = true → f118 M x1 (nI a) (nI b) x4 = some (bI (A a b))) : f120 M x1 (nI s) (mk Q) x4 = some (mk (cp A Q s)) := by
  have mid : ∀ (ke0 : Int32 → Int32 → Int32 → Int32 → Int32 → Option Int32) (v0 v6 : Int32), sm24 v0 → (∀ k, k < 24 → bt v0 k = true → cp A Q s k = true) →
      ∃ v, f120_22 M ke0 jm_F x1 (mk Q) x4 v0 v6 0 = ke0 x1 (mk Q) x4 v v6 ∧ sm24 v ∧ (∀ k, k < 24 → bt v k = true → cp A Q s k = true) ∧ (∀ k, k < 24 → bt v0 k = true → bt v k = true) ∧ (∀ j, j < 24 → ∀ k, k < 24 → bt v0 j = true → Q k = true → A j k = true → bt v k = true) := by
    intro ke0 v0 v6 h1 h2
    refine lpI (fun n w u => f120_22 M ke0 n x1 (mk Q) x4 w v6 u) (fun v => ke0 x1 (mk Q) x4 v v6) (fun i v => sm24 v ∧ (∀ k, k < 24 → bt v k = true → cp A Q s k = true) ∧ (∀ k, k < 24 → bt v0 k = true → bt v k = true) ∧ (∀ j, j < i → ∀ k, k < 24 → bt v0 j = true → Q k = true → A j k = true → bt v k = true)) 24 (by omega) ?_ ?_ v0 ⟨h1, h2, fun _ _ h => h, fun j hj => absurd hj (Nat.not_lt_zero j)⟩
    · intro n v _
      show f120_22 M ke0 (n + 1) x1 (mk Q) x4 v v6 (nI 24) = _
      rw [f120_22, c24e, cond_true]
    · rintro n i v hi ⟨g1, g2, g3, g4⟩
      refine ⟨if bt v i then v ||| mk (fun k => Q k && A i k) else v, ?_, ?_⟩
      · show f120_22 M ke0 (n + 1) x1 (mk Q) x4 v v6 (nI i) = f120_22 M ke0 n x1 (mk Q) x4 _ v6 (nI (i + 1))
        rw [f120_22, c24 hi, cond_false, f120_32_s M _ A Q x1 x4 v6 hi (fun b hb q1 q2 => h118 i b hi hb q1 q2) v (fun q => cp_in hQs hi (g2 i hi q)), nI_1]
      · cases e : bt v i
        · rw [if_neg (by simp)]
          refine ⟨g1, g2, g3, fun j hj k hk q1 q2 q3 => ?_⟩
          by_cases c : j = i
          · subst c
            rw [g3 j hi q1] at e
            cases e
          · exact g4 j (by omega) k hk q1 q2 q3
        · rw [if_pos rfl]
          have hor : ∀ k, k < 24 → (bt (v ||| mk (fun k => Q k && A i k)) k = true ↔ bt v k = true ∨ (Q k = true ∧ A i k = true)) := fun k hk => by rw [b_or, Bool.or_eq_true, b_mkl hk, Bool.and_eq_true]
          refine ⟨sm_or g1 (sm_mk _), fun k hk q => ?_, fun k hk q => (hor k hk).mpr (Or.inl (g3 k hk q)), fun j hj k hk q1 q2 q3 => ?_⟩
          · rcases (hor k hk).mp q with q | ⟨q, q2⟩
            · exact g2 k hk q
            · exact cp_clo hs i k hi hk (g2 i hi e) q2 q
          · by_cases c : j = i
            · subst c
              exact (hor k hk).mpr (Or.inr ⟨q2, q3⟩)
            · exact (hor k hk).mpr (Or.inl (g4 j (by omega) k hk q1 q2 q3))
  have out : ∀ n v w, 24 - fb_ct (bt w) 24 < n → sm24 v → sm24 w → bt v s = true → (∀ k, k < 24 → bt v k = true → cp A Q s k = true) → (∀ k, k < 24 → bt w k = true → bt v k = true) → (∀ j, j < 24 → ∀ k, k < 24 → bt w j = true → Q k = true → A j k = true → bt v k = true) → f120_8 M (fun ve24 => some ve24) n x1 (mk Q) x4 v w = some (mk (cp A Q s)) := by
    intro n
    induction n with
    | zero => intro v w h; omega
    | succ n ih =>
      intro v w h0 h1 h2 h3 h4 h5 h6
      rw [f120_8]
      by_cases e : w = v
      · rw [decide_eq_true e, cond_true]
        subst e
        exact congrArg some (cpm_of h1 h3 (fun j k hj hk r1 r2 r3 => h6 j hj k hk r1 r3 r2) h4)
      · rw [decide_eq_false e, cond_false]
        obtain ⟨v', g1, g2, g3, g4, g5⟩ := mid (fun ve19 ve20 ve21 ve22 ve23 => f120_8 M (fun ve24 => some ve24) n ve19 ve20 ve21 ve22 ve23) v v h1 h4
        rw [g1]
        have hx : ∃ k, k < 24 ∧ bt w k = false ∧ bt v k = true := by
          refine Classical.byContradiction fun hx => e (sm_eq h2 h1 fun k hk => ?_)
          cases e1 : bt v k
          · cases e2 : bt w k
            · rfl
            · rw [h5 k hk e2] at e1
              cases e1
          · cases e2 : bt w k
            · exact absurd ⟨k, hk, e2, e1⟩ hx
            · rfl
        obtain ⟨k, hk, q1, q2⟩ := hx
        have hlt := ct_lt (p := bt w) (q := bt v) (n := 24) h5 hk q1 q2
        have hle := fb_ct_le (bt v) 24
        exact ih v' v (by omega) g2 h1 (g4 s hs h3) g3 g4 g5
  unfold f120
  have hb : ∀ k, k < 24 → bt (1 <<< (nI s &&& 31)) k = decide (k = s) := fun k hk => b_ob (by omega) (by omega)
  refine out jm_F _ 0 (show _ < 5000 by omega) (sm_ob hs) sm_0 ((hb s hs).trans (decide_eq_true rfl)) (fun k hk h => ?_) (fun k _ h => ?_) (fun j _ k _ h => ?_)
  · rw [hb k hk] at h
    rw [of_decide_eq_true h]
    exact cp_self
  · rw [b_0] at h
    cases h
  · rw [b_0] at h
    cases h
theorem f121_s (M : jm_MM) (A : Nat → Nat → Bool) (Q : Nat → Bool) (x1 x4 : Int32)
    (h118 : ∀ a b, a < 24 → b < 24 → Q a = true → Q b = true → f118 M x1 (nI a) (nI b) x4 = some (bI (A a b))) : f121 M x1 (mk Q) x4 = some (nI (fb_ct (nwf A Q) 24)) := by
  unfold f121
  have h := lpV (fun n (a : Int32 × Int32) v => f121_9 M (fun ve7 => some ve7) n x1 (mk Q) x4 a.1 a.2 v) (fun i => (nI (fb_ct (nwf A Q) i), mk (fun h => Q h && !dnf A Q i h))) (some (nI (fb_ct (nwf A Q) 24))) 24 (by omega) ?_ ?_
  · have e : mk (fun h => Q h && !dnf A Q 0 h) = mk Q := mk_ext fun i _ => by
      show (Q i && !false) = Q i
      rw [Bool.not_false, Bool.and_true]
    simp only [e] at h
    exact h
  · intro n
    show f121_9 M _ (n + 1) x1 (mk Q) x4 _ _ (nI 24) = _
    rw [f121_9, c24e, cond_true]
  · intro n i hi
    show f121_9 M _ (n + 1) x1 (mk Q) x4 (nI (fb_ct (nwf A Q) i)) (mk (fun h => Q h && !dnf A Q i h)) (nI i) = f121_9 M _ n x1 (mk Q) x4 (nI (fb_ct (nwf A Q) (i + 1))) (mk (fun h => Q h && !dnf A Q (i + 1) h)) (nI (i + 1))
    rw [f121_9, c24 hi, cond_false, f94_s M _ (by omega), bd_s, bI_0, b_mkl hi, show (Q i && !dnf A Q i i) = nwf A Q i from rfl, fb_ct_succ, nI_1, nI_1]
    cases e : nwf A Q i
    · rw [mk_ext (P := fun h => Q h && !dnf A Q (i + 1) h) (Q := fun h => Q h && !dnf A Q i h) (fun h hh => by simp only [dnf_old hi hh e])]
      rfl
    · have eQ : Q i = true := by
        rw [nwf, Bool.and_eq_true] at e
        exact e.1
      rw [f120_s M A Q x1 x4 hi eQ h118, bd_s]
      have e5 : mk (fun h => Q h && !dnf A Q i h) &&& (mk (cp A Q i) ^^^ (-1)) = mk (fun h => Q h && !dnf A Q (i + 1) h) := mk_eq (sm_andl (sm_mk _)) fun k hk => by
        rw [b_and, b_not _ (by omega), b_mkl hk, b_mkl hk, dnf_new e, Bool.not_or, Bool.and_assoc]
      show f121_9 M _ n x1 (mk Q) x4 (nI (fb_ct (nwf A Q) i + 1)) (mk (fun h => Q h && !dnf A Q i h) &&& (mk (cp A Q i) ^^^ (-1))) (nI (i + 1)) = _
      rw [e5]
      rfl
/-! the other's way to all clumps -/
theorem f4_s (M : jm_MM) (a0 : Nat) (x : Int32) : ∃ M', f4 M a0 x = some M' ∧ (∀ b, b ≠ a0 + 2 → M' b = M b) ∧ ∀ h, h < 24 → M' (a0 + 2) h = if bt x h then x else M (a0 + 2) h := by
  unfold f4
  have hx := lpI (fun n (w : jm_MM) u => f4_2 a0 (fun Me6 => some Me6) n w x u) (fun v => some v) (fun i w => (∀ b, b ≠ a0 + 2 → w b = M b) ∧ ∀ h, h < 24 → w (a0 + 2) h = if decide (h < i) && bt x h then x else M (a0 + 2) h) 24 (by omega) ?_ ?_ M ⟨fun _ _ => rfl, fun h _ => by rw [decide_eq_false (Nat.not_lt_zero h), Bool.false_and, if_neg (by simp)]⟩
  · obtain ⟨M', h1, h2, h3⟩ := hx
    exact ⟨M', h1, h2, fun h hh => by rw [h3 h hh, decide_eq_true hh, Bool.true_and]⟩
  · intro n w _
    show f4_2 a0 _ (n + 1) w x (nI 24) = _
    rw [f4_2, c24e, cond_true]
  · rintro n i w hi ⟨g1, g2⟩
    have e1 : f4_2 a0 (fun Me6 => some Me6) (n + 1) w x (nI i) = f4_2 a0 (fun Me6 => some Me6) n (if bt x i then jm_up w (a0 + 2) i x else w) x (nI (i + 1)) := by
      rw [f4_2, c24 hi, cond_false, f87_s w x (by omega), bd_s, bI_0, inb24 hi, gd_t, cl_s (by omega), nI_1]
      cases bt x i <;> rfl
    refine ⟨_, e1, ?_, ?_⟩
    · intro b hb
      cases bt x i
      · exact g1 b hb
      · show jm_up w (a0 + 2) i x b = M b
        rw [jm_up, va_up_ne' hb]
        exact g1 b hb
    · intro h hh
      by_cases c : h = i
      · subst c
        rw [decide_eq_true (Nat.lt_succ_self h), Bool.true_and]
        cases e : bt x h
        · rw [if_neg (by simp), if_neg (by simp), g2 h hh, decide_eq_false (Nat.lt_irrefl h), Bool.false_and, if_neg (by simp)]
        · rw [if_pos rfl, if_pos rfl, jm_up, va_up_eq', upd, if_pos rfl]
      · have e2 : decide (h < i + 1) = decide (h < i) := by
          by_cases q : h < i
          · rw [decide_eq_true q, decide_eq_true (by omega)]
          · rw [decide_eq_false q, decide_eq_false (by omega)]
        rw [e2, ← g2 h hh]
        cases bt x i
        · rfl
        · show jm_up w (a0 + 2) i x (a0 + 2) h = _
          rw [jm_up, va_up_eq', upd, if_neg c]
theorem fil (M : jm_MM) (a n : Nat) (v : Int32) : ∃ M', f165 M a n v = some M' ∧ (∀ b, b ≠ a → M' b = M b) ∧ ∀ h, h < n → M' a h = v := by
  refine ⟨_, rfl, fun b hb => va_up_ne' hb, fun h hh => ?_⟩
  rw [va_up_eq', if_pos hh]
theorem jup_ne {M : jm_MM} {a k b : Nat} {v : Int32} (h : b ≠ a) : jm_up M a k v b = M b := va_up_ne' h
theorem jup_eq {M : jm_MM} {a k : Nat} {v : Int32} : jm_up M a k v a k = v := by rw [jm_up, va_up_eq', upd, if_pos rfl]
theorem jup_nj {M : jm_MM} {a k j : Nat} {v : Int32} (h : j ≠ k) : jm_up M a k v a j = M a j := by rw [jm_up, va_up_eq', upd, if_neg h]
theorem jup_n2 {M : jm_MM} {a k b j : Nat} {v : Int32} (h : b ≠ a ∨ j ≠ k) : jm_up M a k v b j = M b j := by
  by_cases c : b = a
  · subst c
    rcases h with h | h
    · exact absurd rfl h
    · exact jup_nj h
  · rw [jup_ne c]
theorem f3_s (M : jm_MM) (a0 : Nat) (A : Nat → Nat → Bool) (Pr Q : Nat → Bool) (hA : ∀ a b, a < 24 → b < 24 → A a b = A b a) (hQP : ∀ k, k < 24 → Q k = true → Pr k = true)
    (hl : ∀ g, g < 24 → M (a0 + 1) g = mk (fun k => Pr g && Pr k && A g k)) :
    ∃ M', f3 M a0 (mk Q) = some M' ∧ (∀ b, b ≠ a0 → b ≠ a0 + 2 → M' b = M b) ∧ (∀ j, j ≠ 1 → M' a0 j = M a0 j) ∧ M' a0 1 = nI (fb_ct (nwf A Q) 24) ∧ ∀ h, h < 24 → M' (a0 + 2) h = if Q h then mk (cp A Q h) else 0 := by
  unfold f3
  obtain ⟨M1, k1, k2, k3⟩ := fil (jm_up M a0 1 0) (a0 + 2) 24 0
  rw [k1, bd_s]
  have hx := lpI (fun n (w : jm_MM) u => f3_15 a0 (fun Me13 => some Me13) n w (mk Q) u) (fun v => some v)
    (fun i w => (∀ b, b ≠ a0 → b ≠ a0 + 2 → w b = M b) ∧ (∀ j, j ≠ 1 → w a0 j = M a0 j) ∧ w a0 1 = nI (fb_ct (nwf A Q) i) ∧ ∀ h, h < 24 → w (a0 + 2) h = if Q h && dnf A Q i h then mk (cp A Q h) else 0) 24 (by omega) ?_ ?_ M1 ?_
  · obtain ⟨M', h1, h2, h3, h4, h5⟩ := hx
    refine ⟨M', h1, h2, h3, h4, fun h hh => ?_⟩
    rw [h5 h hh]
    cases e : Q h
    · rfl
    · rw [dnf_all hh e]
      rfl
  · intro n w _
    show f3_15 a0 _ (n + 1) w (mk Q) (nI 24) = _
    rw [f3_15, c24e, cond_true]
  · rintro n i w hi ⟨g1, g2, g3, g4⟩
    have hl' : ∀ g, g < 24 → w (a0 + 1) g = mk (fun k => Pr g && Pr k && A g k) := fun g hg => by rw [g1 (a0 + 1) (by omega) (by omega), hl g hg]
    cases e : nwf A Q i
    · refine ⟨w, ?_, g1, g2, ?_, fun h hh => ?_⟩
      · show f3_15 a0 _ (n + 1) w (mk Q) (nI i) = f3_15 a0 _ n w (mk Q) (nI (i + 1))
        rw [f3_15, c24 hi, cond_false, f87_s w (mk Q) (by omega), bd_s, bI_0, b_mkl hi, inb24 hi, gd_t, cl_s (by omega), nI_1]
        cases eQ : Q i
        · rfl
        · have e2 : dnf A Q i i = true := by
            rw [nwf, eQ, Bool.true_and, Bool.not_eq_false'] at e
            exact e
          have e3 : ¬ w (a0 + 2) i = 0 := by
            rw [g4 i hi, eQ, e2, Bool.true_and, if_pos rfl]
            intro e4
            have e5 := mk_0.mp e4 i hi
            rw [cp_self] at e5
            cases e5
          rw [decide_eq_false e3]
          rfl
      · rw [fb_ct_succ, e, g3]
        rfl
      · rw [dnf_old hi hh e, g4 h hh]
    · have eQ : Q i = true := by
        rw [nwf, Bool.and_eq_true] at e
        exact e.1
      have eD : dnf A Q i i = false := by
        rw [nwf, Bool.and_eq_true, Bool.not_eq_true'] at e
        exact e.2
      obtain ⟨M2, q1, q2, q3⟩ := f4_s w a0 (mk (cp A Q i))
      refine ⟨jm_up M2 a0 1 (M2 a0 1 + 1), ?_, fun b hb hb2 => ?_, fun j hj => ?_, ?_, fun h hh => ?_⟩
      · show f3_15 a0 _ (n + 1) w (mk Q) (nI i) = f3_15 a0 _ n (jm_up M2 a0 1 (M2 a0 1 + 1)) (mk Q) (nI (i + 1))
        rw [f3_15, c24 hi, cond_false, f87_s w (mk Q) (by omega), bd_s, bI_0, b_mkl hi, inb24 hi, gd_t, cl_s (by omega), nI_1, eQ]
        have e3 : w (a0 + 2) i = 0 := by rw [g4 i hi, eD, Bool.and_false, if_neg (by simp)]
        rw [decide_eq_true e3, f5_s w a0 A Pr Q hi eQ hQP hl', bd_s, q1, bd_s]
        rfl
      · rw [jup_ne hb, q2 b hb2, g1 b hb hb2]
      · rw [jup_nj hj, q2 a0 (by omega), g2 j hj]
      · rw [jup_eq, q2 a0 (by omega), g3, nI_1, fb_ct_succ, e]
        rfl
      · rw [jup_ne (by omega), q3 h hh, b_mkl hh, dnf_new e]
        cases e6 : cp A Q i h
        · rw [if_neg (by simp), g4 h hh, Bool.or_false]
        · have e7 : Q h = true := cp_in eQ hh e6
          rw [if_pos rfl, e7, Bool.or_true]
          exact mk_ext fun j hj => (cp_same hA hi hh eQ e6 hj).symm
  · refine ⟨fun b hb hb2 => by rw [k2 b hb2, jup_ne hb], fun j hj => by rw [k2 a0 (by omega), jup_nj hj], by rw [k2 a0 (by omega), jup_eq]; rfl, fun h hh => ?_⟩
    rw [k3 h hh]
    show _ = if Q h && false then _ else _
    rw [Bool.and_false, if_neg (by simp)]
