/-! words for the functions that the generator prints, and the facts of the shape -/
abbrev jm_MM : Type := Nat → Nat → Int32
abbrev jm_JJ : Type := Nat → Nat → Int64
def jm_F : Nat := 5000
def jm_gd {α : Type} (b : Bool) (x : Option α) : Option α := bif b then x else none
def jm_bd {α β : Type} (x : Option α) (f : α → Option β) : Option β := match x with
  | some a => f a
  | none => none
theorem jm_gdo {α : Type} {b : Bool} {x : Option α} {r : α} (h : jm_gd b x = some r) : b = true ∧ x = some r := by
  cases b
  · cases h
  · exact ⟨rfl, h⟩
theorem jm_bro {α : Type} {b : Bool} {x y : Option α} {r : α} (h : (bif b then x else y) = some r) : (b = true ∧ x = some r) ∨ (b = false ∧ y = some r) := by
  cases b
  · exact Or.inr ⟨rfl, h⟩
  · exact Or.inl ⟨rfl, h⟩
theorem jm_bdo {α β : Type} {x : Option α} {f : α → Option β} {r : β} (h : jm_bd x f = some r) : ∃ a, x = some a ∧ f a = some r := by
  cases x with
  | none => cases h
  | some a => exact ⟨a, rfl, h⟩
/-- dead locals at a label -/
theorem jm_go.lab {d : Nat} {Y : jm_M} {pc : Nat} {ls ls' : jm_V} {st : List Value} {t : jm_T} {r : jm_R} (h : ∀ i, jm_at Y.2.2 pc = some i → jm_kl i.2.2.2.2.2.2.2.2 ls = jm_kl i.2.2.2.2.2.2.2.2 ls') (g : jm_go d Y pc ls' st t r) : jm_go d Y pc ls st t r := by
  obtain ⟨n, g⟩ := g
  cases n with
  | zero => cases g
  | succ n =>
    refine ⟨n + 1, ?_⟩
    unfold jm_run at g ⊢
    split at g
    · cases g
    · rename_i e
      have h2 := h _ e
      dsimp only at h2
      rw [h2]
      exact g
/-- a stretch that ends in the reading of a reference -/
theorem jm_go.gfr (k : Nat) {b : Bool} {o : Option Nat} {q d : Nat} {Y : jm_M} {pc pc' : Nat} {ls ls' : jm_V} {st st' : List Value} {t t' : jm_T} {r : jm_R} (h : ∀ K C, jm_ks d Y K C k pc ls st t = jm_if b (match o with | some x => K pc' ls' (.ref x :: st') t' | none => none)) (hb : b = true) (ho : o = some q) (g : jm_go d Y pc' ls' (.ref q :: st') t' r) : jm_go d Y pc ls st t r := by
  obtain ⟨n, g⟩ := g
  refine ⟨n + k, jm_ks_run k pc ls st t ((h _ _).trans ?_)⟩
  rw [hb, ho]
  exact g
def jm_tgt (x : Int32) (u : Nat) : List (Int32 × Nat) → Nat
  | [] => u
  | (c, q) :: r => bif decide (x = c) then q else jm_tgt x u r
theorem jm_sw_tgt {k : Nat → Option jm_R} {x : Int32} {u : Nat} : ∀ ts : List (Int32 × Nat), jm_sw k x u ts = k (jm_tgt x u ts)
  | [] => rfl
  | (c, q) :: r => by
    unfold jm_sw jm_tgt
    cases decide (x = c)
    · exact jm_sw_tgt r
    · rfl
theorem jm_go.sw (k : Nat) {x : Int32} {u q d : Nat} {ts : List (Int32 × Nat)} {Y : jm_M} {pc : Nat} {ls ls' : jm_V} {st st' : List Value} {t t' : jm_T} {r : jm_R} (h : ∀ K C, jm_ks d Y K C k pc ls st t = jm_sw (fun q => K q ls' st' t') x u ts) (hq : jm_tgt x u ts = q) (g : jm_go d Y q ls' st' t' r) : jm_go d Y pc ls st t r := by
  obtain ⟨n, g⟩ := g
  refine ⟨n + k, jm_ks_run k pc ls st t ((h _ _).trans ?_)⟩
  rw [jm_sw_tgt, hq]
  exact g
/-! the shape -/
def jm_isI (L a n : Nat) : Prop := jm_is (jm_S0 L) a 9 = true ∧ (jm_S0 L).2.2.2.1 a = n
def jm_isC (a : Nat) : Prop := a ∈ [42, 52, 62, 72, 82, 92, 102]
def jm_isH (a : Nat) : Prop := a ∈ [45, 55, 65, 75, 85, 95]
def jm_isF (a : Nat) : Prop := a ∈ [2, 7, 10, 13, 16, 19, 22, 25, 28, 32, 35]
theorem jm_isC_ind {P : Nat → Prop} {a : Nat} (h : jm_isC a) (h0 : P 42) (h1 : P 52) (h2 : P 62) (h3 : P 72) (h4 : P 82) (h5 : P 92) (h6 : P 102) : P a := by
  simp only [jm_isC, List.mem_cons, List.not_mem_nil, or_false] at h
  rcases h with rfl | rfl | rfl | rfl | rfl | rfl | rfl <;> assumption
theorem jm_isH_ind {P : Nat → Prop} {a : Nat} (h : jm_isH a) (h0 : P 45) (h1 : P 55) (h2 : P 65) (h3 : P 75) (h4 : P 85) (h5 : P 95) : P a := by
  simp only [jm_isH, List.mem_cons, List.not_mem_nil, or_false] at h
  rcases h with rfl | rfl | rfl | rfl | rfl | rfl <;> assumption
theorem jm_isF_ind {P : Nat → Prop} {a : Nat} (h : jm_isF a) (h0 : P 2) (h1 : P 7) (h2 : P 10) (h3 : P 13) (h4 : P 16) (h5 : P 19) (h6 : P 22) (h7 : P 25) (h8 : P 28) (h9 : P 32) (hA : P 35) : P a := by
  simp only [jm_isF, List.mem_cons, List.not_mem_nil, or_false] at h
  rcases h with rfl | rfl | rfl | rfl | rfl | rfl | rfl | rfl | rfl | rfl | rfl <;> assumption
theorem jm_fC (L : Nat) {a : Nat} (h : jm_isC a) : jm_is (jm_S0 L) a 0 = true := jm_isC_ind (P := fun a => jm_is (jm_S0 L) a 0 = true) h rfl rfl rfl rfl rfl rfl rfl
theorem jm_rC1 (L : Nat) {a : Nat} (h : jm_isC a) : (jm_S0 L).2.2.2.2 a 2 = some (a + 1) := jm_isC_ind (P := fun a => (jm_S0 L).2.2.2.2 a 2 = some (a + 1)) h rfl rfl rfl rfl rfl rfl rfl
theorem jm_rC2 (L : Nat) {a : Nat} (h : jm_isC a) : (jm_S0 L).2.2.2.2 a 3 = some (a + 2) := jm_isC_ind (P := fun a => (jm_S0 L).2.2.2.2 a 3 = some (a + 2)) h rfl rfl rfl rfl rfl rfl rfl
theorem jm_fC1 (L : Nat) {a : Nat} (h : jm_isC a) : jm_isI L (a + 1) 24 := jm_isC_ind (P := fun a => jm_isI L (a + 1) 24) h ⟨rfl, rfl⟩ ⟨rfl, rfl⟩ ⟨rfl, rfl⟩ ⟨rfl, rfl⟩ ⟨rfl, rfl⟩ ⟨rfl, rfl⟩ ⟨rfl, rfl⟩
theorem jm_fC2 (L : Nat) {a : Nat} (h : jm_isC a) : jm_isI L (a + 2) 24 := jm_isC_ind (P := fun a => jm_isI L (a + 2) 24) h ⟨rfl, rfl⟩ ⟨rfl, rfl⟩ ⟨rfl, rfl⟩ ⟨rfl, rfl⟩ ⟨rfl, rfl⟩ ⟨rfl, rfl⟩ ⟨rfl, rfl⟩
theorem jm_fH (L : Nat) {a : Nat} (h : jm_isH a) : jm_is (jm_S0 L) a 3 = true := jm_isH_ind (P := fun a => jm_is (jm_S0 L) a 3 = true) h rfl rfl rfl rfl rfl rfl
theorem jm_rHk (L : Nat) {a : Nat} (h : jm_isH a) : ∀ k, k < 7 → 0 < k → (jm_S0 L).2.2.2.2 a k = some (a + k) := by
  refine jm_isH_ind (P := fun a => ∀ k, k < 7 → 0 < k → (jm_S0 L).2.2.2.2 a k = some (a + k)) h ?_ ?_ ?_ ?_ ?_ ?_ <;>
  · intro k h1 h2
    rcases (show k = 1 ∨ k = 2 ∨ k = 3 ∨ k = 4 ∨ k = 5 ∨ k = 6 by omega) with rfl | rfl | rfl | rfl | rfl | rfl <;> rfl
theorem jm_rH1 (L : Nat) {a : Nat} (h : jm_isH a) : (jm_S0 L).2.2.2.2 a 1 = some (a + 1) := jm_rHk L h 1 (by omega) (by omega)
theorem jm_rH2 (L : Nat) {a : Nat} (h : jm_isH a) : (jm_S0 L).2.2.2.2 a 2 = some (a + 2) := jm_rHk L h 2 (by omega) (by omega)
theorem jm_rH3 (L : Nat) {a : Nat} (h : jm_isH a) : (jm_S0 L).2.2.2.2 a 3 = some (a + 3) := jm_rHk L h 3 (by omega) (by omega)
theorem jm_rH4 (L : Nat) {a : Nat} (h : jm_isH a) : (jm_S0 L).2.2.2.2 a 4 = some (a + 4) := jm_rHk L h 4 (by omega) (by omega)
theorem jm_rH5 (L : Nat) {a : Nat} (h : jm_isH a) : (jm_S0 L).2.2.2.2 a 5 = some (a + 5) := jm_rHk L h 5 (by omega) (by omega)
theorem jm_rH6 (L : Nat) {a : Nat} (h : jm_isH a) : (jm_S0 L).2.2.2.2 a 6 = some (a + 6) := jm_rHk L h 6 (by omega) (by omega)
theorem jm_fHk (L : Nat) {a : Nat} (h : jm_isH a) : ∀ k, k < 7 → 0 < k → jm_isI L (a + k) 24 := by
  refine jm_isH_ind (P := fun a => ∀ k, k < 7 → 0 < k → jm_isI L (a + k) 24) h ?_ ?_ ?_ ?_ ?_ ?_ <;>
  · intro k h1 h2
    rcases (show k = 1 ∨ k = 2 ∨ k = 3 ∨ k = 4 ∨ k = 5 ∨ k = 6 by omega) with rfl | rfl | rfl | rfl | rfl | rfl <;> exact ⟨rfl, rfl⟩
theorem jm_fH1 (L : Nat) {a : Nat} (h : jm_isH a) : jm_isI L (a + 1) 24 := jm_fHk L h 1 (by omega) (by omega)
theorem jm_fH2 (L : Nat) {a : Nat} (h : jm_isH a) : jm_isI L (a + 2) 24 := jm_fHk L h 2 (by omega) (by omega)
theorem jm_fH3 (L : Nat) {a : Nat} (h : jm_isH a) : jm_isI L (a + 3) 24 := jm_fHk L h 3 (by omega) (by omega)
theorem jm_fH4 (L : Nat) {a : Nat} (h : jm_isH a) : jm_isI L (a + 4) 24 := jm_fHk L h 4 (by omega) (by omega)
theorem jm_fH5 (L : Nat) {a : Nat} (h : jm_isH a) : jm_isI L (a + 5) 24 := jm_fHk L h 5 (by omega) (by omega)
theorem jm_fH6 (L : Nat) {a : Nat} (h : jm_isH a) : jm_isI L (a + 6) 24 := jm_fHk L h 6 (by omega) (by omega)
theorem jm_fF (L : Nat) {a : Nat} (h : jm_isF a) : jm_is (jm_S0 L) a 1 = true := jm_isF_ind (P := fun a => jm_is (jm_S0 L) a 1 = true) h rfl rfl rfl rfl rfl rfl rfl rfl rfl rfl rfl
theorem jm_rF1 (L : Nat) {a : Nat} (h : jm_isF a) : (jm_S0 L).2.2.2.2 a 3 = some (a + 1) := jm_isF_ind (P := fun a => (jm_S0 L).2.2.2.2 a 3 = some (a + 1)) h rfl rfl rfl rfl rfl rfl rfl rfl rfl rfl rfl
theorem jm_rF2 (L : Nat) {a : Nat} (h : jm_isF a) : (jm_S0 L).2.2.2.2 a 4 = some (a + 2) := jm_isF_ind (P := fun a => (jm_S0 L).2.2.2.2 a 4 = some (a + 2)) h rfl rfl rfl rfl rfl rfl rfl rfl rfl rfl rfl
theorem jm_fF1 (L : Nat) {a : Nat} (h : jm_isF a) : jm_isI L (a + 1) 24 := jm_isF_ind (P := fun a => jm_isI L (a + 1) 24) h ⟨rfl, rfl⟩ ⟨rfl, rfl⟩ ⟨rfl, rfl⟩ ⟨rfl, rfl⟩ ⟨rfl, rfl⟩ ⟨rfl, rfl⟩ ⟨rfl, rfl⟩ ⟨rfl, rfl⟩ ⟨rfl, rfl⟩ ⟨rfl, rfl⟩ ⟨rfl, rfl⟩
theorem jm_fF2 (L : Nat) {a : Nat} (h : jm_isF a) : jm_isI L (a + 2) 144 := jm_isF_ind (P := fun a => jm_isI L (a + 2) 144) h ⟨rfl, rfl⟩ ⟨rfl, rfl⟩ ⟨rfl, rfl⟩ ⟨rfl, rfl⟩ ⟨rfl, rfl⟩ ⟨rfl, rfl⟩ ⟨rfl, rfl⟩ ⟨rfl, rfl⟩ ⟨rfl, rfl⟩ ⟨rfl, rfl⟩ ⟨rfl, rfl⟩
theorem jm_inb_lt {i : Int32} {n : Nat} (h : jm_inb i n = true) : i.toNatClampNeg < n := by
  simp only [jm_inb, Bool.and_eq_true, Nat.blt_eq] at h
  exact h.2
theorem jm_aC6 : ∀ j, j < 6 → jm_isC (42 + 10 * j) := by unfold jm_isC; decide
theorem jm_aH6 : ∀ j, j < 6 → jm_isH (45 + 10 * j) := by unfold jm_isH; decide
theorem jm_aF8 : ∀ j, j < 8 → jm_isF (7 + 3 * j) := by unfold jm_isF; decide
theorem jm_aF2' : ∀ j, j < 2 → jm_isF (32 + 3 * j) := by unfold jm_isF; decide
theorem jm_aC {i : Int32} (h : jm_inb i 6 = true) : jm_isC (42 + 10 * i.toNatClampNeg) := jm_aC6 _ (jm_inb_lt h)
theorem jm_aH {i : Int32} (h : jm_inb i 6 = true) : jm_isH (45 + 10 * i.toNatClampNeg) := jm_aH6 _ (jm_inb_lt h)
theorem jm_aF1 {i : Int32} (h : jm_inb i 8 = true) : jm_isF (7 + 3 * i.toNatClampNeg) := jm_aF8 _ (jm_inb_lt h)
theorem jm_aF2 {i : Int32} (h : jm_inb i 2 = true) : jm_isF (32 + 3 * i.toNatClampNeg) := jm_aF2' _ (jm_inb_lt h)
theorem jm_aCr (L : Nat) {i : Int32} (h : jm_inb i 6 = true) : (jm_S0 L).2.2.2.2 40 i.toNatClampNeg = some (42 + 10 * i.toNatClampNeg) := by
  have h1 := jm_inb_lt h
  generalize i.toNatClampNeg = j at h1 ⊢
  rcases (show j = 0 ∨ j = 1 ∨ j = 2 ∨ j = 3 ∨ j = 4 ∨ j = 5 by omega) with rfl | rfl | rfl | rfl | rfl | rfl <;> rfl
theorem jm_aHr (L : Nat) {i : Int32} (h : jm_inb i 6 = true) : (jm_S0 L).2.2.2.2 41 i.toNatClampNeg = some (45 + 10 * i.toNatClampNeg) := by
  have h1 := jm_inb_lt h
  generalize i.toNatClampNeg = j at h1 ⊢
  rcases (show j = 0 ∨ j = 1 ∨ j = 2 ∨ j = 3 ∨ j = 4 ∨ j = 5 by omega) with rfl | rfl | rfl | rfl | rfl | rfl <;> rfl
theorem jm_aF1r (L : Nat) {i : Int32} (h : jm_inb i 8 = true) : (jm_S0 L).2.2.2.2 6 i.toNatClampNeg = some (7 + 3 * i.toNatClampNeg) := by
  have h1 := jm_inb_lt h
  generalize i.toNatClampNeg = j at h1 ⊢
  rcases (show j = 0 ∨ j = 1 ∨ j = 2 ∨ j = 3 ∨ j = 4 ∨ j = 5 ∨ j = 6 ∨ j = 7 by omega) with rfl | rfl | rfl | rfl | rfl | rfl | rfl | rfl <;> rfl
theorem jm_aF2r (L : Nat) {i : Int32} (h : jm_inb i 2 = true) : (jm_S0 L).2.2.2.2 31 i.toNatClampNeg = some (32 + 3 * i.toNatClampNeg) := by
  have h1 := jm_inb_lt h
  generalize i.toNatClampNeg = j at h1 ⊢
  rcases (show j = 0 ∨ j = 1 by omega) with rfl | rfl <;> rfl
theorem jm_gia {L a n : Nat} {i : Int32} (h : jm_isI L a n) (hi : jm_inb i n = true) : (((Nat.beq 0 1 && Nat.beq a 0) || (Nat.beq 0 0 && jm_is (jm_S0 L) a 9)) && jm_inb i ((jm_S0 L).2.2.2.1 a)) = true := by
  rw [h.1, h.2, hi]
  simp
theorem jm_gis {L a n : Nat} {i : Int32} (h : jm_isI L a n) (hi : jm_inb i n = true) : (jm_is (jm_S0 L) a 9 && jm_inb i ((jm_S0 L).2.2.2.1 a)) = true := by
  rw [h.1, h.2, hi]
  rfl
theorem jm_gcp24 {L a b D : Nat} {st : List Value} (ha : jm_isI L a 24) (hb : jm_isI L b 24) (h1 : Nat.blt 0 D = true := by rfl) (h2 : Nat.ble (jm_sum st) 8 = true := by rfl) : (Nat.blt 0 D && Nat.ble (jm_sum st) 8 && jm_is (jm_S0 L) a 9 && jm_is (jm_S0 L) b 9 && !decide ((24 : Int32) < 0) && !decide ((0 : Int32) < 0) && !decide ((0 : Int32) < 0) && Nat.ble ((0 : Int32).toNatClampNeg + (24 : Int32).toNatClampNeg) ((jm_S0 L).2.2.2.1 b) && Nat.ble ((0 : Int32).toNatClampNeg + (24 : Int32).toNatClampNeg) ((jm_S0 L).2.2.2.1 a)) = true := by
  rw [ha.1, ha.2, hb.1, hb.2, h1, h2]
  decide +kernel
theorem jm_gcp144 {L a b D : Nat} {st : List Value} (ha : jm_isI L a 144) (hb : jm_isI L b 144) (h1 : Nat.blt 0 D = true := by rfl) (h2 : Nat.ble (jm_sum st) 8 = true := by rfl) : (Nat.blt 0 D && Nat.ble (jm_sum st) 8 && jm_is (jm_S0 L) a 9 && jm_is (jm_S0 L) b 9 && !decide ((144 : Int32) < 0) && !decide ((0 : Int32) < 0) && !decide ((0 : Int32) < 0) && Nat.ble ((0 : Int32).toNatClampNeg + (144 : Int32).toNatClampNeg) ((jm_S0 L).2.2.2.1 b) && Nat.ble ((0 : Int32).toNatClampNeg + (144 : Int32).toNatClampNeg) ((jm_S0 L).2.2.2.1 a)) = true := by
  rw [ha.1, ha.2, hb.1, hb.2, h1, h2]
  decide +kernel
/-! Arrays.fill, over any shape -/
def jm_fl1 (f : Nat → Int32) (v : Int32) (i : Nat) : Nat → Int32 := fun j => if j < i then v else f j
theorem jm_inb_nI {i n : Nat} (h : i < n) (hn : n < 2 ^ 31) : jm_inb (nI i) n = true := by
  have h1 : ¬ nI i < 0 := nI_pos (by omega)
  simp only [jm_inb, Bool.and_eq_true, Nat.blt_eq, Bool.not_eq_true', decide_eq_false_iff_not]
  exact ⟨h1, by rw [nI_clamp (by omega)]; exact h⟩
theorem jm_fill_loop (d : Nat) (S : jm_S) (J : jm_JJ) (a n : Nat) (v : Int32) (hk : jm_is S a 9 = true) (hl : S.2.2.2.1 a = n) (hn : n < 2 ^ 31) : ∀ (m i : Nat) (M : jm_MM), i + m = n → jm_go d (jm_G 165) 5 [some (.ref a), some (.int v), some (.int (nI i)), some (.int (nI n))] [] (S, M, J) (none, (S, va_up M a (fun j => if i ≤ j ∧ j < n then v else M a j), J))
  | 0, i, M, h => by
    have e : va_up M a (fun j => if i ≤ j ∧ j < n then v else M a j) = M := by
      funext b j
      by_cases hb : b = a
      · subst hb
        rw [va_up_eq', if_neg (by omega)]
      · rw [va_up_ne' hb]
    rw [e]
    refine jm_go.brt 3 (b := decide (nI n ≤ nI i)) (p1 := 20) (l1 := [some (.ref a), some (.int v), some (.int (nI i)), some (.int (nI n))]) (s1 := []) (t1 := (S, M, J)) (p2 := 10) (l2 := [some (.ref a), some (.int v), some (.int (nI i)), some (.int (nI n))]) (s2 := []) (t2 := (S, M, J)) (fun _ _ => rfl) (decide_eq_true (nI_le (by omega) (by omega))) ?_
    exact jm_go.ret 1 (fun _ _ => rfl)
  | m + 1, i, M, h => by
    refine jm_go.brf 3 (b := decide (nI n ≤ nI i)) (p1 := 20) (l1 := [some (.ref a), some (.int v), some (.int (nI i)), some (.int (nI n))]) (s1 := []) (t1 := (S, M, J)) (p2 := 10) (l2 := [some (.ref a), some (.int v), some (.int (nI i)), some (.int (nI n))]) (s2 := []) (t2 := (S, M, J)) (fun _ _ => rfl) (decide_eq_false (nI_ge (by omega) (by omega))) ?_
    refine jm_go.grd 4 (b := jm_is S a 9 && jm_inb (nI i) (S.2.2.2.1 a)) (pc' := 14) (ls' := [some (.ref a), some (.int v), some (.int (nI i)), some (.int (nI n))]) (st' := []) (t' := (S, jm_up M a (nI i).toNatClampNeg v, J)) (fun _ _ => rfl) (by rw [hk, hl, jm_inb_nI (by omega) hn]; rfl) ?_
    refine jm_go.blk 2 (pc' := 5) (ls' := [some (.ref a), some (.int v), some (.int (nI i + 1)), some (.int (nI n))]) (st' := []) (t' := (S, jm_up M a (nI i).toNatClampNeg v, J)) (fun _ _ => rfl) ?_
    rw [nI_1, nI_clamp (by omega)]
    have hh := jm_fill_loop d S J a n v hk hl hn m (i + 1) (jm_up M a i v) (by omega)
    have e : va_up (jm_up M a i v) a (fun j => if i + 1 ≤ j ∧ j < n then v else jm_up M a i v a j) = va_up M a (fun j => if i ≤ j ∧ j < n then v else M a j) := by
      funext b j
      by_cases hb : b = a
      · subst hb
        rw [va_up_eq', va_up_eq']
        unfold jm_up
        rw [va_up_eq']
        unfold upd
        by_cases hj : j = i
        · subst hj
          rw [if_neg (by omega), if_pos rfl, if_pos (by omega)]
        · rw [if_neg hj]
          by_cases h3 : i + 1 ≤ j ∧ j < n
          · rw [if_pos h3, if_pos (by omega)]
          · rw [if_neg h3, if_neg (by omega)]
      · rw [va_up_ne' hb, va_up_ne' hb]
        unfold jm_up
        rw [va_up_ne' hb]
    rw [e] at hh
    exact hh
def f165 (M : jm_MM) (a n : Nat) (v : Int32) : Option jm_MM := some (va_up M a (fun j => if j < n then v else M a j))
theorem jm_fill (d : Nat) (S : jm_S) (M : jm_MM) (J : jm_JJ) (a n : Nat) (v : Int32) (hk : jm_is S a 9 = true) (hl : S.2.2.2.1 a = n) (hn : n < 2 ^ 31) : jm_go d (jm_G 165) 0 (jm_en 4 [.ref a, .int v]) [] (S, M, J) (none, (S, va_up M a (fun j => if j < n then v else M a j), J)) := by
  refine jm_go.grd 4 (b := jm_is S a 9) (pc' := 4) (ls' := [some (.ref a), some (.int v), some (.int 0), none]) (st' := [.int (Int32.ofNat (S.2.2.2.1 a))]) (t' := (S, M, J)) (fun _ _ => rfl) hk ?_
  refine jm_go.blk 1 (pc' := 5) (ls' := [some (.ref a), some (.int v), some (.int 0), some (.int (Int32.ofNat (S.2.2.2.1 a)))]) (st' := []) (t' := (S, M, J)) (fun _ _ => rfl) ?_
  rw [hl]
  have hh := jm_fill_loop d S J a n v hk hl hn n 0 M (by omega)
  simp only [Nat.zero_le, true_and] at hh
  rw [nI_0] at hh
  exact hh
theorem g165 (L d : Nat) (M : jm_MM) (J : jm_JJ) (a : Nat) (v : Int32) {n : Nat} (pf : jm_isI L a n) {r : jm_MM} (H : f165 M a n v = some r) (hn : n < 2 ^ 31 := by decide) : jm_go d (jm_G 165) 0 (jm_en 4 [.ref a, .int v]) [] (jm_S0 L, M, J) (none, (jm_S0 L, r, J)) := by
  cases H
  exact jm_fill d (jm_S0 L) M J a n v pf.1 pf.2 hn
