/-! the plain heap over the machine's heap -/
/-- the script's cell, the size of the heap at the law's entry, the slots of the classes, the array classes by their kinds, the script's length and ints -/
abbrev jm_Ev : Type := Nat × Nat × va_G × (Nat → ClassId) × Nat × (Nat → Int32)
def jm_ad (E : jm_Ev) : Nat → Nat
  | 0 => E.1
  | a + 1 => E.2.1 + a
def jm_mv (E : jm_Ev) : Value → Value
  | .ref a => .ref (jm_ad E a)
  | v => v
def jm_fv (E : jm_Ev) (t : jm_T) (c a k : Nat) : Value := match jm_ft c k with
  | 1 => va_rf ((t.1.2.2.2.2 a k).map (jm_ad E))
  | 2 => .long (t.2.2 a k)
  | _ => .int (t.2.1 a k)
def jm_fs (E : jm_Ev) (t : jm_T) (c a : Nat) : List Value := (List.range (jm_nf c)).map (jm_fv E t c a)
def jm_E (E : jm_Ev) (t : jm_T) (a : Nat) : va_E :=
  if t.1.2.2.1 a < 9 then .inr (t.1.2.2.1 a, jm_fs E t (t.1.2.2.1 a) a)
  else if t.1.2.2.1 a < 11 then .inl (E.2.2.2.1 (t.1.2.2.1 a), t.1.2.2.2.1 a, .inl (t.2.1 a))
  else .inl (E.2.2.2.1 (t.1.2.2.1 a), t.1.2.2.2.1 a, .inr (.inr (.inr (.inr (fun j => (t.1.2.2.2.2 a j).map (jm_ad E))))))
def jm_ws (E : jm_Ev) (t : jm_T) : va_W := (List.range t.1.1).map fun i => (E.2.1 + i, jm_E E t (i + 1))
def jm_A (E : jm_Ev) : Nat → Prop := fun q => E.2.1 ≤ q
def jm_tys (E : jm_Ev) : List (ClassId × FieldType) := [(E.2.2.2.1 9, .int), (E.2.2.2.1 10, .boolean), (E.2.2.2.1 11, .object RX0), (E.2.2.2.1 12, .object RX1), (E.2.2.2.1 13, .object RX3)]
def jm_P (E : jm_Ev) (t : jm_T) (H : Heap) : Prop := va_P E.2.2.1 jm_cl (jm_ws E t) H ∧ t.2.1 0 = E.2.2.2.2.2 ∧ t.1.2.2.2.1 0 = E.2.2.2.2.1

theorem jm_ws_at (E : jm_Ev) (t : jm_T) {j : Nat} (h : j < t.1.1) : (jm_ws E t)[j]? = some (E.2.1 + j, jm_E E t (j + 1)) := by
  simp [jm_ws, h]
theorem jm_D (E : jm_Ev) (t : jm_T) : va_D (jm_A E) (jm_ws E t) := by
  refine ⟨fun i j p q hp hq h => ?_, fun k q hk => ?_⟩
  · simp only [jm_ws, List.getElem?_map, Option.map_eq_some_iff] at hp hq
    obtain ⟨a, ha, rfl⟩ := hp
    obtain ⟨b, hb, rfl⟩ := hq
    have ha' := (List.getElem?_eq_some_iff.mp ha).2
    have hb' := (List.getElem?_eq_some_iff.mp hb).2
    simp only [List.getElem_range] at ha' hb'
    dsimp only at h
    omega
  · simp only [jm_ws, List.getElem?_map, Option.map_eq_some_iff] at hk
    obtain ⟨a, ha, rfl⟩ := hk
    exact Nat.le_add_right _ _
theorem jm_ws_set (E : jm_Ev) (t t' : jm_T) {j : Nat} {x : va_E} (hn : t'.1.1 = t.1.1) (h1 : jm_E E t' (j + 1) = x) (h2 : ∀ b, b ≠ j + 1 → jm_E E t' b = jm_E E t b) (hj : j < t.1.1) : jm_ws E t' = (jm_ws E t).set j (E.2.1 + j, x) := by
  apply List.ext_getElem?
  intro i
  by_cases hi : i = j
  · subst hi
    rw [jm_ws_at E t' (by omega), List.getElem?_set_self (by simp [jm_ws]; exact hj), h1]
  · rw [List.getElem?_set_ne (fun h => hi h.symm)]
    by_cases hb : i < t.1.1
    · rw [jm_ws_at E t' (by omega), jm_ws_at E t hb, h2 (i + 1) (by omega)]
    · rw [List.getElem?_eq_none (by simp [jm_ws]; omega), List.getElem?_eq_none (by simp [jm_ws]; omega)]
theorem jm_ws_push (E : jm_Ev) (t t' : jm_T) {x : va_E} (hn : t'.1.1 = t.1.1 + 1) (h1 : jm_E E t' (t.1.1 + 1) = x) (h2 : ∀ b, b ≠ t.1.1 + 1 → jm_E E t' b = jm_E E t b) : jm_ws E t' = jm_ws E t ++ [(E.2.1 + t.1.1, x)] := by
  apply List.ext_getElem?
  intro i
  by_cases hb : i < t.1.1
  · rw [jm_ws_at E t' (by omega), List.getElem?_append_left (by simp [jm_ws]; exact hb), jm_ws_at E t hb, h2 (i + 1) (by omega)]
  · by_cases hi : i = t.1.1
    · subst hi
      rw [jm_ws_at E t' (by omega), List.getElem?_append_right (by simp [jm_ws]), h1]
      simp [jm_ws]
    · rw [List.getElem?_eq_none (by simp [jm_ws]; omega), List.getElem?_eq_none (by simp [jm_ws]; omega)]
theorem jm_E_obj (E : jm_Ev) (t : jm_T) {a c : Nat} (h : t.1.2.2.1 a = c) (hc : c < 9) : jm_E E t a = .inr (c, jm_fs E t c a) := by
  subst h
  simp [jm_E, hc]
theorem jm_E_int (E : jm_Ev) (t : jm_T) {a c : Nat} (h : t.1.2.2.1 a = c) (h1 : 9 ≤ c) (h2 : c < 11) : jm_E E t a = .inl (E.2.2.2.1 c, t.1.2.2.2.1 a, .inl (t.2.1 a)) := by
  subst h
  simp [jm_E, h2, Nat.not_lt.mpr h1]
theorem jm_E_ref (E : jm_Ev) (t : jm_T) {a c : Nat} (h : t.1.2.2.1 a = c) (h1 : 11 ≤ c) : jm_E E t a = .inl (E.2.2.2.1 c, t.1.2.2.2.1 a, .inr (.inr (.inr (.inr (fun j => (t.1.2.2.2.2 a j).map (jm_ad E)))))) := by
  subst h
  simp [jm_E, Nat.not_lt.mpr h1, Nat.not_lt.mpr (show 9 ≤ t.1.2.2.1 a by omega)]
theorem jm_fs_at (E : jm_Ev) (t : jm_T) {c a k : Nat} (h : k < jm_nf c) : (jm_fs E t c a)[k]? = some (jm_fv E t c a k) := by
  simp [jm_fs, h]
theorem jm_fs_len (E : jm_Ev) (t : jm_T) (c a : Nat) : (jm_fs E t c a).length = jm_nf c := by simp [jm_fs]
theorem jm_fs_set (E : jm_Ev) (t t' : jm_T) {c a k : Nat} {x : Value} (h1 : jm_fv E t' c a k = x) (h2 : ∀ j, j ≠ k → jm_fv E t' c a j = jm_fv E t c a j) (hk : k < jm_nf c) : jm_fs E t' c a = (jm_fs E t c a).set k x := by
  apply List.ext_getElem?
  intro i
  by_cases hi : i = k
  · subst hi
    rw [jm_fs_at E t' hk, List.getElem?_set_self (by rw [jm_fs_len]; exact hk), h1]
  · rw [List.getElem?_set_ne (fun h => hi h.symm)]
    by_cases hb : i < jm_nf c
    · rw [jm_fs_at E t' hb, jm_fs_at E t hb, h2 i hi]
    · rw [List.getElem?_eq_none (by rw [jm_fs_len]; omega), List.getElem?_eq_none (by rw [jm_fs_len]; omega)]
theorem jm_is_of {S : jm_S} {a k : Nat} (h : jm_is S a k = true) : ∃ j, a = j + 1 ∧ j < S.1 ∧ S.2.2.1 a = k := by
  simp only [jm_is, Bool.and_eq_true, Nat.blt_eq, Nat.ble_eq] at h
  exact ⟨a - 1, by omega, by omega, Nat.eq_of_beq_eq_true h.2⟩
theorem jm_ir_of {S : jm_S} {a : Nat} (h : jm_ir S a = true) : ∃ j, a = j + 1 ∧ j < S.1 ∧ 11 ≤ S.2.2.1 a ∧ S.2.2.1 a ≤ 13 := by
  simp only [jm_ir, Bool.and_eq_true, Nat.blt_eq, Nat.ble_eq] at h
  exact ⟨a - 1, by omega, by omega, h.1.2, h.2⟩
theorem jm_inb_of {i : Int32} {n : Nat} (h : jm_inb i n = true) : vp_in i n := by
  simp only [jm_inb, Bool.and_eq_true, Bool.not_eq_true', decide_eq_false_iff_not, Nat.blt_eq] at h
  intro hq
  rcases hq with q | q
  · exact h.1 q
  · omega
theorem jm_z1_of {x : Int32} (h : jm_z1 x = true) : x = 0 ∨ x = 1 := by
  simpa [jm_z1] using h
theorem jm_if_some {b : Bool} {x : Option jm_R} {r : jm_R} (h : jm_if b x = some r) : b = true ∧ x = some r := by
  cases b
  · cases h
  · exact ⟨rfl, h⟩
theorem jm_mv_cat (E : jm_Ev) (v : Value) : (jm_mv E v).category = v.category := by cases v <;> rfl
theorem jm_sum_map (E : jm_Ev) (st : List Value) : ((st.map (jm_mv E)).map fun v => v.category).sum = jm_sum st := by
  simp [jm_sum, Function.comp_def, jm_mv_cat]
/-! locals -/
def jm_L (E : jm_Ev) (ls : jm_V) (nL : Nat) (lsA : Array Slot) : Prop := lsA.size = nL ∧ lv_wf lsA ∧ ∀ (i : Nat) (v : Value), jm_lk ls i = some v → lsA[i]? = some (.val (jm_mv E v))
def jm_al (E : jm_Ev) (ls : jm_V) : List (Nat × Value) := (List.range ls.length).filterMap fun i => (jm_lk ls i).map fun v => (i, jm_mv E v)
theorem jm_lk_lt {ls : jm_V} {i : Nat} {v : Value} (h : jm_lk ls i = some v) : i < ls.length := by
  unfold jm_lk at h
  split at h
  · rename_i w hw
    exact (List.getElem?_eq_some_iff.mp hw).1
  · cases h
theorem jm_al_mem (E : jm_Ev) {ls : jm_V} {i : Nat} {v : Value} (h : jm_lk ls i = some v) : (i, jm_mv E v) ∈ jm_al E ls :=
  List.mem_filterMap.mpr ⟨i, List.mem_range.mpr (jm_lk_lt h), by rw [h]; rfl⟩
theorem jm_L.has {E : jm_Ev} {ls : jm_V} {nL : Nat} {lsA : Array Slot} (h : jm_L E ls nL lsA) : lv_has lsA nL (jm_al E ls) := by
  refine ⟨h.1, h.2.1, fun q hq => ?_⟩
  obtain ⟨i, -, hi⟩ := List.mem_filterMap.mp hq
  obtain ⟨v, hv, rfl⟩ := Option.map_eq_some_iff.mp hi
  exact h.2.2 i v hv
theorem jm_lk_set {x : Option Value} {w : Value} : ∀ {ls : jm_V} {i j : Nat}, jm_lk (jm_set ls i x) j = some w → (j = i ∧ x = some w) ∨ (j ≠ i ∧ jm_lk ls j = some w)
  | [], i, j, h => by simp [jm_set, jm_lk] at h
  | y :: r, 0, 0, h => by
    left
    refine ⟨rfl, ?_⟩
    cases x with
    | none => simp [jm_set, jm_lk] at h
    | some v => simpa [jm_set, jm_lk] using h
  | y :: r, 0, j + 1, h => Or.inr ⟨by omega, by simpa [jm_set, jm_lk] using h⟩
  | y :: r, i + 1, 0, h => Or.inr ⟨by omega, by simpa [jm_set, jm_lk] using h⟩
  | y :: r, i + 1, j + 1, h => by
    have h' : jm_lk (jm_set r i x) j = some w := by simpa [jm_set, jm_lk] using h
    rcases jm_lk_set h' with ⟨a, b⟩ | ⟨a, b⟩
    · exact Or.inl ⟨by omega, b⟩
    · exact Or.inr ⟨by omega, by simpa [jm_lk] using b⟩
theorem jm_lk_kl : ∀ {kl : List Nat} {ls : jm_V} {j : Nat} {w : Value}, jm_lk (jm_kl kl ls) j = some w → jm_lk ls j = some w
  | [], _, _, _, h => h
  | i :: r, ls, j, w, h => by
    rcases jm_lk_set (jm_lk_kl (kl := r) h) with ⟨_, b⟩ | ⟨_, b⟩
    · cases b
    · exact b
theorem jm_L.kl {E : jm_Ev} {ls : jm_V} {nL : Nat} {lsA : Array Slot} {kl : List Nat} (h : jm_L E ls nL lsA) : jm_L E (jm_kl kl ls) nL lsA := ⟨h.1, h.2.1, fun i v hv => h.2.2 i v (jm_lk_kl hv)⟩
theorem jm_lk_st1 {ls : jm_V} {i j : Nat} {v w : Value} (h : jm_lk (jm_st1 ls i v) j = some w) : (j = i ∧ w = v) ∨ (j ≠ i ∧ jm_lk ls j = some w ∧ ¬ (j + 1 = i ∧ w.category = 2)) := by
  cases i with
  | zero =>
    rcases jm_lk_set (show jm_lk (jm_set ls 0 (some v)) j = some w from h) with ⟨a, b⟩ | ⟨a, b⟩
    · cases b; exact Or.inl ⟨a, rfl⟩
    · exact Or.inr ⟨a, b, fun q => by omega⟩
  | succ i =>
    by_cases hL : ∃ q, jm_lk ls i = some q ∧ q.category = 2
    · obtain ⟨q, hq, hc⟩ := hL
      have e : jm_st1 ls (i + 1) v = jm_set (jm_set ls i none) (i + 1) (some v) := by
        unfold jm_st1
        simp only [hq]
        cases q <;> first | rfl | (simp [Value.category] at hc)
      rw [e] at h
      rcases jm_lk_set h with ⟨a, b⟩ | ⟨a, b⟩
      · cases b; exact Or.inl ⟨a, rfl⟩
      · rcases jm_lk_set b with ⟨_, b⟩ | ⟨a2, b⟩
        · cases b
        · exact Or.inr ⟨a, b, fun z => a2 (by omega)⟩
    · have e : jm_st1 ls (i + 1) v = jm_set ls (i + 1) (some v) := by
        unfold jm_st1
        dsimp only
        split
        · rename_i z hz; exact absurd ⟨_, hz, rfl⟩ hL
        · rename_i z hz; exact absurd ⟨_, hz, rfl⟩ hL
        · rfl
      rw [e] at h
      rcases jm_lk_set h with ⟨a, b⟩ | ⟨a, b⟩
      · cases b; exact Or.inl ⟨a, rfl⟩
      · refine Or.inr ⟨a, b, fun z => hL ⟨w, ?_, z.2⟩⟩
        rw [show i = j by omega]
        exact b
theorem jm_L.st1 {E : jm_Ev} {ls : jm_V} {nL i : Nat} {v : Value} {lsA' : Array Slot} (h : lv_has lsA' nL ((i, jm_mv E v) :: (jm_al E ls).filter (fun q => !(q.1 == i) && !(q.1 + 1 == i && q.2.category == 2)))) : jm_L E (jm_st1 ls i v) nL lsA' := by
  refine ⟨h.1, h.2.1, fun j w hw => ?_⟩
  rcases jm_lk_st1 hw with ⟨rfl, rfl⟩ | ⟨a, b, c⟩
  · exact h.2.2 _ List.mem_cons_self
  · refine h.2.2 (j, jm_mv E w) (List.mem_cons_of_mem _ (List.mem_filter.mpr ⟨jm_al_mem E b, ?_⟩))
    simp only [Bool.and_eq_true, Bool.not_eq_true', beq_eq_false_iff_ne, ne_eq, Bool.and_eq_false_iff, jm_mv_cat]
    refine ⟨a, ?_⟩
    by_cases h1 : j + 1 = i
    · exact Or.inr (fun h2 => c ⟨h1, h2⟩)
    · exact Or.inl h1
theorem jm_lk_app {xs ys : jm_V} {j : Nat} {w : Value} (h : jm_lk (xs ++ ys) j = some w) : (j < xs.length ∧ jm_lk xs j = some w) ∨ (xs.length ≤ j ∧ jm_lk ys (j - xs.length) = some w) := by
  rcases Nat.lt_or_ge j xs.length with q | q
  · exact Or.inl ⟨q, by simpa [jm_lk, List.getElem?_append_left q] using h⟩
  · exact Or.inr ⟨q, by simpa [jm_lk, List.getElem?_append_right q] using h⟩
theorem jm_lk_rep {n j : Nat} {w : Value} (h : jm_lk (List.replicate n none) j = some w) : False := by
  unfold jm_lk at h
  split at h
  · rename_i v hv
    have := List.mem_of_getElem? hv
    simp at this
  · cases h
def jm_e1 (as : List Value) : jm_V := as.flatMap fun v => match v.category with | 2 => [some v, none] | _ => [some v]
theorem jm_e1_lk : ∀ (as : List Value) (i j : Nat) (w : Value), jm_lk (jm_e1 as) j = some w → (i + j, w) ∈ lv_args i as
  | [], i, j, w, h => by simp [jm_e1, jm_lk] at h
  | v :: as, i, j, w, h => by
    rcases lv_cat v with hc | hc
    · have e : jm_e1 (v :: as) = [some v] ++ jm_e1 as := by simp [jm_e1, hc]
      rw [e] at h
      rcases jm_lk_app h with ⟨a, b⟩ | ⟨a, b⟩
      · have : j = 0 := by simpa using a
        subst this
        have : v = w := by simpa [jm_lk] using b
        subst this
        exact List.mem_cons_self
      · simp only [List.length_singleton] at a b
        have := jm_e1_lk as (i + 1) (j - 1) w b
        rw [show i + 1 + (j - 1) = i + j by omega] at this
        refine List.mem_cons_of_mem _ ?_
        rw [if_neg (by omega)]
        exact this
    · have e : jm_e1 (v :: as) = [some v, none] ++ jm_e1 as := by simp [jm_e1, hc]
      rw [e] at h
      rcases jm_lk_app h with ⟨a, b⟩ | ⟨a, b⟩
      · have a' : j < 2 := by simpa using a
        rcases (show j = 0 ∨ j = 1 by omega) with rfl | rfl
        · have : v = w := by simpa [jm_lk] using b
          subst this
          exact List.mem_cons_self
        · simp [jm_lk] at b
      · simp only [List.length_cons, List.length_nil] at a b
        have := jm_e1_lk as (i + 2) (j - 2) w b
        rw [show i + 2 + (j - 2) = i + j by omega] at this
        refine List.mem_cons_of_mem _ ?_
        rw [if_pos hc]
        exact this
theorem jm_args_map (E : jm_Ev) : ∀ (as : List Value) (i : Nat), lv_args i (as.map (jm_mv E)) = (lv_args i as).map fun q => (q.1, jm_mv E q.2)
  | [], _ => rfl
  | v :: as, i => by
    simp only [List.map_cons, lv_args, jm_mv_cat, jm_args_map E as]
theorem jm_sl_len (E : jm_Ev) (as : List Value) : (lg_sl (as.map (jm_mv E))).length = (lg_sl as).length := by
  induction as with
  | nil => rfl
  | cons v as ih =>
    simp only [lg_sl, List.map_cons, List.flatMap_cons, List.length_append, jm_mv_cat] at ih ⊢
    rw [ih]
    congr 1
    split <;> rfl
theorem jm_L_entry (E : jm_Ev) (as : List Value) {n : Nat} (h : (lg_sl as).length ≤ n) : jm_L E (jm_en n as) n ((lg_sl (as.map (jm_mv E)) ++ List.replicate (n - (lg_sl (as.map (jm_mv E))).length) Slot.unset).toArray) := by
  have hl := lv_entry (as.map (jm_mv E)) (n := n) (by rw [jm_sl_len]; exact h)
  refine ⟨hl.1, hl.2.1, fun i v hv => ?_⟩
  rcases jm_lk_app (show jm_lk (jm_e1 as ++ List.replicate (n - (lg_sl as).length) none) i = some v from hv) with ⟨_, b⟩ | ⟨_, b⟩
  · have h1 := jm_e1_lk as 0 i v b
    rw [Nat.zero_add] at h1
    refine hl.2.2 (i, jm_mv E v) ?_
    rw [jm_args_map]
    exact List.mem_map.mpr ⟨(i, v), h1, rfl⟩
  · exact (jm_lk_rep b).elim
