/-! one instruction -/
section JO
variable {p : Program} {l : Launch} {e : Env} {R : Room} {s : State} {m : MethodId} {args : Array Value} {below : List Frame} {meth : Method} {c : Code} {Q : State → Prop}
set_option maxHeartbeats 4000000 in
set_option maxRecDepth 20000 in
theorem jm_one {E : jm_Ev} {G : Nat → jm_M} {nm : Nat → MethodName} {cd : Nat → ByteArray} {rt : Nat → Option FieldType} {lw y n0 s0 d pc len u v w : Nat} {op : Instr} {cc : Int32} {cl : Int64} {ts : List (Int32 × Nat)} {ls : jm_V} {st : List Value} {t : jm_T} {r : jm_R}
    (X : jm_Cx E G nm cd lw y n0 p s m args meth c) (hd : decode (cd y) pc = .ok (op, len)) (hi : jm_iok G nm cd rt lw y pc op len u v w cc cl ts)
    (hR : d ≤ R.frames ∧ 64 * d ≤ R.locals ∧ r.2.1.1 ≤ R.cells + n0 ∧ r.2.1.2.1 ≤ R.slots + s0)
    {k : Nat → jm_V → List Value → jm_T → Option jm_R} {C : Nat → List Value → jm_T → Option jm_R}
    (hk : ∀ pc' ls' st' t', k pc' ls' st' t' = some r → jm_Wk E p l e R s m args below meth c Q (G y).1 n0 s0 pc' ls' st' t' ∧ t'.1.1 ≤ r.2.1.1 ∧ t'.1.2.1 ≤ r.2.1.2.1)
    (hC : ∀ u' n as t' r', jm_mk G nm cd rt u' n → u' ≠ lw → C u' as t' = some r' → ∃ d', d = d' + 1 ∧ t'.1.1 ≤ r'.2.1.1 ∧ t'.1.2.1 ≤ r'.2.1.2.1 ∧ jm_Ct l E G nm cd rt u' d' as t' r')
    (hret : ∀ (pc : Nat) (op : Instr) (v : Option Value) (tt : jm_T), (v, tt) = r → decode (cd y) pc = .ok (op, 1) → jm_rt (G y).2.1 op v → ∀ (lsA : Array Slot) (H : Heap) (locs : List Loc) (cells slots : Nat), jm_P E tt H → va_S (jm_A E) s.heap H locs → cells + n0 = tt.1.1 → slots + s0 = tt.1.2.1 → W p l e R s m args below meth c H locs cells slots Q (F0 m pc lsA ((v.map (jm_mv E)).toList)))
    (h : jm_step op u v w cc cl ts d (G y).2.1 pc ls st t k C = some r) : jm_Wk E p l e R s m args below meth c Q (G y).1 n0 s0 pc ls st t := by
  obtain ⟨hx, hb, hml, hown, hts, hK, hN, hz, hname, hX⟩ := X
  intro H locs lsA cells slots hP hS hl hc hs
  cases op with
  | iconst n =>
    obtain ⟨rfl, hv⟩ := hi
    exact lv_iconst hx hb hd hv ((hk _ _ _ _ h).1 H locs lsA cells slots hP hS hl hc hs)
  | bipush n =>
    obtain ⟨rfl, hv⟩ := hi
    exact lv_bipush hx hb hd hv ((hk _ _ _ _ h).1 H locs lsA cells slots hP hS hl hc hs)
  | sipush n =>
    obtain ⟨rfl, hv⟩ := hi
    exact lv_sipush hx hb hd hv ((hk _ _ _ _ h).1 H locs lsA cells slots hP hS hl hc hs)
  | ldc i =>
    obtain ⟨rfl, hv⟩ := hi
    exact lv_ldc hx hb hown (hts _ hv) hd ((hk _ _ _ _ h).1 H locs lsA cells slots hP hS hl hc hs)
  | ldc_w i =>
    obtain ⟨rfl, hv⟩ := hi
    exact lv_ldcw hx hb hown (hts _ hv) hd ((hk _ _ _ _ h).1 H locs lsA cells slots hP hS hl hc hs)
  | ldc2_w i =>
    obtain ⟨rfl, hv⟩ := hi
    exact lv_ldc2 hx hb hown (hts _ hv) hd ((hk _ _ _ _ h).1 H locs lsA cells slots hP hS hl hc hs)
  | lconst n =>
    obtain ⟨rfl, hv⟩ := hi
    exact lv_lconst hx hb hd hv ((hk _ _ _ _ h).1 H locs lsA cells slots hP hS hl hc hs)
  | iload i =>
    obtain ⟨rfl, rfl⟩ := hi
    dsimp only [jm_step] at h
    split at h
    · rename_i x ex
      exact lv_iload hx hb hd (hl.2.2 _ _ ex) ((hk _ _ _ _ h).1 H locs lsA cells slots hP hS hl hc hs)
    · cases h
  | lload i =>
    obtain ⟨rfl, rfl⟩ := hi
    dsimp only [jm_step] at h
    split at h
    · rename_i x ex
      exact lv_lload hx hb hd (hl.2.2 _ _ ex) ((hk _ _ _ _ h).1 H locs lsA cells slots hP hS hl hc hs)
    · cases h
  | aload i =>
    obtain ⟨rfl, rfl⟩ := hi
    dsimp only [jm_step] at h
    split at h
    · rename_i x ex
      exact lv_aload hx hb hd (hl.2.2 _ _ ex) ((hk _ _ _ _ h).1 H locs lsA cells slots hP hS hl hc hs)
    · cases h
  | iload_n i =>
    obtain ⟨rfl, rfl⟩ := hi
    dsimp only [jm_step] at h
    split at h
    · rename_i x ex
      exact lv_iload_n hx hb hd rfl (hl.2.2 _ _ ex) ((hk _ _ _ _ h).1 H locs lsA cells slots hP hS hl hc hs)
    · cases h
  | lload_n i =>
    obtain ⟨rfl, rfl⟩ := hi
    dsimp only [jm_step] at h
    split at h
    · rename_i x ex
      exact lv_lload_n hx hb hd rfl (hl.2.2 _ _ ex) ((hk _ _ _ _ h).1 H locs lsA cells slots hP hS hl hc hs)
    · cases h
  | aload_n i =>
    obtain ⟨rfl, rfl⟩ := hi
    dsimp only [jm_step] at h
    split at h
    · rename_i x ex
      exact lv_aload_n hx hb hd rfl (hl.2.2 _ _ ex) ((hk _ _ _ _ h).1 H locs lsA cells slots hP hS hl hc hs)
    · cases h
  | istore i =>
    obtain ⟨rfl, rfl, hu⟩ := hi
    dsimp only [jm_step] at h
    split at h
    · rename_i x st1
      exact lv_istore hx hb hd hl.has hu rfl (fun ls' hl' => (hk _ _ _ _ h).1 H locs ls' cells slots hP hS (jm_L.st1 (v := .int x) hl') hc hs)
    · cases h
  | istore_n i =>
    obtain ⟨rfl, rfl, hu⟩ := hi
    dsimp only [jm_step] at h
    split at h
    · rename_i x st1
      exact lv_istore_n hx hb hd rfl hl.has hu rfl (fun ls' hl' => (hk _ _ _ _ h).1 H locs ls' cells slots hP hS (jm_L.st1 (v := .int x) hl') hc hs)
    · cases h
  | astore i =>
    obtain ⟨rfl, rfl, hu⟩ := hi
    dsimp only [jm_step] at h
    split at h
    · rename_i x st1
      exact lv_astore hx hb hd hl.has hu rfl (fun ls' hl' => (hk _ _ _ _ h).1 H locs ls' cells slots hP hS (jm_L.st1 (v := .ref x) hl') hc hs)
    · cases h
  | astore_n i =>
    obtain ⟨rfl, rfl, hu⟩ := hi
    dsimp only [jm_step] at h
    split at h
    · rename_i x st1
      exact lv_astore_n hx hb hd rfl hl.has hu rfl (fun ls' hl' => (hk _ _ _ _ h).1 H locs ls' cells slots hP hS (jm_L.st1 (v := .ref x) hl') hc hs)
    · cases h
  | iinc i n =>
    obtain ⟨rfl, rfl, hv, hu⟩ := hi
    dsimp only [jm_step] at h
    split at h
    · rename_i x ex
      obtain ⟨q, hq⟩ := List.getElem?_of_mem (jm_al_mem E ex)
      exact lv_iinc hx hb hd hl.has (k := q) hq (by rw [hv]) hu rfl (fun ls' hl' => (hk _ _ _ _ h).1 H locs ls' cells slots hP hS (jm_L.st1 (v := .int (x + cc)) hl') hc hs)
    · cases h
  | iadd =>
    have hi : len = 1 := hi
    subst hi
    dsimp only [jm_step] at h
    split at h
    · rename_i b a st1
      exact lv_iadd (x := a) (y := b) (rest := st1.map (jm_mv E)) hx hb hd ((hk _ _ _ _ h).1 H locs lsA cells slots hP hS hl hc hs)
    · cases h
  | isub =>
    have hi : len = 1 := hi
    subst hi
    dsimp only [jm_step] at h
    split at h
    · rename_i b a st1
      exact lv_isub (x := a) (y := b) (rest := st1.map (jm_mv E)) hx hb hd ((hk _ _ _ _ h).1 H locs lsA cells slots hP hS hl hc hs)
    · cases h
  | imul =>
    have hi : len = 1 := hi
    subst hi
    dsimp only [jm_step] at h
    split at h
    · rename_i b a st1
      exact lv_imul (x := a) (y := b) (rest := st1.map (jm_mv E)) hx hb hd ((hk _ _ _ _ h).1 H locs lsA cells slots hP hS hl hc hs)
    · cases h
  | iand =>
    have hi : len = 1 := hi
    subst hi
    dsimp only [jm_step] at h
    split at h
    · rename_i b a st1
      exact lv_iand (x := a) (y := b) (rest := st1.map (jm_mv E)) hx hb hd ((hk _ _ _ _ h).1 H locs lsA cells slots hP hS hl hc hs)
    · cases h
  | ior =>
    have hi : len = 1 := hi
    subst hi
    dsimp only [jm_step] at h
    split at h
    · rename_i b a st1
      exact lv_ior (x := a) (y := b) (rest := st1.map (jm_mv E)) hx hb hd ((hk _ _ _ _ h).1 H locs lsA cells slots hP hS hl hc hs)
    · cases h
  | ixor =>
    have hi : len = 1 := hi
    subst hi
    dsimp only [jm_step] at h
    split at h
    · rename_i b a st1
      exact lv_ixor (x := a) (y := b) (rest := st1.map (jm_mv E)) hx hb hd ((hk _ _ _ _ h).1 H locs lsA cells slots hP hS hl hc hs)
    · cases h
  | ishl =>
    have hi : len = 1 := hi
    subst hi
    dsimp only [jm_step] at h
    split at h
    · rename_i b a st1
      exact lv_ishl (x := a) (y := b) (rest := st1.map (jm_mv E)) hx hb hd ((hk _ _ _ _ h).1 H locs lsA cells slots hP hS hl hc hs)
    · cases h
  | ishr =>
    have hi : len = 1 := hi
    subst hi
    dsimp only [jm_step] at h
    split at h
    · rename_i b a st1
      exact lv_ishr (x := a) (y := b) (rest := st1.map (jm_mv E)) hx hb hd ((hk _ _ _ _ h).1 H locs lsA cells slots hP hS hl hc hs)
    · cases h
  | iushr =>
    have hi : len = 1 := hi
    subst hi
    dsimp only [jm_step] at h
    split at h
    · rename_i b a st1
      exact lv_iushr (x := a) (y := b) (rest := st1.map (jm_mv E)) hx hb hd rfl ((hk _ _ _ _ h).1 H locs lsA cells slots hP hS hl hc hs)
    · cases h
  | idiv =>
    have hi : len = 1 := hi
    subst hi
    dsimp only [jm_step] at h
    split at h
    · rename_i b a st1
      obtain ⟨h0, h⟩ := jm_if_some h
      exact lv_idiv (x := a) (y := b) (rest := st1.map (jm_mv E)) hx hb hd (by simpa using h0) ((hk _ _ _ _ h).1 H locs lsA cells slots hP hS hl hc hs)
    · cases h
  | irem =>
    have hi : len = 1 := hi
    subst hi
    dsimp only [jm_step] at h
    split at h
    · rename_i b a st1
      obtain ⟨h0, h⟩ := jm_if_some h
      exact lv_irem (x := a) (y := b) (rest := st1.map (jm_mv E)) hx hb hd (by simpa using h0) ((hk _ _ _ _ h).1 H locs lsA cells slots hP hS hl hc hs)
    · cases h
  | lmul =>
    have hi : len = 1 := hi
    subst hi
    dsimp only [jm_step] at h
    split at h
    · rename_i b a st1
      exact lv_lmul (x := a) (y := b) (rest := st1.map (jm_mv E)) hx hb hd ((hk _ _ _ _ h).1 H locs lsA cells slots hP hS hl hc hs)
    · cases h
  | lrem =>
    have hi : len = 1 := hi
    subst hi
    dsimp only [jm_step] at h
    split at h
    · rename_i b a st1
      obtain ⟨h0, h⟩ := jm_if_some h
      exact lv_lrem (x := a) (y := b) (rest := st1.map (jm_mv E)) hx hb hd (by simpa using h0) ((hk _ _ _ _ h).1 H locs lsA cells slots hP hS hl hc hs)
    · cases h
  | lcmp =>
    have hi : len = 1 := hi
    subst hi
    dsimp only [jm_step] at h
    split at h
    · rename_i b a st1
      exact W.lcmp (x := a) (y := b) (rest := st1.map (jm_mv E)) hx hb hd ((hk _ _ _ _ h).1 H locs lsA cells slots hP hS hl hc hs)
    · cases h
  | l2i =>
    have hi : len = 1 := hi
    subst hi
    dsimp only [jm_step] at h
    split at h
    · rename_i a st1
      exact lv_l2i (x := a) (rest := st1.map (jm_mv E)) hx hb hd rfl ((hk _ _ _ _ h).1 H locs lsA cells slots hP hS hl hc hs)
    · cases h
  | i2l =>
    have hi : len = 1 := hi
    subst hi
    dsimp only [jm_step] at h
    split at h
    · rename_i a st1
      exact lv_i2l (x := a) (rest := st1.map (jm_mv E)) hx hb hd rfl ((hk _ _ _ _ h).1 H locs lsA cells slots hP hS hl hc hs)
    · cases h
  | dup =>
    have hi : len = 1 := hi
    subst hi
    dsimp only [jm_step] at h
    split at h
    · rename_i a st1
      obtain ⟨h0, h⟩ := jm_if_some h
      exact lv_dup (va := jm_mv E a) (rest := st1.map (jm_mv E)) hx hb hd (by rw [jm_mv_cat]; exact Nat.eq_of_beq_eq_true h0) ((hk _ _ _ _ h).1 H locs lsA cells slots hP hS hl hc hs)
    · cases h
  | dup2 =>
    have hi : len = 1 := hi
    subst hi
    dsimp only [jm_step] at h
    split at h
    · rename_i a b st1
      obtain ⟨h0, h⟩ := jm_if_some h
      rw [Bool.and_eq_true] at h0
      exact lv_dup2_11 (va := jm_mv E a) (vb := jm_mv E b) (rest := st1.map (jm_mv E)) hx hb hd (by rw [jm_mv_cat]; exact Nat.eq_of_beq_eq_true h0.1) (by rw [jm_mv_cat]; exact Nat.eq_of_beq_eq_true h0.2) ((hk _ _ _ _ h).1 H locs lsA cells slots hP hS hl hc hs)
    · cases h
  | goto o =>
    obtain ⟨rfl, ho⟩ := hi
    exact lv_goto hx hb hd ho ((hk _ _ _ _ h).1 H locs lsA cells slots hP hS hl hc hs)
  | ifCond q o =>
    obtain ⟨rfl, ho⟩ := hi
    dsimp only [jm_step] at h
    split at h
    · rename_i a st1
      cases q with
      | eq => exact lv_if_eq (x := a) (rest := st1.map (jm_mv E)) hx hb hd ho (fun z => (hk _ _ _ _ (jm_bt (by simp [jm_c0, z]) h)).1 H locs lsA cells slots hP hS hl hc hs) (fun z => (hk _ _ _ _ (jm_bf (by simp [jm_c0, z]) h)).1 H locs lsA cells slots hP hS hl hc hs)
      | ne => exact lv_if_ne (x := a) (rest := st1.map (jm_mv E)) hx hb hd ho (fun z => (hk _ _ _ _ (jm_bt (by simp [jm_c0, z]) h)).1 H locs lsA cells slots hP hS hl hc hs) (fun z => (hk _ _ _ _ (jm_bf (by simp [jm_c0, z]) h)).1 H locs lsA cells slots hP hS hl hc hs)
      | lt => exact lv_if_lt (x := a) (rest := st1.map (jm_mv E)) hx hb hd ho (fun z => (hk _ _ _ _ (jm_bt (decide_eq_true z) h)).1 H locs lsA cells slots hP hS hl hc hs) (fun z => (hk _ _ _ _ (jm_bf (decide_eq_false z) h)).1 H locs lsA cells slots hP hS hl hc hs)
      | ge => exact lv_if_ge (x := a) (rest := st1.map (jm_mv E)) hx hb hd ho (fun z => (hk _ _ _ _ (jm_bt (decide_eq_true z) h)).1 H locs lsA cells slots hP hS hl hc hs) (fun z => (hk _ _ _ _ (jm_bf (decide_eq_false z) h)).1 H locs lsA cells slots hP hS hl hc hs)
      | gt => exact lv_if_gt (x := a) (rest := st1.map (jm_mv E)) hx hb hd ho (fun z => (hk _ _ _ _ (jm_bt (decide_eq_true z) h)).1 H locs lsA cells slots hP hS hl hc hs) (fun z => (hk _ _ _ _ (jm_bf (decide_eq_false z) h)).1 H locs lsA cells slots hP hS hl hc hs)
      | le => exact lv_if_le (x := a) (rest := st1.map (jm_mv E)) hx hb hd ho (fun z => (hk _ _ _ _ (jm_bt (decide_eq_true z) h)).1 H locs lsA cells slots hP hS hl hc hs) (fun z => (hk _ _ _ _ (jm_bf (decide_eq_false z) h)).1 H locs lsA cells slots hP hS hl hc hs)
    · cases h
  | if_icmp q o =>
    obtain ⟨rfl, ho⟩ := hi
    dsimp only [jm_step] at h
    split at h
    · rename_i b a st1
      cases q with
      | eq => exact lv_icmp_eq (x := a) (y := b) (rest := st1.map (jm_mv E)) hx hb hd ho (fun z => (hk _ _ _ _ (jm_bt (by simp [jm_c2, z]) h)).1 H locs lsA cells slots hP hS hl hc hs) (fun z => (hk _ _ _ _ (jm_bf (by simp [jm_c2, z]) h)).1 H locs lsA cells slots hP hS hl hc hs)
      | ne => exact lv_icmp_ne (x := a) (y := b) (rest := st1.map (jm_mv E)) hx hb hd ho (fun z => (hk _ _ _ _ (jm_bt (by simp [jm_c2, z]) h)).1 H locs lsA cells slots hP hS hl hc hs) (fun z => (hk _ _ _ _ (jm_bf (by simp [jm_c2, z]) h)).1 H locs lsA cells slots hP hS hl hc hs)
      | lt => exact lv_icmp_lt (x := a) (y := b) (rest := st1.map (jm_mv E)) hx hb hd ho (fun z => (hk _ _ _ _ (jm_bt (decide_eq_true z) h)).1 H locs lsA cells slots hP hS hl hc hs) (fun z => (hk _ _ _ _ (jm_bf (decide_eq_false z) h)).1 H locs lsA cells slots hP hS hl hc hs)
      | ge => exact lv_icmp_ge (x := a) (y := b) (rest := st1.map (jm_mv E)) hx hb hd ho (fun z => (hk _ _ _ _ (jm_bt (decide_eq_true z) h)).1 H locs lsA cells slots hP hS hl hc hs) (fun z => (hk _ _ _ _ (jm_bf (decide_eq_false z) h)).1 H locs lsA cells slots hP hS hl hc hs)
      | gt => exact lv_icmp_gt (x := a) (y := b) (rest := st1.map (jm_mv E)) hx hb hd ho (fun z => (hk _ _ _ _ (jm_bt (decide_eq_true z) h)).1 H locs lsA cells slots hP hS hl hc hs) (fun z => (hk _ _ _ _ (jm_bf (decide_eq_false z) h)).1 H locs lsA cells slots hP hS hl hc hs)
      | le => exact lv_icmp_le (x := a) (y := b) (rest := st1.map (jm_mv E)) hx hb hd ho (fun z => (hk _ _ _ _ (jm_bt (decide_eq_true z) h)).1 H locs lsA cells slots hP hS hl hc hs) (fun z => (hk _ _ _ _ (jm_bf (decide_eq_false z) h)).1 H locs lsA cells slots hP hS hl hc hs)
    · cases h
  | tableswitch df lo hi2 offs =>
    obtain ⟨h1, h2, h3⟩ := hi
    dsimp only [jm_step] at h
    split at h
    · rename_i a st1
      rcases jm_swt h2 h with ⟨ha, h⟩ | ⟨j, o, q, e1, e2, e3, h⟩
      · exact lv_tableOut (x := a) (rest := st1.map (jm_mv E)) hx hb hd (by omega) h1 ((hk _ _ _ _ h).1 H locs lsA cells slots hP hS hl hc hs)
      · have hj : j < offs.toList.length := (List.getElem?_eq_some_iff.mp e2).1
        exact lv_tableIn (x := a) (rest := st1.map (jm_mv E)) hx hb hd (by omega) (by omega) (by rw [show (a.toInt - lo).toNat = j by omega, ← Array.getElem?_toList]; exact e2) e3 ((hk _ _ _ _ h).1 H locs lsA cells slots hP hS hl hc hs)
    · cases h
  | lookupswitch df ps =>
    obtain ⟨h1, h2, h3⟩ := hi
    dsimp only [jm_step] at h
    split at h
    · rename_i a st1
      obtain ⟨q, e1, h⟩ := jm_swl h1 h2 h
      exact lv_lookup (x := a) (rest := st1.map (jm_mv E)) hx hb hd h3 rfl e1 ((hk _ _ _ _ h).1 H locs lsA cells slots hP hS hl hc hs)
    · cases h
  | getfield i =>
    obtain ⟨rfl, hu, hv, hlink⟩ := hi
    dsimp only [jm_step] at h
    split at h
    · rename_i a st1
      obtain ⟨h0, h⟩ := jm_if_some h
      obtain ⟨j, rfl, hj, hkd⟩ := jm_is_of h0
      obtain ⟨val, hval, h⟩ : ∃ val, jm_fv E t u (j + 1) v = jm_mv E val ∧ k (pc + 3) ls (val :: st1) t = some r := by
        unfold jm_fv
        split at h
        · rename_i hf
          rw [hf]
          split at h
          · rename_i b hb
            exact ⟨.ref b, by show va_rf ((t.1.2.2.2.2 (j + 1) v).map (jm_ad E)) = _; rw [hb]; rfl, h⟩
          · cases h
        · rename_i hf
          rw [hf]
          exact ⟨_, rfl, h⟩
        · rename_i n1 n2
          refine ⟨.int (t.2.1 (j + 1) v), ?_, h⟩
          split
          · rename_i hf; exact absurd hf n1
          · rename_i hf; exact absurd hf n2
          · rfl
      have hgo : W p l e R s m args below meth c H locs cells slots Q (F0 m (pc + 3) lsA (jm_fv E t u (j + 1) v :: st1.map (jm_mv E))) := by
        rw [hval]
        exact (hk _ _ _ _ h).1 H locs lsA cells slots hP hS hl hc hs
      exact va_get (D := E.2.2.1) (cl := jm_cl) (tys := jm_tys E) (ws := jm_ws E t) (a := E.2.1 + j) (rest := st1.map (jm_mv E)) (ci := u) (C := jm_cn u) (T := jm_cT u) (N := jm_nf u) (ref := jm_cn u) hx hb hts (jm_wu u hu) hown hK hP.1 j (fs := jm_fs E t u (j + 1)) (by rw [jm_ws_at E t hj, jm_E_obj E t hkd hu]) (jm_cl_at u hu) v hv (hts _ hlink) (fun z hzz => by rw [jm_own_ok u hu v hv] at hzz; exact hzz) (jm_fs_at E t hv) hd hgo
    · cases h
  | ireturn =>
    have hi : len = 1 := hi
    subst hi
    dsimp only [jm_step] at h
    split at h
    · rename_i a
      split at h
      · rename_i hr
        cases h
        exact hret pc .ireturn (some (.int a)) t rfl hd (Or.inl ⟨rfl, a, rfl, Or.inl hr⟩) lsA H locs cells slots hP hS hc hs
      · rename_i hr
        obtain ⟨h0, h⟩ := jm_if_some h
        cases h
        exact hret pc .ireturn (some (.int a)) t rfl hd (Or.inl ⟨rfl, a, rfl, Or.inr ⟨hr, jm_z1_of h0⟩⟩) lsA H locs cells slots hP hS hc hs
      · cases h
    · cases h
  | areturn =>
    have hi : len = 1 := hi
    subst hi
    dsimp only [jm_step] at h
    split at h
    · rename_i a
      split at h
      · rename_i hr
        cases h
        exact hret pc .areturn (some (.ref a)) t rfl hd (Or.inr (Or.inl ⟨rfl, hr, a, rfl⟩)) lsA H locs cells slots hP hS hc hs
      · cases h
    · cases h
  | return_ =>
    have hi : len = 1 := hi
    subst hi
    dsimp only [jm_step] at h
    split at h
    · split at h
      · rename_i hr
        cases h
        exact hret pc .return_ none t rfl hd (Or.inr (Or.inr ⟨rfl, hr, rfl⟩)) lsA H locs cells slots hP hS hc hs
      · cases h
    · cases h
  | putfield i =>
    obtain ⟨rfl, hu, hv, hlink, hfi⟩ := hi
    dsimp only [jm_step] at h
    split at h
    · rename_i hf
      split at h
      · rename_i x a st1
        obtain ⟨h0, h⟩ := jm_if_some h
        obtain ⟨j, rfl, hj, hkd⟩ := jm_is_of h0
        refine va_put (D := E.2.2.1) (cl := jm_cl) (tys := jm_tys E) (ws := jm_ws E t) (A := jm_A E) (H0 := s.heap) (a := E.2.1 + j) (rest := st1.map (jm_mv E)) (ci := u) (v := .int x) (C := jm_cn u) (T := jm_cT u) (N := jm_nf u) (ref := jm_cn u) hx hb hts (jm_wu u hu) (jm_ty u) (jm_ty_ok u hu) (jm_nm_ok u hu) hown hK hP.1 (jm_D E t) hS j (fs := jm_fs E t u (j + 1)) (by rw [jm_ws_at E t hj, jm_E_obj E t hkd hu]) (jm_cl_at u hu) v hv (hts _ hlink) (fun z hzz => by rw [jm_own_ok u hu v hv] at hzz; exact hzz) (by rw [jm_fin_ok u hu v hv, hf]; rfl) (jm_ty_ok u hu v hv) (by rw [jm_ty0 u hu v hv hf]; rfl) (by rw [jm_ty0 u hu v hv hf]; rfl) (by rw [jm_fs_len]; exact hv) hd (fun H1 locs1 hP1 _ hS1 => (hk _ _ _ _ h).1 H1 locs1 lsA cells slots (jm_P_obj hP hj hkd hu hv rfl rfl rfl (fun _ _ => rfl) (fun b hb => va_up_ne' hb) (fun _ _ => rfl) ?_ ?_ hP1) hS1 hl hc hs)
        · simp [jm_fv, hf, jm_up, va_up, upd]
        · intro i hiv
          have ee : jm_up t.2.1 (j + 1) v x (j + 1) i = t.2.1 (j + 1) i := by simp [jm_up, va_up, upd, hiv]
          simp only [jm_fv, ee]
      · cases h
    · rename_i hf
      split at h
      · rename_i x a st1
        obtain ⟨h0, h⟩ := jm_if_some h
        rw [Bool.and_eq_true] at h0
        obtain ⟨j, rfl, hj, hkd⟩ := jm_is_of h0.1
        have hz1 := jm_z1_of h0.2
        refine va_put (D := E.2.2.1) (cl := jm_cl) (tys := jm_tys E) (ws := jm_ws E t) (A := jm_A E) (H0 := s.heap) (a := E.2.1 + j) (rest := st1.map (jm_mv E)) (ci := u) (v := .int x) (C := jm_cn u) (T := jm_cT u) (N := jm_nf u) (ref := jm_cn u) hx hb hts (jm_wu u hu) (jm_ty u) (jm_ty_ok u hu) (jm_nm_ok u hu) hown hK hP.1 (jm_D E t) hS j (fs := jm_fs E t u (j + 1)) (by rw [jm_ws_at E t hj, jm_E_obj E t hkd hu]) (jm_cl_at u hu) v hv (hts _ hlink) (fun z hzz => by rw [jm_own_ok u hu v hv] at hzz; exact hzz) (by rw [jm_fin_ok u hu v hv, hf]; rfl) (jm_ty_ok u hu v hv) (by rw [jm_ty3 u hu v hv hf]; rcases hz1 with rfl | rfl <;> rfl) (by rw [jm_ty3 u hu v hv hf]; rcases hz1 with rfl | rfl <;> rfl) (by rw [jm_fs_len]; exact hv) hd (fun H1 locs1 hP1 _ hS1 => (hk _ _ _ _ h).1 H1 locs1 lsA cells slots (jm_P_obj hP hj hkd hu hv rfl rfl rfl (fun _ _ => rfl) (fun b hb => va_up_ne' hb) (fun _ _ => rfl) ?_ ?_ hP1) hS1 hl hc hs)
        · simp [jm_fv, hf, jm_up, va_up, upd]
        · intro i hiv
          have ee : jm_up t.2.1 (j + 1) v x (j + 1) i = t.2.1 (j + 1) i := by simp [jm_up, va_up, upd, hiv]
          simp only [jm_fv, ee]
      · cases h
    · rename_i hf
      split at h
      · rename_i x a st1
        obtain ⟨h0, h⟩ := jm_if_some h
        obtain ⟨j, rfl, hj, hkd⟩ := jm_is_of h0
        refine va_put (D := E.2.2.1) (cl := jm_cl) (tys := jm_tys E) (ws := jm_ws E t) (A := jm_A E) (H0 := s.heap) (a := E.2.1 + j) (rest := st1.map (jm_mv E)) (ci := u) (v := .long x) (C := jm_cn u) (T := jm_cT u) (N := jm_nf u) (ref := jm_cn u) hx hb hts (jm_wu u hu) (jm_ty u) (jm_ty_ok u hu) (jm_nm_ok u hu) hown hK hP.1 (jm_D E t) hS j (fs := jm_fs E t u (j + 1)) (by rw [jm_ws_at E t hj, jm_E_obj E t hkd hu]) (jm_cl_at u hu) v hv (hts _ hlink) (fun z hzz => by rw [jm_own_ok u hu v hv] at hzz; exact hzz) (by rw [jm_fin_ok u hu v hv, hf]; rfl) (jm_ty_ok u hu v hv) (by rw [jm_ty2 u hu v hv hf]; rfl) (by rw [jm_ty2 u hu v hv hf]; rfl) (by rw [jm_fs_len]; exact hv) hd (fun H1 locs1 hP1 _ hS1 => (hk _ _ _ _ h).1 H1 locs1 lsA cells slots (jm_P_obj hP hj hkd hu hv rfl rfl rfl (fun _ _ => rfl) (fun _ _ => rfl) (fun b hb => va_up_ne' hb) ?_ ?_ hP1) hS1 hl hc hs)
        · simp [jm_fv, hf, jm_upL, va_up, vp_updL]
        · intro i hiv
          have ee : jm_upL t.2.2 (j + 1) v x (j + 1) i = t.2.2 (j + 1) i := by simp [jm_upL, va_up, vp_updL, hiv]
          simp only [jm_fv, ee]
      · cases h
    · rename_i hf
      split at h
      · rename_i x a st1
        obtain ⟨h0, h⟩ := jm_if_some h
        obtain ⟨j, rfl, hj, hkd⟩ := jm_is_of h0
        have hq := jm_nq (jm_ty1 u hu v hv hf) (jm_ad E x)
        refine va_putF (D := E.2.2.1) (cl := jm_cl) (tys := jm_tys E) (ws := jm_ws E t) (A := jm_A E) (H0 := s.heap) (a := E.2.1 + j) (rest := st1.map (jm_mv E)) (ci := u) (v := .ref (jm_ad E x)) (C := jm_cn u) (T := jm_cT u) (N := jm_nf u) (ref := jm_cn u) hx hb hts (jm_wu u hu) (jm_ty u) (jm_ty_ok u hu) (jm_nm_ok u hu) hown hK hP.1 (jm_D E t) hS j (fs := jm_fs E t u (j + 1)) (by rw [jm_ws_at E t hj, jm_E_obj E t hkd hu]) (jm_cl_at u hu) v hv (hts _ hlink) (fun z hzz => by rw [jm_own_ok u hu v hv] at hzz; exact hzz) (by rw [jm_fin_ok u hu v hv, hf]; rfl) (hname (hfi hf).1) (by rw [jm_own_ok u hu v hv]; exact (hfi hf).2.symm) (jm_ty_ok u hu v hv) hq.1 hq.2 (by rw [jm_fs_len]; exact hv) hd (fun H1 locs1 hP1 _ hS1 => (hk _ _ _ _ h).1 H1 locs1 lsA cells slots (jm_P_obj hP hj hkd hu hv rfl rfl rfl (fun b hb => va_up_ne' hb) (fun _ _ => rfl) (fun _ _ => rfl) ?_ ?_ hP1) hS1 hl hc hs)
        · simp [jm_fv, hf, jm_upR, va_up, va_rf]
        · intro i hiv
          have ee : jm_upR t.1.2.2.2.2 (j + 1) v (some x) (j + 1) i = t.1.2.2.2.2 (j + 1) i := by simp [jm_upR, va_up, hiv]
          simp only [jm_fv, ee]
      · cases h
    · cases h
  | arraylength =>
    obtain ⟨rfl, hlw⟩ := hi
    dsimp only [jm_step] at h
    split at h
    · rename_i a st1
      obtain ⟨h0, h⟩ := jm_if_some h
      simp only [Bool.or_eq_true, Bool.and_eq_true] at h0
      rcases h0 with ⟨h1, h2⟩ | ⟨h1, h2⟩
      · have h1 := Nat.eq_of_beq_eq_true h1
        have h2 := Nat.eq_of_beq_eq_true h2
        subst h2
        obtain ⟨hX1, hX2, hX3⟩ := hX (hlw h1)
        have hgo := (hk _ _ _ _ h).1 H locs lsA cells slots hP hS hl hc hs
        rw [hP.2.2] at hgo
        exact va_slen (b := E.1) (rest := st1.map (jm_mv E)) hx hb hX1 hX2 (Nat.not_le.mpr hX3) hS hd hgo
      · obtain ⟨j, rfl, hj, hkd⟩ := jm_is_of h2
        exact va_alen (x := (t.1.2.2.2.1 (j + 1), .inl (t.2.1 (j + 1)))) (D := E.2.2.1) (cl := jm_cl) (tys := jm_tys E) (ws := jm_ws E t) (a := E.2.1 + j) (rest := st1.map (jm_mv E)) hx hb hK hP.1 j 0 (by rw [jm_ws_at E t hj, jm_E_int E t hkd (by omega) (by omega)]) rfl rfl hd ((hk _ _ _ _ h).1 H locs lsA cells slots hP hS hl hc hs)
    · cases h
  | iaload =>
    obtain ⟨rfl, hlw⟩ := hi
    dsimp only [jm_step] at h
    split at h
    · rename_i i a st1
      obtain ⟨h0, h⟩ := jm_if_some h
      simp only [Bool.or_eq_true, Bool.and_eq_true] at h0
      obtain ⟨h0, hin⟩ := h0
      have hin := jm_inb_of hin
      rcases h0 with ⟨h1, h2⟩ | ⟨h1, h2⟩
      · have h1 := Nat.eq_of_beq_eq_true h1
        have h2 := Nat.eq_of_beq_eq_true h2
        subst h2
        obtain ⟨hX1, hX2, hX3⟩ := hX (hlw h1)
        have hgo := (hk _ _ _ _ h).1 H locs lsA cells slots hP hS hl hc hs
        rw [hP.2.1] at hgo
        rw [hP.2.2] at hin
        exact va_sld (b := E.1) (i := i) (rest := st1.map (jm_mv E)) hx hb hX1 hX2 (Nat.not_le.mpr hX3) hS hin hd hgo
      · obtain ⟨j, rfl, hj, hkd⟩ := jm_is_of h2
        exact va_iald (D := E.2.2.1) (cl := jm_cl) (tys := jm_tys E) (ws := jm_ws E t) (a := E.2.1 + j) (i := i) (rest := st1.map (jm_mv E)) hx hb hK hP.1 j 0 (by rw [jm_ws_at E t hj, jm_E_int E t hkd (by omega) (by omega)]) rfl hin hd ((hk _ _ _ _ h).1 H locs lsA cells slots hP hS hl hc hs)
    · cases h
  | baload =>
    have hi : len = 1 := hi
    subst hi
    dsimp only [jm_step] at h
    split at h
    · rename_i i a st1
      obtain ⟨h0, h⟩ := jm_if_some h
      rw [Bool.and_eq_true] at h0
      have hin := jm_inb_of h0.2
      obtain ⟨j, rfl, hj, hkd⟩ := jm_is_of h0.1
      exact va_zald (D := E.2.2.1) (cl := jm_cl) (tys := jm_tys E) (ws := jm_ws E t) (a := E.2.1 + j) (i := i) (rest := st1.map (jm_mv E)) hx hb hK hP.1 j 1 (by rw [jm_ws_at E t hj, jm_E_int E t hkd (by omega) (by omega)]) rfl hin hd ((hk _ _ _ _ h).1 H locs lsA cells slots hP hS hl hc hs)
    · cases h
  | iastore =>
    have hi : len = 1 := hi
    subst hi
    dsimp only [jm_step] at h
    split at h
    · rename_i x i a st1
      obtain ⟨h0, h⟩ := jm_if_some h
      rw [Bool.and_eq_true] at h0
      have hin := jm_inb_of h0.2
      obtain ⟨j, rfl, hj, hkd⟩ := jm_is_of h0.1
      exact va_iast (D := E.2.2.1) (cl := jm_cl) (tys := jm_tys E) (ws := jm_ws E t) (A := jm_A E) (H0 := s.heap) (a := E.2.1 + j) (i := i) (x := x) (rest := st1.map (jm_mv E)) hx hb hK hP.1 (jm_D E t) hS j 0 (by rw [jm_ws_at E t hj, jm_E_int E t hkd (by omega) (by omega)]) rfl hin hd (fun H1 locs1 hP1 _ hS1 => (hk _ _ _ _ h).1 H1 locs1 lsA cells slots (jm_P_arr hP hj hkd (by omega) (by omega) hP1) hS1 hl hc hs)
    · cases h
  | bastore =>
    have hi : len = 1 := hi
    subst hi
    dsimp only [jm_step] at h
    split at h
    · rename_i x i a st1
      obtain ⟨h0, h⟩ := jm_if_some h
      rw [Bool.and_eq_true, Bool.and_eq_true] at h0
      have hin := jm_inb_of h0.1.2
      have hxn : vp_nar .boolean x = x := by rcases jm_z1_of h0.2 with rfl | rfl <;> rfl
      obtain ⟨j, rfl, hj, hkd⟩ := jm_is_of h0.1.1
      exact va_zast (D := E.2.2.1) (cl := jm_cl) (tys := jm_tys E) (ws := jm_ws E t) (A := jm_A E) (H0 := s.heap) (a := E.2.1 + j) (i := i) (x := x) (rest := st1.map (jm_mv E)) hx hb hK hP.1 (jm_D E t) hS j 1 (by rw [jm_ws_at E t hj, jm_E_int E t hkd (by omega) (by omega)]) rfl hin hd (fun H1 locs1 hP1 _ hS1 => (hk _ _ _ _ h).1 H1 locs1 lsA cells slots (jm_P_arr hP hj hkd (by omega) (by omega) (by rw [hxn] at hP1; exact hP1)) hS1 hl hc hs)
    · cases h
  | aaload =>
    have hi : len = 1 := hi
    subst hi
    dsimp only [jm_step] at h
    split at h
    · rename_i i a st1
      obtain ⟨h0, h⟩ := jm_if_some h
      rw [Bool.and_eq_true] at h0
      have hin := jm_inb_of h0.2
      obtain ⟨j, rfl, hj, hk11, hk13⟩ := jm_ir_of h0.1
      split at h
      · rename_i b hb2
        have hgo : W p l e R s m args below meth c H locs cells slots Q (F0 m (pc + 1) lsA (va_rf ((t.1.2.2.2.2 (j + 1) i.toNatClampNeg).map (jm_ad E)) :: st1.map (jm_mv E))) := by
          rw [hb2]
          exact (hk _ _ _ _ h).1 H locs lsA cells slots hP hS hl hc hs
        have htt : (jm_tys E)[t.1.2.2.1 (j + 1) - 9]? = some (E.2.2.2.1 (t.1.2.2.1 (j + 1)), .object (jm_cn (jm_ec (t.1.2.2.1 (j + 1))))) := jm_tys_q E hk11 hk13
        exact va_aldq (D := E.2.2.1) (cl := jm_cl) (tys := jm_tys E) (ws := jm_ws E t) (a := E.2.1 + j) (i := i) (rest := st1.map (jm_mv E)) (f := fun q => (t.1.2.2.2.2 (j + 1) q).map (jm_ad E)) hx hb hK hP.1 j _ (by rw [jm_ws_at E t hj, jm_E_ref E t rfl hk11]) htt hin hd hgo
      · cases h
    · cases h
  | aastore =>
    have hi : len = 1 := hi
    subst hi
    dsimp only [jm_step] at h
    split at h
    · rename_i b i a st1
      obtain ⟨h0, h⟩ := jm_if_some h
      rw [Bool.and_eq_true, Bool.and_eq_true] at h0
      have hin := jm_inb_of h0.1.2
      obtain ⟨j, rfl, hj, hk11, hk13⟩ := jm_ir_of h0.1.1
      obtain ⟨jb, rfl, hjb, hkb⟩ := jm_is_of h0.2
      have hec : jm_ec (t.1.2.2.1 (j + 1)) < 9 := jm_ec_lt _
      have htt : (jm_tys E)[t.1.2.2.1 (j + 1) - 9]? = some (E.2.2.2.1 (t.1.2.2.1 (j + 1)), .object (jm_cn (jm_ec (t.1.2.2.1 (j + 1))))) := jm_tys_q E hk11 hk13
      exact va_astq (D := E.2.2.1) (cl := jm_cl) (tys := jm_tys E) (ws := jm_ws E t) (A := jm_A E) (H0 := s.heap) (a := E.2.1 + j) (v := E.2.1 + jb) (i := i) (rest := st1.map (jm_mv E)) (r := (jm_cn (jm_ec (t.1.2.2.1 (j + 1))), jm_cT (jm_ec (t.1.2.2.1 (j + 1))), jm_nf (jm_ec (t.1.2.2.1 (j + 1))))) (f := fun q => (t.1.2.2.2.2 (j + 1) q).map (jm_ad E)) hx hb hK hP.1 (jm_D E t) hS j _ jb (jm_ec (t.1.2.2.1 (j + 1))) (by rw [jm_ws_at E t hj, jm_E_ref E t rfl hk11]) htt (by rw [jm_ws_at E t hjb, jm_E_obj E t hkb hec]) (jm_cl_at _ hec) hin hd (fun H1 locs1 hP1 _ hS1 => (hk _ _ _ _ h).1 H1 locs1 lsA cells slots (jm_P_ref (b := jb + 1) hP hj rfl hk11 hP1) hS1 hl hc hs)
    · cases h
  | new i =>
    obtain ⟨rfl, hu, hlink⟩ := hi
    have hk' := hk _ _ _ _ (show k (pc + 3) ls (.ref (t.1.1 + 1) :: st) (jm_nw t u 0 (jm_nf u)) = some r from h)
    have m1 : t.1.1 + 1 ≤ r.2.1.1 := hk'.2.1
    have m2 : t.1.2.1 + jm_nf u ≤ r.2.1.2.1 := hk'.2.2
    refine va_new (D := E.2.2.1) (cl := jm_cl) (tys := jm_tys E) (ws := jm_ws E t) (A := jm_A E) (H0 := s.heap) (rest := st.map (jm_mv E)) (ci := u) (fs := jm_fs E (jm_nw t u 0 (jm_nf u)) u (t.1.1 + 1)) (C := jm_cn u) (T := jm_cT u) (N := jm_nf u) hx hb hts (jm_wu u hu) (jm_ty u) (jm_ty_ok u hu) hown (hts _ hlink) (hts _ (jm_w_inst u hu)) (hts _ (jm_w_init u hu)) hK hP.1 (jm_D E t) hS (fun q hq => by show E.2.1 ≤ q; omega) (jm_cl_at u hu) (jm_fs_new E t hu) (by omega) (by omega) hd (fun q H1 hP1 hD1 hS1 => ?_)
    refine jm_sz1 (E := E) (n0 := n0) (k := t.1.1 + 1) hz (by omega) (fun hz1 => ?_)
    have hq := jm_q hP1 hD1 (by omega)
    subst hq
    exact hk'.1 H1 locs lsA (cells + 1) (slots + jm_nf u) (jm_P_new hP (jm_E_obj E (jm_nw t u 0 (jm_nf u)) va_up_eq' hu) hP1) hS1 hl (by show cells + 1 + n0 = t.1.1 + 1; omega) (by show slots + jm_nf u + s0 = t.1.2.1 + jm_nf u; omega)
  | newarray a =>
    obtain ⟨rfl, hau⟩ := hi
    dsimp only [jm_step] at h
    split at h
    · rename_i x st1
      obtain ⟨h0, h⟩ := jm_if_some h
      have hin := jm_inb_of h0
      have hn0 : ¬ x < 0 := fun z => hin (Or.inl z)
      have hn1 : x.toNatClampNeg < 10000 := Nat.not_le.mp fun z => hin (Or.inr z)
      have hk' := hk _ _ _ _ h
      have m1 : t.1.1 + 1 ≤ r.2.1.1 := hk'.2.1
      have m2 : t.1.2.1 + x.toNatClampNeg ≤ r.2.1.2.1 := hk'.2.2
      rcases hau with ⟨rfl, rfl⟩ | ⟨rfl, rfl⟩
      · refine va_newa (D := E.2.2.1) (cl := jm_cl) (tys := jm_tys E) (ws := jm_ws E t) (A := jm_A E) (H0 := s.heap) (rest := st1.map (jm_mv E)) (atype := .int) (ty := .int) (n := x) (N' := x.toNatClampNeg) (a0 := (x.toNatClampNeg, .inl (fun _ => 0))) hx hb (hts _ jm_w_ai) rfl hK hP.1 (jm_D E t) hS (fun q hq => by show E.2.1 ≤ q; omega) (fun _ => rfl) hn0 rfl (by show _ * 4 ≤ _; omega) (by omega) (by omega) hd (fun q cA H1 hK1 hP1 hD1 hS1 => ?_)
        have hcA : cA = E.2.2.2.1 9 := jm_tys_i (E := E) (i := 5) (j := 0) hK1 rfl rfl
        subst hcA
        refine jm_sz1 (E := E) (n0 := n0) (k := t.1.1 + 1) hz (by omega) (fun hz1 => ?_)
        have hq := jm_q hP1 hD1 (by omega)
        subst hq
        exact hk'.1 H1 locs lsA (cells + 1) (slots + x.toNatClampNeg) (jm_P_new hP (by rw [jm_E_int E _ (c := 9) va_up_eq' (by omega) (by omega)]; simp [jm_nw, va_up]) hP1) hS1 hl (by show cells + 1 + n0 = t.1.1 + 1; omega) (by show slots + x.toNatClampNeg + s0 = t.1.2.1 + x.toNatClampNeg; omega)
      · refine va_newa (D := E.2.2.1) (cl := jm_cl) (tys := jm_tys E) (ws := jm_ws E t) (A := jm_A E) (H0 := s.heap) (rest := st1.map (jm_mv E)) (atype := .boolean) (ty := .boolean) (n := x) (N' := x.toNatClampNeg) (a0 := (x.toNatClampNeg, .inl (fun _ => 0))) hx hb (hts _ jm_w_az) rfl hK hP.1 (jm_D E t) hS (fun q hq => by show E.2.1 ≤ q; omega) (fun _ => rfl) hn0 rfl (by show _ * 1 ≤ _; omega) (by omega) (by omega) hd (fun q cA H1 hK1 hP1 hD1 hS1 => ?_)
        have hcA : cA = E.2.2.2.1 10 := jm_tys_i (E := E) (i := 5) (j := 1) hK1 rfl rfl
        subst hcA
        refine jm_sz1 (E := E) (n0 := n0) (k := t.1.1 + 1) hz (by omega) (fun hz1 => ?_)
        have hq := jm_q hP1 hD1 (by omega)
        subst hq
        exact hk'.1 H1 locs lsA (cells + 1) (slots + x.toNatClampNeg) (jm_P_new hP (by rw [jm_E_int E _ (c := 10) va_up_eq' (by omega) (by omega)]; simp [jm_nw, va_up]) hP1) hS1 hl (by show cells + 1 + n0 = t.1.1 + 1; omega) (by show slots + x.toNatClampNeg + s0 = t.1.2.1 + x.toNatClampNeg; omega)
    · cases h
  | anewarray i =>
    obtain ⟨rfl, ⟨hu1, hu2⟩, hlink⟩ := hi
    dsimp only [jm_step] at h
    split at h
    · rename_i x st1
      obtain ⟨h0, h⟩ := jm_if_some h
      have hin := jm_inb_of h0
      have hn0 : ¬ x < 0 := fun z => hin (Or.inl z)
      have hn1 : x.toNatClampNeg < 10000 := Nat.not_le.mp fun z => hin (Or.inr z)
      have hk' := hk _ _ _ _ h
      have m1 : t.1.1 + 1 ≤ r.2.1.1 := hk'.2.1
      have m2 : t.1.2.1 + x.toNatClampNeg ≤ r.2.1.2.1 := hk'.2.2
      refine va_newq (D := E.2.2.1) (cl := jm_cl) (tys := jm_tys E) (ws := jm_ws E t) (A := jm_A E) (H0 := s.heap) (rest := st1.map (jm_mv E)) (C := jm_cn (jm_ec u)) (n := x) (N' := x.toNatClampNeg) hx hb hown (hts _ hlink) (hN.2 _ (jm_ec_in u)) hK hP.1 (jm_D E t) hS (fun q hq => by show E.2.1 ≤ q; omega) hn0 rfl (by omega) (by omega) (by omega) hd (fun q cA H1 hK1 hP1 hD1 hS1 => ?_)
      have hcA : cA = E.2.2.2.1 u := jm_tys_i (E := E) (i := 5) (j := u - 9) hK1 rfl (by rw [List.getElem?_append_left (by simp [jm_tys]; omega)]; exact jm_tys_q E hu1 hu2)
      subst hcA
      refine jm_sz1 (E := E) (n0 := n0) (k := t.1.1 + 1) hz (by omega) (fun hz1 => ?_)
      have hq := jm_q hP1 hD1 (by omega)
      subst hq
      exact hk'.1 H1 locs lsA (cells + 1) (slots + x.toNatClampNeg) (jm_P_new hP (by rw [jm_E_ref E _ (c := u) va_up_eq' hu1]; simp [jm_nw, va_up]) hP1) hS1 hl (by show cells + 1 + n0 = t.1.1 + 1; omega) (by show slots + x.toNatClampNeg + s0 = t.1.2.1 + x.toNatClampNeg; omega)
    · cases h
  | invokevirtual i =>
    obtain ⟨rfl, hv0, hw, hne, hcls, hl1, hl2, hl3, hmk⟩ := hi
    dsimp only [jm_step] at h
    split at h
    · rename_i a as heq
      have hh := jm_if_some h
      clear h
      obtain ⟨h0, h⟩ := hh
      simp only [Bool.and_eq_true, Nat.ble_eq] at h0
      obtain ⟨⟨h8, hal⟩, his⟩ := h0
      have hal := Nat.eq_of_beq_eq_true hal
      split at h
      · rename_i r' hC'
        obtain ⟨j, rfl, hj, hkd⟩ := jm_is_of his
        obtain ⟨d', rfl, m1, m2, hM⟩ := hC _ _ _ _ _ hmk hne hC'
        obtain ⟨k1, k2, k3, k4, k5, k6, k7⟩ := hmk
        have hk' := hk _ _ _ _ h
        refine jm_sz hz hP hS hc (fun hsz => ?_)
        have est : st = as.reverse ++ .ref (j + 1) :: st.drop v := jm_st_eq heq
        have hstack : st.map (jm_mv E) = (as.map (jm_mv E)).reverse ++ .ref (E.2.1 + j) :: (st.drop v).map (jm_mv E) := by
          conv => lhs; rw [est]
          simp [jm_mv, jm_ad]
        refine jm_call (r := r') (mc := r'.2.1.1 - t.1.1) (ms := r'.2.1.2.1 - t.1.2.1) (rest := (st.drop v).map (jm_mv E)) (va_runV (C := jm_cn w) (own := (nm y).cls) (Ts := jm_tb) (n := v - 1) (bytes := cd u) (maxL := (G u).1) (ret := rt u) (b := E.2.1 + j) (As := as.map (jm_mv E)) ⟨hx, hb, hml, hown, hts⟩ hM ⟨callB_of (v - 1) hts (jm_good G nm cd rt u k1) rfl rfl rfl (hts _ k2) (hts _ hl1) ⟨k3.1, k3.2, k5⟩ ⟨by show d' + 1 ≤ _; omega, by show 8 + _ + 64 * d' ≤ _; omega⟩, hts _ hl2, hts _ hl3⟩ ⟨jm_blind E t _, va_recv (q := (jm_cn w, jm_cT w, jm_nf w)) hK hP.1 (jm_cl_at w hw) (q0 := j) (by rw [jm_ws_at E t hj, jm_E_obj E t hkd hw]), fun U hU hW => ⟨rfl, by rw [hU]; exact hsz, by rw [hU]; exact hP, va_K.moved hW.alike hK, hN.warm hW⟩⟩ rfl (by simp [hal]) hl.1 hstack (lv_room (by rw [jm_sum_map]; exact h8)) hd ⟨by omega, by omega⟩) hS (fun H1 locs1 hP1 hS1 => ?_)
        have hgo := hk'.1 H1 locs1 lsA (cells + (r'.2.1.1 - t.1.1)) (slots + (r'.2.1.2.1 - t.1.2.1)) hP1 hS1 hl (by omega) (by omega)
        rw [jm_tl] at hgo
        exact hgo
      · cases h
    · cases h
  | invokestatic i =>
    obtain ⟨rfl, hw7, hw8, hw9, hwn⟩ := hi
    dsimp only [jm_step] at h
    split at h
    · split at h
      · rename_i n dp a sp b st1
        obtain ⟨h0, h⟩ := jm_if_some h
        simp only [Bool.and_eq_true, Nat.ble_eq, Nat.blt_eq, Bool.not_eq_true', decide_eq_false_iff_not] at h0
        obtain ⟨⟨⟨⟨⟨⟨⟨⟨g1, g2⟩, g3⟩, g4⟩, g5⟩, g6⟩, g7⟩, g8⟩, g9⟩ := h0
        obtain ⟨j, rfl, hj, hkd⟩ := jm_is_of g3
        obtain ⟨jb, rfl, hjb, hkb⟩ := jm_is_of g4
        have hnat : nativeFrameWords "java/lang/System" "arraycopy" 5 + 11 ≤ 50 := by decide +kernel
        exact va_copyi (D := E.2.2.1) (cl := jm_cl) (tys := jm_tys E) (ws := jm_ws E t) (A := jm_A E) (H0 := s.heap) (a := E.2.1 + j) (a0 := E.2.1 + jb) (rest := st1.map (jm_mv E)) (sp := sp) (dp := dp) (n := n) (ty := .int) hx hb (by rw [hml]; exact hl.1.symm) hown (hts _ (hw7 rfl)) (hts _ jm_w_c1) (hts _ jm_w_c2) (hts _ jm_w_c3) hK hP.1 (jm_D E t) hS jb j 0 0 (by rw [jm_ws_at E t hjb, jm_E_int E t hkb (by omega) (by omega)]) (by rw [jm_ws_at E t hj, jm_E_int E t hkd (by omega) (by omega)]) rfl rfl rfl g7 g6 g5 g8 g9 (fun _ _ => rfl) (by omega) (by rw [jm_sum_map]; omega) hd (fun H1 locs1 hP1 _ hS1 => (hk _ _ _ _ h).1 H1 locs1 lsA cells slots (jm_P_arr hP hj hkd (by omega) (by omega) hP1) hS1 hl hc hs)
      · cases h
    · split at h
      · rename_i b a st1
        obtain ⟨h0, h⟩ := jm_if_some h
        simp only [Bool.and_eq_true, Nat.ble_eq, Nat.blt_eq] at h0
        have hk' := hk _ _ _ _ h
        exact va_mmax (x := a) (y := b) (rest := st1.map (jm_mv E)) hx hb (by rw [hml]; exact hl.1.symm) hown (hts _ (hw8 rfl)) (hts _ jm_w_m1) (hts _ jm_w_m0) (hts _ jm_w_m2) (by omega) (by rw [jm_sum_map]; omega) (by omega) (by omega) hd (hk'.1 H locs lsA cells slots hP hS hl hc hs)
      · cases h
    · split at h
      · rename_i b a st1
        obtain ⟨h0, h⟩ := jm_if_some h
        simp only [Bool.and_eq_true, Nat.ble_eq, Nat.blt_eq] at h0
        have hk' := hk _ _ _ _ h
        exact va_mmin (x := a) (y := b) (rest := st1.map (jm_mv E)) hx hb (by rw [hml]; exact hl.1.symm) hown (hts _ (hw9 rfl)) (hts _ jm_w_m3) (hts _ jm_w_m0) (hts _ jm_w_m4) (by omega) (by rw [jm_sum_map]; omega) (by omega) (by omega) hd (hk'.1 H locs lsA cells slots hP hS hl hc hs)
      · cases h
    · rename_i hw78 hw79 hw
      obtain ⟨hne, hst, hlk, hmk⟩ := hwn hw78 hw79 hw
      obtain ⟨h0, h⟩ := jm_if_some h
      simp only [Bool.and_eq_true, Nat.ble_eq] at h0
      obtain ⟨h8, hal⟩ := h0
      have hal := Nat.eq_of_beq_eq_true hal
      split at h
      · rename_i r' hC'
        obtain ⟨d', rfl, m1, m2, hM⟩ := hC _ _ _ _ _ hmk hne hC'
        obtain ⟨k1, k2, k3, k4, k5, k6, k7⟩ := hmk
        have hk' := hk _ _ _ _ h
        refine jm_sz hz hP hS hc (fun hsz => ?_)
        have hstack : st.map (jm_mv E) = ((st.take v).reverse.map (jm_mv E)).reverse ++ (st.drop v).map (jm_mv E) := by
          conv => lhs; rw [← List.take_append_drop v st]
          simp
        have hpre : PreS s H (va_Pc ((st.take v).reverse.map (jm_mv E)) (jm_pre E t)) ((st.take v).reverse.map (jm_mv E)) := ⟨jm_blind E t _, fun U hU hW => ⟨rfl, by rw [hU]; exact hsz, by rw [hU]; exact hP, va_K.moved hW.alike hK, hN.warm hW⟩⟩
        have hrm : (jm_rm d' (r'.2.1.1 - t.1.1) (r'.2.1.2.1 - t.1.2.1)).frames + 1 ≤ R.frames ∧ 8 + ((G u).1 + 11) + (jm_rm d' (r'.2.1.1 - t.1.1) (r'.2.1.2.1 - t.1.2.1)).locals ≤ R.locals := ⟨by show d' + 1 ≤ _; omega, by show 8 + _ + 64 * d' ≤ _; omega⟩
        have hrun : va_Run p l e R s m args below meth c H locs cells slots (r'.2.1.1 - t.1.1) (r'.2.1.2.1 - t.1.2.1) (F0 m pc lsA (st.map (jm_mv E))) ((st.drop v).map (jm_mv E)) (jm_Q E r' ((st.take v).reverse.map (jm_mv E)).toArray) (jm_A E) := by
          rcases hlk with hlk | hlk
          · exact va_runS (own := (nm y).cls) (Ts := jm_tb) (n := v) (bytes := cd u) (maxL := (G u).1) (ret := rt u) (As := (st.take v).reverse.map (jm_mv E)) ⟨hx, hb, hml, hown, hts⟩ hM ⟨callB_of v hts (jm_good G nm cd rt u k1) rfl rfl rfl (hts _ k2) (hts _ hlk) ⟨k3.1, k3.2, k5⟩ hrm, hts _ hst⟩ hpre rfl (by simpa using hal) hl.1 hstack (lv_room (by rw [jm_sum_map]; exact h8)) hd ⟨by omega, by omega⟩
          · exact va_runSN (own := (nm y).cls) (host := RX7) (Ts := jm_tb) (n := v) (bytes := cd u) (maxL := (G u).1) (ret := rt u) (As := (st.take v).reverse.map (jm_mv E)) ⟨hx, hb, hml, hown, hts⟩ hM ⟨va_cnB v hts (jm_good G nm cd rt u k1) rfl rfl rfl (hN.1 _ hlk) (hts _ k2) ⟨k3.1, k3.2, k5⟩ hrm, hts _ hst, trivial⟩ hpre rfl (by simpa using hal) hl.1 hstack (lv_room (by rw [jm_sum_map]; exact h8)) hd ⟨by omega, by omega⟩
        refine jm_call (r := r') hrun hS (fun H1 locs1 hP1 hS1 => ?_)
        have hgo := hk'.1 H1 locs1 lsA (cells + (r'.2.1.1 - t.1.1)) (slots + (r'.2.1.2.1 - t.1.2.1)) hP1 hS1 hl (by omega) (by omega)
        rw [jm_tl] at hgo
        exact hgo
      · cases h
  | invokespecial i =>
    obtain ⟨rfl, hw7, hwn⟩ := hi
    dsimp only [jm_step] at h
    split at h
    · split at h
      · rename_i a st1
        obtain ⟨h0, h⟩ := jm_if_some h
        simp only [Bool.and_eq_true, Nat.ble_eq, Nat.blt_eq] at h0
        have hroom := lv_room (m := m) (pc := pc) (ls := lsA) (rest := .ref (jm_ad E a) :: st1.map (jm_mv E)) (st := st1.map (jm_mv E)) (by rw [jm_sum_map]; exact h0.2)
        exact W.objInit (a := jm_ad E a) (rest := st1.map (jm_mv E)) (g := F0 m pc lsA (.ref (jm_ad E a) :: st1.map (jm_mv E))) hx hb hown (hts _ (hw7 rfl)) (hts _ jm_w_o1) (hts _ jm_w_o2) rfl (by rw [hml]; exact hl.1) rfl hd (by omega) (Nat.le_trans (Nat.add_le_add_right hroom 12) (by omega)) ((hk _ _ _ _ h).1 H locs lsA cells slots hP hS hl hc hs)
      · cases h
    · rename_i hw
      obtain ⟨hv0, hne, hin, hst, hlk, hrt, hmk⟩ := hwn hw
      split at h
      · rename_i a as heq
        obtain ⟨h0, h⟩ := jm_if_some h
        simp only [Bool.and_eq_true, Nat.ble_eq] at h0
        obtain ⟨h8, hal⟩ := h0
        have hal := Nat.eq_of_beq_eq_true hal
        split at h
        · rename_i r' hC'
          obtain ⟨d', rfl, m1, m2, hM⟩ := hC _ _ _ _ _ hmk hne hC'
          obtain ⟨k1, k2, k3, k4, k5, k6, k7⟩ := hmk
          have hk' := hk _ _ _ _ h
          refine jm_sz hz hP hS hc (fun hsz => ?_)
          have est : st = as.reverse ++ .ref a :: st.drop v := jm_st_eq heq
          have hstack : st.map (jm_mv E) = (as.map (jm_mv E)).reverse ++ .ref (jm_ad E a) :: (st.drop v).map (jm_mv E) := by
            conv => lhs; rw [est]
            simp [jm_mv]
          have hpre : PreS s H (va_Pc ((.ref a :: as : List Value).map (jm_mv E)) (jm_pre E t)) (.ref (jm_ad E a) :: as.map (jm_mv E)) := ⟨jm_blind E t _, fun U hU hW => ⟨rfl, by rw [hU]; exact hsz, by rw [hU]; exact hP, va_K.moved hW.alike hK, hN.warm hW⟩⟩
          have hrm : (jm_rm d' (r'.2.1.1 - t.1.1) (r'.2.1.2.1 - t.1.2.1)).frames + 1 ≤ R.frames ∧ 8 + ((G u).1 + 11) + (jm_rm d' (r'.2.1.1 - t.1.1) (r'.2.1.2.1 - t.1.2.1)).locals ≤ R.locals := ⟨by show d' + 1 ≤ _; omega, by show 8 + _ + 64 * d' ≤ _; omega⟩
          have hM : Met l (nm u) (Jvm.Cond.code (nm u) (cd u) (G u).1 none :: jm_tb) (jm_rm d' (r'.2.1.1 - t.1.1) (r'.2.1.2.1 - t.1.2.1)) (va_Pc ((.ref a :: as : List Value).map (jm_mv E)) (jm_pre E t)) (jm_Q E r') (r'.2.1.1 - t.1.1) (r'.2.1.2.1 - t.1.2.1) (jm_A E) := by
            rw [← hrt]; exact hM
          have hG : GoodIn jm_tb (Jvm.Cond.code (nm u) (cd u) (G u).1 none :: jm_tb) := by
            rw [← hrt]; exact jm_good G nm cd rt u k1
          have hrun : va_Run p l e R s m args below meth c H locs cells slots (r'.2.1.1 - t.1.1) (r'.2.1.2.1 - t.1.2.1) (F0 m pc lsA (st.map (jm_mv E))) ((st.drop v).map (jm_mv E)) (jm_Q E r' (Value.ref (jm_ad E a) :: as.map (jm_mv E)).toArray) (jm_A E) := by
            rcases hlk with hlk | hlk
            · exact va_runI (own := (nm y).cls) (Ts := jm_tb) (n := v - 1) (bytes := cd u) (maxL := (G u).1) (b := jm_ad E a) (As := as.map (jm_mv E)) ⟨hx, hb, hml, hown, hts⟩ hM ⟨callB_of (v - 1) hts hG rfl rfl rfl (hts _ k2) (hts _ hlk) ⟨k3.1, k3.2, k5⟩ hrm, hin, hts _ hst⟩ hpre rfl (by simp [hal]) hl.1 hstack (lv_room (by rw [jm_sum_map]; exact h8)) hd ⟨by omega, by omega⟩
            · exact va_runIN (own := (nm y).cls) (host := RX7) (Ts := jm_tb) (n := v - 1) (bytes := cd u) (maxL := (G u).1) (b := jm_ad E a) (As := as.map (jm_mv E)) ⟨hx, hb, hml, hown, hts⟩ hM ⟨va_cnB (v - 1) hts hG rfl rfl rfl (hN.1 _ hlk) (hts _ k2) ⟨k3.1, k3.2, k5⟩ hrm, hin, hts _ hst⟩ hpre rfl (by simp [hal]) hl.1 hstack (lv_room (by rw [jm_sum_map]; exact h8)) hd ⟨by omega, by omega⟩
          refine jm_call (r := r') hrun hS (fun H1 locs1 hP1 hS1 => ?_)
          have hgo := hk'.1 H1 locs1 lsA (cells + (r'.2.1.1 - t.1.1)) (slots + (r'.2.1.2.1 - t.1.2.1)) hP1 hS1 hl (by omega) (by omega)
          rw [jm_tl] at hgo
          exact hgo
        · cases h
      · cases h
  | _ => cases h
end JO
