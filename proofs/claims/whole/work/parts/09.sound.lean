/-! the small machine never unmakes a cell -/
theorem jm_bor {b : Bool} {A B : Option jm_R} {r : jm_R} (h : (bif b then A else B) = some r) : A = some r ∨ B = some r := by
  cases b
  · exact Or.inr h
  · exact Or.inl h
theorem jm_swo {k : Nat → Option jm_R} {x : Int32} {d : Nat} {r : jm_R} : ∀ {ts : List (Int32 × Nat)}, jm_sw k x d ts = some r → ∃ q, k q = some r
  | [], h => ⟨d, h⟩
  | (c, q) :: ts, h => by
    rcases jm_bor (show (bif decide (x = c) then k q else jm_sw k x d ts) = some r from h) with h | h
    · exact ⟨q, h⟩
    · exact jm_swo h
set_option maxHeartbeats 4000000 in
theorem jm_smono {op : Instr} {u v w : Nat} {cc : Int32} {cl : Int64} {ts : List (Int32 × Nat)} {d ret pc : Nat} {ls : jm_V} {st : List Value} {t : jm_T} {r : jm_R} {k : Nat → jm_V → List Value → jm_T → Option jm_R} {C : Nat → List Value → jm_T → Option jm_R}
    (hk : ∀ pc' ls' st' t', k pc' ls' st' t' = some r → t'.1.1 ≤ r.2.1.1 ∧ t'.1.2.1 ≤ r.2.1.2.1)
    (hC : ∀ u' as t' r', C u' as t' = some r' → t'.1.1 ≤ r'.2.1.1 ∧ t'.1.2.1 ≤ r'.2.1.2.1)
    (h : jm_step op u v w cc cl ts d ret pc ls st t k C = some r) : t.1.1 ≤ r.2.1.1 ∧ t.1.2.1 ≤ r.2.1.2.1 := by
  cases op with
  | new i =>
    have h2 := hk _ _ _ _ (show k (pc + 3) ls (.ref (t.1.1 + 1) :: st) (jm_nw t u 0 (jm_nf u)) = some r from h)
    exact ⟨Nat.le_trans (Nat.le_add_right _ _) h2.1, Nat.le_trans (Nat.le_add_right _ _) h2.2⟩
  | newarray a =>
    dsimp only [jm_step] at h
    split at h
    · have h2 := hk _ _ _ _ (jm_if_some h).2
      exact ⟨Nat.le_trans (Nat.le_add_right _ _) h2.1, Nat.le_trans (Nat.le_add_right _ _) h2.2⟩
    · cases h
  | anewarray i =>
    dsimp only [jm_step] at h
    split at h
    · have h2 := hk _ _ _ _ (jm_if_some h).2
      exact ⟨Nat.le_trans (Nat.le_add_right _ _) h2.1, Nat.le_trans (Nat.le_add_right _ _) h2.2⟩
    · cases h
  | ifCond q o =>
    dsimp only [jm_step] at h
    split at h
    · rcases jm_bor h with h | h <;> exact hk _ _ _ _ h
    · cases h
  | if_icmp q o =>
    dsimp only [jm_step] at h
    split at h
    · rcases jm_bor h with h | h <;> exact hk _ _ _ _ h
    · cases h
  | tableswitch a b e f =>
    dsimp only [jm_step] at h
    split at h
    · obtain ⟨q, h⟩ := jm_swo h
      exact hk _ _ _ _ h
    · cases h
  | lookupswitch a b =>
    dsimp only [jm_step] at h
    split at h
    · obtain ⟨q, h⟩ := jm_swo h
      exact hk _ _ _ _ h
    · cases h
  | getfield i =>
    dsimp only [jm_step] at h
    split at h
    · have h := (jm_if_some h).2
      split at h
      · split at h
        · exact hk _ _ _ _ h
        · cases h
      · exact hk _ _ _ _ h
      · exact hk _ _ _ _ h
    · cases h
  | putfield i =>
    dsimp only [jm_step] at h
    split at h
    · split at h
      · have h2 := hk _ _ _ _ (jm_if_some h).2; exact h2
      · cases h
    · split at h
      · have h2 := hk _ _ _ _ (jm_if_some h).2; exact h2
      · cases h
    · split at h
      · have h2 := hk _ _ _ _ (jm_if_some h).2; exact h2
      · cases h
    · split at h
      · have h2 := hk _ _ _ _ (jm_if_some h).2; exact h2
      · cases h
    · cases h
  | aastore =>
    dsimp only [jm_step] at h
    split at h
    · have h2 := hk _ _ _ _ (jm_if_some h).2; exact h2
    · cases h
  | iastore =>
    dsimp only [jm_step] at h
    split at h
    · have h2 := hk _ _ _ _ (jm_if_some h).2; exact h2
    · cases h
  | bastore =>
    dsimp only [jm_step] at h
    split at h
    · have h2 := hk _ _ _ _ (jm_if_some h).2; exact h2
    · cases h
  | aaload =>
    dsimp only [jm_step] at h
    split at h
    · have h := (jm_if_some h).2
      split at h
      · exact hk _ _ _ _ h
      · cases h
    · cases h
  | invokevirtual i =>
    dsimp only [jm_step] at h
    split at h
    · have h := (jm_if_some h).2
      split at h
      · rename_i r' e
        have h1 := hC _ _ _ _ e
        have h2 := hk _ _ _ _ h
        exact ⟨Nat.le_trans h1.1 h2.1, Nat.le_trans h1.2 h2.2⟩
      · cases h
    · cases h
  | invokestatic i =>
    dsimp only [jm_step] at h
    split at h
    · split at h
      · have h2 := hk _ _ _ _ (jm_if_some h).2; exact h2
      · cases h
    · split at h
      · have h2 := hk _ _ _ _ (jm_if_some h).2; exact h2
      · cases h
    · split at h
      · have h2 := hk _ _ _ _ (jm_if_some h).2; exact h2
      · cases h
    · have h := (jm_if_some h).2
      split at h
      · rename_i r' e
        have h1 := hC _ _ _ _ e
        have h2 := hk _ _ _ _ h
        exact ⟨Nat.le_trans h1.1 h2.1, Nat.le_trans h1.2 h2.2⟩
      · cases h
  | invokespecial i =>
    dsimp only [jm_step] at h
    split at h
    · split at h
      · exact hk _ _ _ _ (jm_if_some h).2
      · cases h
    · split at h
      · have h := (jm_if_some h).2
        split at h
        · rename_i r' e
          have h1 := hC _ _ _ _ e
          have h2 := hk _ _ _ _ h
          exact ⟨Nat.le_trans h1.1 h2.1, Nat.le_trans h1.2 h2.2⟩
        · cases h
      · cases h
  | ireturn =>
    dsimp only [jm_step] at h
    split at h
    · split at h
      · cases h; exact ⟨Nat.le_refl _, Nat.le_refl _⟩
      · have h := (jm_if_some h).2
        cases h; exact ⟨Nat.le_refl _, Nat.le_refl _⟩
      · cases h
    · cases h
  | areturn =>
    dsimp only [jm_step] at h
    split at h
    · split at h
      · cases h; exact ⟨Nat.le_refl _, Nat.le_refl _⟩
      · cases h
    · cases h
  | return_ =>
    dsimp only [jm_step] at h
    split at h
    · split at h
      · cases h; exact ⟨Nat.le_refl _, Nat.le_refl _⟩
      · cases h
    · cases h
  | _ => first
    | (cases h; done)
    | exact hk _ _ _ _ h
    | (dsimp only [jm_step] at h
       split at h
       · first
         | exact hk _ _ _ _ h
         | exact hk _ _ _ _ (jm_if_some h).2
       · cases h)
theorem jm_mono {G : Nat → jm_M} : ∀ (n d : Nat) (Y : jm_M) (pc : Nat) (ls : jm_V) (st : List Value) (t : jm_T) (r : jm_R), jm_run G n d Y pc ls st t = some r → t.1.1 ≤ r.2.1.1 ∧ t.1.2.1 ≤ r.2.1.2.1
  | 0, _, _, _, _, _, _, _, h => by cases h
  | n + 1, d, Y, pc, ls, st, t, r, h => by
    unfold jm_run at h
    split at h
    · cases h
    · refine jm_smono (fun pc' ls' st' t' h' => jm_mono n d Y pc' ls' st' t' r h') (fun u as t' r' h' => ?_) h
      split at h'
      · cases h'
      · exact jm_mono n _ _ _ _ _ _ _ (jm_if_some h').2
/-! soundness of a whole run -/
def jm_Ok (G : Nat → jm_M) (nm : Nat → MethodName) (cd : Nat → ByteArray) (rt : Nat → Option FieldType) (lw : Nat) : Prop :=
  ∀ (y pc : Nat) (op : Instr) (len u v w : Nat) (c : Int32) (cl : Int64) (ts : List (Int32 × Nat)) (kl : List Nat), jm_at (G y).2.2 pc = some (op, len, u, v, w, c, cl, ts, kl) → decode (cd y) pc = .ok (op, len) ∧ jm_iok G nm cd rt lw y pc op len u v w c cl ts
def jm_Snd (l : Launch) (E : jm_Ev) (G : Nat → jm_M) (nm : Nat → MethodName) (cd : Nat → ByteArray) (lw n : Nat) : Prop :=
  ∀ (y d pc : Nat) (ls : jm_V) (st : List Value) (t : jm_T) (r : jm_R), jm_run G n d (G y) pc ls st t = some r →
    ∀ {p : Program} {e : Env} {R : Room} {s : State} {m : MethodId} {args : Array Value} {below : List Frame} {meth : Method} {c : Code} {Q : State → Prop} {n0 s0 : Nat},
      jm_Cx E G nm cd lw y n0 p s m args meth c → (d ≤ R.frames ∧ 64 * d ≤ R.locals ∧ r.2.1.1 ≤ R.cells + n0 ∧ r.2.1.2.1 ≤ R.slots + s0) →
      (∀ (pc : Nat) (op : Instr) (v : Option Value) (tt : jm_T), (v, tt) = r → decode (cd y) pc = .ok (op, 1) → jm_rt (G y).2.1 op v → ∀ (lsA : Array Slot) (H : Heap) (locs : List Loc) (cells slots : Nat), jm_P E tt H → va_S (jm_A E) s.heap H locs → cells + n0 = tt.1.1 → slots + s0 = tt.1.2.1 → W p l e R s m args below meth c H locs cells slots Q (F0 m pc lsA ((v.map (jm_mv E)).toList))) →
      jm_Wk E p l e R s m args below meth c Q (G y).1 n0 s0 pc ls st t
theorem jm_rk0 {rt : Option FieldType} (h : jm_rk 0 rt = true) : rt = none := by
  cases rt with
  | none => rfl
  | some ty => simp [jm_rk] at h
theorem jm_rk1 {rt : Option FieldType} (h : jm_rk 1 rt = true) : rt = some .int := by
  cases rt with
  | none => simp [jm_rk] at h
  | some ty => cases ty <;> first | rfl | (simp [jm_rk] at h; done)
theorem jm_rk2 {rt : Option FieldType} (h : jm_rk 2 rt = true) : rt = some .boolean := by
  cases rt with
  | none => simp [jm_rk] at h
  | some ty => cases ty <;> first | rfl | (simp [jm_rk] at h; done)
theorem jm_rk3 {rt : Option FieldType} (h : jm_rk 3 rt = true) : ∃ C, rt = some (.object C) := by
  cases rt with
  | none => simp [jm_rk] at h
  | some ty => cases ty <;> first | exact ⟨_, rfl⟩ | (simp [jm_rk] at h; done)
theorem jm_met {l : Launch} {E : jm_Ev} {G : Nat → jm_M} {nm : Nat → MethodName} {cd : Nat → ByteArray} {rt : Nat → Option FieldType} {lw n u k d : Nat} {as : List Value} {t : jm_T} {r : jm_R} (IH : jm_Snd l E G nm cd lw n) (hmk : jm_mk G nm cd rt u k) (hne : u ≠ lw)
    (h : jm_run G n d (G u) 0 (jm_en (G u).1 as) [] t = some r) (hlen : (lg_sl as).length ≤ (G u).1) : jm_Ct l E G nm cd rt u d as t r := by
  obtain ⟨k1, k2, k3, k4, k5, k6, k7⟩ := hmk
  have hm := jm_mono _ _ _ _ _ _ _ _ h
  refine Met.ofW (cc := cd u) (maxL := (G u).1) (ret := rt u) k4 rfl ?_
  intro p e s m args below meth c s₁ B hml hv
  obtain ⟨rfl, hsz, hP, hK, hN⟩ := hv
  have hts := atoms_spec (ws := jm_wm G nm cd rt u) B.pre
  have hlocks := B.notSynchronized
  have hr := B.returns
  rw [lg_entry_eq]
  refine IH u d 0 _ [] t r h (n0 := t.1.1) (s0 := t.1.2.1) ⟨B.exec, B.bytes, hml, findClass_of_methodNamed B.named, fun w hw => hts w (List.mem_cons_of_mem _ hw), hK, hN, hsz, fun hq => (name_of_methodNamed B.named B.method).1.trans hq, fun q => absurd q hne⟩ ⟨Nat.le_refl _, Nat.le_refl _, by show _ ≤ r.2.1.1 - t.1.1 + t.1.1; omega, by show _ ≤ r.2.1.2.1 - t.1.2.1 + t.1.2.1; omega⟩ ?_ s.heap [] _ 0 0 hP va_S.rf (jm_L_entry E as hlen) (Nat.zero_add _) (Nat.zero_add _)
  intro pc op v tt hvr hdc hrt lsA H locs cells slots hP' hS' hc' hs'
  subst hvr
  have hq : ∀ o : State, o.heap = H → s.WarmedH o.vm → jm_Q E (v, tt) (as.map (jm_mv E)).toArray s (.returned (v.map (jm_mv E))) o := fun o ho _ => ⟨rfl, by rw [ho]; exact hP', hS'.F ho⟩
  have e1 : tt.1.1 - t.1.1 = cells := by omega
  have e2 : tt.1.2.1 - t.1.2.1 = slots := by omega
  show W p l e _ s m _ below meth c H locs cells slots (MQ below (jm_Q E (v, tt)) (as.map (jm_mv E)).toArray s (tt.1.1 - t.1.1) (tt.1.2.1 - t.1.2.1) (jm_A E)) _
  rw [e1, e2]
  rcases hrt with ⟨rfl, x, rfl, hkk⟩ | ⟨rfl, hkk, a, rfl⟩ | ⟨rfl, hkk, rfl⟩
  · rcases hkk with hkk | ⟨hkk, hx⟩
    · have hri : rt u = some .int := jm_rk1 (by rw [hkk] at k6; exact k6)
      exact W.iret B.exec B.bytes (by rw [hr, hri]) hq hS'.2.2 hdc
    · have hri : rt u = some .boolean := jm_rk2 (by rw [hkk] at k6; exact k6)
      exact W.zret (ty := .boolean) B.exec B.bytes (by rw [hr, hri]) (by rcases hx with rfl | rfl <;> rfl) hq hS'.2.2 hdc
  · obtain ⟨C, hri⟩ : ∃ C, rt u = some (.object C) := jm_rk3 (by rw [hkk] at k6; exact k6)
    exact W.aret (rt := .object C) B.exec B.bytes (by rw [hr, hri]) (Or.inl ⟨C, rfl⟩) (Or.inr ⟨_, rfl⟩) hq hS'.2.2 hdc
  · have hri : rt u = none := jm_rk0 (by rw [hkk] at k6; exact k6)
    exact W.vret B.exec B.bytes (by rw [hr, hri]) hq hS'.2.2 hdc
theorem jm_snd {l : Launch} {E : jm_Ev} {G : Nat → jm_M} {nm : Nat → MethodName} {cd : Nat → ByteArray} {rt : Nat → Option FieldType} {lw : Nat} (hok : jm_Ok G nm cd rt lw) : ∀ n, jm_Snd l E G nm cd lw n
  | 0 => fun _ _ _ _ _ _ _ h => by cases h
  | n + 1 => by
    intro y d pc ls st t r h p e R s m args below meth c Q n0 s0 X hR hret
    have IH := jm_snd (l := l) (E := E) hok n
    unfold jm_run at h
    split at h
    · cases h
    · rename_i op len u v w cc cl ts kl hat
      obtain ⟨hd, hi⟩ := hok y pc op len u v w cc cl ts kl hat
      have hW := jm_one X hd hi hR (fun pc' ls' st' t' h' => ⟨IH y d pc' ls' st' t' r h' X hR hret, jm_mono _ _ _ _ _ _ _ _ h'⟩) (fun u' k as t' r' hmk hne h' => by
        split at h'
        · cases h'
        · rename_i d'
          obtain ⟨hle, h'⟩ := jm_if_some h'
          have hm := jm_mono _ _ _ _ _ _ _ _ h'
          exact ⟨d', rfl, hm.1, hm.2, jm_met IH hmk hne h' (Nat.le_of_ble_eq_true hle)⟩) hret h
      intro H locs lsA cells slots hP hS hl hc hs
      exact hW H locs lsA cells slots hP hS hl.kl hc hs
