/-! more fuel does no harm -/
theorem jm_ifm {b : Bool} {x y : Option jm_R} {r : jm_R} (h : jm_if b x = some r) (hx : x = some r → y = some r) : jm_if b y = some r := by
  cases b
  · cases h
  · exact hx h
theorem jm_bim {b : Bool} {A B A' B' : Option jm_R} {r : jm_R} (h : (bif b then A else B) = some r) (hA : A = some r → A' = some r) (hB : B = some r → B' = some r) : (bif b then A' else B') = some r := by
  cases b
  · exact hB h
  · exact hA h
theorem jm_swm {k k' : Nat → Option jm_R} {x : Int32} {d : Nat} {r : jm_R} (hk : ∀ q, k q = some r → k' q = some r) : ∀ {ts : List (Int32 × Nat)}, jm_sw k x d ts = some r → jm_sw k' x d ts = some r
  | [], h => hk d h
  | (c, q) :: ts, h => jm_bim (b := decide (x = c)) h (hk q) (fun h => jm_swm hk h)
set_option maxHeartbeats 4000000 in
theorem jm_stepm {op : Instr} {u v w : Nat} {cc : Int32} {cl : Int64} {ts : List (Int32 × Nat)} {d ret pc : Nat} {ls : jm_V} {st : List Value} {t : jm_T} {r : jm_R} {k k' : Nat → jm_V → List Value → jm_T → Option jm_R} {C C' : Nat → List Value → jm_T → Option jm_R}
    (hk : ∀ pc' ls' st' t', k pc' ls' st' t' = some r → k' pc' ls' st' t' = some r)
    (hC : ∀ u' as t' r', C u' as t' = some r' → C' u' as t' = some r')
    (h : jm_step op u v w cc cl ts d ret pc ls st t k C = some r) : jm_step op u v w cc cl ts d ret pc ls st t k' C' = some r := by
  cases op with
  | ifCond q o =>
    dsimp only [jm_step] at h ⊢
    split at h
    · exact jm_bim h (hk _ _ _ _) (hk _ _ _ _)
    · cases h
  | if_icmp q o =>
    dsimp only [jm_step] at h ⊢
    split at h
    · exact jm_bim h (hk _ _ _ _) (hk _ _ _ _)
    · cases h
  | tableswitch a b e f =>
    dsimp only [jm_step] at h ⊢
    split at h
    · exact jm_swm (fun q => hk q _ _ _) h
    · cases h
  | lookupswitch a b =>
    dsimp only [jm_step] at h ⊢
    split at h
    · exact jm_swm (fun q => hk q _ _ _) h
    · cases h
  | getfield i =>
    dsimp only [jm_step] at h ⊢
    split at h
    · refine jm_ifm h (fun h => ?_)
      split at h
      · rename_i e
        split at h
        · rename_i e2
          try simp only [e, e2]
          exact hk _ _ _ _ h
        · cases h
      · rename_i e
        try simp only [e]
        exact hk _ _ _ _ h
      · rename_i e1 e2
        exact hk _ _ _ _ h
    · cases h
  | putfield i =>
    dsimp only [jm_step] at h ⊢
    split at h
    · rename_i e
      try simp only [e]
      split at h
      · exact jm_ifm h (hk _ _ _ _)
      · cases h
    · rename_i e
      try simp only [e]
      split at h
      · exact jm_ifm h (hk _ _ _ _)
      · cases h
    · rename_i e
      try simp only [e]
      split at h
      · exact jm_ifm h (hk _ _ _ _)
      · cases h
    · rename_i e
      try simp only [e]
      split at h
      · exact jm_ifm h (hk _ _ _ _)
      · cases h
    · cases h
  | aaload =>
    dsimp only [jm_step] at h ⊢
    split at h
    · refine jm_ifm h (fun h => ?_)
      split at h
      · rename_i e
        try simp only [e]
        exact hk _ _ _ _ h
      · cases h
    · cases h
  | invokevirtual i =>
    dsimp only [jm_step] at h ⊢
    split at h
    · rename_i e
      try simp only [e]
      refine jm_ifm h (fun h => ?_)
      split at h
      · rename_i r' e
        simp only [hC _ _ _ _ e]
        exact hk _ _ _ _ h
      · cases h
    · cases h
  | invokestatic i =>
    dsimp only [jm_step] at h ⊢
    split at h
    · split at h
      · exact jm_ifm h (hk _ _ _ _)
      · cases h
    · split at h
      · exact jm_ifm h (hk _ _ _ _)
      · cases h
    · split at h
      · exact jm_ifm h (hk _ _ _ _)
      · cases h
    · refine jm_ifm h (fun h => ?_)
      split at h
      · rename_i r' e
        simp only [hC _ _ _ _ e]
        exact hk _ _ _ _ h
      · cases h
  | invokespecial i =>
    dsimp only [jm_step] at h ⊢
    split at h
    · split at h
      · exact jm_ifm h (hk _ _ _ _)
      · cases h
    · split at h
      · rename_i e
        try simp only [e]
        refine jm_ifm h (fun h => ?_)
        split at h
        · rename_i r' e
          simp only [hC _ _ _ _ e]
          exact hk _ _ _ _ h
        · cases h
      · cases h
  | iload i =>
    dsimp only [jm_step] at h ⊢
    split at h
    · exact hk _ _ _ _ h
    · cases h
  | lload i =>
    dsimp only [jm_step] at h ⊢
    split at h
    · exact hk _ _ _ _ h
    · cases h
  | aload i =>
    dsimp only [jm_step] at h ⊢
    split at h
    · exact hk _ _ _ _ h
    · cases h
  | iload_n i =>
    dsimp only [jm_step] at h ⊢
    split at h
    · exact hk _ _ _ _ h
    · cases h
  | lload_n i =>
    dsimp only [jm_step] at h ⊢
    split at h
    · exact hk _ _ _ _ h
    · cases h
  | aload_n i =>
    dsimp only [jm_step] at h ⊢
    split at h
    · exact hk _ _ _ _ h
    · cases h
  | iinc i n =>
    dsimp only [jm_step] at h ⊢
    split at h
    · exact hk _ _ _ _ h
    · cases h
  | ireturn => exact h
  | areturn => exact h
  | return_ => exact h
  | _ => first
    | (cases h; done)
    | exact hk _ _ _ _ h
    | (dsimp only [jm_step] at h ⊢
       split at h
       · first
         | exact hk _ _ _ _ h
         | exact jm_ifm h (hk _ _ _ _)
       · cases h)
theorem jm_fuel1 {G : Nat → jm_M} : ∀ (n d : Nat) (Y : jm_M) (pc : Nat) (ls : jm_V) (st : List Value) (t : jm_T) (r : jm_R), jm_run G n d Y pc ls st t = some r → jm_run G (n + 1) d Y pc ls st t = some r
  | 0, _, _, _, _, _, _, _, h => by cases h
  | n + 1, d, Y, pc, ls, st, t, r, h => by
    unfold jm_run at h ⊢
    split at h
    · cases h
    · rename_i e
      try simp only [e]
      refine jm_stepm (fun pc' ls' st' t' h' => jm_fuel1 n d Y pc' ls' st' t' r h') (fun u as t' r' h' => ?_) h
      split at h'
      · cases h'
      · exact jm_ifm h' (fun h' => jm_fuel1 n _ _ _ _ _ _ _ h')
theorem jm_fuel {G : Nat → jm_M} {n d : Nat} {Y : jm_M} {pc : Nat} {ls : jm_V} {st : List Value} {t : jm_T} {r : jm_R} (h : jm_run G n d Y pc ls st t = some r) : ∀ k, jm_run G (n + k) d Y pc ls st t = some r
  | 0 => h
  | k + 1 => jm_fuel1 _ _ _ _ _ _ _ _ (jm_fuel h k)
/-! a run that ends -/
def jm_go (d : Nat) (Y : jm_M) (pc : Nat) (ls : jm_V) (st : List Value) (t : jm_T) (r : jm_R) : Prop := ∃ n, jm_run jm_G n d Y pc ls st t = some r
/-- k instructions, then K; the last of them may call -/
def jm_ks (d : Nat) (Y : jm_M) (K : Nat → jm_V → List Value → jm_T → Option jm_R) (C : Nat → List Value → jm_T → Option jm_R) : Nat → Nat → jm_V → List Value → jm_T → Option jm_R
  | 0, pc, ls, st, t => K pc ls st t
  | k + 1, pc, ls, st, t => match jm_at Y.2.2 pc with
    | none => none
    | some (op, _, u, v, w, c, cl, ts, kl) => jm_step op u v w c cl ts d Y.2.1 pc (jm_kl kl ls) st t (fun pc ls st t => jm_ks d Y K C k pc ls st t) (match k with | 0 => C | _ + 1 => fun _ _ _ => none)
def jm_cf (n d : Nat) : Nat → List Value → jm_T → Option jm_R := fun y as t => match d with
  | 0 => none
  | d + 1 => jm_if (Nat.ble (lg_sl as).length (jm_G y).1) (jm_run jm_G n d (jm_G y) 0 (jm_en (jm_G y).1 as) [] t)
theorem jm_ks_run {n d : Nat} {Y : jm_M} {r : jm_R} : ∀ (k pc : Nat) (ls : jm_V) (st : List Value) (t : jm_T), jm_ks d Y (fun pc ls st t => jm_run jm_G n d Y pc ls st t) (jm_cf n d) k pc ls st t = some r → jm_run jm_G (n + k) d Y pc ls st t = some r
  | 0, _, _, _, _, h => h
  | k + 1, pc, ls, st, t, h => by
    show jm_run jm_G (n + k + 1) d Y pc ls st t = some r
    unfold jm_ks at h
    unfold jm_run
    split at h
    · cases h
    · rename_i e
      try simp only [e]
      refine jm_stepm (fun pc' ls' st' t' h' => jm_ks_run k pc' ls' st' t' h') (fun u as t' r' h' => ?_) h
      cases k with
      | zero => exact h'
      | succ k => cases h'
/-- a stretch of k instructions -/
theorem jm_go.blk (k : Nat) {d : Nat} {Y : jm_M} {pc pc' : Nat} {ls ls' : jm_V} {st st' : List Value} {t t' : jm_T} {r : jm_R} (h : ∀ K C, jm_ks d Y K C k pc ls st t = K pc' ls' st' t') (g : jm_go d Y pc' ls' st' t' r) : jm_go d Y pc ls st t r := by
  obtain ⟨n, g⟩ := g
  exact ⟨n + k, jm_ks_run k pc ls st t ((h _ _).trans g)⟩
/-- a stretch whose last instruction asks something -/
theorem jm_go.grd (k : Nat) {b : Bool} {d : Nat} {Y : jm_M} {pc pc' : Nat} {ls ls' : jm_V} {st st' : List Value} {t t' : jm_T} {r : jm_R} (h : ∀ K C, jm_ks d Y K C k pc ls st t = jm_if b (K pc' ls' st' t')) (hb : b = true) (g : jm_go d Y pc' ls' st' t' r) : jm_go d Y pc ls st t r := by
  obtain ⟨n, g⟩ := g
  exact ⟨n + k, jm_ks_run k pc ls st t ((h _ _).trans (by rw [hb]; exact g))⟩
/-- a stretch that ends in a branch -/
theorem jm_go.brt (k : Nat) {b : Bool} {d : Nat} {Y : jm_M} {pc p1 p2 : Nat} {ls l1 l2 : jm_V} {st s1 s2 : List Value} {t t1 t2 : jm_T} {r : jm_R} (h : ∀ K C, jm_ks d Y K C k pc ls st t = bif b then K p1 l1 s1 t1 else K p2 l2 s2 t2) (hb : b = true) (g : jm_go d Y p1 l1 s1 t1 r) : jm_go d Y pc ls st t r := by
  obtain ⟨n, g⟩ := g
  exact ⟨n + k, jm_ks_run k pc ls st t ((h _ _).trans (by rw [hb]; exact g))⟩
theorem jm_go.brf (k : Nat) {b : Bool} {d : Nat} {Y : jm_M} {pc p1 p2 : Nat} {ls l1 l2 : jm_V} {st s1 s2 : List Value} {t t1 t2 : jm_T} {r : jm_R} (h : ∀ K C, jm_ks d Y K C k pc ls st t = bif b then K p1 l1 s1 t1 else K p2 l2 s2 t2) (hb : b = false) (g : jm_go d Y p2 l2 s2 t2 r) : jm_go d Y pc ls st t r := by
  obtain ⟨n, g⟩ := g
  exact ⟨n + k, jm_ks_run k pc ls st t ((h _ _).trans (by rw [hb]; exact g))⟩
/-- a stretch that ends in a call -/
theorem jm_go.call (k : Nat) {b : Bool} {d u : Nat} {Y : jm_M} {as : List Value} {pc pc' : Nat} {ls ls' : jm_V} {st st' : List Value} {t t' : jm_T} {r r' : jm_R}
    (h : ∀ K C, jm_ks (d + 1) Y K C k pc ls st t = jm_if b (match C u as t' with | some q => K pc' ls' (q.1.toList ++ st') q.2 | none => none)) (hb : b = true) (hl : Nat.ble (lg_sl as).length (jm_G u).1 = true)
    (hc : jm_go d (jm_G u) 0 (jm_en (jm_G u).1 as) [] t' r') (g : jm_go (d + 1) Y pc' ls' (r'.1.toList ++ st') r'.2 r) : jm_go (d + 1) Y pc ls st t r := by
  obtain ⟨n1, hc⟩ := hc
  obtain ⟨n2, g⟩ := g
  have hc' : jm_cf (n1 + n2) (d + 1) u as t' = some r' := by
    unfold jm_cf
    rw [hl]
    exact jm_fuel hc n2
  have hg : jm_run jm_G (n1 + n2) (d + 1) Y pc' ls' (r'.1.toList ++ st') r'.2 = some r := by
    rw [Nat.add_comm n1 n2]
    exact jm_fuel g n1
  refine ⟨n1 + n2 + k, jm_ks_run k pc ls st t ((h _ _).trans ?_)⟩
  rw [hb, hc']
  exact hg
/-- the end of a method -/
theorem jm_go.ret (k : Nat) {d : Nat} {Y : jm_M} {pc : Nat} {ls : jm_V} {st : List Value} {t : jm_T} {r : jm_R} (h : ∀ K C, jm_ks d Y K C k pc ls st t = some r) : jm_go d Y pc ls st t r := ⟨0 + k, jm_ks_run k pc ls st t (h _ _)⟩
theorem jm_go.retz (k : Nat) {b : Bool} {d : Nat} {Y : jm_M} {pc : Nat} {ls : jm_V} {st : List Value} {t : jm_T} {r : jm_R} (h : ∀ K C, jm_ks d Y K C k pc ls st t = jm_if b (some r)) (hb : b = true) : jm_go d Y pc ls st t r := ⟨0 + k, jm_ks_run k pc ls st t ((h _ _).trans (by rw [hb]; rfl))⟩
