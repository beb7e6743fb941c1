/-! the constructors, over any heap -/
def jm_pi (t : jm_T) (a k : Nat) (v : Int32) : jm_T := (t.1, jm_up t.2.1 a k v, t.2.2)
def jm_pr (t : jm_T) (a k b : Nat) : jm_T := ((t.1.1, t.1.2.1, t.1.2.2.1, t.1.2.2.2.1, jm_upR t.1.2.2.2.2 a k (some b)), t.2.1, t.2.2)
def jm_ff (t : jm_T) (a n : Nat) (v : Int32) : jm_T := (t.1, va_up t.2.1 a (fun j => if j < n then v else t.2.1 a j), t.2.2)
theorem jm_is_new {t : jm_T} {k l s a c : Nat} (h : jm_is t.1 a c = true) : jm_is (jm_nw t k l s).1 a c = true := by
  obtain ⟨j, rfl, hj, hk⟩ := jm_is_of h
  simp only [jm_is, jm_nw, Bool.and_eq_true, Nat.blt_eq, Nat.ble_eq]
  refine ⟨⟨by omega, by omega⟩, ?_⟩
  rw [va_up_ne' (by omega), hk]
  exact Nat.beq_refl c
theorem jm_is_own {t : jm_T} {k l s : Nat} : jm_is (jm_nw t k l s).1 (t.1.1 + 1) k = true := by
  simp only [jm_is, jm_nw, Bool.and_eq_true, Nat.blt_eq, Nat.ble_eq]
  refine ⟨⟨by omega, by omega⟩, ?_⟩
  rw [va_up_eq']
  exact Nat.beq_refl k
theorem jm_len_own {t : jm_T} {k l s : Nat} : (jm_nw t k l s).1.2.2.2.1 (t.1.1 + 1) = l := va_up_eq'
theorem jm_len_new {t : jm_T} {k l s a : Nat} (h : a ≤ t.1.1) : (jm_nw t k l s).1.2.2.2.1 a = t.1.2.2.2.1 a := va_up_ne' (by omega)
theorem jm_upR_at {f : Nat → Nat → Option Nat} {a k : Nat} {v : Option Nat} : jm_upR f a k v a k = v := by
  unfold jm_upR
  rw [va_up_eq', va_up_eq']
theorem jm_upR_k {f : Nat → Nat → Option Nat} {a k j : Nat} {v : Option Nat} (h : j ≠ k) : jm_upR f a k v a j = f a j := by
  unfold jm_upR
  rw [va_up_eq', va_up_ne' h]
/-- a Field at a -/
def jm_kF1 (t : jm_T) (a : Nat) : jm_T := jm_pr (jm_nw (jm_pi (jm_pi (jm_pi t a 0 0) a 1 8) a 2 2) 9 24 24) a 3 (t.1.1 + 1)
def jm_kF2 (t : jm_T) (a : Nat) : jm_T := jm_pr (jm_nw (jm_kF1 t a) 9 144 144) a 4 (t.1.1 + 2)
def jm_kF (t : jm_T) (a : Nat) : jm_T := jm_ff (jm_ff (jm_kF2 t a) (t.1.1 + 1) 24 1) (t.1.1 + 2) 144 (-1)
set_option maxRecDepth 20000 in
theorem k9 (d : Nat) (t : jm_T) (a : Nat) (h : jm_is t.1 a 1 = true) : jm_go (d + 1) (jm_G 9) 0 (jm_en 1 [.ref a]) [] t (none, jm_kF t a) := by
  refine jm_go.grd 5 (b := jm_is t.1 a 1) (pc' := 9) (ls' := [some (.ref a)]) (st' := []) (t' := jm_pi t a 0 0) (fun _ _ => rfl) h ?_
  refine jm_go.grd 3 (b := jm_is t.1 a 1) (pc' := 15) (ls' := [some (.ref a)]) (st' := []) (t' := jm_pi (jm_pi t a 0 0) a 1 8) (fun _ _ => rfl) h ?_
  refine jm_go.grd 3 (b := jm_is t.1 a 1) (pc' := 20) (ls' := [some (.ref a)]) (st' := []) (t' := jm_pi (jm_pi (jm_pi t a 0 0) a 1 8) a 2 2) (fun _ _ => rfl) h ?_
  refine jm_go.grd 4 (b := jm_is (jm_nw (jm_pi (jm_pi (jm_pi t a 0 0) a 1 8) a 2 2) 9 24 24).1 a 1) (pc' := 28) (ls' := [some (.ref a)]) (st' := []) (t' := jm_kF1 t a) (fun _ _ => rfl) (jm_is_new h) ?_
  have h1 : jm_is (jm_kF1 t a).1 a 1 = true := jm_is_new (t := jm_pi (jm_pi (jm_pi t a 0 0) a 1 8) a 2 2) (k := 9) (l := 24) (s := 24) h
  refine jm_go.grd 4 (b := jm_is (jm_nw (jm_kF1 t a) 9 144 144).1 a 1) (pc' := 37) (ls' := [some (.ref a)]) (st' := []) (t' := jm_kF2 t a) (fun _ _ => rfl) (jm_is_new h1) ?_
  have h2 : jm_is (jm_kF2 t a).1 a 1 = true := jm_is_new (t := jm_kF1 t a) (k := 9) (l := 144) (s := 144) h1
  have e1 : (jm_kF2 t a).1.2.2.2.2 a 3 = some (t.1.1 + 1) := by
    show jm_upR (jm_nw (jm_kF1 t a) 9 144 144).1.2.2.2.2 a 4 (some (t.1.1 + 2)) a 3 = _
    rw [jm_upR_k (by omega)]
    obtain ⟨j, rfl, hj, -⟩ := jm_is_of h
    show va_up (jm_kF1 t (j + 1)).1.2.2.2.2 (t.1.1 + 1 + 1) (fun _ => none) (j + 1) 3 = _
    rw [va_up_ne' (by omega)]
    exact jm_upR_at
  have e2 : (jm_kF2 t a).1.2.2.2.2 a 4 = some (t.1.1 + 2) := jm_upR_at
  have g1 : jm_is (jm_kF2 t a).1 (t.1.1 + 1) 9 = true := jm_is_new (t := jm_kF1 t a) (k := 9) (l := 144) (s := 144) (jm_is_own (t := jm_pi (jm_pi (jm_pi t a 0 0) a 1 8) a 2 2) (k := 9) (l := 24) (s := 24))
  have g2 : jm_is (jm_kF2 t a).1 (t.1.1 + 2) 9 = true := jm_is_own (t := jm_kF1 t a) (k := 9) (l := 144) (s := 144)
  have l1 : (jm_kF2 t a).1.2.2.2.1 (t.1.1 + 1) = 24 := (jm_len_new (t := jm_kF1 t a) (k := 9) (l := 144) (s := 144) (Nat.le_refl (t.1.1 + 1))).trans (jm_len_own (t := jm_pi (jm_pi (jm_pi t a 0 0) a 1 8) a 2 2) (k := 9) (l := 24) (s := 24))
  have l2 : (jm_kF2 t a).1.2.2.2.1 (t.1.1 + 2) = 144 := jm_len_own (t := jm_kF1 t a) (k := 9) (l := 144) (s := 144)
  refine jm_go.gfr 2 (b := jm_is (jm_kF2 t a).1 a 1) (o := (jm_kF2 t a).1.2.2.2.2 a 3) (q := t.1.1 + 1) (pc' := 41) (ls' := [some (.ref a)]) (st' := []) (t' := jm_kF2 t a) (fun _ _ => rfl) h2 e1 ?_
  refine jm_go.call 2 (d := d) (b := true) (u := 165) (as := [.ref (t.1.1 + 1), .int 1]) (pc' := 45) (ls' := [some (.ref a)]) (st' := []) (t' := jm_kF2 t a) (fun _ _ => rfl) rfl rfl (jm_fill d (jm_kF2 t a).1 (jm_kF2 t a).2.1 (jm_kF2 t a).2.2 (t.1.1 + 1) 24 1 g1 l1 (by decide)) ?_
  refine jm_go.gfr 2 (b := jm_is (jm_kF2 t a).1 a 1) (o := (jm_kF2 t a).1.2.2.2.2 a 4) (q := t.1.1 + 2) (pc' := 49) (ls' := [some (.ref a)]) (st' := []) (t' := jm_ff (jm_kF2 t a) (t.1.1 + 1) 24 1) (fun _ _ => rfl) h2 e2 ?_
  refine jm_go.call 2 (d := d) (b := true) (u := 165) (as := [.ref (t.1.1 + 2), .int (-1)]) (pc' := 53) (ls' := [some (.ref a)]) (st' := []) (t' := jm_ff (jm_kF2 t a) (t.1.1 + 1) 24 1) (fun _ _ => rfl) rfl rfl (jm_fill d (jm_kF2 t a).1 (jm_ff (jm_kF2 t a) (t.1.1 + 1) 24 1).2.1 (jm_kF2 t a).2.2 (t.1.1 + 2) 144 (-1) g2 l2 (by decide)) ?_
  exact jm_go.ret 1 (fun _ _ => rfl)
