/-! methods as functions: printed by wip/whole/gen/lay.py (funs.py) -/

/-- X6_countLookedAt -/
def f54 (M : jm_MM) (x0 : Int32) (x1 : Int32) (x2 : Int32) : Option (Int32) := jm_bd (f55 30 M (M 105 0) x0 x1 x2 0) (fun q1 => some q1)
set_option maxRecDepth 100000 in
theorem g54 (L : Nat) (d : Nat) (M : jm_MM) (J : jm_JJ) (x0 : Int32) (x1 : Int32) (x2 : Int32) (r : Int32) (H : f54 M x0 x1 x2 = some r) : jm_go (d + 31) (jm_G 54) 0 (jm_en 4 [.ref 105, .int x0, .int x1, .int x2]) [] (jm_S0 L, M, J) (some (.int r), (jm_S0 L, M, J)) := by
  unfold f54 at H
  obtain ⟨q1, h2, H⟩ := jm_bdo H
  refine jm_go.call 8 (d := d + 30) (b := true) (u := 55) (as := [.ref 105, .int (M 105 0), .int x0, .int x1, .int x2, .int 0]) (pc' := 12) (ls' := [some (.ref 105), some (.int x0), some (.int x1), some (.int x2)]) (st' := []) (t' := (jm_S0 L, M, J)) (fun _ _ => rfl) rfl rfl (g55 L d 30 M J (M 105 0) x0 x1 x2 0 _ h2) ?_
  have H := Option.some.inj H
  subst H
  exact jm_go.ret 1 (fun _ _ => rfl)


/-- X7_remember -/
def f88 (M : jm_MM)  : Option (jm_MM) := jm_bd (f46 M) (fun q1 => some (jm_up q1 39 0 0))
set_option maxRecDepth 100000 in
theorem g88 (L : Nat) (d : Nat) (M : jm_MM) (J : jm_JJ)  (r : jm_MM) (H : f88 M  = some r) : jm_go (d + 3) (jm_G 88) 0 (jm_en 1 [.ref 1]) [] (jm_S0 L, M, J) (none, (jm_S0 L, r, J)) := by
  unfold f88 at H
  obtain ⟨q1, h2, H⟩ := jm_bdo H
  refine jm_go.call 5 (d := d + 2) (b := true) (u := 46) (as := [.ref 5, .ref 2]) (pc' := 11) (ls' := [some (.ref 1)]) (st' := []) (t' := (jm_S0 L, M, J)) (fun _ _ => rfl) rfl rfl (g46 L d M J _ h2) ?_
  have H := Option.some.inj H
  subst H
  exact jm_go.ret 5 (fun _ _ => rfl)


/-- X7_picture -/
def f57 (M : jm_MM)  : Option (Int32 × jm_MM) := bif decide ((M 2 0) < 6) then (jm_bd (f88 M) (fun q2 => jm_bd (f11 q2) (fun q4 => some (q4.1, q4.2)))) else (some ((-1000000004), M))
set_option maxRecDepth 100000 in
theorem g57 (L : Nat) (d : Nat) (M : jm_MM) (J : jm_JJ)  (r : Int32 × jm_MM) (H : f57 M  = some r) : jm_go (d + 4) (jm_G 57) 0 (jm_en 1 [.ref 1]) [] (jm_S0 L, M, J) (some (.int r.1), (jm_S0 L, r.2, J)) := by
  unfold f57 at H
  rcases jm_bro H with ⟨h1, H⟩ | ⟨h1, H⟩
  · refine jm_go.brt 5 (b := decide ((M 2 0) < 6)) (p1 := 15) (l1 := [some (.ref 1)]) (s1 := []) (t1 := (jm_S0 L, M, J)) (p2 := 12) (l2 := [some (.ref 1)]) (s2 := []) (t2 := (jm_S0 L, M, J)) (fun _ _ => rfl) h1 ?_
    obtain ⟨q2, h3, H⟩ := jm_bdo H
    refine jm_go.call 2 (d := d + 3) (b := true) (u := 88) (as := [.ref 1]) (pc' := 19) (ls' := [some (.ref 1)]) (st' := []) (t' := (jm_S0 L, M, J)) (fun _ _ => rfl) rfl rfl (g88 L d M J _ h3) ?_
    obtain ⟨q4, h5, H⟩ := jm_bdo H
    refine jm_go.call 3 (d := d + 3) (b := true) (u := 11) (as := [.ref 2]) (pc' := 26) (ls' := [some (.ref 1)]) (st' := []) (t' := (jm_S0 L, q2, J)) (fun _ _ => rfl) rfl rfl (g11 L (d + 2) q2 J _ h5) ?_
    have H := Option.some.inj H
    subst H
    exact jm_go.ret 1 (fun _ _ => rfl)
  · refine jm_go.brf 5 (b := decide ((M 2 0) < 6)) (p1 := 15) (l1 := [some (.ref 1)]) (s1 := []) (t1 := (jm_S0 L, M, J)) (p2 := 12) (l2 := [some (.ref 1)]) (s2 := []) (t2 := (jm_S0 L, M, J)) (fun _ _ => rfl) h1 ?_
    have H := Option.some.inj H
    subst H
    exact jm_go.ret 2 (fun _ _ => rfl)


/-- X7_drop -/
def f58 (M : jm_MM)  : Option (Int32 × jm_MM) := bif decide (1 ≤ (M 2 0)) then (jm_bd (f88 M) (fun q2 => some ((jm_up q2 2 0 ((q2 2 0) - 1)) 2 0, (jm_up q2 2 0 ((q2 2 0) - 1))))) else (some ((-1000000003), M))
set_option maxRecDepth 100000 in
theorem g58 (L : Nat) (d : Nat) (M : jm_MM) (J : jm_JJ)  (r : Int32 × jm_MM) (H : f58 M  = some r) : jm_go (d + 4) (jm_G 58) 0 (jm_en 1 [.ref 1]) [] (jm_S0 L, M, J) (some (.int r.1), (jm_S0 L, r.2, J)) := by
  unfold f58 at H
  rcases jm_bro H with ⟨h1, H⟩ | ⟨h1, H⟩
  · refine jm_go.brt 5 (b := decide (1 ≤ (M 2 0))) (p1 := 14) (l1 := [some (.ref 1)]) (s1 := []) (t1 := (jm_S0 L, M, J)) (p2 := 11) (l2 := [some (.ref 1)]) (s2 := []) (t2 := (jm_S0 L, M, J)) (fun _ _ => rfl) h1 ?_
    obtain ⟨q2, h3, H⟩ := jm_bdo H
    refine jm_go.call 2 (d := d + 3) (b := true) (u := 88) (as := [.ref 1]) (pc' := 18) (ls' := [some (.ref 1)]) (st' := []) (t' := (jm_S0 L, M, J)) (fun _ _ => rfl) rfl rfl (g88 L d M J _ h3) ?_
    have H := Option.some.inj H
    subst H
    exact jm_go.ret 11 (fun _ _ => rfl)
  · refine jm_go.brf 5 (b := decide (1 ≤ (M 2 0))) (p1 := 14) (l1 := [some (.ref 1)]) (s1 := []) (t1 := (jm_S0 L, M, J)) (p2 := 11) (l2 := [some (.ref 1)]) (s2 := []) (t2 := (jm_S0 L, M, J)) (fun _ _ => rfl) h1 ?_
    have H := Option.some.inj H
    subst H
    exact jm_go.ret 2 (fun _ _ => rfl)


/-- X7_isPicture -/
def f80 (M : jm_MM) (x0 : Int32) : Option (Int32) := bif decide (x0 < 0) then (some 0) else (bif decide ((M 2 0) ≤ x0) then (some 0) else (some 1))
set_option maxRecDepth 100000 in
theorem g80 (L : Nat) (d : Nat) (M : jm_MM) (J : jm_JJ) (x0 : Int32) (r : Int32) (H : f80 M x0 = some r) : jm_go d (jm_G 80) 0 (jm_en 2 [.ref 1, .int x0]) [] (jm_S0 L, M, J) (some (.int r), (jm_S0 L, M, J)) := by
  unfold f80 at H
  rcases jm_bro H with ⟨h1, H⟩ | ⟨h1, H⟩
  · refine jm_go.brt 2 (b := decide (x0 < 0)) (p1 := 19) (l1 := [some (.ref 1), some (.int x0)]) (s1 := []) (t1 := (jm_S0 L, M, J)) (p2 := 4) (l2 := [some (.ref 1), some (.int x0)]) (s2 := []) (t2 := (jm_S0 L, M, J)) (fun _ _ => rfl) h1 ?_
    have H := Option.some.inj H
    subst H
    exact jm_go.retz 2 (b := jm_z1 0) (fun _ _ => rfl) rfl
  · refine jm_go.brf 2 (b := decide (x0 < 0)) (p1 := 19) (l1 := [some (.ref 1), some (.int x0)]) (s1 := []) (t1 := (jm_S0 L, M, J)) (p2 := 4) (l2 := [some (.ref 1), some (.int x0)]) (s2 := []) (t2 := (jm_S0 L, M, J)) (fun _ _ => rfl) h1 ?_
    rcases jm_bro H with ⟨h2, H⟩ | ⟨h2, H⟩
    · refine jm_go.brt 5 (b := decide ((M 2 0) ≤ x0)) (p1 := 19) (l1 := [some (.ref 1), some (.int x0)]) (s1 := []) (t1 := (jm_S0 L, M, J)) (p2 := 15) (l2 := [some (.ref 1), some (.int x0)]) (s2 := []) (t2 := (jm_S0 L, M, J)) (fun _ _ => rfl) h2 ?_
      have H := Option.some.inj H
      subst H
      exact jm_go.retz 2 (b := jm_z1 0) (fun _ _ => rfl) rfl
    · refine jm_go.brf 5 (b := decide ((M 2 0) ≤ x0)) (p1 := 19) (l1 := [some (.ref 1), some (.int x0)]) (s1 := []) (t1 := (jm_S0 L, M, J)) (p2 := 15) (l2 := [some (.ref 1), some (.int x0)]) (s2 := []) (t2 := (jm_S0 L, M, J)) (fun _ _ => rfl) h2 ?_
      have H := Option.some.inj H
      subst H
      exact jm_go.retz 3 (b := jm_z1 1) (fun _ _ => rfl) rfl


/-- X7_isBetween -/
def f86 (M : jm_MM) (x0 : Int32) (x1 : Int32) (x2 : Int32) : Option (Int32) := bif decide (x0 < x1) then (some 0) else (bif decide (x2 < x0) then (some 0) else (some 1))
set_option maxRecDepth 100000 in
theorem g86 (L : Nat) (d : Nat) (M : jm_MM) (J : jm_JJ) (x0 : Int32) (x1 : Int32) (x2 : Int32) (r : Int32) (H : f86 M x0 x1 x2 = some r) : jm_go d (jm_G 86) 0 (jm_en 3 [.int x0, .int x1, .int x2]) [] (jm_S0 L, M, J) (some (.int r), (jm_S0 L, M, J)) := by
  unfold f86 at H
  rcases jm_bro H with ⟨h1, H⟩ | ⟨h1, H⟩
  · refine jm_go.brt 3 (b := decide (x0 < x1)) (p1 := 14) (l1 := [some (.int x0), some (.int x1), some (.int x2)]) (s1 := []) (t1 := (jm_S0 L, M, J)) (p2 := 5) (l2 := [some (.int x0), some (.int x1), some (.int x2)]) (s2 := []) (t2 := (jm_S0 L, M, J)) (fun _ _ => rfl) h1 ?_
    have H := Option.some.inj H
    subst H
    exact jm_go.retz 2 (b := jm_z1 0) (fun _ _ => rfl) rfl
  · refine jm_go.brf 3 (b := decide (x0 < x1)) (p1 := 14) (l1 := [some (.int x0), some (.int x1), some (.int x2)]) (s1 := []) (t1 := (jm_S0 L, M, J)) (p2 := 5) (l2 := [some (.int x0), some (.int x1), some (.int x2)]) (s2 := []) (t2 := (jm_S0 L, M, J)) (fun _ _ => rfl) h1 ?_
    rcases jm_bro H with ⟨h2, H⟩ | ⟨h2, H⟩
    · refine jm_go.brt 3 (b := decide (x2 < x0)) (p1 := 14) (l1 := [some (.int x0), some (.int x1), some (.int x2)]) (s1 := []) (t1 := (jm_S0 L, M, J)) (p2 := 10) (l2 := [some (.int x0), some (.int x1), some (.int x2)]) (s2 := []) (t2 := (jm_S0 L, M, J)) (fun _ _ => rfl) h2 ?_
      have H := Option.some.inj H
      subst H
      exact jm_go.retz 2 (b := jm_z1 0) (fun _ _ => rfl) rfl
    · refine jm_go.brf 3 (b := decide (x2 < x0)) (p1 := 14) (l1 := [some (.int x0), some (.int x1), some (.int x2)]) (s1 := []) (t1 := (jm_S0 L, M, J)) (p2 := 10) (l2 := [some (.int x0), some (.int x1), some (.int x2)]) (s2 := []) (t2 := (jm_S0 L, M, J)) (fun _ _ => rfl) h2 ?_
      have H := Option.some.inj H
      subst H
      exact jm_go.retz 3 (b := jm_z1 1) (fun _ _ => rfl) rfl


/-- X7_isGrain -/
def f83 (M : jm_MM) (x0 : Int32) : Option (Int32) := jm_bd (f86 M x0 0 23) (fun q1 => jm_gd (jm_z1 q1) (some q1))
set_option maxRecDepth 100000 in
theorem g83 (L : Nat) (d : Nat) (M : jm_MM) (J : jm_JJ) (x0 : Int32) (r : Int32) (H : f83 M x0 = some r) : jm_go (d + 1) (jm_G 83) 0 (jm_en 1 [.int x0]) [] (jm_S0 L, M, J) (some (.int r), (jm_S0 L, M, J)) := by
  unfold f83 at H
  obtain ⟨q1, h2, H⟩ := jm_bdo H
  refine jm_go.call 4 (d := d) (b := true) (u := 86) (as := [.int x0, .int 0, .int 23]) (pc' := 7) (ls' := [some (.int x0)]) (st' := []) (t' := (jm_S0 L, M, J)) (fun _ _ => rfl) rfl rfl (g86 L d M J x0 0 23 _ h2) ?_
  obtain ⟨h3, H⟩ := jm_gdo H
  have H := Option.some.inj H
  subst H
  exact jm_go.retz 1 (b := jm_z1 q1) (fun _ _ => rfl) h3


/-- X7_isGrainOfPicture -/
def f81 (M : jm_MM) (x0 : Int32) (x1 : Int32) : Option (Int32) := jm_bd (f80 M x0) (fun q1 => bif decide (q1 = 0) then (some 0) else (jm_bd (f83 M x1) (fun q4 => bif decide (q4 = 0) then (some 0) else (some 1))))
set_option maxRecDepth 100000 in
theorem g81 (L : Nat) (d : Nat) (M : jm_MM) (J : jm_JJ) (x0 : Int32) (x1 : Int32) (r : Int32) (H : f81 M x0 x1 = some r) : jm_go (d + 2) (jm_G 81) 0 (jm_en 3 [.ref 1, .int x0, .int x1]) [] (jm_S0 L, M, J) (some (.int r), (jm_S0 L, M, J)) := by
  unfold f81 at H
  obtain ⟨q1, h2, H⟩ := jm_bdo H
  refine jm_go.call 3 (d := d + 1) (b := true) (u := 80) (as := [.ref 1, .int x0]) (pc' := 5) (ls' := [some (.ref 1), some (.int x0), some (.int x1)]) (st' := []) (t' := (jm_S0 L, M, J)) (fun _ _ => rfl) rfl rfl (g80 L (d + 1) M J x0 _ h2) ?_
  rcases jm_bro H with ⟨h3, H⟩ | ⟨h3, H⟩
  · refine jm_go.brt 1 (b := decide (q1 = 0)) (p1 := 19) (l1 := [some (.ref 1), some (.int x0), some (.int x1)]) (s1 := []) (t1 := (jm_S0 L, M, J)) (p2 := 8) (l2 := [some (.ref 1), some (.int x0), some (.int x1)]) (s2 := []) (t2 := (jm_S0 L, M, J)) (fun _ _ => rfl) h3 ?_
    have H := Option.some.inj H
    subst H
    exact jm_go.retz 2 (b := jm_z1 0) (fun _ _ => rfl) rfl
  · refine jm_go.brf 1 (b := decide (q1 = 0)) (p1 := 19) (l1 := [some (.ref 1), some (.int x0), some (.int x1)]) (s1 := []) (t1 := (jm_S0 L, M, J)) (p2 := 8) (l2 := [some (.ref 1), some (.int x0), some (.int x1)]) (s2 := []) (t2 := (jm_S0 L, M, J)) (fun _ _ => rfl) h3 ?_
    obtain ⟨q4, h5, H⟩ := jm_bdo H
    refine jm_go.call 2 (d := d + 1) (b := true) (u := 83) (as := [.int x1]) (pc' := 12) (ls' := [some (.ref 1), some (.int x0), some (.int x1)]) (st' := []) (t' := (jm_S0 L, M, J)) (fun _ _ => rfl) rfl rfl (g83 L d M J x1 _ h5) ?_
    rcases jm_bro H with ⟨h6, H⟩ | ⟨h6, H⟩
    · refine jm_go.brt 1 (b := decide (q4 = 0)) (p1 := 19) (l1 := [some (.ref 1), some (.int x0), some (.int x1)]) (s1 := []) (t1 := (jm_S0 L, M, J)) (p2 := 15) (l2 := [some (.ref 1), some (.int x0), some (.int x1)]) (s2 := []) (t2 := (jm_S0 L, M, J)) (fun _ _ => rfl) h6 ?_
      have H := Option.some.inj H
      subst H
      exact jm_go.retz 2 (b := jm_z1 0) (fun _ _ => rfl) rfl
    · refine jm_go.brf 1 (b := decide (q4 = 0)) (p1 := 19) (l1 := [some (.ref 1), some (.int x0), some (.int x1)]) (s1 := []) (t1 := (jm_S0 L, M, J)) (p2 := 15) (l2 := [some (.ref 1), some (.int x0), some (.int x1)]) (s2 := []) (t2 := (jm_S0 L, M, J)) (fun _ _ => rfl) h6 ?_
      have H := Option.some.inj H
      subst H
      exact jm_go.retz 3 (b := jm_z1 1) (fun _ _ => rfl) rfl


/-- X7_isOnField -/
def f85 (M : jm_MM) (x0 : Int32) (x1 : Int32) : Option (Int32) := jm_bd (f86 M x0 0 63) (fun q1 => bif decide (q1 = 0) then (some 0) else (jm_bd (f86 M x1 0 63) (fun q4 => bif decide (q4 = 0) then (some 0) else (some 1))))
set_option maxRecDepth 100000 in
theorem g85 (L : Nat) (d : Nat) (M : jm_MM) (J : jm_JJ) (x0 : Int32) (x1 : Int32) (r : Int32) (H : f85 M x0 x1 = some r) : jm_go (d + 1) (jm_G 85) 0 (jm_en 2 [.int x0, .int x1]) [] (jm_S0 L, M, J) (some (.int r), (jm_S0 L, M, J)) := by
  unfold f85 at H
  obtain ⟨q1, h2, H⟩ := jm_bdo H
  refine jm_go.call 4 (d := d) (b := true) (u := 86) (as := [.int x0, .int 0, .int 63]) (pc' := 7) (ls' := [some (.int x0), some (.int x1)]) (st' := []) (t' := (jm_S0 L, M, J)) (fun _ _ => rfl) rfl rfl (g86 L d M J x0 0 63 _ h2) ?_
  rcases jm_bro H with ⟨h3, H⟩ | ⟨h3, H⟩
  · refine jm_go.brt 1 (b := decide (q1 = 0)) (p1 := 24) (l1 := [some (.int x0), some (.int x1)]) (s1 := []) (t1 := (jm_S0 L, M, J)) (p2 := 10) (l2 := [some (.int x0), some (.int x1)]) (s2 := []) (t2 := (jm_S0 L, M, J)) (fun _ _ => rfl) h3 ?_
    have H := Option.some.inj H
    subst H
    exact jm_go.retz 2 (b := jm_z1 0) (fun _ _ => rfl) rfl
  · refine jm_go.brf 1 (b := decide (q1 = 0)) (p1 := 24) (l1 := [some (.int x0), some (.int x1)]) (s1 := []) (t1 := (jm_S0 L, M, J)) (p2 := 10) (l2 := [some (.int x0), some (.int x1)]) (s2 := []) (t2 := (jm_S0 L, M, J)) (fun _ _ => rfl) h3 ?_
    obtain ⟨q4, h5, H⟩ := jm_bdo H
    refine jm_go.call 4 (d := d) (b := true) (u := 86) (as := [.int x1, .int 0, .int 63]) (pc' := 17) (ls' := [some (.int x0), some (.int x1)]) (st' := []) (t' := (jm_S0 L, M, J)) (fun _ _ => rfl) rfl rfl (g86 L d M J x1 0 63 _ h5) ?_
    rcases jm_bro H with ⟨h6, H⟩ | ⟨h6, H⟩
    · refine jm_go.brt 1 (b := decide (q4 = 0)) (p1 := 24) (l1 := [some (.int x0), some (.int x1)]) (s1 := []) (t1 := (jm_S0 L, M, J)) (p2 := 20) (l2 := [some (.int x0), some (.int x1)]) (s2 := []) (t2 := (jm_S0 L, M, J)) (fun _ _ => rfl) h6 ?_
      have H := Option.some.inj H
      subst H
      exact jm_go.retz 2 (b := jm_z1 0) (fun _ _ => rfl) rfl
    · refine jm_go.brf 1 (b := decide (q4 = 0)) (p1 := 24) (l1 := [some (.int x0), some (.int x1)]) (s1 := []) (t1 := (jm_S0 L, M, J)) (p2 := 20) (l2 := [some (.int x0), some (.int x1)]) (s2 := []) (t2 := (jm_S0 L, M, J)) (fun _ _ => rfl) h6 ?_
      have H := Option.some.inj H
      subst H
      exact jm_go.retz 3 (b := jm_z1 1) (fun _ _ => rfl) rfl

def f59_45  (M : jm_MM) (v1 : Int32) (v2 : Int32) (v3 : Int32) (v4 : Int32) (s0 : Int32) : Option (Int32 × jm_MM) := jm_bd (f12 M v1 v2 v3 v4) (fun q12 => some (s0, q12))
set_option maxRecDepth 100000 in
theorem g59_45 (L : Nat) (d : Nat) (_M : jm_MM) (J : jm_JJ) (M : jm_MM) (v1 : Int32) (v2 : Int32) (v3 : Int32) (v4 : Int32) (s0 : Int32) (r : Int32 × jm_MM) (H : f59_45  M v1 v2 v3 v4 s0 = some r) : jm_go (d + 4) (jm_G 59) 45 [some (.ref 1), some (.int v1), some (.int v2), some (.int v3), some (.int v4), none] [.int s0] (jm_S0 L, M, J) (some (.int r.1), (jm_S0 L, r.2, J)) := by
  unfold f59_45 at H
  obtain ⟨q12, h13, H⟩ := jm_bdo H
  refine jm_go.call 8 (d := d + 3) (b := true) (u := 12) (as := [.ref 2, .int v1, .int v2, .int v3, .int v4]) (pc' := 59) (ls' := [some (.ref 1), some (.int v1), some (.int v2), some (.int v3), some (.int v4), some (.int s0)]) (st' := []) (t' := (jm_S0 L, M, J)) (fun _ _ => rfl) rfl rfl (g12 L (d + 3) M J v1 v2 v3 v4 _ h13) ?_
  have H := Option.some.inj H
  subst H
  exact jm_go.ret 2 (fun _ _ => rfl)

/-- X7_put -/
def f59 (M : jm_MM) (x0 : Int32) (x1 : Int32) (x2 : Int32) (x3 : Int32) : Option (Int32 × jm_MM) := jm_bd (f81 M x0 x1) (fun q1 => bif !decide (q1 = 0) then (jm_bd (f85 M x2 x3) (fun q4 => bif !decide (q4 = 0) then (jm_bd (f88 M) (fun q7 => jm_bd (f14 q7 x0 x1) (fun q9 => bif decide (q9 = 0) then (f59_45   q7 x0 x1 x2 x3 0) else (f59_45   q7 x0 x1 x2 x3 1)))) else (some ((-1000000002), M)))) else (some ((-1000000001), M)))
set_option maxRecDepth 100000 in
theorem g59 (L : Nat) (d : Nat) (M : jm_MM) (J : jm_JJ) (x0 : Int32) (x1 : Int32) (x2 : Int32) (x3 : Int32) (r : Int32 × jm_MM) (H : f59 M x0 x1 x2 x3 = some r) : jm_go (d + 4) (jm_G 59) 0 (jm_en 6 [.ref 1, .int x0, .int x1, .int x2, .int x3]) [] (jm_S0 L, M, J) (some (.int r.1), (jm_S0 L, r.2, J)) := by
  unfold f59 at H
  obtain ⟨q1, h2, H⟩ := jm_bdo H
  refine jm_go.call 4 (d := d + 3) (b := true) (u := 81) (as := [.ref 1, .int x0, .int x1]) (pc' := 6) (ls' := [some (.ref 1), some (.int x0), some (.int x1), some (.int x2), some (.int x3), none]) (st' := []) (t' := (jm_S0 L, M, J)) (fun _ _ => rfl) rfl rfl (g81 L (d + 1) M J x0 x1 _ h2) ?_
  rcases jm_bro H with ⟨h3, H⟩ | ⟨h3, H⟩
  · refine jm_go.brt 1 (b := !decide (q1 = 0)) (p1 := 12) (l1 := [some (.ref 1), some (.int x0), some (.int x1), some (.int x2), some (.int x3), none]) (s1 := []) (t1 := (jm_S0 L, M, J)) (p2 := 9) (l2 := [some (.ref 1), some (.int x0), some (.int x1), some (.int x2), some (.int x3), none]) (s2 := []) (t2 := (jm_S0 L, M, J)) (fun _ _ => rfl) h3 ?_
    obtain ⟨q4, h5, H⟩ := jm_bdo H
    refine jm_go.call 3 (d := d + 3) (b := true) (u := 85) (as := [.int x2, .int x3]) (pc' := 18) (ls' := [some (.ref 1), some (.int x0), some (.int x1), some (.int x2), some (.int x3), none]) (st' := []) (t' := (jm_S0 L, M, J)) (fun _ _ => rfl) rfl rfl (g85 L (d + 2) M J x2 x3 _ h5) ?_
    rcases jm_bro H with ⟨h6, H⟩ | ⟨h6, H⟩
    · refine jm_go.brt 1 (b := !decide (q4 = 0)) (p1 := 24) (l1 := [some (.ref 1), some (.int x0), some (.int x1), some (.int x2), some (.int x3), none]) (s1 := []) (t1 := (jm_S0 L, M, J)) (p2 := 21) (l2 := [some (.ref 1), some (.int x0), some (.int x1), some (.int x2), some (.int x3), none]) (s2 := []) (t2 := (jm_S0 L, M, J)) (fun _ _ => rfl) h6 ?_
      obtain ⟨q7, h8, H⟩ := jm_bdo H
      refine jm_go.call 2 (d := d + 3) (b := true) (u := 88) (as := [.ref 1]) (pc' := 28) (ls' := [some (.ref 1), some (.int x0), some (.int x1), some (.int x2), some (.int x3), none]) (st' := []) (t' := (jm_S0 L, M, J)) (fun _ _ => rfl) rfl rfl (g88 L d M J _ h8) ?_
      obtain ⟨q9, h10, H⟩ := jm_bdo H
      refine jm_go.call 5 (d := d + 3) (b := true) (u := 14) (as := [.ref 2, .int x0, .int x1]) (pc' := 37) (ls' := [some (.ref 1), some (.int x0), some (.int x1), some (.int x2), some (.int x3), none]) (st' := []) (t' := (jm_S0 L, q7, J)) (fun _ _ => rfl) rfl rfl (g14 L (d + 3) q7 J x0 x1 _ h10) ?_
      rcases jm_bro H with ⟨h11, H⟩ | ⟨h11, H⟩
      · refine jm_go.brt 1 (b := decide (q9 = 0)) (p1 := 44) (l1 := [some (.ref 1), some (.int x0), some (.int x1), some (.int x2), some (.int x3), none]) (s1 := []) (t1 := (jm_S0 L, q7, J)) (p2 := 40) (l2 := [some (.ref 1), some (.int x0), some (.int x1), some (.int x2), some (.int x3), none]) (s2 := []) (t2 := (jm_S0 L, q7, J)) (fun _ _ => rfl) h11 ?_
        refine jm_go.blk 1 (pc' := 45) (ls' := [some (.ref 1), some (.int x0), some (.int x1), some (.int x2), some (.int x3), none]) (st' := [.int 0]) (t' := (jm_S0 L, q7, J)) (fun _ _ => rfl) ?_
        exact g59_45 L d M J  q7 x0 x1 x2 x3 0 _ H
      · refine jm_go.brf 1 (b := decide (q9 = 0)) (p1 := 44) (l1 := [some (.ref 1), some (.int x0), some (.int x1), some (.int x2), some (.int x3), none]) (s1 := []) (t1 := (jm_S0 L, q7, J)) (p2 := 40) (l2 := [some (.ref 1), some (.int x0), some (.int x1), some (.int x2), some (.int x3), none]) (s2 := []) (t2 := (jm_S0 L, q7, J)) (fun _ _ => rfl) h11 ?_
        refine jm_go.blk 2 (pc' := 45) (ls' := [some (.ref 1), some (.int x0), some (.int x1), some (.int x2), some (.int x3), none]) (st' := [.int 1]) (t' := (jm_S0 L, q7, J)) (fun _ _ => rfl) ?_
        exact g59_45 L d M J  q7 x0 x1 x2 x3 1 _ H
    · refine jm_go.brf 1 (b := !decide (q4 = 0)) (p1 := 24) (l1 := [some (.ref 1), some (.int x0), some (.int x1), some (.int x2), some (.int x3), none]) (s1 := []) (t1 := (jm_S0 L, M, J)) (p2 := 21) (l2 := [some (.ref 1), some (.int x0), some (.int x1), some (.int x2), some (.int x3), none]) (s2 := []) (t2 := (jm_S0 L, M, J)) (fun _ _ => rfl) h6 ?_
      have H := Option.some.inj H
      subst H
      exact jm_go.ret 2 (fun _ _ => rfl)
  · refine jm_go.brf 1 (b := !decide (q1 = 0)) (p1 := 12) (l1 := [some (.ref 1), some (.int x0), some (.int x1), some (.int x2), some (.int x3), none]) (s1 := []) (t1 := (jm_S0 L, M, J)) (p2 := 9) (l2 := [some (.ref 1), some (.int x0), some (.int x1), some (.int x2), some (.int x3), none]) (s2 := []) (t2 := (jm_S0 L, M, J)) (fun _ _ => rfl) h3 ?_
    have H := Option.some.inj H
    subst H
    exact jm_go.ret 2 (fun _ _ => rfl)


/-- J6_bitCount_0f7a4 -/
def f164 (M : jm_MM) (x0 : Int32) : Option (Int32) := some ((((((((x0 - (((x0.toUInt32 >>> (Int32.toUInt32 1 &&& Int32.toUInt32 31)).toInt32) &&& 1431655765)) &&& 858993459) + ((((x0 - (((x0.toUInt32 >>> (Int32.toUInt32 1 &&& Int32.toUInt32 31)).toInt32) &&& 1431655765)).toUInt32 >>> (Int32.toUInt32 2 &&& Int32.toUInt32 31)).toInt32) &&& 858993459)) + (((((x0 - (((x0.toUInt32 >>> (Int32.toUInt32 1 &&& Int32.toUInt32 31)).toInt32) &&& 1431655765)) &&& 858993459) + ((((x0 - (((x0.toUInt32 >>> (Int32.toUInt32 1 &&& Int32.toUInt32 31)).toInt32) &&& 1431655765)).toUInt32 >>> (Int32.toUInt32 2 &&& Int32.toUInt32 31)).toInt32) &&& 858993459)).toUInt32 >>> (Int32.toUInt32 4 &&& Int32.toUInt32 31)).toInt32)) &&& 252645135) + (((((((x0 - (((x0.toUInt32 >>> (Int32.toUInt32 1 &&& Int32.toUInt32 31)).toInt32) &&& 1431655765)) &&& 858993459) + ((((x0 - (((x0.toUInt32 >>> (Int32.toUInt32 1 &&& Int32.toUInt32 31)).toInt32) &&& 1431655765)).toUInt32 >>> (Int32.toUInt32 2 &&& Int32.toUInt32 31)).toInt32) &&& 858993459)) + (((((x0 - (((x0.toUInt32 >>> (Int32.toUInt32 1 &&& Int32.toUInt32 31)).toInt32) &&& 1431655765)) &&& 858993459) + ((((x0 - (((x0.toUInt32 >>> (Int32.toUInt32 1 &&& Int32.toUInt32 31)).toInt32) &&& 1431655765)).toUInt32 >>> (Int32.toUInt32 2 &&& Int32.toUInt32 31)).toInt32) &&& 858993459)).toUInt32 >>> (Int32.toUInt32 4 &&& Int32.toUInt32 31)).toInt32)) &&& 252645135).toUInt32 >>> (Int32.toUInt32 8 &&& Int32.toUInt32 31)).toInt32)) + ((((((((x0 - (((x0.toUInt32 >>> (Int32.toUInt32 1 &&& Int32.toUInt32 31)).toInt32) &&& 1431655765)) &&& 858993459) + ((((x0 - (((x0.toUInt32 >>> (Int32.toUInt32 1 &&& Int32.toUInt32 31)).toInt32) &&& 1431655765)).toUInt32 >>> (Int32.toUInt32 2 &&& Int32.toUInt32 31)).toInt32) &&& 858993459)) + (((((x0 - (((x0.toUInt32 >>> (Int32.toUInt32 1 &&& Int32.toUInt32 31)).toInt32) &&& 1431655765)) &&& 858993459) + ((((x0 - (((x0.toUInt32 >>> (Int32.toUInt32 1 &&& Int32.toUInt32 31)).toInt32) &&& 1431655765)).toUInt32 >>> (Int32.toUInt32 2 &&& Int32.toUInt32 31)).toInt32) &&& 858993459)).toUInt32 >>> (Int32.toUInt32 4 &&& Int32.toUInt32 31)).toInt32)) &&& 252645135) + (((((((x0 - (((x0.toUInt32 >>> (Int32.toUInt32 1 &&& Int32.toUInt32 31)).toInt32) &&& 1431655765)) &&& 858993459) + ((((x0 - (((x0.toUInt32 >>> (Int32.toUInt32 1 &&& Int32.toUInt32 31)).toInt32) &&& 1431655765)).toUInt32 >>> (Int32.toUInt32 2 &&& Int32.toUInt32 31)).toInt32) &&& 858993459)) + (((((x0 - (((x0.toUInt32 >>> (Int32.toUInt32 1 &&& Int32.toUInt32 31)).toInt32) &&& 1431655765)) &&& 858993459) + ((((x0 - (((x0.toUInt32 >>> (Int32.toUInt32 1 &&& Int32.toUInt32 31)).toInt32) &&& 1431655765)).toUInt32 >>> (Int32.toUInt32 2 &&& Int32.toUInt32 31)).toInt32) &&& 858993459)).toUInt32 >>> (Int32.toUInt32 4 &&& Int32.toUInt32 31)).toInt32)) &&& 252645135).toUInt32 >>> (Int32.toUInt32 8 &&& Int32.toUInt32 31)).toInt32)).toUInt32 >>> (Int32.toUInt32 16 &&& Int32.toUInt32 31)).toInt32)) &&& 63)
set_option maxRecDepth 100000 in
theorem g164 (L : Nat) (d : Nat) (M : jm_MM) (J : jm_JJ) (x0 : Int32) (r : Int32) (H : f164 M x0 = some r) : jm_go d (jm_G 164) 0 (jm_en 1 [.int x0]) [] (jm_S0 L, M, J) (some (.int r), (jm_S0 L, M, J)) := by
  unfold f164 at H
  have H := Option.some.inj H
  subst H
  exact jm_go.ret 42 (fun _ _ => rfl)


/-- X7_lose -/
def f60 (M : jm_MM) (x0 : Int32) (x1 : Int32) : Option (Int32 × jm_MM) := jm_bd (f81 M x0 x1) (fun q1 => bif !decide (q1 = 0) then (jm_bd (f14 M x0 x1) (fun q4 => bif !decide (q4 = 0) then (jm_bd (f88 M) (fun q7 => jm_bd (f13 q7 x0 x1) (fun q9 => jm_bd (f18 q9 x0) (fun q11 => jm_bd (f164 q9 q11) (fun q13 => some (q13, q9)))))) else (some ((-1000000003), M)))) else (some ((-1000000001), M)))
set_option maxRecDepth 100000 in
theorem g60 (L : Nat) (d : Nat) (M : jm_MM) (J : jm_JJ) (x0 : Int32) (x1 : Int32) (r : Int32 × jm_MM) (H : f60 M x0 x1 = some r) : jm_go (d + 4) (jm_G 60) 0 (jm_en 3 [.ref 1, .int x0, .int x1]) [] (jm_S0 L, M, J) (some (.int r.1), (jm_S0 L, r.2, J)) := by
  unfold f60 at H
  obtain ⟨q1, h2, H⟩ := jm_bdo H
  refine jm_go.call 4 (d := d + 3) (b := true) (u := 81) (as := [.ref 1, .int x0, .int x1]) (pc' := 6) (ls' := [some (.ref 1), some (.int x0), some (.int x1)]) (st' := []) (t' := (jm_S0 L, M, J)) (fun _ _ => rfl) rfl rfl (g81 L (d + 1) M J x0 x1 _ h2) ?_
  rcases jm_bro H with ⟨h3, H⟩ | ⟨h3, H⟩
  · refine jm_go.brt 1 (b := !decide (q1 = 0)) (p1 := 12) (l1 := [some (.ref 1), some (.int x0), some (.int x1)]) (s1 := []) (t1 := (jm_S0 L, M, J)) (p2 := 9) (l2 := [some (.ref 1), some (.int x0), some (.int x1)]) (s2 := []) (t2 := (jm_S0 L, M, J)) (fun _ _ => rfl) h3 ?_
    obtain ⟨q4, h5, H⟩ := jm_bdo H
    refine jm_go.call 5 (d := d + 3) (b := true) (u := 14) (as := [.ref 2, .int x0, .int x1]) (pc' := 21) (ls' := [some (.ref 1), some (.int x0), some (.int x1)]) (st' := []) (t' := (jm_S0 L, M, J)) (fun _ _ => rfl) rfl rfl (g14 L (d + 3) M J x0 x1 _ h5) ?_
    rcases jm_bro H with ⟨h6, H⟩ | ⟨h6, H⟩
    · refine jm_go.brt 1 (b := !decide (q4 = 0)) (p1 := 27) (l1 := [some (.ref 1), some (.int x0), some (.int x1)]) (s1 := []) (t1 := (jm_S0 L, M, J)) (p2 := 24) (l2 := [some (.ref 1), some (.int x0), some (.int x1)]) (s2 := []) (t2 := (jm_S0 L, M, J)) (fun _ _ => rfl) h6 ?_
      obtain ⟨q7, h8, H⟩ := jm_bdo H
      refine jm_go.call 2 (d := d + 3) (b := true) (u := 88) (as := [.ref 1]) (pc' := 31) (ls' := [some (.ref 1), some (.int x0), some (.int x1)]) (st' := []) (t' := (jm_S0 L, M, J)) (fun _ _ => rfl) rfl rfl (g88 L d M J _ h8) ?_
      obtain ⟨q9, h10, H⟩ := jm_bdo H
      refine jm_go.call 5 (d := d + 3) (b := true) (u := 13) (as := [.ref 2, .int x0, .int x1]) (pc' := 40) (ls' := [some (.ref 1), some (.int x0), some (.int x1)]) (st' := []) (t' := (jm_S0 L, q7, J)) (fun _ _ => rfl) rfl rfl (g13 L (d + 3) q7 J x0 x1 _ h10) ?_
      obtain ⟨q11, h12, H⟩ := jm_bdo H
      refine jm_go.call 4 (d := d + 3) (b := true) (u := 18) (as := [.ref 2, .int x0]) (pc' := 48) (ls' := [some (.ref 1), some (.int x0), some (.int x1)]) (st' := []) (t' := (jm_S0 L, q9, J)) (fun _ _ => rfl) rfl rfl (g18 L (d + 2) q9 J x0 _ h12) ?_
      obtain ⟨q13, h14, H⟩ := jm_bdo H
      refine jm_go.call 1 (d := d + 3) (b := true) (u := 164) (as := [.int q11]) (pc' := 51) (ls' := [some (.ref 1), some (.int x0), some (.int x1)]) (st' := []) (t' := (jm_S0 L, q9, J)) (fun _ _ => rfl) rfl rfl (g164 L (d + 3) q9 J q11 _ h14) ?_
      have H := Option.some.inj H
      subst H
      exact jm_go.ret 1 (fun _ _ => rfl)
    · refine jm_go.brf 1 (b := !decide (q4 = 0)) (p1 := 27) (l1 := [some (.ref 1), some (.int x0), some (.int x1)]) (s1 := []) (t1 := (jm_S0 L, M, J)) (p2 := 24) (l2 := [some (.ref 1), some (.int x0), some (.int x1)]) (s2 := []) (t2 := (jm_S0 L, M, J)) (fun _ _ => rfl) h6 ?_
      have H := Option.some.inj H
      subst H
      exact jm_go.ret 2 (fun _ _ => rfl)
  · refine jm_go.brf 1 (b := !decide (q1 = 0)) (p1 := 12) (l1 := [some (.ref 1), some (.int x0), some (.int x1)]) (s1 := []) (t1 := (jm_S0 L, M, J)) (p2 := 9) (l2 := [some (.ref 1), some (.int x0), some (.int x1)]) (s2 := []) (t2 := (jm_S0 L, M, J)) (fun _ _ => rfl) h3 ?_
    have H := Option.some.inj H
    subst H
    exact jm_go.ret 2 (fun _ _ => rfl)


/-- X7_weigh -/
def f61 (M : jm_MM) (x0 : Int32) (x1 : Int32) : Option (Int32 × jm_MM) := jm_bd (f83 M x0) (fun q1 => bif !decide (q1 = 0) then (jm_bd (f86 M x1 1 9) (fun q4 => bif !decide (q4 = 0) then (jm_bd (f88 M) (fun q7 => jm_gd (jm_inb x0 24) (jm_gd (jm_inb x0 24) (some (q7 3 x0.toNatClampNeg, (jm_up q7 3 x0.toNatClampNeg x1)))))) else (some ((-1000000002), M)))) else (some ((-1000000001), M)))
set_option maxRecDepth 100000 in
theorem g61 (L : Nat) (d : Nat) (M : jm_MM) (J : jm_JJ) (x0 : Int32) (x1 : Int32) (r : Int32 × jm_MM) (H : f61 M x0 x1 = some r) : jm_go (d + 4) (jm_G 61) 0 (jm_en 4 [.ref 1, .int x0, .int x1]) [] (jm_S0 L, M, J) (some (.int r.1), (jm_S0 L, r.2, J)) := by
  unfold f61 at H
  obtain ⟨q1, h2, H⟩ := jm_bdo H
  refine jm_go.call 2 (d := d + 3) (b := true) (u := 83) (as := [.int x0]) (pc' := 4) (ls' := [some (.ref 1), some (.int x0), some (.int x1), none]) (st' := []) (t' := (jm_S0 L, M, J)) (fun _ _ => rfl) rfl rfl (g83 L (d + 2) M J x0 _ h2) ?_
  rcases jm_bro H with ⟨h3, H⟩ | ⟨h3, H⟩
  · refine jm_go.brt 1 (b := !decide (q1 = 0)) (p1 := 10) (l1 := [some (.ref 1), some (.int x0), some (.int x1), none]) (s1 := []) (t1 := (jm_S0 L, M, J)) (p2 := 7) (l2 := [some (.ref 1), some (.int x0), some (.int x1), none]) (s2 := []) (t2 := (jm_S0 L, M, J)) (fun _ _ => rfl) h3 ?_
    obtain ⟨q4, h5, H⟩ := jm_bdo H
    refine jm_go.call 4 (d := d + 3) (b := true) (u := 86) (as := [.int x1, .int 1, .int 9]) (pc' := 17) (ls' := [some (.ref 1), some (.int x0), some (.int x1), none]) (st' := []) (t' := (jm_S0 L, M, J)) (fun _ _ => rfl) rfl rfl (g86 L (d + 3) M J x1 1 9 _ h5) ?_
    rcases jm_bro H with ⟨h6, H⟩ | ⟨h6, H⟩
    · refine jm_go.brt 1 (b := !decide (q4 = 0)) (p1 := 23) (l1 := [some (.ref 1), some (.int x0), some (.int x1), none]) (s1 := []) (t1 := (jm_S0 L, M, J)) (p2 := 20) (l2 := [some (.ref 1), some (.int x0), some (.int x1), none]) (s2 := []) (t2 := (jm_S0 L, M, J)) (fun _ _ => rfl) h6 ?_
      obtain ⟨q7, h8, H⟩ := jm_bdo H
      refine jm_go.call 2 (d := d + 3) (b := true) (u := 88) (as := [.ref 1]) (pc' := 27) (ls' := [some (.ref 1), some (.int x0), some (.int x1), none]) (st' := []) (t' := (jm_S0 L, M, J)) (fun _ _ => rfl) rfl rfl (g88 L d M J _ h8) ?_
      obtain ⟨h9, H⟩ := jm_gdo H
      refine jm_go.grd 5 (b := jm_inb x0 24) (pc' := 36) (ls' := [some (.ref 1), some (.int x0), some (.int x1), none]) (st' := [.int (q7 3 x0.toNatClampNeg)]) (t' := (jm_S0 L, q7, J)) (fun _ _ => rfl) h9 ?_
      obtain ⟨h10, H⟩ := jm_gdo H
      refine jm_go.grd 7 (b := jm_inb x0 24) (pc' := 47) (ls' := [some (.ref 1), some (.int x0), some (.int x1), some (.int (q7 3 x0.toNatClampNeg))]) (st' := []) (t' := (jm_S0 L, (jm_up q7 3 x0.toNatClampNeg x1), J)) (fun _ _ => rfl) h10 ?_
      have H := Option.some.inj H
      subst H
      exact jm_go.ret 2 (fun _ _ => rfl)
    · refine jm_go.brf 1 (b := !decide (q4 = 0)) (p1 := 23) (l1 := [some (.ref 1), some (.int x0), some (.int x1), none]) (s1 := []) (t1 := (jm_S0 L, M, J)) (p2 := 20) (l2 := [some (.ref 1), some (.int x0), some (.int x1), none]) (s2 := []) (t2 := (jm_S0 L, M, J)) (fun _ _ => rfl) h6 ?_
      have H := Option.some.inj H
      subst H
      exact jm_go.ret 2 (fun _ _ => rfl)
  · refine jm_go.brf 1 (b := !decide (q1 = 0)) (p1 := 10) (l1 := [some (.ref 1), some (.int x0), some (.int x1), none]) (s1 := []) (t1 := (jm_S0 L, M, J)) (p2 := 7) (l2 := [some (.ref 1), some (.int x0), some (.int x1), none]) (s2 := []) (t2 := (jm_S0 L, M, J)) (fun _ _ => rfl) h3 ?_
    have H := Option.some.inj H
    subst H
    exact jm_go.ret 2 (fun _ _ => rfl)

def f62_67  (M : jm_MM) (v1 : Int32) (v2 : Int32) (s0 : Int32) : Option (Int32 × jm_MM) := bif !decide (v1 = 0) then (some (s0, (jm_up M 2 2 v2))) else (some (s0, (jm_up M 2 1 v2)))
set_option maxRecDepth 100000 in
theorem g62_67 (L : Nat) (d : Nat) (_M : jm_MM) (J : jm_JJ) (M : jm_MM) (v1 : Int32) (v2 : Int32) (s0 : Int32) (r : Int32 × jm_MM) (H : f62_67  M v1 v2 s0 = some r) : jm_go (d + 4) (jm_G 62) 67 [some (.ref 1), some (.int v1), some (.int v2), none, none] [.int s0] (jm_S0 L, M, J) (some (.int r.1), (jm_S0 L, r.2, J)) := by
  unfold f62_67 at H
  rcases jm_bro H with ⟨h7, H⟩ | ⟨h7, H⟩
  · refine jm_go.brt 3 (b := !decide (v1 = 0)) (p1 := 84) (l1 := [some (.ref 1), some (.int v1), some (.int v2), none, some (.int s0)]) (s1 := []) (t1 := (jm_S0 L, M, J)) (p2 := 73) (l2 := [some (.ref 1), some (.int v1), some (.int v2), none, some (.int s0)]) (s2 := []) (t2 := (jm_S0 L, M, J)) (fun _ _ => rfl) h7 ?_
    have H := Option.some.inj H
    subst H
    exact jm_go.ret 6 (fun _ _ => rfl)
  · refine jm_go.brf 3 (b := !decide (v1 = 0)) (p1 := 84) (l1 := [some (.ref 1), some (.int v1), some (.int v2), none, some (.int s0)]) (s1 := []) (t1 := (jm_S0 L, M, J)) (p2 := 73) (l2 := [some (.ref 1), some (.int v1), some (.int v2), none, some (.int s0)]) (s2 := []) (t2 := (jm_S0 L, M, J)) (fun _ _ => rfl) h7 ?_
    have H := Option.some.inj H
    subst H
    exact jm_go.ret 7 (fun _ _ => rfl)

def f62_34  (M : jm_MM) (v1 : Int32) (v2 : Int32) (s0 : Int32) : Option (Int32 × jm_MM) := bif !decide (s0 = 0) then (jm_bd (f88 M) (fun q4 => bif !decide (v1 = 0) then (f62_67   q4 v1 v2 (q4 2 2)) else (f62_67   q4 v1 v2 (q4 2 1)))) else (some ((-1000000002), M))
set_option maxRecDepth 100000 in
theorem g62_34 (L : Nat) (d : Nat) (_M : jm_MM) (J : jm_JJ) (M : jm_MM) (v1 : Int32) (v2 : Int32) (s0 : Int32) (r : Int32 × jm_MM) (H : f62_34  M v1 v2 s0 = some r) : jm_go (d + 4) (jm_G 62) 34 [some (.ref 1), some (.int v1), some (.int v2), none, none] [.int s0] (jm_S0 L, M, J) (some (.int r.1), (jm_S0 L, r.2, J)) := by
  unfold f62_34 at H
  rcases jm_bro H with ⟨h3, H⟩ | ⟨h3, H⟩
  · refine jm_go.brt 3 (b := !decide (s0 = 0)) (p1 := 42) (l1 := [some (.ref 1), some (.int v1), some (.int v2), some (.int s0), none]) (s1 := []) (t1 := (jm_S0 L, M, J)) (p2 := 39) (l2 := [some (.ref 1), some (.int v1), some (.int v2), some (.int s0), none]) (s2 := []) (t2 := (jm_S0 L, M, J)) (fun _ _ => rfl) h3 ?_
    obtain ⟨q4, h5, H⟩ := jm_bdo H
    refine jm_go.call 2 (d := d + 3) (b := true) (u := 88) (as := [.ref 1]) (pc' := 46) (ls' := [some (.ref 1), some (.int v1), some (.int v2), none, none]) (st' := []) (t' := (jm_S0 L, M, J)) (fun _ _ => rfl) rfl rfl (g88 L d M J _ h5) ?_
    rcases jm_bro H with ⟨h6, H⟩ | ⟨h6, H⟩
    · refine jm_go.brt 2 (b := !decide (v1 = 0)) (p1 := 60) (l1 := [some (.ref 1), some (.int v1), some (.int v2), none, none]) (s1 := []) (t1 := (jm_S0 L, q4, J)) (p2 := 50) (l2 := [some (.ref 1), some (.int v1), some (.int v2), none, none]) (s2 := []) (t2 := (jm_S0 L, q4, J)) (fun _ _ => rfl) h6 ?_
      refine jm_go.blk 3 (pc' := 67) (ls' := [some (.ref 1), some (.int v1), some (.int v2), none, none]) (st' := [.int (q4 2 2)]) (t' := (jm_S0 L, q4, J)) (fun _ _ => rfl) ?_
      exact g62_67 L d M J  q4 v1 v2 (q4 2 2) _ H
    · refine jm_go.brf 2 (b := !decide (v1 = 0)) (p1 := 60) (l1 := [some (.ref 1), some (.int v1), some (.int v2), none, none]) (s1 := []) (t1 := (jm_S0 L, q4, J)) (p2 := 50) (l2 := [some (.ref 1), some (.int v1), some (.int v2), none, none]) (s2 := []) (t2 := (jm_S0 L, q4, J)) (fun _ _ => rfl) h6 ?_
      refine jm_go.blk 4 (pc' := 67) (ls' := [some (.ref 1), some (.int v1), some (.int v2), none, none]) (st' := [.int (q4 2 1)]) (t' := (jm_S0 L, q4, J)) (fun _ _ => rfl) ?_
      exact g62_67 L d M J  q4 v1 v2 (q4 2 1) _ H
  · refine jm_go.brf 3 (b := !decide (s0 = 0)) (p1 := 42) (l1 := [some (.ref 1), some (.int v1), some (.int v2), some (.int s0), none]) (s1 := []) (t1 := (jm_S0 L, M, J)) (p2 := 39) (l2 := [some (.ref 1), some (.int v1), some (.int v2), some (.int s0), none]) (s2 := []) (t2 := (jm_S0 L, M, J)) (fun _ _ => rfl) h3 ?_
    have H := Option.some.inj H
    subst H
    exact jm_go.ret 2 (fun _ _ => rfl)

def f62_33  (M : jm_MM) (v1 : Int32) (v2 : Int32) : Option (Int32 × jm_MM) := f62_34   M v1 v2 0
set_option maxRecDepth 100000 in
theorem g62_33 (L : Nat) (d : Nat) (_M : jm_MM) (J : jm_JJ) (M : jm_MM) (v1 : Int32) (v2 : Int32) (r : Int32 × jm_MM) (H : f62_33  M v1 v2 = some r) : jm_go (d + 4) (jm_G 62) 33 [some (.ref 1), some (.int v1), some (.int v2), none, none] [] (jm_S0 L, M, J) (some (.int r.1), (jm_S0 L, r.2, J)) := by
  unfold f62_33 at H
  refine jm_go.blk 1 (pc' := 34) (ls' := [some (.ref 1), some (.int v1), some (.int v2), none, none]) (st' := [.int 0]) (t' := (jm_S0 L, M, J)) (fun _ _ => rfl) ?_
  exact g62_34 L d M J  M v1 v2 0 _ H

def f62_29  (M : jm_MM) (v1 : Int32) (v2 : Int32) : Option (Int32 × jm_MM) := f62_34   M v1 v2 1
set_option maxRecDepth 100000 in
theorem g62_29 (L : Nat) (d : Nat) (_M : jm_MM) (J : jm_JJ) (M : jm_MM) (v1 : Int32) (v2 : Int32) (r : Int32 × jm_MM) (H : f62_29  M v1 v2 = some r) : jm_go (d + 4) (jm_G 62) 29 [some (.ref 1), some (.int v1), some (.int v2), none, none] [] (jm_S0 L, M, J) (some (.int r.1), (jm_S0 L, r.2, J)) := by
  unfold f62_29 at H
  refine jm_go.blk 2 (pc' := 34) (ls' := [some (.ref 1), some (.int v1), some (.int v2), none, none]) (st' := [.int 1]) (t' := (jm_S0 L, M, J)) (fun _ _ => rfl) ?_
  exact g62_34 L d M J  M v1 v2 1 _ H

def f62_14  (M : jm_MM) (v1 : Int32) (v2 : Int32) : Option (Int32 × jm_MM) := bif !decide (v1 = 1) then (f62_33   M v1 v2) else (jm_bd (f86 M v2 1 99) (fun q8 => bif decide (q8 = 0) then (f62_33   M v1 v2) else (f62_29   M v1 v2)))
set_option maxRecDepth 100000 in
theorem g62_14 (L : Nat) (d : Nat) (_M : jm_MM) (J : jm_JJ) (M : jm_MM) (v1 : Int32) (v2 : Int32) (r : Int32 × jm_MM) (H : f62_14  M v1 v2 = some r) : jm_go (d + 4) (jm_G 62) 14 [some (.ref 1), some (.int v1), some (.int v2), none, none] [] (jm_S0 L, M, J) (some (.int r.1), (jm_S0 L, r.2, J)) := by
  unfold f62_14 at H
  rcases jm_bro H with ⟨h2, H⟩ | ⟨h2, H⟩
  · refine jm_go.brt 3 (b := !decide (v1 = 1)) (p1 := 33) (l1 := [some (.ref 1), some (.int v1), some (.int v2), none, none]) (s1 := []) (t1 := (jm_S0 L, M, J)) (p2 := 19) (l2 := [some (.ref 1), some (.int v1), some (.int v2), none, none]) (s2 := []) (t2 := (jm_S0 L, M, J)) (fun _ _ => rfl) h2 ?_
    exact g62_33 L d M J  M v1 v2 _ H
  · refine jm_go.brf 3 (b := !decide (v1 = 1)) (p1 := 33) (l1 := [some (.ref 1), some (.int v1), some (.int v2), none, none]) (s1 := []) (t1 := (jm_S0 L, M, J)) (p2 := 19) (l2 := [some (.ref 1), some (.int v1), some (.int v2), none, none]) (s2 := []) (t2 := (jm_S0 L, M, J)) (fun _ _ => rfl) h2 ?_
    obtain ⟨q8, h9, H⟩ := jm_bdo H
    refine jm_go.call 4 (d := d + 3) (b := true) (u := 86) (as := [.int v2, .int 1, .int 99]) (pc' := 26) (ls' := [some (.ref 1), some (.int v1), some (.int v2), none, none]) (st' := []) (t' := (jm_S0 L, M, J)) (fun _ _ => rfl) rfl rfl (g86 L (d + 3) M J v2 1 99 _ h9) ?_
    rcases jm_bro H with ⟨h10, H⟩ | ⟨h10, H⟩
    · refine jm_go.brt 1 (b := decide (q8 = 0)) (p1 := 33) (l1 := [some (.ref 1), some (.int v1), some (.int v2), none, none]) (s1 := []) (t1 := (jm_S0 L, M, J)) (p2 := 29) (l2 := [some (.ref 1), some (.int v1), some (.int v2), none, none]) (s2 := []) (t2 := (jm_S0 L, M, J)) (fun _ _ => rfl) h10 ?_
      exact g62_33 L d M J  M v1 v2 _ H
    · refine jm_go.brf 1 (b := decide (q8 = 0)) (p1 := 33) (l1 := [some (.ref 1), some (.int v1), some (.int v2), none, none]) (s1 := []) (t1 := (jm_S0 L, M, J)) (p2 := 29) (l2 := [some (.ref 1), some (.int v1), some (.int v2), none, none]) (s2 := []) (t2 := (jm_S0 L, M, J)) (fun _ _ => rfl) h10 ?_
      exact g62_29 L d M J  M v1 v2 _ H

/-- X7_bound -/
def f62 (M : jm_MM) (x0 : Int32) (x1 : Int32) : Option (Int32 × jm_MM) := bif !decide (x0 = 0) then (f62_14   M x0 x1) else (jm_bd (f86 M x1 0 40) (fun q11 => bif !decide (q11 = 0) then (f62_29   M x0 x1) else (f62_14   M x0 x1)))
set_option maxRecDepth 100000 in
theorem g62 (L : Nat) (d : Nat) (M : jm_MM) (J : jm_JJ) (x0 : Int32) (x1 : Int32) (r : Int32 × jm_MM) (H : f62 M x0 x1 = some r) : jm_go (d + 4) (jm_G 62) 0 (jm_en 5 [.ref 1, .int x0, .int x1]) [] (jm_S0 L, M, J) (some (.int r.1), (jm_S0 L, r.2, J)) := by
  unfold f62 at H
  rcases jm_bro H with ⟨h1, H⟩ | ⟨h1, H⟩
  · refine jm_go.brt 2 (b := !decide (x0 = 0)) (p1 := 14) (l1 := [some (.ref 1), some (.int x0), some (.int x1), none, none]) (s1 := []) (t1 := (jm_S0 L, M, J)) (p2 := 4) (l2 := [some (.ref 1), some (.int x0), some (.int x1), none, none]) (s2 := []) (t2 := (jm_S0 L, M, J)) (fun _ _ => rfl) h1 ?_
    exact g62_14 L d M J  M x0 x1 _ H
  · refine jm_go.brf 2 (b := !decide (x0 = 0)) (p1 := 14) (l1 := [some (.ref 1), some (.int x0), some (.int x1), none, none]) (s1 := []) (t1 := (jm_S0 L, M, J)) (p2 := 4) (l2 := [some (.ref 1), some (.int x0), some (.int x1), none, none]) (s2 := []) (t2 := (jm_S0 L, M, J)) (fun _ _ => rfl) h1 ?_
    obtain ⟨q11, h12, H⟩ := jm_bdo H
    refine jm_go.call 4 (d := d + 3) (b := true) (u := 86) (as := [.int x1, .int 0, .int 40]) (pc' := 11) (ls' := [some (.ref 1), some (.int x0), some (.int x1), none, none]) (st' := []) (t' := (jm_S0 L, M, J)) (fun _ _ => rfl) rfl rfl (g86 L (d + 3) M J x1 0 40 _ h12) ?_
    rcases jm_bro H with ⟨h13, H⟩ | ⟨h13, H⟩
    · refine jm_go.brt 1 (b := !decide (q11 = 0)) (p1 := 29) (l1 := [some (.ref 1), some (.int x0), some (.int x1), none, none]) (s1 := []) (t1 := (jm_S0 L, M, J)) (p2 := 14) (l2 := [some (.ref 1), some (.int x0), some (.int x1), none, none]) (s2 := []) (t2 := (jm_S0 L, M, J)) (fun _ _ => rfl) h13 ?_
      exact g62_29 L d M J  M x0 x1 _ H
    · refine jm_go.brf 1 (b := !decide (q11 = 0)) (p1 := 29) (l1 := [some (.ref 1), some (.int x0), some (.int x1), none, none]) (s1 := []) (t1 := (jm_S0 L, M, J)) (p2 := 14) (l2 := [some (.ref 1), some (.int x0), some (.int x1), none, none]) (s2 := []) (t2 := (jm_S0 L, M, J)) (fun _ _ => rfl) h13 ?_
      exact g62_14 L d M J  M x0 x1 _ H

def f63_50  (ke0 : jm_MM → jm_JJ → Int32 → Option (Int32 × jm_MM × jm_JJ)) : Nat → jm_MM → jm_JJ → Int32 → Int32 → Option (Int32 × jm_MM × jm_JJ)
  | 0, _, _, _, _ => none
  | n0 + 1, M, J, v2, v3 => bif decide (24 ≤ v3) then (ke0 M J v2) else (bif !decide (v2 = 0) then (jm_bd (f42 M J v2 v3) (fun q13 => (f63_50  ke0 n0) q13.1 q13.2 v2 (v3 + 1))) else (jm_bd (f41 M J v2 v3) (fun q15 => (f63_50  ke0 n0) q15.1 q15.2 v2 (v3 + 1))))
set_option maxRecDepth 100000 in
theorem g63_50 (L : Nat) (d : Nat) (_M : jm_MM) (_J : jm_JJ) (ke0 : jm_MM → jm_JJ → Int32 → Option (Int32 × jm_MM × jm_JJ)) (hke0 : ∀ (M : jm_MM) (J : jm_JJ) (v2 : Int32) (r : Int32 × jm_MM × jm_JJ), ke0 M J v2 = some r → jm_go (d + 4) (jm_G 63) 95 [some (.ref 1), none, some (.int v2), none] [] (jm_S0 L, M, J) (some (.int r.1), (jm_S0 L, r.2.1, r.2.2))) : ∀ (n0 : Nat) (M : jm_MM) (J : jm_JJ) (v2 : Int32) (v3 : Int32) (r : Int32 × jm_MM × jm_JJ), f63_50  ke0 n0 M J v2 v3 = some r → jm_go (d + 4) (jm_G 63) 50 [some (.ref 1), none, some (.int v2), some (.int v3)] [] (jm_S0 L, M, J) (some (.int r.1), (jm_S0 L, r.2.1, r.2.2)) := by
  intro n0
  induction n0 with
  | zero => intro M J v2 v3 r H; cases H
  | succ n0 ih =>
    intro M J v2 v3 r H
    have hkb := ih
    unfold f63_50 at H
    rcases jm_bro H with ⟨h11, H⟩ | ⟨h11, H⟩
    · refine jm_go.brt 3 (b := decide (24 ≤ v3)) (p1 := 95) (l1 := [some (.ref 1), none, some (.int v2), some (.int v3)]) (s1 := []) (t1 := (jm_S0 L, M, J)) (p2 := 56) (l2 := [some (.ref 1), none, some (.int v2), some (.int v3)]) (s2 := []) (t2 := (jm_S0 L, M, J)) (fun _ _ => rfl) h11 ?_
      refine jm_go.lab (ls' := [some (.ref 1), none, some (.int v2), none]) (fun i hi => by cases hi; rfl) ?_
      exact hke0 M J v2 _ H
    · refine jm_go.brf 3 (b := decide (24 ≤ v3)) (p1 := 95) (l1 := [some (.ref 1), none, some (.int v2), some (.int v3)]) (s1 := []) (t1 := (jm_S0 L, M, J)) (p2 := 56) (l2 := [some (.ref 1), none, some (.int v2), some (.int v3)]) (s2 := []) (t2 := (jm_S0 L, M, J)) (fun _ _ => rfl) h11 ?_
      rcases jm_bro H with ⟨h12, H⟩ | ⟨h12, H⟩
      · refine jm_go.brt 2 (b := !decide (v2 = 0)) (p1 := 76) (l1 := [some (.ref 1), none, some (.int v2), some (.int v3)]) (s1 := []) (t1 := (jm_S0 L, M, J)) (p2 := 60) (l2 := [some (.ref 1), none, some (.int v2), some (.int v3)]) (s2 := []) (t2 := (jm_S0 L, M, J)) (fun _ _ => rfl) h12 ?_
        obtain ⟨q13, h14, H⟩ := jm_bdo H
        refine jm_go.call 7 (d := d + 3) (b := true) (u := 42) (as := [.ref 112, .ref 2, .int v2, .int v3]) (pc' := 89) (ls' := [some (.ref 1), none, some (.int v2), some (.int v3)]) (st' := []) (t' := (jm_S0 L, M, J)) (fun _ _ => rfl) rfl rfl (g42 L (d + 1) M J v2 v3 _ h14) ?_
        refine jm_go.blk 2 (pc' := 50) (ls' := [some (.ref 1), none, some (.int v2), some (.int (v3 + 1))]) (st' := []) (t' := (jm_S0 L, q13.1, q13.2)) (fun _ _ => rfl) ?_
        exact hkb q13.1 q13.2 v2 (v3 + 1) _ H
      · refine jm_go.brf 2 (b := !decide (v2 = 0)) (p1 := 76) (l1 := [some (.ref 1), none, some (.int v2), some (.int v3)]) (s1 := []) (t1 := (jm_S0 L, M, J)) (p2 := 60) (l2 := [some (.ref 1), none, some (.int v2), some (.int v3)]) (s2 := []) (t2 := (jm_S0 L, M, J)) (fun _ _ => rfl) h12 ?_
        obtain ⟨q15, h16, H⟩ := jm_bdo H
        refine jm_go.call 7 (d := d + 3) (b := true) (u := 41) (as := [.ref 112, .ref 2, .int v2, .int v3]) (pc' := 73) (ls' := [some (.ref 1), none, some (.int v2), some (.int v3)]) (st' := []) (t' := (jm_S0 L, M, J)) (fun _ _ => rfl) rfl rfl (g41 L (d + 1) M J v2 v3 _ h16) ?_
        refine jm_go.blk 3 (pc' := 50) (ls' := [some (.ref 1), none, some (.int v2), some (.int (v3 + 1))]) (st' := []) (t' := (jm_S0 L, q15.1, q15.2)) (fun _ _ => rfl) ?_
        exact hkb q15.1 q15.2 v2 (v3 + 1) _ H

/-- X7_drift -/
def f63 (M : jm_MM) (J : jm_JJ) (x0 : Int32) : Option (Int32 × jm_MM × jm_JJ) := jm_bd (f86 M x0 1 999999) (fun q1 => bif !decide (q1 = 0) then (bif decide ((M 2 0) < 6) then (jm_bd (f88 M) (fun q5 => jm_bd (f11 q5) (fun q7 => jm_bd (f39 q7.2 J x0) (fun q9 => f63_50  (fun Me17 Je18 ve19 => jm_bd (f18 Me17 ve19) (fun q20 => jm_bd (f164 Me17 q20) (fun q22 => some (q22, Me17, Je18)))) jm_F q7.2 q9 q7.1 0)))) else (some ((-1000000004), M, J))) else (some ((-1000000002), M, J)))
set_option maxRecDepth 100000 in
theorem g63 (L : Nat) (d : Nat) (M : jm_MM) (J : jm_JJ) (x0 : Int32) (r : Int32 × jm_MM × jm_JJ) (H : f63 M J x0 = some r) : jm_go (d + 4) (jm_G 63) 0 (jm_en 4 [.ref 1, .int x0]) [] (jm_S0 L, M, J) (some (.int r.1), (jm_S0 L, r.2.1, r.2.2)) := by
  unfold f63 at H
  obtain ⟨q1, h2, H⟩ := jm_bdo H
  refine jm_go.call 4 (d := d + 3) (b := true) (u := 86) (as := [.int x0, .int 1, .int 999999]) (pc' := 7) (ls' := [some (.ref 1), some (.int x0), none, none]) (st' := []) (t' := (jm_S0 L, M, J)) (fun _ _ => rfl) rfl rfl (g86 L (d + 3) M J x0 1 999999 _ h2) ?_
  rcases jm_bro H with ⟨h3, H⟩ | ⟨h3, H⟩
  · refine jm_go.brt 1 (b := !decide (q1 = 0)) (p1 := 13) (l1 := [some (.ref 1), some (.int x0), none, none]) (s1 := []) (t1 := (jm_S0 L, M, J)) (p2 := 10) (l2 := [some (.ref 1), some (.int x0), none, none]) (s2 := []) (t2 := (jm_S0 L, M, J)) (fun _ _ => rfl) h3 ?_
    rcases jm_bro H with ⟨h4, H⟩ | ⟨h4, H⟩
    · refine jm_go.brt 5 (b := decide ((M 2 0) < 6)) (p1 := 28) (l1 := [some (.ref 1), some (.int x0), none, none]) (s1 := []) (t1 := (jm_S0 L, M, J)) (p2 := 25) (l2 := [some (.ref 1), some (.int x0), none, none]) (s2 := []) (t2 := (jm_S0 L, M, J)) (fun _ _ => rfl) h4 ?_
      obtain ⟨q5, h6, H⟩ := jm_bdo H
      refine jm_go.call 2 (d := d + 3) (b := true) (u := 88) (as := [.ref 1]) (pc' := 32) (ls' := [some (.ref 1), some (.int x0), none, none]) (st' := []) (t' := (jm_S0 L, M, J)) (fun _ _ => rfl) rfl rfl (g88 L d M J _ h6) ?_
      obtain ⟨q7, h8, H⟩ := jm_bdo H
      refine jm_go.call 3 (d := d + 3) (b := true) (u := 11) (as := [.ref 2]) (pc' := 39) (ls' := [some (.ref 1), some (.int x0), none, none]) (st' := []) (t' := (jm_S0 L, q5, J)) (fun _ _ => rfl) rfl rfl (g11 L (d + 2) q5 J _ h8) ?_
      obtain ⟨q9, h10, H⟩ := jm_bdo H
      refine jm_go.call 5 (d := d + 3) (b := true) (u := 39) (as := [.ref 112, .int x0]) (pc' := 48) (ls' := [some (.ref 1), some (.int x0), some (.int q7.1), none]) (st' := []) (t' := (jm_S0 L, q7.2, J)) (fun _ _ => rfl) rfl rfl (g39 L (d + 3) q7.2 J x0 _ h10) ?_
      refine jm_go.blk 2 (pc' := 50) (ls' := [some (.ref 1), some (.int x0), some (.int q7.1), some (.int 0)]) (st' := []) (t' := (jm_S0 L, q7.2, q9)) (fun _ _ => rfl) ?_
      refine jm_go.lab (ls' := [some (.ref 1), none, some (.int q7.1), some (.int 0)]) (fun i hi => by cases hi; rfl) ?_
      exact g63_50 L d M J
        _ (fun Me17 Je18 ve19 r H => by
          obtain ⟨q20, h21, H⟩ := jm_bdo H
          refine jm_go.call 4 (d := d + 3) (b := true) (u := 18) (as := [.ref 2, .int ve19]) (pc' := 103) (ls' := [some (.ref 1), none, some (.int ve19), none]) (st' := []) (t' := (jm_S0 L, Me17, Je18)) (fun _ _ => rfl) rfl rfl (g18 L (d + 2) Me17 Je18 ve19 _ h21) ?_
          obtain ⟨q22, h23, H⟩ := jm_bdo H
          refine jm_go.call 1 (d := d + 3) (b := true) (u := 164) (as := [.int q20]) (pc' := 106) (ls' := [some (.ref 1), none, some (.int ve19), none]) (st' := []) (t' := (jm_S0 L, Me17, Je18)) (fun _ _ => rfl) rfl rfl (g164 L (d + 3) Me17 Je18 q20 _ h23) ?_
          have H := Option.some.inj H
          subst H
          exact jm_go.ret 1 (fun _ _ => rfl)
          )
        _ q7.2 q9 q7.1 0 _ H
    · refine jm_go.brf 5 (b := decide ((M 2 0) < 6)) (p1 := 28) (l1 := [some (.ref 1), some (.int x0), none, none]) (s1 := []) (t1 := (jm_S0 L, M, J)) (p2 := 25) (l2 := [some (.ref 1), some (.int x0), none, none]) (s2 := []) (t2 := (jm_S0 L, M, J)) (fun _ _ => rfl) h4 ?_
      have H := Option.some.inj H
      subst H
      exact jm_go.ret 2 (fun _ _ => rfl)
  · refine jm_go.brf 1 (b := !decide (q1 = 0)) (p1 := 13) (l1 := [some (.ref 1), some (.int x0), none, none]) (s1 := []) (t1 := (jm_S0 L, M, J)) (p2 := 10) (l2 := [some (.ref 1), some (.int x0), none, none]) (s2 := []) (t2 := (jm_S0 L, M, J)) (fun _ _ => rfl) h3 ?_
    have H := Option.some.inj H
    subst H
    exact jm_go.ret 2 (fun _ _ => rfl)


/-- X7_undo -/
def f64 (M : jm_MM)  : Option (Int32 × jm_MM) := bif decide (1 ≤ (M 5 2)) then (jm_bd (f47 M) (fun q2 => some ((jm_up q2 39 0 0) 5 2, (jm_up q2 39 0 0)))) else (some ((-1000000003), M))
set_option maxRecDepth 100000 in
theorem g64 (L : Nat) (d : Nat) (M : jm_MM) (J : jm_JJ)  (r : Int32 × jm_MM) (H : f64 M  = some r) : jm_go (d + 3) (jm_G 64) 0 (jm_en 1 [.ref 1]) [] (jm_S0 L, M, J) (some (.int r.1), (jm_S0 L, r.2, J)) := by
  unfold f64 at H
  rcases jm_bro H with ⟨h1, H⟩ | ⟨h1, H⟩
  · refine jm_go.brt 5 (b := decide (1 ≤ (M 5 2))) (p1 := 14) (l1 := [some (.ref 1)]) (s1 := []) (t1 := (jm_S0 L, M, J)) (p2 := 11) (l2 := [some (.ref 1)]) (s2 := []) (t2 := (jm_S0 L, M, J)) (fun _ _ => rfl) h1 ?_
    obtain ⟨q2, h3, H⟩ := jm_bdo H
    refine jm_go.call 5 (d := d + 2) (b := true) (u := 47) (as := [.ref 5, .ref 2]) (pc' := 25) (ls' := [some (.ref 1)]) (st' := []) (t' := (jm_S0 L, M, J)) (fun _ _ => rfl) rfl rfl (g47 L d M J _ h3) ?_
    have H := Option.some.inj H
    subst H
    exact jm_go.ret 8 (fun _ _ => rfl)
  · refine jm_go.brf 5 (b := decide (1 ≤ (M 5 2))) (p1 := 14) (l1 := [some (.ref 1)]) (s1 := []) (t1 := (jm_S0 L, M, J)) (p2 := 11) (l2 := [some (.ref 1)]) (s2 := []) (t2 := (jm_S0 L, M, J)) (fun _ _ => rfl) h1 ?_
    have H := Option.some.inj H
    subst H
    exact jm_go.ret 2 (fun _ _ => rfl)


/-- X7_told -/
def f65 (M : jm_MM) (x0 : Int32) : Option (Int32 × jm_MM) := bif decide (x0 = 0) then (some (M 2 0, M)) else (bif decide (x0 = 1) then (some (M 2 1, M)) else (bif decide (x0 = 2) then (some (M 2 2, M)) else (bif decide (x0 = 3) then (jm_bd (f22 M) (fun q4 => jm_bd (f25 q4) (fun q6 => some (q6, q4)))) else (bif decide (x0 = 4) then (jm_bd (f22 M) (fun q9 => jm_bd (f26 q9) (fun q11 => some (q11, q9)))) else (bif decide (x0 = 5) then (jm_bd (f22 M) (fun q14 => jm_bd (f27 q14) (fun q16 => some (q16, q14)))) else (bif decide (x0 = 6) then (jm_bd (f22 M) (fun q19 => jm_bd (f28 q19) (fun q21 => some (q21, q19)))) else (bif decide (x0 = 7) then (some (M 5 2, M)) else (some ((-1000000002), M)))))))))
set_option maxRecDepth 100000 in
theorem g65 (L : Nat) (d : Nat) (M : jm_MM) (J : jm_JJ) (x0 : Int32) (r : Int32 × jm_MM) (H : f65 M x0 = some r) : jm_go (d + 5) (jm_G 65) 0 (jm_en 2 [.ref 1, .int x0]) [] (jm_S0 L, M, J) (some (.int r.1), (jm_S0 L, r.2, J)) := by
  unfold f65 at H
  rcases jm_bro H with ⟨h1, H⟩ | ⟨h1, H⟩
  · refine jm_go.sw 2 (x := x0) (u := 140) (ts := [(0, 48), (1, 56), (2, 64), (3, 72), (4, 87), (5, 102), (6, 117), (7, 132)]) (q := 48) (ls' := [some (.ref 1), some (.int x0)]) (st' := []) (t' := (jm_S0 L, M, J)) (fun _ _ => rfl) (by simp only [jm_tgt, h1, cond_true, cond_false]) ?_
    have H := Option.some.inj H
    subst H
    exact jm_go.ret 4 (fun _ _ => rfl)
  · skip
    rcases jm_bro H with ⟨h2, H⟩ | ⟨h2, H⟩
    · refine jm_go.sw 2 (x := x0) (u := 140) (ts := [(0, 48), (1, 56), (2, 64), (3, 72), (4, 87), (5, 102), (6, 117), (7, 132)]) (q := 56) (ls' := [some (.ref 1), some (.int x0)]) (st' := []) (t' := (jm_S0 L, M, J)) (fun _ _ => rfl) (by simp only [jm_tgt, h1, h2, cond_true, cond_false]) ?_
      have H := Option.some.inj H
      subst H
      exact jm_go.ret 4 (fun _ _ => rfl)
    · skip
      rcases jm_bro H with ⟨h3, H⟩ | ⟨h3, H⟩
      · refine jm_go.sw 2 (x := x0) (u := 140) (ts := [(0, 48), (1, 56), (2, 64), (3, 72), (4, 87), (5, 102), (6, 117), (7, 132)]) (q := 64) (ls' := [some (.ref 1), some (.int x0)]) (st' := []) (t' := (jm_S0 L, M, J)) (fun _ _ => rfl) (by simp only [jm_tgt, h1, h2, h3, cond_true, cond_false]) ?_
        have H := Option.some.inj H
        subst H
        exact jm_go.ret 4 (fun _ _ => rfl)
      · skip
        rcases jm_bro H with ⟨h8, H⟩ | ⟨h8, H⟩
        · refine jm_go.sw 2 (x := x0) (u := 140) (ts := [(0, 48), (1, 56), (2, 64), (3, 72), (4, 87), (5, 102), (6, 117), (7, 132)]) (q := 72) (ls' := [some (.ref 1), some (.int x0)]) (st' := []) (t' := (jm_S0 L, M, J)) (fun _ _ => rfl) (by simp only [jm_tgt, h1, h2, h3, h8, cond_true, cond_false]) ?_
          obtain ⟨q4, h5, H⟩ := jm_bdo H
          refine jm_go.call 5 (d := d + 4) (b := true) (u := 22) (as := [.ref 39, .ref 2]) (pc' := 83) (ls' := [some (.ref 1), none]) (st' := []) (t' := (jm_S0 L, M, J)) (fun _ _ => rfl) rfl rfl (g22 L d M J _ h5) ?_
          obtain ⟨q6, h7, H⟩ := jm_bdo H
          refine jm_go.call 1 (d := d + 4) (b := true) (u := 25) (as := [.ref 39]) (pc' := 86) (ls' := [some (.ref 1), none]) (st' := []) (t' := (jm_S0 L, q4, J)) (fun _ _ => rfl) rfl rfl (g25 L (d + 4) q4 J _ h7) ?_
          have H := Option.some.inj H
          subst H
          exact jm_go.ret 1 (fun _ _ => rfl)
        · skip
          rcases jm_bro H with ⟨h13, H⟩ | ⟨h13, H⟩
          · refine jm_go.sw 2 (x := x0) (u := 140) (ts := [(0, 48), (1, 56), (2, 64), (3, 72), (4, 87), (5, 102), (6, 117), (7, 132)]) (q := 87) (ls' := [some (.ref 1), some (.int x0)]) (st' := []) (t' := (jm_S0 L, M, J)) (fun _ _ => rfl) (by simp only [jm_tgt, h1, h2, h3, h8, h13, cond_true, cond_false]) ?_
            obtain ⟨q9, h10, H⟩ := jm_bdo H
            refine jm_go.call 5 (d := d + 4) (b := true) (u := 22) (as := [.ref 39, .ref 2]) (pc' := 98) (ls' := [some (.ref 1), none]) (st' := []) (t' := (jm_S0 L, M, J)) (fun _ _ => rfl) rfl rfl (g22 L d M J _ h10) ?_
            obtain ⟨q11, h12, H⟩ := jm_bdo H
            refine jm_go.call 1 (d := d + 4) (b := true) (u := 26) (as := [.ref 39]) (pc' := 101) (ls' := [some (.ref 1), none]) (st' := []) (t' := (jm_S0 L, q9, J)) (fun _ _ => rfl) rfl rfl (g26 L (d + 4) q9 J _ h12) ?_
            have H := Option.some.inj H
            subst H
            exact jm_go.ret 1 (fun _ _ => rfl)
          · skip
            rcases jm_bro H with ⟨h18, H⟩ | ⟨h18, H⟩
            · refine jm_go.sw 2 (x := x0) (u := 140) (ts := [(0, 48), (1, 56), (2, 64), (3, 72), (4, 87), (5, 102), (6, 117), (7, 132)]) (q := 102) (ls' := [some (.ref 1), some (.int x0)]) (st' := []) (t' := (jm_S0 L, M, J)) (fun _ _ => rfl) (by simp only [jm_tgt, h1, h2, h3, h8, h13, h18, cond_true, cond_false]) ?_
              obtain ⟨q14, h15, H⟩ := jm_bdo H
              refine jm_go.call 5 (d := d + 4) (b := true) (u := 22) (as := [.ref 39, .ref 2]) (pc' := 113) (ls' := [some (.ref 1), none]) (st' := []) (t' := (jm_S0 L, M, J)) (fun _ _ => rfl) rfl rfl (g22 L d M J _ h15) ?_
              obtain ⟨q16, h17, H⟩ := jm_bdo H
              refine jm_go.call 1 (d := d + 4) (b := true) (u := 27) (as := [.ref 39]) (pc' := 116) (ls' := [some (.ref 1), none]) (st' := []) (t' := (jm_S0 L, q14, J)) (fun _ _ => rfl) rfl rfl (g27 L (d + 4) q14 J _ h17) ?_
              have H := Option.some.inj H
              subst H
              exact jm_go.ret 1 (fun _ _ => rfl)
            · skip
              rcases jm_bro H with ⟨h23, H⟩ | ⟨h23, H⟩
              · refine jm_go.sw 2 (x := x0) (u := 140) (ts := [(0, 48), (1, 56), (2, 64), (3, 72), (4, 87), (5, 102), (6, 117), (7, 132)]) (q := 117) (ls' := [some (.ref 1), some (.int x0)]) (st' := []) (t' := (jm_S0 L, M, J)) (fun _ _ => rfl) (by simp only [jm_tgt, h1, h2, h3, h8, h13, h18, h23, cond_true, cond_false]) ?_
                obtain ⟨q19, h20, H⟩ := jm_bdo H
                refine jm_go.call 5 (d := d + 4) (b := true) (u := 22) (as := [.ref 39, .ref 2]) (pc' := 128) (ls' := [some (.ref 1), none]) (st' := []) (t' := (jm_S0 L, M, J)) (fun _ _ => rfl) rfl rfl (g22 L d M J _ h20) ?_
                obtain ⟨q21, h22, H⟩ := jm_bdo H
                refine jm_go.call 1 (d := d + 4) (b := true) (u := 28) (as := [.ref 39]) (pc' := 131) (ls' := [some (.ref 1), none]) (st' := []) (t' := (jm_S0 L, q19, J)) (fun _ _ => rfl) rfl rfl (g28 L (d + 3) q19 J _ h22) ?_
                have H := Option.some.inj H
                subst H
                exact jm_go.ret 1 (fun _ _ => rfl)
              · skip
                rcases jm_bro H with ⟨h24, H⟩ | ⟨h24, H⟩
                · refine jm_go.sw 2 (x := x0) (u := 140) (ts := [(0, 48), (1, 56), (2, 64), (3, 72), (4, 87), (5, 102), (6, 117), (7, 132)]) (q := 132) (ls' := [some (.ref 1), some (.int x0)]) (st' := []) (t' := (jm_S0 L, M, J)) (fun _ _ => rfl) (by simp only [jm_tgt, h1, h2, h3, h8, h13, h18, h23, h24, cond_true, cond_false]) ?_
                  have H := Option.some.inj H
                  subst H
                  exact jm_go.ret 4 (fun _ _ => rfl)
                · skip
                  refine jm_go.sw 2 (x := x0) (u := 140) (ts := [(0, 48), (1, 56), (2, 64), (3, 72), (4, 87), (5, 102), (6, 117), (7, 132)]) (q := 140) (ls' := [some (.ref 1), some (.int x0)]) (st' := []) (t' := (jm_S0 L, M, J)) (fun _ _ => rfl) (by simp only [jm_tgt, h1, h2, h3, h8, h13, h18, h23, h24, cond_true, cond_false]) ?_
                  have H := Option.some.inj H
                  subst H
                  exact jm_go.ret 2 (fun _ _ => rfl)


/-- X7_treeOf -/
def f90 (M : jm_MM) (x0 : Int32) : Option (jm_MM) := jm_bd (f50 M x0) (fun q1 => some q1)
set_option maxRecDepth 100000 in
theorem g90 (L : Nat) (d : Nat) (M : jm_MM) (J : jm_JJ) (x0 : Int32) (r : jm_MM) (H : f90 M x0 = some r) : jm_go (d + 34) (jm_G 90) 0 (jm_en 2 [.ref 1, .int x0]) [] (jm_S0 L, M, J) (some (.ref 105), (jm_S0 L, r, J)) := by
  unfold f90 at H
  obtain ⟨q1, h2, H⟩ := jm_bdo H
  refine jm_go.call 6 (d := d + 33) (b := true) (u := 50) (as := [.ref 105, .ref 2, .int x0]) (pc' := 12) (ls' := [some (.ref 1), some (.int x0)]) (st' := []) (t' := (jm_S0 L, M, J)) (fun _ _ => rfl) rfl rfl (g50 L d M J x0 _ h2) ?_
  have H := Option.some.inj H
  subst H
  exact jm_go.ret 3 (fun _ _ => rfl)


/-- X7_ofPicture -/
def f66 (M : jm_MM) (x0 : Int32) (x1 : Int32) : Option (Int32 × jm_MM) := jm_bd (f80 M x0) (fun q1 => bif !decide (q1 = 0) then (bif decide (x1 = 0) then (jm_bd (f18 M x0) (fun q4 => jm_bd (f164 M q4) (fun q6 => some (q6, M)))) else (bif decide (x1 = 1) then (jm_bd (f18 M x0) (fun q9 => some (q9, M))) else (bif decide (x1 = 2) then (jm_bd (f22 M) (fun q12 => jm_gd (jm_inb x0 6) (some (q12 (42 + 10 * x0.toNatClampNeg) 0, q12)))) else (bif decide (x1 = 3) then (jm_bd (f22 M) (fun q16 => jm_gd (jm_inb x0 6) (some (q16 (42 + 10 * x0.toNatClampNeg) 1, q16)))) else (bif decide (x1 = 4) then (jm_bd (f22 M) (fun q20 => jm_gd (jm_inb x0 6) (some (q20 (45 + 10 * x0.toNatClampNeg) 0, q20)))) else (bif decide (x1 = 5) then (jm_bd (f90 M x0) (fun q24 => some (q24 105 1, q24))) else (bif decide (x1 = 6) then (jm_bd (f90 M x0) (fun q27 => some (q27 105 0, q27))) else (bif decide (x1 = 7) then (jm_bd (f18 M x0) (fun q30 => jm_bd (f20 M q30) (fun q32 => some (q32, M)))) else (some ((-1000000002), M)))))))))) else (some ((-1000000001), M)))
set_option maxRecDepth 100000 in
theorem g66 (L : Nat) (d : Nat) (M : jm_MM) (J : jm_JJ) (x0 : Int32) (x1 : Int32) (r : Int32 × jm_MM) (H : f66 M x0 x1 = some r) : jm_go (d + 35) (jm_G 66) 0 (jm_en 3 [.ref 1, .int x0, .int x1]) [] (jm_S0 L, M, J) (some (.int r.1), (jm_S0 L, r.2, J)) := by
  unfold f66 at H
  obtain ⟨q1, h2, H⟩ := jm_bdo H
  refine jm_go.call 3 (d := d + 34) (b := true) (u := 80) (as := [.ref 1, .int x0]) (pc' := 5) (ls' := [some (.ref 1), some (.int x0), some (.int x1)]) (st' := []) (t' := (jm_S0 L, M, J)) (fun _ _ => rfl) rfl rfl (g80 L (d + 34) M J x0 _ h2) ?_
  rcases jm_bro H with ⟨h3, H⟩ | ⟨h3, H⟩
  · refine jm_go.brt 1 (b := !decide (q1 = 0)) (p1 := 11) (l1 := [some (.ref 1), some (.int x0), some (.int x1)]) (s1 := []) (t1 := (jm_S0 L, M, J)) (p2 := 8) (l2 := [some (.ref 1), some (.int x0), some (.int x1)]) (s2 := []) (t2 := (jm_S0 L, M, J)) (fun _ _ => rfl) h3 ?_
    rcases jm_bro H with ⟨h8, H⟩ | ⟨h8, H⟩
    · refine jm_go.sw 2 (x := x1) (u := 175) (ts := [(0, 60), (1, 72), (2, 81), (3, 101), (4, 121), (5, 141), (6, 150), (7, 159)]) (q := 60) (ls' := [some (.ref 1), some (.int x0), some (.int x1)]) (st' := []) (t' := (jm_S0 L, M, J)) (fun _ _ => rfl) (by simp only [jm_tgt, h8, cond_true, cond_false]) ?_
      obtain ⟨q4, h5, H⟩ := jm_bdo H
      refine jm_go.call 4 (d := d + 34) (b := true) (u := 18) (as := [.ref 2, .int x0]) (pc' := 68) (ls' := [some (.ref 1), some (.int x0), none]) (st' := []) (t' := (jm_S0 L, M, J)) (fun _ _ => rfl) rfl rfl (g18 L (d + 33) M J x0 _ h5) ?_
      obtain ⟨q6, h7, H⟩ := jm_bdo H
      refine jm_go.call 1 (d := d + 34) (b := true) (u := 164) (as := [.int q4]) (pc' := 71) (ls' := [some (.ref 1), some (.int x0), none]) (st' := []) (t' := (jm_S0 L, M, J)) (fun _ _ => rfl) rfl rfl (g164 L (d + 34) M J q4 _ h7) ?_
      have H := Option.some.inj H
      subst H
      exact jm_go.ret 1 (fun _ _ => rfl)
    · skip
      rcases jm_bro H with ⟨h11, H⟩ | ⟨h11, H⟩
      · refine jm_go.sw 2 (x := x1) (u := 175) (ts := [(0, 60), (1, 72), (2, 81), (3, 101), (4, 121), (5, 141), (6, 150), (7, 159)]) (q := 72) (ls' := [some (.ref 1), some (.int x0), some (.int x1)]) (st' := []) (t' := (jm_S0 L, M, J)) (fun _ _ => rfl) (by simp only [jm_tgt, h8, h11, cond_true, cond_false]) ?_
        obtain ⟨q9, h10, H⟩ := jm_bdo H
        refine jm_go.call 4 (d := d + 34) (b := true) (u := 18) (as := [.ref 2, .int x0]) (pc' := 80) (ls' := [some (.ref 1), some (.int x0), none]) (st' := []) (t' := (jm_S0 L, M, J)) (fun _ _ => rfl) rfl rfl (g18 L (d + 33) M J x0 _ h10) ?_
        have H := Option.some.inj H
        subst H
        exact jm_go.ret 1 (fun _ _ => rfl)
      · skip
        rcases jm_bro H with ⟨h15, H⟩ | ⟨h15, H⟩
        · refine jm_go.sw 2 (x := x1) (u := 175) (ts := [(0, 60), (1, 72), (2, 81), (3, 101), (4, 121), (5, 141), (6, 150), (7, 159)]) (q := 81) (ls' := [some (.ref 1), some (.int x0), some (.int x1)]) (st' := []) (t' := (jm_S0 L, M, J)) (fun _ _ => rfl) (by simp only [jm_tgt, h8, h11, h15, cond_true, cond_false]) ?_
          obtain ⟨q12, h13, H⟩ := jm_bdo H
          refine jm_go.call 5 (d := d + 34) (b := true) (u := 22) (as := [.ref 39, .ref 2]) (pc' := 92) (ls' := [some (.ref 1), some (.int x0), none]) (st' := []) (t' := (jm_S0 L, M, J)) (fun _ _ => rfl) rfl rfl (g22 L (d + 30) M J _ h13) ?_
          obtain ⟨h14, H⟩ := jm_gdo H
          refine jm_go.gfr 3 (b := jm_inb x0 6) (o := (jm_S0 L).2.2.2.2 40 x0.toNatClampNeg) (q := 42 + 10 * x0.toNatClampNeg) (pc' := 97) (ls' := [some (.ref 1), some (.int x0), none]) (st' := []) (t' := (jm_S0 L, q12, J)) (fun _ _ => rfl) h14 (jm_aCr L h14) ?_
          refine jm_go.grd 1 (b := jm_is (jm_S0 L) (42 + 10 * x0.toNatClampNeg) 0) (pc' := 100) (ls' := [some (.ref 1), some (.int x0), none]) (st' := [.int (q12 (42 + 10 * x0.toNatClampNeg) 0)]) (t' := (jm_S0 L, q12, J)) (fun _ _ => rfl) (jm_fC L (jm_aC h14)) ?_
          have H := Option.some.inj H
          subst H
          exact jm_go.ret 1 (fun _ _ => rfl)
        · skip
          rcases jm_bro H with ⟨h19, H⟩ | ⟨h19, H⟩
          · refine jm_go.sw 2 (x := x1) (u := 175) (ts := [(0, 60), (1, 72), (2, 81), (3, 101), (4, 121), (5, 141), (6, 150), (7, 159)]) (q := 101) (ls' := [some (.ref 1), some (.int x0), some (.int x1)]) (st' := []) (t' := (jm_S0 L, M, J)) (fun _ _ => rfl) (by simp only [jm_tgt, h8, h11, h15, h19, cond_true, cond_false]) ?_
            obtain ⟨q16, h17, H⟩ := jm_bdo H
            refine jm_go.call 5 (d := d + 34) (b := true) (u := 22) (as := [.ref 39, .ref 2]) (pc' := 112) (ls' := [some (.ref 1), some (.int x0), none]) (st' := []) (t' := (jm_S0 L, M, J)) (fun _ _ => rfl) rfl rfl (g22 L (d + 30) M J _ h17) ?_
            obtain ⟨h18, H⟩ := jm_gdo H
            refine jm_go.gfr 3 (b := jm_inb x0 6) (o := (jm_S0 L).2.2.2.2 40 x0.toNatClampNeg) (q := 42 + 10 * x0.toNatClampNeg) (pc' := 117) (ls' := [some (.ref 1), some (.int x0), none]) (st' := []) (t' := (jm_S0 L, q16, J)) (fun _ _ => rfl) h18 (jm_aCr L h18) ?_
            refine jm_go.grd 1 (b := jm_is (jm_S0 L) (42 + 10 * x0.toNatClampNeg) 0) (pc' := 120) (ls' := [some (.ref 1), some (.int x0), none]) (st' := [.int (q16 (42 + 10 * x0.toNatClampNeg) 1)]) (t' := (jm_S0 L, q16, J)) (fun _ _ => rfl) (jm_fC L (jm_aC h18)) ?_
            have H := Option.some.inj H
            subst H
            exact jm_go.ret 1 (fun _ _ => rfl)
          · skip
            rcases jm_bro H with ⟨h23, H⟩ | ⟨h23, H⟩
            · refine jm_go.sw 2 (x := x1) (u := 175) (ts := [(0, 60), (1, 72), (2, 81), (3, 101), (4, 121), (5, 141), (6, 150), (7, 159)]) (q := 121) (ls' := [some (.ref 1), some (.int x0), some (.int x1)]) (st' := []) (t' := (jm_S0 L, M, J)) (fun _ _ => rfl) (by simp only [jm_tgt, h8, h11, h15, h19, h23, cond_true, cond_false]) ?_
              obtain ⟨q20, h21, H⟩ := jm_bdo H
              refine jm_go.call 5 (d := d + 34) (b := true) (u := 22) (as := [.ref 39, .ref 2]) (pc' := 132) (ls' := [some (.ref 1), some (.int x0), none]) (st' := []) (t' := (jm_S0 L, M, J)) (fun _ _ => rfl) rfl rfl (g22 L (d + 30) M J _ h21) ?_
              obtain ⟨h22, H⟩ := jm_gdo H
              refine jm_go.gfr 3 (b := jm_inb x0 6) (o := (jm_S0 L).2.2.2.2 41 x0.toNatClampNeg) (q := 45 + 10 * x0.toNatClampNeg) (pc' := 137) (ls' := [some (.ref 1), some (.int x0), none]) (st' := []) (t' := (jm_S0 L, q20, J)) (fun _ _ => rfl) h22 (jm_aHr L h22) ?_
              refine jm_go.grd 1 (b := jm_is (jm_S0 L) (45 + 10 * x0.toNatClampNeg) 3) (pc' := 140) (ls' := [some (.ref 1), some (.int x0), none]) (st' := [.int (q20 (45 + 10 * x0.toNatClampNeg) 0)]) (t' := (jm_S0 L, q20, J)) (fun _ _ => rfl) (jm_fH L (jm_aH h22)) ?_
              have H := Option.some.inj H
              subst H
              exact jm_go.ret 1 (fun _ _ => rfl)
            · skip
              rcases jm_bro H with ⟨h26, H⟩ | ⟨h26, H⟩
              · refine jm_go.sw 2 (x := x1) (u := 175) (ts := [(0, 60), (1, 72), (2, 81), (3, 101), (4, 121), (5, 141), (6, 150), (7, 159)]) (q := 141) (ls' := [some (.ref 1), some (.int x0), some (.int x1)]) (st' := []) (t' := (jm_S0 L, M, J)) (fun _ _ => rfl) (by simp only [jm_tgt, h8, h11, h15, h19, h23, h26, cond_true, cond_false]) ?_
                obtain ⟨q24, h25, H⟩ := jm_bdo H
                refine jm_go.call 3 (d := d + 34) (b := true) (u := 90) (as := [.ref 1, .int x0]) (pc' := 146) (ls' := [some (.ref 1), some (.int x0), none]) (st' := []) (t' := (jm_S0 L, M, J)) (fun _ _ => rfl) rfl rfl (g90 L d M J x0 _ h25) ?_
                have H := Option.some.inj H
                subst H
                exact jm_go.ret 2 (fun _ _ => rfl)
              · skip
                rcases jm_bro H with ⟨h29, H⟩ | ⟨h29, H⟩
                · refine jm_go.sw 2 (x := x1) (u := 175) (ts := [(0, 60), (1, 72), (2, 81), (3, 101), (4, 121), (5, 141), (6, 150), (7, 159)]) (q := 150) (ls' := [some (.ref 1), some (.int x0), some (.int x1)]) (st' := []) (t' := (jm_S0 L, M, J)) (fun _ _ => rfl) (by simp only [jm_tgt, h8, h11, h15, h19, h23, h26, h29, cond_true, cond_false]) ?_
                  obtain ⟨q27, h28, H⟩ := jm_bdo H
                  refine jm_go.call 3 (d := d + 34) (b := true) (u := 90) (as := [.ref 1, .int x0]) (pc' := 155) (ls' := [some (.ref 1), some (.int x0), none]) (st' := []) (t' := (jm_S0 L, M, J)) (fun _ _ => rfl) rfl rfl (g90 L d M J x0 _ h28) ?_
                  have H := Option.some.inj H
                  subst H
                  exact jm_go.ret 2 (fun _ _ => rfl)
                · skip
                  rcases jm_bro H with ⟨h34, H⟩ | ⟨h34, H⟩
                  · refine jm_go.sw 2 (x := x1) (u := 175) (ts := [(0, 60), (1, 72), (2, 81), (3, 101), (4, 121), (5, 141), (6, 150), (7, 159)]) (q := 159) (ls' := [some (.ref 1), some (.int x0), some (.int x1)]) (st' := []) (t' := (jm_S0 L, M, J)) (fun _ _ => rfl) (by simp only [jm_tgt, h8, h11, h15, h19, h23, h26, h29, h34, cond_true, cond_false]) ?_
                    obtain ⟨q30, h31, H⟩ := jm_bdo H
                    refine jm_go.call 6 (d := d + 34) (b := true) (u := 18) (as := [.ref 2, .int x0]) (pc' := 171) (ls' := [some (.ref 1), some (.int x0), none]) (st' := [.ref 2]) (t' := (jm_S0 L, M, J)) (fun _ _ => rfl) rfl rfl (g18 L (d + 33) M J x0 _ h31) ?_
                    obtain ⟨q32, h33, H⟩ := jm_bdo H
                    refine jm_go.call 1 (d := d + 34) (b := true) (u := 20) (as := [.ref 2, .int q30]) (pc' := 174) (ls' := [some (.ref 1), some (.int x0), none]) (st' := []) (t' := (jm_S0 L, M, J)) (fun _ _ => rfl) rfl rfl (g20 L (d + 33) M J q30 _ h33) ?_
                    have H := Option.some.inj H
                    subst H
                    exact jm_go.ret 1 (fun _ _ => rfl)
                  · skip
                    refine jm_go.sw 2 (x := x1) (u := 175) (ts := [(0, 60), (1, 72), (2, 81), (3, 101), (4, 121), (5, 141), (6, 150), (7, 159)]) (q := 175) (ls' := [some (.ref 1), some (.int x0), some (.int x1)]) (st' := []) (t' := (jm_S0 L, M, J)) (fun _ _ => rfl) (by simp only [jm_tgt, h8, h11, h15, h19, h23, h26, h29, h34, cond_true, cond_false]) ?_
                    have H := Option.some.inj H
                    subst H
                    exact jm_go.ret 2 (fun _ _ => rfl)
  · refine jm_go.brf 1 (b := !decide (q1 = 0)) (p1 := 11) (l1 := [some (.ref 1), some (.int x0), some (.int x1)]) (s1 := []) (t1 := (jm_S0 L, M, J)) (p2 := 8) (l2 := [some (.ref 1), some (.int x0), some (.int x1)]) (s2 := []) (t2 := (jm_S0 L, M, J)) (fun _ _ => rfl) h3 ?_
    have H := Option.some.inj H
    subst H
    exact jm_go.ret 2 (fun _ _ => rfl)


/-- X7_grain -/
def f67 (M : jm_MM) (x0 : Int32) (x1 : Int32) (x2 : Int32) : Option (Int32 × jm_MM) := jm_bd (f81 M x0 x1) (fun q1 => bif !decide (q1 = 0) then (jm_bd (f14 M x0 x1) (fun q4 => bif decide (x2 = 0) then (bif decide (q4 = 0) then (some ((-1), M)) else (jm_bd (f15 M x0 x1) (fun q7 => some (q7, M)))) else (bif decide (x2 = 1) then (bif decide (q4 = 0) then (some ((-1), M)) else (jm_bd (f16 M x0 x1) (fun q11 => some (q11, M)))) else (bif decide (x2 = 2) then (jm_bd (f22 M) (fun q14 => jm_gd (jm_inb x0 6) (jm_gd (jm_inb x1 24) (some (q14 (42 + 10 * x0.toNatClampNeg + 2) x1.toNatClampNeg, q14))))) else (bif decide (x2 = 3) then (jm_bd (f22 M) (fun q19 => jm_gd (jm_inb x0 6) (jm_bd (f32 q19 (45 + 10 * x0.toNatClampNeg) x1) (fun q22 => some (q22, q19))))) else (bif decide (x2 = 4) then (jm_bd (f22 M) (fun q25 => jm_gd (jm_inb x0 6) (jm_gd (jm_inb x1 24) (jm_bd (f164 q25 (q25 (42 + 10 * x0.toNatClampNeg + 1) x1.toNatClampNeg)) (fun q29 => some (q29, q25)))))) else (bif decide (x2 = 5) then (jm_bd (f22 M) (fun q32 => jm_gd (jm_inb x0 6) (jm_bd (f8 q32 (42 + 10 * x0.toNatClampNeg) x1) (fun q35 => bif decide (q35 = 0) then (some (0, q32)) else (some (1, q32)))))) else (bif decide (x2 = 6) then (jm_bd (f90 M x0) (fun q39 => jm_gd (jm_inb x1 24) (some (q39 108 x1.toNatClampNeg, q39)))) else (bif decide (x2 = 7) then (jm_gd (jm_inb x1 24) (some (M 3 x1.toNatClampNeg, M))) else (some ((-1000000002), M))))))))))) else (some ((-1000000001), M)))
set_option maxRecDepth 100000 in
theorem g67 (L : Nat) (d : Nat) (M : jm_MM) (J : jm_JJ) (x0 : Int32) (x1 : Int32) (x2 : Int32) (r : Int32 × jm_MM) (H : f67 M x0 x1 x2 = some r) : jm_go (d + 35) (jm_G 67) 0 (jm_en 5 [.ref 1, .int x0, .int x1, .int x2]) [] (jm_S0 L, M, J) (some (.int r.1), (jm_S0 L, r.2, J)) := by
  unfold f67 at H
  obtain ⟨q1, h2, H⟩ := jm_bdo H
  refine jm_go.call 4 (d := d + 34) (b := true) (u := 81) (as := [.ref 1, .int x0, .int x1]) (pc' := 6) (ls' := [some (.ref 1), some (.int x0), some (.int x1), some (.int x2), none]) (st' := []) (t' := (jm_S0 L, M, J)) (fun _ _ => rfl) rfl rfl (g81 L (d + 32) M J x0 x1 _ h2) ?_
  rcases jm_bro H with ⟨h3, H⟩ | ⟨h3, H⟩
  · refine jm_go.brt 1 (b := !decide (q1 = 0)) (p1 := 12) (l1 := [some (.ref 1), some (.int x0), some (.int x1), some (.int x2), none]) (s1 := []) (t1 := (jm_S0 L, M, J)) (p2 := 9) (l2 := [some (.ref 1), some (.int x0), some (.int x1), some (.int x2), none]) (s2 := []) (t2 := (jm_S0 L, M, J)) (fun _ _ => rfl) h3 ?_
    obtain ⟨q4, h5, H⟩ := jm_bdo H
    refine jm_go.call 5 (d := d + 34) (b := true) (u := 14) (as := [.ref 2, .int x0, .int x1]) (pc' := 21) (ls' := [some (.ref 1), some (.int x0), some (.int x1), some (.int x2), none]) (st' := []) (t' := (jm_S0 L, M, J)) (fun _ _ => rfl) rfl rfl (g14 L (d + 34) M J x0 x1 _ h5) ?_
    rcases jm_bro H with ⟨h9, H⟩ | ⟨h9, H⟩
    · refine jm_go.sw 3 (x := x2) (u := 228) (ts := [(0, 72), (1, 91), (2, 110), (3, 132), (4, 153), (5, 178), (6, 207), (7, 218)]) (q := 72) (ls' := [some (.ref 1), some (.int x0), some (.int x1), some (.int x2), some (.int q4)]) (st' := []) (t' := (jm_S0 L, M, J)) (fun _ _ => rfl) (by simp only [jm_tgt, h9, cond_true, cond_false]) ?_
      rcases jm_bro H with ⟨h6, H⟩ | ⟨h6, H⟩
      · refine jm_go.brt 2 (b := decide (q4 = 0)) (p1 := 89) (l1 := [some (.ref 1), some (.int x0), some (.int x1), none, some (.int q4)]) (s1 := []) (t1 := (jm_S0 L, M, J)) (p2 := 77) (l2 := [some (.ref 1), some (.int x0), some (.int x1), none, some (.int q4)]) (s2 := []) (t2 := (jm_S0 L, M, J)) (fun _ _ => rfl) h6 ?_
        have H := Option.some.inj H
        subst H
        exact jm_go.ret 2 (fun _ _ => rfl)
      · refine jm_go.brf 2 (b := decide (q4 = 0)) (p1 := 89) (l1 := [some (.ref 1), some (.int x0), some (.int x1), none, some (.int q4)]) (s1 := []) (t1 := (jm_S0 L, M, J)) (p2 := 77) (l2 := [some (.ref 1), some (.int x0), some (.int x1), none, some (.int q4)]) (s2 := []) (t2 := (jm_S0 L, M, J)) (fun _ _ => rfl) h6 ?_
        obtain ⟨q7, h8, H⟩ := jm_bdo H
        refine jm_go.call 5 (d := d + 34) (b := true) (u := 15) (as := [.ref 2, .int x0, .int x1]) (pc' := 86) (ls' := [some (.ref 1), some (.int x0), some (.int x1), none, some (.int q4)]) (st' := []) (t' := (jm_S0 L, M, J)) (fun _ _ => rfl) rfl rfl (g15 L (d + 34) M J x0 x1 _ h8) ?_
        have H := Option.some.inj H
        subst H
        exact jm_go.ret 2 (fun _ _ => rfl)
    · skip
      rcases jm_bro H with ⟨h13, H⟩ | ⟨h13, H⟩
      · refine jm_go.sw 3 (x := x2) (u := 228) (ts := [(0, 72), (1, 91), (2, 110), (3, 132), (4, 153), (5, 178), (6, 207), (7, 218)]) (q := 91) (ls' := [some (.ref 1), some (.int x0), some (.int x1), some (.int x2), some (.int q4)]) (st' := []) (t' := (jm_S0 L, M, J)) (fun _ _ => rfl) (by simp only [jm_tgt, h9, h13, cond_true, cond_false]) ?_
        rcases jm_bro H with ⟨h10, H⟩ | ⟨h10, H⟩
        · refine jm_go.brt 2 (b := decide (q4 = 0)) (p1 := 108) (l1 := [some (.ref 1), some (.int x0), some (.int x1), none, some (.int q4)]) (s1 := []) (t1 := (jm_S0 L, M, J)) (p2 := 96) (l2 := [some (.ref 1), some (.int x0), some (.int x1), none, some (.int q4)]) (s2 := []) (t2 := (jm_S0 L, M, J)) (fun _ _ => rfl) h10 ?_
          have H := Option.some.inj H
          subst H
          exact jm_go.ret 2 (fun _ _ => rfl)
        · refine jm_go.brf 2 (b := decide (q4 = 0)) (p1 := 108) (l1 := [some (.ref 1), some (.int x0), some (.int x1), none, some (.int q4)]) (s1 := []) (t1 := (jm_S0 L, M, J)) (p2 := 96) (l2 := [some (.ref 1), some (.int x0), some (.int x1), none, some (.int q4)]) (s2 := []) (t2 := (jm_S0 L, M, J)) (fun _ _ => rfl) h10 ?_
          obtain ⟨q11, h12, H⟩ := jm_bdo H
          refine jm_go.call 5 (d := d + 34) (b := true) (u := 16) (as := [.ref 2, .int x0, .int x1]) (pc' := 105) (ls' := [some (.ref 1), some (.int x0), some (.int x1), none, some (.int q4)]) (st' := []) (t' := (jm_S0 L, M, J)) (fun _ _ => rfl) rfl rfl (g16 L (d + 34) M J x0 x1 _ h12) ?_
          have H := Option.some.inj H
          subst H
          exact jm_go.ret 2 (fun _ _ => rfl)
      · skip
        rcases jm_bro H with ⟨h18, H⟩ | ⟨h18, H⟩
        · refine jm_go.sw 3 (x := x2) (u := 228) (ts := [(0, 72), (1, 91), (2, 110), (3, 132), (4, 153), (5, 178), (6, 207), (7, 218)]) (q := 110) (ls' := [some (.ref 1), some (.int x0), some (.int x1), some (.int x2), some (.int q4)]) (st' := []) (t' := (jm_S0 L, M, J)) (fun _ _ => rfl) (by simp only [jm_tgt, h9, h13, h18, cond_true, cond_false]) ?_
          obtain ⟨q14, h15, H⟩ := jm_bdo H
          refine jm_go.call 5 (d := d + 34) (b := true) (u := 22) (as := [.ref 39, .ref 2]) (pc' := 121) (ls' := [some (.ref 1), some (.int x0), some (.int x1), none, none]) (st' := []) (t' := (jm_S0 L, M, J)) (fun _ _ => rfl) rfl rfl (g22 L (d + 30) M J _ h15) ?_
          obtain ⟨h16, H⟩ := jm_gdo H
          refine jm_go.gfr 3 (b := jm_inb x0 6) (o := (jm_S0 L).2.2.2.2 40 x0.toNatClampNeg) (q := 42 + 10 * x0.toNatClampNeg) (pc' := 126) (ls' := [some (.ref 1), some (.int x0), some (.int x1), none, none]) (st' := []) (t' := (jm_S0 L, q14, J)) (fun _ _ => rfl) h16 (jm_aCr L h16) ?_
          refine jm_go.gfr 1 (b := jm_is (jm_S0 L) (42 + 10 * x0.toNatClampNeg) 0) (o := (jm_S0 L).2.2.2.2 (42 + 10 * x0.toNatClampNeg) 3) (q := 42 + 10 * x0.toNatClampNeg + 2) (pc' := 129) (ls' := [some (.ref 1), some (.int x0), some (.int x1), none, none]) (st' := []) (t' := (jm_S0 L, q14, J)) (fun _ _ => rfl) (jm_fC L (jm_aC h16)) (jm_rC2 L (jm_aC h16)) ?_
          obtain ⟨h17, H⟩ := jm_gdo H
          refine jm_go.grd 2 (b := ((Nat.beq 0 1 && Nat.beq (42 + 10 * x0.toNatClampNeg + 2) 0) || (Nat.beq 0 0 && jm_is (jm_S0 L) (42 + 10 * x0.toNatClampNeg + 2) 9)) && jm_inb x1 ((jm_S0 L).2.2.2.1 (42 + 10 * x0.toNatClampNeg + 2))) (pc' := 131) (ls' := [some (.ref 1), some (.int x0), some (.int x1), none, none]) (st' := [.int (q14 (42 + 10 * x0.toNatClampNeg + 2) x1.toNatClampNeg)]) (t' := (jm_S0 L, q14, J)) (fun _ _ => rfl) (jm_gia (jm_fC2 L (jm_aC h16)) h17) ?_
          have H := Option.some.inj H
          subst H
          exact jm_go.ret 1 (fun _ _ => rfl)
        · skip
          rcases jm_bro H with ⟨h24, H⟩ | ⟨h24, H⟩
          · refine jm_go.sw 3 (x := x2) (u := 228) (ts := [(0, 72), (1, 91), (2, 110), (3, 132), (4, 153), (5, 178), (6, 207), (7, 218)]) (q := 132) (ls' := [some (.ref 1), some (.int x0), some (.int x1), some (.int x2), some (.int q4)]) (st' := []) (t' := (jm_S0 L, M, J)) (fun _ _ => rfl) (by simp only [jm_tgt, h9, h13, h18, h24, cond_true, cond_false]) ?_
            obtain ⟨q19, h20, H⟩ := jm_bdo H
            refine jm_go.call 5 (d := d + 34) (b := true) (u := 22) (as := [.ref 39, .ref 2]) (pc' := 143) (ls' := [some (.ref 1), some (.int x0), some (.int x1), none, none]) (st' := []) (t' := (jm_S0 L, M, J)) (fun _ _ => rfl) rfl rfl (g22 L (d + 30) M J _ h20) ?_
            obtain ⟨h21, H⟩ := jm_gdo H
            refine jm_go.gfr 3 (b := jm_inb x0 6) (o := (jm_S0 L).2.2.2.2 41 x0.toNatClampNeg) (q := 45 + 10 * x0.toNatClampNeg) (pc' := 148) (ls' := [some (.ref 1), some (.int x0), some (.int x1), none, none]) (st' := []) (t' := (jm_S0 L, q19, J)) (fun _ _ => rfl) h21 (jm_aHr L h21) ?_
            obtain ⟨q22, h23, H⟩ := jm_bdo H
            refine jm_go.call 2 (d := d + 34) (b := jm_is (jm_S0 L) (45 + 10 * x0.toNatClampNeg) 3) (u := 32) (as := [.ref (45 + 10 * x0.toNatClampNeg), .int x1]) (pc' := 152) (ls' := [some (.ref 1), some (.int x0), some (.int x1), none, none]) (st' := []) (t' := (jm_S0 L, q19, J)) (fun _ _ => rfl) (jm_fH L (jm_aH h21)) rfl (g32 L (d + 33) q19 J (45 + 10 * x0.toNatClampNeg) (jm_aH h21) x1 _ h23) ?_
            have H := Option.some.inj H
            subst H
            exact jm_go.ret 1 (fun _ _ => rfl)
          · skip
            rcases jm_bro H with ⟨h31, H⟩ | ⟨h31, H⟩
            · refine jm_go.sw 3 (x := x2) (u := 228) (ts := [(0, 72), (1, 91), (2, 110), (3, 132), (4, 153), (5, 178), (6, 207), (7, 218)]) (q := 153) (ls' := [some (.ref 1), some (.int x0), some (.int x1), some (.int x2), some (.int q4)]) (st' := []) (t' := (jm_S0 L, M, J)) (fun _ _ => rfl) (by simp only [jm_tgt, h9, h13, h18, h24, h31, cond_true, cond_false]) ?_
              obtain ⟨q25, h26, H⟩ := jm_bdo H
              refine jm_go.call 5 (d := d + 34) (b := true) (u := 22) (as := [.ref 39, .ref 2]) (pc' := 164) (ls' := [some (.ref 1), some (.int x0), some (.int x1), none, none]) (st' := []) (t' := (jm_S0 L, M, J)) (fun _ _ => rfl) rfl rfl (g22 L (d + 30) M J _ h26) ?_
              obtain ⟨h27, H⟩ := jm_gdo H
              refine jm_go.gfr 3 (b := jm_inb x0 6) (o := (jm_S0 L).2.2.2.2 40 x0.toNatClampNeg) (q := 42 + 10 * x0.toNatClampNeg) (pc' := 169) (ls' := [some (.ref 1), some (.int x0), some (.int x1), none, none]) (st' := []) (t' := (jm_S0 L, q25, J)) (fun _ _ => rfl) h27 (jm_aCr L h27) ?_
              refine jm_go.gfr 1 (b := jm_is (jm_S0 L) (42 + 10 * x0.toNatClampNeg) 0) (o := (jm_S0 L).2.2.2.2 (42 + 10 * x0.toNatClampNeg) 2) (q := 42 + 10 * x0.toNatClampNeg + 1) (pc' := 172) (ls' := [some (.ref 1), some (.int x0), some (.int x1), none, none]) (st' := []) (t' := (jm_S0 L, q25, J)) (fun _ _ => rfl) (jm_fC L (jm_aC h27)) (jm_rC1 L (jm_aC h27)) ?_
              obtain ⟨h28, H⟩ := jm_gdo H
              refine jm_go.grd 2 (b := ((Nat.beq 0 1 && Nat.beq (42 + 10 * x0.toNatClampNeg + 1) 0) || (Nat.beq 0 0 && jm_is (jm_S0 L) (42 + 10 * x0.toNatClampNeg + 1) 9)) && jm_inb x1 ((jm_S0 L).2.2.2.1 (42 + 10 * x0.toNatClampNeg + 1))) (pc' := 174) (ls' := [some (.ref 1), some (.int x0), some (.int x1), none, none]) (st' := [.int (q25 (42 + 10 * x0.toNatClampNeg + 1) x1.toNatClampNeg)]) (t' := (jm_S0 L, q25, J)) (fun _ _ => rfl) (jm_gia (jm_fC1 L (jm_aC h27)) h28) ?_
              obtain ⟨q29, h30, H⟩ := jm_bdo H
              refine jm_go.call 1 (d := d + 34) (b := true) (u := 164) (as := [.int (q25 (42 + 10 * x0.toNatClampNeg + 1) x1.toNatClampNeg)]) (pc' := 177) (ls' := [some (.ref 1), some (.int x0), some (.int x1), none, none]) (st' := []) (t' := (jm_S0 L, q25, J)) (fun _ _ => rfl) rfl rfl (g164 L (d + 34) q25 J (q25 (42 + 10 * x0.toNatClampNeg + 1) x1.toNatClampNeg) _ h30) ?_
              have H := Option.some.inj H
              subst H
              exact jm_go.ret 1 (fun _ _ => rfl)
            · skip
              rcases jm_bro H with ⟨h38, H⟩ | ⟨h38, H⟩
              · refine jm_go.sw 3 (x := x2) (u := 228) (ts := [(0, 72), (1, 91), (2, 110), (3, 132), (4, 153), (5, 178), (6, 207), (7, 218)]) (q := 178) (ls' := [some (.ref 1), some (.int x0), some (.int x1), some (.int x2), some (.int q4)]) (st' := []) (t' := (jm_S0 L, M, J)) (fun _ _ => rfl) (by simp only [jm_tgt, h9, h13, h18, h24, h31, h38, cond_true, cond_false]) ?_
                obtain ⟨q32, h33, H⟩ := jm_bdo H
                refine jm_go.call 5 (d := d + 34) (b := true) (u := 22) (as := [.ref 39, .ref 2]) (pc' := 189) (ls' := [some (.ref 1), some (.int x0), some (.int x1), none, none]) (st' := []) (t' := (jm_S0 L, M, J)) (fun _ _ => rfl) rfl rfl (g22 L (d + 30) M J _ h33) ?_
                obtain ⟨h34, H⟩ := jm_gdo H
                refine jm_go.gfr 3 (b := jm_inb x0 6) (o := (jm_S0 L).2.2.2.2 40 x0.toNatClampNeg) (q := 42 + 10 * x0.toNatClampNeg) (pc' := 194) (ls' := [some (.ref 1), some (.int x0), some (.int x1), none, none]) (st' := []) (t' := (jm_S0 L, q32, J)) (fun _ _ => rfl) h34 (jm_aCr L h34) ?_
                obtain ⟨q35, h36, H⟩ := jm_bdo H
                refine jm_go.call 2 (d := d + 34) (b := jm_is (jm_S0 L) (42 + 10 * x0.toNatClampNeg) 0) (u := 8) (as := [.ref (42 + 10 * x0.toNatClampNeg), .int x1]) (pc' := 198) (ls' := [some (.ref 1), some (.int x0), some (.int x1), none, none]) (st' := []) (t' := (jm_S0 L, q32, J)) (fun _ _ => rfl) (jm_fC L (jm_aC h34)) rfl (g8 L (d + 31) q32 J (42 + 10 * x0.toNatClampNeg) (jm_aC h34) x1 _ h36) ?_
                rcases jm_bro H with ⟨h37, H⟩ | ⟨h37, H⟩
                · refine jm_go.brt 1 (b := decide (q35 = 0)) (p1 := 205) (l1 := [some (.ref 1), some (.int x0), some (.int x1), none, none]) (s1 := []) (t1 := (jm_S0 L, q32, J)) (p2 := 201) (l2 := [some (.ref 1), some (.int x0), some (.int x1), none, none]) (s2 := []) (t2 := (jm_S0 L, q32, J)) (fun _ _ => rfl) h37 ?_
                  have H := Option.some.inj H
                  subst H
                  exact jm_go.ret 2 (fun _ _ => rfl)
                · refine jm_go.brf 1 (b := decide (q35 = 0)) (p1 := 205) (l1 := [some (.ref 1), some (.int x0), some (.int x1), none, none]) (s1 := []) (t1 := (jm_S0 L, q32, J)) (p2 := 201) (l2 := [some (.ref 1), some (.int x0), some (.int x1), none, none]) (s2 := []) (t2 := (jm_S0 L, q32, J)) (fun _ _ => rfl) h37 ?_
                  have H := Option.some.inj H
                  subst H
                  exact jm_go.ret 3 (fun _ _ => rfl)
              · skip
                rcases jm_bro H with ⟨h42, H⟩ | ⟨h42, H⟩
                · refine jm_go.sw 3 (x := x2) (u := 228) (ts := [(0, 72), (1, 91), (2, 110), (3, 132), (4, 153), (5, 178), (6, 207), (7, 218)]) (q := 207) (ls' := [some (.ref 1), some (.int x0), some (.int x1), some (.int x2), some (.int q4)]) (st' := []) (t' := (jm_S0 L, M, J)) (fun _ _ => rfl) (by simp only [jm_tgt, h9, h13, h18, h24, h31, h38, h42, cond_true, cond_false]) ?_
                  obtain ⟨q39, h40, H⟩ := jm_bdo H
                  refine jm_go.call 3 (d := d + 34) (b := true) (u := 90) (as := [.ref 1, .int x0]) (pc' := 212) (ls' := [some (.ref 1), some (.int x0), some (.int x1), none, none]) (st' := []) (t' := (jm_S0 L, M, J)) (fun _ _ => rfl) rfl rfl (g90 L d M J x0 _ h40) ?_
                  obtain ⟨h41, H⟩ := jm_gdo H
                  refine jm_go.grd 3 (b := jm_inb x1 24) (pc' := 217) (ls' := [some (.ref 1), some (.int x0), some (.int x1), none, none]) (st' := [.int (q39 108 x1.toNatClampNeg)]) (t' := (jm_S0 L, q39, J)) (fun _ _ => rfl) h41 ?_
                  have H := Option.some.inj H
                  subst H
                  exact jm_go.ret 1 (fun _ _ => rfl)
                · skip
                  rcases jm_bro H with ⟨h44, H⟩ | ⟨h44, H⟩
                  · refine jm_go.sw 3 (x := x2) (u := 228) (ts := [(0, 72), (1, 91), (2, 110), (3, 132), (4, 153), (5, 178), (6, 207), (7, 218)]) (q := 218) (ls' := [some (.ref 1), some (.int x0), some (.int x1), some (.int x2), some (.int q4)]) (st' := []) (t' := (jm_S0 L, M, J)) (fun _ _ => rfl) (by simp only [jm_tgt, h9, h13, h18, h24, h31, h38, h42, h44, cond_true, cond_false]) ?_
                    obtain ⟨h43, H⟩ := jm_gdo H
                    refine jm_go.grd 5 (b := jm_inb x1 24) (pc' := 227) (ls' := [some (.ref 1), none, some (.int x1), none, none]) (st' := [.int (M 3 x1.toNatClampNeg)]) (t' := (jm_S0 L, M, J)) (fun _ _ => rfl) h43 ?_
                    have H := Option.some.inj H
                    subst H
                    exact jm_go.ret 1 (fun _ _ => rfl)
                  · skip
                    refine jm_go.sw 3 (x := x2) (u := 228) (ts := [(0, 72), (1, 91), (2, 110), (3, 132), (4, 153), (5, 178), (6, 207), (7, 218)]) (q := 228) (ls' := [some (.ref 1), some (.int x0), some (.int x1), some (.int x2), some (.int q4)]) (st' := []) (t' := (jm_S0 L, M, J)) (fun _ _ => rfl) (by simp only [jm_tgt, h9, h13, h18, h24, h31, h38, h42, h44, cond_true, cond_false]) ?_
                    have H := Option.some.inj H
                    subst H
                    exact jm_go.ret 2 (fun _ _ => rfl)
  · refine jm_go.brf 1 (b := !decide (q1 = 0)) (p1 := 12) (l1 := [some (.ref 1), some (.int x0), some (.int x1), some (.int x2), none]) (s1 := []) (t1 := (jm_S0 L, M, J)) (p2 := 9) (l2 := [some (.ref 1), some (.int x0), some (.int x1), some (.int x2), none]) (s2 := []) (t2 := (jm_S0 L, M, J)) (fun _ _ => rfl) h3 ?_
    have H := Option.some.inj H
    subst H
    exact jm_go.ret 2 (fun _ _ => rfl)
