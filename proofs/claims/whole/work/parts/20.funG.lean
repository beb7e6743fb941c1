/-! methods as functions: printed by wip/whole/gen/lay.py (funs.py) -/
def f77_60  (ke0 : jm_MM → Int32 → Option (Int32 × jm_MM)) : Nat → jm_MM → Int32 → Int32 → Int32 → Int32 → Int32 → Int32 → Option (Int32 × jm_MM)
  | 0, _, _, _, _, _, _, _ => none
  | n0 + 1, M, v1, v2, v3, v4, v5, v6 => bif decide (90 ≤ v6) then (ke0 M v4) else (bif decide (v5 ≤ v4) then (ke0 M v4) else (jm_bd (f89 M v1 ((v4 + v5) / 2)) (fun q16 => jm_gd (jm_inb v2 24) (jm_bd (f87 q16 (q16 104 v2.toNatClampNeg) v3) (fun q19 => bif decide (q19 = 0) then ((f77_60  ke0 n0) q16 v1 v2 v3 (((v4 + v5) / 2) + 1) v5 (v6 + 1)) else ((f77_60  ke0 n0) q16 v1 v2 v3 v4 ((v4 + v5) / 2) (v6 + 1)))))))
set_option maxRecDepth 100000 in
theorem g77_60 (L : Nat) (d : Nat) (_M : jm_MM) (J : jm_JJ) (ke0 : jm_MM → Int32 → Option (Int32 × jm_MM)) (hke0 : ∀ (M : jm_MM) (v4 : Int32) (r : Int32 × jm_MM), ke0 M v4 = some r → jm_go (d + 5) (jm_G 77) 121 [none, none, none, none, some (.int v4), none, none, none] [] (jm_S0 L, M, J) (some (.int r.1), (jm_S0 L, r.2, J))) : ∀ (n0 : Nat) (M : jm_MM) (v1 : Int32) (v2 : Int32) (v3 : Int32) (v4 : Int32) (v5 : Int32) (v6 : Int32) (r : Int32 × jm_MM), f77_60  ke0 n0 M v1 v2 v3 v4 v5 v6 = some r → jm_go (d + 5) (jm_G 77) 60 [some (.ref 1), some (.int v1), some (.int v2), some (.int v3), some (.int v4), some (.int v5), some (.int v6), none] [] (jm_S0 L, M, J) (some (.int r.1), (jm_S0 L, r.2, J)) := by
  intro n0
  induction n0 with
  | zero => intro M v1 v2 v3 v4 v5 v6 r H; cases H
  | succ n0 ih =>
    intro M v1 v2 v3 v4 v5 v6 r H
    have hkb := ih
    unfold f77_60 at H
    rcases jm_bro H with ⟨h14, H⟩ | ⟨h14, H⟩
    · refine jm_go.brt 3 (b := decide (90 ≤ v6)) (p1 := 121) (l1 := [some (.ref 1), some (.int v1), some (.int v2), some (.int v3), some (.int v4), some (.int v5), some (.int v6), none]) (s1 := []) (t1 := (jm_S0 L, M, J)) (p2 := 67) (l2 := [some (.ref 1), some (.int v1), some (.int v2), some (.int v3), some (.int v4), some (.int v5), some (.int v6), none]) (s2 := []) (t2 := (jm_S0 L, M, J)) (fun _ _ => rfl) h14 ?_
      refine jm_go.lab (ls' := [none, none, none, none, some (.int v4), none, none, none]) (fun i hi => by cases hi; rfl) ?_
      exact hke0 M v4 _ H
    · refine jm_go.brf 3 (b := decide (90 ≤ v6)) (p1 := 121) (l1 := [some (.ref 1), some (.int v1), some (.int v2), some (.int v3), some (.int v4), some (.int v5), some (.int v6), none]) (s1 := []) (t1 := (jm_S0 L, M, J)) (p2 := 67) (l2 := [some (.ref 1), some (.int v1), some (.int v2), some (.int v3), some (.int v4), some (.int v5), some (.int v6), none]) (s2 := []) (t2 := (jm_S0 L, M, J)) (fun _ _ => rfl) h14 ?_
      rcases jm_bro H with ⟨h15, H⟩ | ⟨h15, H⟩
      · refine jm_go.brt 3 (b := decide (v5 ≤ v4)) (p1 := 121) (l1 := [some (.ref 1), some (.int v1), some (.int v2), some (.int v3), some (.int v4), some (.int v5), some (.int v6), none]) (s1 := []) (t1 := (jm_S0 L, M, J)) (p2 := 74) (l2 := [some (.ref 1), some (.int v1), some (.int v2), some (.int v3), some (.int v4), some (.int v5), some (.int v6), none]) (s2 := []) (t2 := (jm_S0 L, M, J)) (fun _ _ => rfl) h15 ?_
        refine jm_go.lab (ls' := [none, none, none, none, some (.int v4), none, none, none]) (fun i hi => by cases hi; rfl) ?_
        exact hke0 M v4 _ H
      · refine jm_go.brf 3 (b := decide (v5 ≤ v4)) (p1 := 121) (l1 := [some (.ref 1), some (.int v1), some (.int v2), some (.int v3), some (.int v4), some (.int v5), some (.int v6), none]) (s1 := []) (t1 := (jm_S0 L, M, J)) (p2 := 74) (l2 := [some (.ref 1), some (.int v1), some (.int v2), some (.int v3), some (.int v4), some (.int v5), some (.int v6), none]) (s2 := []) (t2 := (jm_S0 L, M, J)) (fun _ _ => rfl) h15 ?_
        obtain ⟨q16, h17, H⟩ := jm_bdo H
        refine jm_go.call 10 (d := d + 4) (b := true) (u := 89) (as := [.ref 1, .int v1, .int ((v4 + v5) / 2)]) (pc' := 90) (ls' := [some (.ref 1), some (.int v1), some (.int v2), some (.int v3), some (.int v4), some (.int v5), some (.int v6), some (.int ((v4 + v5) / 2))]) (st' := []) (t' := (jm_S0 L, M, J)) (fun _ _ => rfl) rfl rfl (g89 L d M J v1 ((v4 + v5) / 2) _ h17) ?_
        obtain ⟨h18, H⟩ := jm_gdo H
        refine jm_go.grd 3 (b := jm_inb v2 24) (pc' := 95) (ls' := [some (.ref 1), some (.int v1), some (.int v2), some (.int v3), some (.int v4), some (.int v5), some (.int v6), some (.int ((v4 + v5) / 2))]) (st' := [.int (q16 104 v2.toNatClampNeg)]) (t' := (jm_S0 L, q16, J)) (fun _ _ => rfl) h18 ?_
        obtain ⟨q19, h20, H⟩ := jm_bdo H
        refine jm_go.call 2 (d := d + 4) (b := true) (u := 87) (as := [.int (q16 104 v2.toNatClampNeg), .int v3]) (pc' := 99) (ls' := [some (.ref 1), some (.int v1), some (.int v2), some (.int v3), some (.int v4), some (.int v5), some (.int v6), some (.int ((v4 + v5) / 2))]) (st' := []) (t' := (jm_S0 L, q16, J)) (fun _ _ => rfl) rfl rfl (g87 L (d + 4) q16 J (q16 104 v2.toNatClampNeg) v3 _ h20) ?_
        rcases jm_bro H with ⟨h21, H⟩ | ⟨h21, H⟩
        · refine jm_go.brt 1 (b := decide (q19 = 0)) (p1 := 109) (l1 := [some (.ref 1), some (.int v1), some (.int v2), some (.int v3), some (.int v4), some (.int v5), some (.int v6), some (.int ((v4 + v5) / 2))]) (s1 := []) (t1 := (jm_S0 L, q16, J)) (p2 := 102) (l2 := [some (.ref 1), some (.int v1), some (.int v2), some (.int v3), some (.int v4), some (.int v5), some (.int v6), some (.int ((v4 + v5) / 2))]) (s2 := []) (t2 := (jm_S0 L, q16, J)) (fun _ _ => rfl) h21 ?_
          refine jm_go.blk 6 (pc' := 60) (ls' := [some (.ref 1), some (.int v1), some (.int v2), some (.int v3), some (.int (((v4 + v5) / 2) + 1)), some (.int v5), some (.int (v6 + 1)), none]) (st' := []) (t' := (jm_S0 L, q16, J)) (fun _ _ => rfl) ?_
          exact hkb q16 v1 v2 v3 (((v4 + v5) / 2) + 1) v5 (v6 + 1) _ H
        · refine jm_go.brf 1 (b := decide (q19 = 0)) (p1 := 109) (l1 := [some (.ref 1), some (.int v1), some (.int v2), some (.int v3), some (.int v4), some (.int v5), some (.int v6), some (.int ((v4 + v5) / 2))]) (s1 := []) (t1 := (jm_S0 L, q16, J)) (p2 := 102) (l2 := [some (.ref 1), some (.int v1), some (.int v2), some (.int v3), some (.int v4), some (.int v5), some (.int v6), some (.int ((v4 + v5) / 2))]) (s2 := []) (t2 := (jm_S0 L, q16, J)) (fun _ _ => rfl) h21 ?_
          refine jm_go.blk 5 (pc' := 60) (ls' := [some (.ref 1), some (.int v1), some (.int v2), some (.int v3), some (.int v4), some (.int ((v4 + v5) / 2)), some (.int (v6 + 1)), none]) (st' := []) (t' := (jm_S0 L, q16, J)) (fun _ _ => rfl) ?_
          exact hkb q16 v1 v2 v3 v4 ((v4 + v5) / 2) (v6 + 1) _ H

/-- X7_join -/
def f77 (M : jm_MM) (x0 : Int32) (x1 : Int32) (x2 : Int32) : Option (Int32 × jm_MM) := jm_bd (f81 M x0 x1) (fun q1 => bif decide (q1 = 0) then (some ((-1000000001), M)) else (jm_bd (f83 M x2) (fun q4 => bif decide (q4 = 0) then (some ((-1000000001), M)) else (bif !decide (x1 = x2) then (jm_bd (f14 M x0 x1) (fun q8 => bif decide (q8 = 0) then (some ((-1), M)) else (jm_bd (f14 M x0 x2) (fun q11 => bif !decide (q11 = 0) then (f77_60  (fun Me22 ve23 => some (ve23, Me22)) jm_F M x0 x1 x2 0 90 0) else (some ((-1), M)))))) else (some ((-1000000001), M))))))
set_option maxRecDepth 100000 in
theorem g77 (L : Nat) (d : Nat) (M : jm_MM) (J : jm_JJ) (x0 : Int32) (x1 : Int32) (x2 : Int32) (r : Int32 × jm_MM) (H : f77 M x0 x1 x2 = some r) : jm_go (d + 5) (jm_G 77) 0 (jm_en 8 [.ref 1, .int x0, .int x1, .int x2]) [] (jm_S0 L, M, J) (some (.int r.1), (jm_S0 L, r.2, J)) := by
  unfold f77 at H
  obtain ⟨q1, h2, H⟩ := jm_bdo H
  refine jm_go.call 4 (d := d + 4) (b := true) (u := 81) (as := [.ref 1, .int x0, .int x1]) (pc' := 6) (ls' := [some (.ref 1), some (.int x0), some (.int x1), some (.int x2), none, none, none, none]) (st' := []) (t' := (jm_S0 L, M, J)) (fun _ _ => rfl) rfl rfl (g81 L (d + 2) M J x0 x1 _ h2) ?_
  rcases jm_bro H with ⟨h3, H⟩ | ⟨h3, H⟩
  · refine jm_go.brt 1 (b := decide (q1 = 0)) (p1 := 21) (l1 := [some (.ref 1), some (.int x0), some (.int x1), some (.int x2), none, none, none, none]) (s1 := []) (t1 := (jm_S0 L, M, J)) (p2 := 9) (l2 := [some (.ref 1), some (.int x0), some (.int x1), some (.int x2), none, none, none, none]) (s2 := []) (t2 := (jm_S0 L, M, J)) (fun _ _ => rfl) h3 ?_
    have H := Option.some.inj H
    subst H
    exact jm_go.ret 2 (fun _ _ => rfl)
  · refine jm_go.brf 1 (b := decide (q1 = 0)) (p1 := 21) (l1 := [some (.ref 1), some (.int x0), some (.int x1), some (.int x2), none, none, none, none]) (s1 := []) (t1 := (jm_S0 L, M, J)) (p2 := 9) (l2 := [some (.ref 1), some (.int x0), some (.int x1), some (.int x2), none, none, none, none]) (s2 := []) (t2 := (jm_S0 L, M, J)) (fun _ _ => rfl) h3 ?_
    obtain ⟨q4, h5, H⟩ := jm_bdo H
    refine jm_go.call 2 (d := d + 4) (b := true) (u := 83) (as := [.int x2]) (pc' := 13) (ls' := [some (.ref 1), some (.int x0), some (.int x1), some (.int x2), none, none, none, none]) (st' := []) (t' := (jm_S0 L, M, J)) (fun _ _ => rfl) rfl rfl (g83 L (d + 3) M J x2 _ h5) ?_
    rcases jm_bro H with ⟨h6, H⟩ | ⟨h6, H⟩
    · refine jm_go.brt 1 (b := decide (q4 = 0)) (p1 := 21) (l1 := [some (.ref 1), some (.int x0), some (.int x1), some (.int x2), none, none, none, none]) (s1 := []) (t1 := (jm_S0 L, M, J)) (p2 := 16) (l2 := [some (.ref 1), some (.int x0), some (.int x1), some (.int x2), none, none, none, none]) (s2 := []) (t2 := (jm_S0 L, M, J)) (fun _ _ => rfl) h6 ?_
      have H := Option.some.inj H
      subst H
      exact jm_go.ret 2 (fun _ _ => rfl)
    · refine jm_go.brf 1 (b := decide (q4 = 0)) (p1 := 21) (l1 := [some (.ref 1), some (.int x0), some (.int x1), some (.int x2), none, none, none, none]) (s1 := []) (t1 := (jm_S0 L, M, J)) (p2 := 16) (l2 := [some (.ref 1), some (.int x0), some (.int x1), some (.int x2), none, none, none, none]) (s2 := []) (t2 := (jm_S0 L, M, J)) (fun _ _ => rfl) h6 ?_
      rcases jm_bro H with ⟨h7, H⟩ | ⟨h7, H⟩
      · refine jm_go.brt 3 (b := !decide (x1 = x2)) (p1 := 24) (l1 := [some (.ref 1), some (.int x0), some (.int x1), some (.int x2), none, none, none, none]) (s1 := []) (t1 := (jm_S0 L, M, J)) (p2 := 21) (l2 := [some (.ref 1), some (.int x0), some (.int x1), some (.int x2), none, none, none, none]) (s2 := []) (t2 := (jm_S0 L, M, J)) (fun _ _ => rfl) h7 ?_
        obtain ⟨q8, h9, H⟩ := jm_bdo H
        refine jm_go.call 5 (d := d + 4) (b := true) (u := 14) (as := [.ref 2, .int x0, .int x1]) (pc' := 33) (ls' := [some (.ref 1), some (.int x0), some (.int x1), some (.int x2), none, none, none, none]) (st' := []) (t' := (jm_S0 L, M, J)) (fun _ _ => rfl) rfl rfl (g14 L (d + 4) M J x0 x1 _ h9) ?_
        rcases jm_bro H with ⟨h10, H⟩ | ⟨h10, H⟩
        · refine jm_go.brt 1 (b := decide (q8 = 0)) (p1 := 48) (l1 := [some (.ref 1), some (.int x0), some (.int x1), some (.int x2), none, none, none, none]) (s1 := []) (t1 := (jm_S0 L, M, J)) (p2 := 36) (l2 := [some (.ref 1), some (.int x0), some (.int x1), some (.int x2), none, none, none, none]) (s2 := []) (t2 := (jm_S0 L, M, J)) (fun _ _ => rfl) h10 ?_
          have H := Option.some.inj H
          subst H
          exact jm_go.ret 2 (fun _ _ => rfl)
        · refine jm_go.brf 1 (b := decide (q8 = 0)) (p1 := 48) (l1 := [some (.ref 1), some (.int x0), some (.int x1), some (.int x2), none, none, none, none]) (s1 := []) (t1 := (jm_S0 L, M, J)) (p2 := 36) (l2 := [some (.ref 1), some (.int x0), some (.int x1), some (.int x2), none, none, none, none]) (s2 := []) (t2 := (jm_S0 L, M, J)) (fun _ _ => rfl) h10 ?_
          obtain ⟨q11, h12, H⟩ := jm_bdo H
          refine jm_go.call 5 (d := d + 4) (b := true) (u := 14) (as := [.ref 2, .int x0, .int x2]) (pc' := 45) (ls' := [some (.ref 1), some (.int x0), some (.int x1), some (.int x2), none, none, none, none]) (st' := []) (t' := (jm_S0 L, M, J)) (fun _ _ => rfl) rfl rfl (g14 L (d + 4) M J x0 x2 _ h12) ?_
          rcases jm_bro H with ⟨h13, H⟩ | ⟨h13, H⟩
          · refine jm_go.brt 1 (b := !decide (q11 = 0)) (p1 := 50) (l1 := [some (.ref 1), some (.int x0), some (.int x1), some (.int x2), none, none, none, none]) (s1 := []) (t1 := (jm_S0 L, M, J)) (p2 := 48) (l2 := [some (.ref 1), some (.int x0), some (.int x1), some (.int x2), none, none, none, none]) (s2 := []) (t2 := (jm_S0 L, M, J)) (fun _ _ => rfl) h13 ?_
            refine jm_go.blk 6 (pc' := 60) (ls' := [some (.ref 1), some (.int x0), some (.int x1), some (.int x2), some (.int 0), some (.int 90), some (.int 0), none]) (st' := []) (t' := (jm_S0 L, M, J)) (fun _ _ => rfl) ?_
            exact g77_60 L d M J
              _ (fun Me22 ve23 r H => by
                have H := Option.some.inj H
                subst H
                exact jm_go.ret 2 (fun _ _ => rfl)
                )
              _ M x0 x1 x2 0 90 0 _ H
          · refine jm_go.brf 1 (b := !decide (q11 = 0)) (p1 := 50) (l1 := [some (.ref 1), some (.int x0), some (.int x1), some (.int x2), none, none, none, none]) (s1 := []) (t1 := (jm_S0 L, M, J)) (p2 := 48) (l2 := [some (.ref 1), some (.int x0), some (.int x1), some (.int x2), none, none, none, none]) (s2 := []) (t2 := (jm_S0 L, M, J)) (fun _ _ => rfl) h13 ?_
            have H := Option.some.inj H
            subst H
            exact jm_go.ret 2 (fun _ _ => rfl)
      · refine jm_go.brf 3 (b := !decide (x1 = x2)) (p1 := 24) (l1 := [some (.ref 1), some (.int x0), some (.int x1), some (.int x2), none, none, none, none]) (s1 := []) (t1 := (jm_S0 L, M, J)) (p2 := 21) (l2 := [some (.ref 1), some (.int x0), some (.int x1), some (.int x2), none, none, none, none]) (s2 := []) (t2 := (jm_S0 L, M, J)) (fun _ _ => rfl) h7 ?_
        have H := Option.some.inj H
        subst H
        exact jm_go.ret 2 (fun _ _ => rfl)


/-- X7_isImage -/
def f84 (M : jm_MM) (x0 : Int32) : Option (Int32) := jm_bd (f86 M x0 0 1) (fun q1 => jm_gd (jm_z1 q1) (some q1))
set_option maxRecDepth 100000 in
theorem g84 (L : Nat) (d : Nat) (M : jm_MM) (J : jm_JJ) (x0 : Int32) (r : Int32) (H : f84 M x0 = some r) : jm_go (d + 1) (jm_G 84) 0 (jm_en 1 [.int x0]) [] (jm_S0 L, M, J) (some (.int r), (jm_S0 L, M, J)) := by
  unfold f84 at H
  obtain ⟨q1, h2, H⟩ := jm_bdo H
  refine jm_go.call 4 (d := d) (b := true) (u := 86) (as := [.int x0, .int 0, .int 1]) (pc' := 6) (ls' := [some (.int x0)]) (st' := []) (t' := (jm_S0 L, M, J)) (fun _ _ => rfl) rfl rfl (g86 L d M J x0 0 1 _ h2) ?_
  obtain ⟨h3, H⟩ := jm_gdo H
  have H := Option.some.inj H
  subst H
  exact jm_go.retz 1 (b := jm_z1 q1) (fun _ _ => rfl) h3


/-- X7_keep -/
def f78 (M : jm_MM) (x0 : Int32) : Option (Int32 × jm_MM) := jm_bd (f84 M x0) (fun q1 => bif !decide (q1 = 0) then (jm_gd (jm_inb x0 2) (jm_bd (f10 M (32 + 3 * x0.toNatClampNeg) 2) (fun q5 => jm_gd (jm_inb x0 2) (jm_bd (f48 (jm_up q5 38 x0.toNatClampNeg 1)) (fun q8 => some (q8 2 0, q8)))))) else (some ((-1000000001), M)))
set_option maxRecDepth 100000 in
theorem g78 (L : Nat) (d : Nat) (M : jm_MM) (J : jm_JJ) (x0 : Int32) (r : Int32 × jm_MM) (H : f78 M x0 = some r) : jm_go (d + 2) (jm_G 78) 0 (jm_en 2 [.ref 1, .int x0]) [] (jm_S0 L, M, J) (some (.int r.1), (jm_S0 L, r.2, J)) := by
  unfold f78 at H
  obtain ⟨q1, h2, H⟩ := jm_bdo H
  refine jm_go.call 2 (d := d + 1) (b := true) (u := 84) (as := [.int x0]) (pc' := 4) (ls' := [some (.ref 1), some (.int x0)]) (st' := []) (t' := (jm_S0 L, M, J)) (fun _ _ => rfl) rfl rfl (g84 L d M J x0 _ h2) ?_
  rcases jm_bro H with ⟨h3, H⟩ | ⟨h3, H⟩
  · refine jm_go.brt 1 (b := !decide (q1 = 0)) (p1 := 10) (l1 := [some (.ref 1), some (.int x0)]) (s1 := []) (t1 := (jm_S0 L, M, J)) (p2 := 7) (l2 := [some (.ref 1), some (.int x0)]) (s2 := []) (t2 := (jm_S0 L, M, J)) (fun _ _ => rfl) h3 ?_
    obtain ⟨h4, H⟩ := jm_gdo H
    refine jm_go.gfr 4 (b := jm_inb x0 2) (o := (jm_S0 L).2.2.2.2 31 x0.toNatClampNeg) (q := 32 + 3 * x0.toNatClampNeg) (pc' := 16) (ls' := [some (.ref 1), some (.int x0)]) (st' := []) (t' := (jm_S0 L, M, J)) (fun _ _ => rfl) h4 (jm_aF2r L h4) ?_
    obtain ⟨q5, h6, H⟩ := jm_bdo H
    refine jm_go.call 3 (d := d + 1) (b := jm_is (jm_S0 L) (32 + 3 * x0.toNatClampNeg) 1) (u := 10) (as := [.ref (32 + 3 * x0.toNatClampNeg), .ref 2]) (pc' := 23) (ls' := [some (.ref 1), some (.int x0)]) (st' := []) (t' := (jm_S0 L, M, J)) (fun _ _ => rfl) (jm_fF L (jm_aF2 h4)) rfl (g10 L d M J (32 + 3 * x0.toNatClampNeg) (jm_aF2 h4) 2 (by unfold jm_isF; decide) _ h6) ?_
    obtain ⟨h7, H⟩ := jm_gdo H
    refine jm_go.grd 5 (b := jm_inb x0 2 && jm_z1 1) (pc' := 30) (ls' := [some (.ref 1), some (.int x0)]) (st' := []) (t' := (jm_S0 L, (jm_up q5 38 x0.toNatClampNeg 1), J)) (fun _ _ => rfl) (by rw [h7]; rfl) ?_
    obtain ⟨q8, h9, H⟩ := jm_bdo H
    refine jm_go.call 3 (d := d + 1) (b := true) (u := 48) (as := [.ref 5]) (pc' := 37) (ls' := [some (.ref 1), some (.int x0)]) (st' := []) (t' := (jm_S0 L, (jm_up q5 38 x0.toNatClampNeg 1), J)) (fun _ _ => rfl) rfl rfl (g48 L (d + 1) (jm_up q5 38 x0.toNatClampNeg 1) J _ h9) ?_
    have H := Option.some.inj H
    subst H
    exact jm_go.ret 4 (fun _ _ => rfl)
  · refine jm_go.brf 1 (b := !decide (q1 = 0)) (p1 := 10) (l1 := [some (.ref 1), some (.int x0)]) (s1 := []) (t1 := (jm_S0 L, M, J)) (p2 := 7) (l2 := [some (.ref 1), some (.int x0)]) (s2 := []) (t2 := (jm_S0 L, M, J)) (fun _ _ => rfl) h3 ?_
    have H := Option.some.inj H
    subst H
    exact jm_go.ret 2 (fun _ _ => rfl)


/-- X7_goBack -/
def f79 (M : jm_MM) (x0 : Int32) : Option (Int32 × jm_MM) := jm_bd (f84 M x0) (fun q1 => bif !decide (q1 = 0) then (jm_gd (jm_inb x0 2) (bif !decide ((M 38 x0.toNatClampNeg) = 0) then (jm_gd (jm_inb x0 2) (jm_bd (f10 M 2 (32 + 3 * x0.toNatClampNeg)) (fun q7 => jm_bd (f48 (jm_up q7 39 0 0)) (fun q9 => some (q9 2 0, q9))))) else (some ((-1000000003), M)))) else (some ((-1000000001), M)))
set_option maxRecDepth 100000 in
theorem g79 (L : Nat) (d : Nat) (M : jm_MM) (J : jm_JJ) (x0 : Int32) (r : Int32 × jm_MM) (H : f79 M x0 = some r) : jm_go (d + 2) (jm_G 79) 0 (jm_en 2 [.ref 1, .int x0]) [] (jm_S0 L, M, J) (some (.int r.1), (jm_S0 L, r.2, J)) := by
  unfold f79 at H
  obtain ⟨q1, h2, H⟩ := jm_bdo H
  refine jm_go.call 2 (d := d + 1) (b := true) (u := 84) (as := [.int x0]) (pc' := 4) (ls' := [some (.ref 1), some (.int x0)]) (st' := []) (t' := (jm_S0 L, M, J)) (fun _ _ => rfl) rfl rfl (g84 L d M J x0 _ h2) ?_
  rcases jm_bro H with ⟨h3, H⟩ | ⟨h3, H⟩
  · refine jm_go.brt 1 (b := !decide (q1 = 0)) (p1 := 10) (l1 := [some (.ref 1), some (.int x0)]) (s1 := []) (t1 := (jm_S0 L, M, J)) (p2 := 7) (l2 := [some (.ref 1), some (.int x0)]) (s2 := []) (t2 := (jm_S0 L, M, J)) (fun _ _ => rfl) h3 ?_
    obtain ⟨h4, H⟩ := jm_gdo H
    refine jm_go.grd 4 (b := jm_inb x0 2) (pc' := 16) (ls' := [some (.ref 1), some (.int x0)]) (st' := [.int (M 38 x0.toNatClampNeg)]) (t' := (jm_S0 L, M, J)) (fun _ _ => rfl) h4 ?_
    rcases jm_bro H with ⟨h5, H⟩ | ⟨h5, H⟩
    · refine jm_go.brt 1 (b := !decide ((M 38 x0.toNatClampNeg) = 0)) (p1 := 22) (l1 := [some (.ref 1), some (.int x0)]) (s1 := []) (t1 := (jm_S0 L, M, J)) (p2 := 19) (l2 := [some (.ref 1), some (.int x0)]) (s2 := []) (t2 := (jm_S0 L, M, J)) (fun _ _ => rfl) h5 ?_
      obtain ⟨h6, H⟩ := jm_gdo H
      refine jm_go.gfr 6 (b := jm_inb x0 2) (o := (jm_S0 L).2.2.2.2 31 x0.toNatClampNeg) (q := 32 + 3 * x0.toNatClampNeg) (pc' := 32) (ls' := [some (.ref 1), some (.int x0)]) (st' := [.ref 2]) (t' := (jm_S0 L, M, J)) (fun _ _ => rfl) h6 (jm_aF2r L h6) ?_
      obtain ⟨q7, h8, H⟩ := jm_bdo H
      refine jm_go.call 1 (d := d + 1) (b := true) (u := 10) (as := [.ref 2, .ref (32 + 3 * x0.toNatClampNeg)]) (pc' := 35) (ls' := [some (.ref 1), some (.int x0)]) (st' := []) (t' := (jm_S0 L, M, J)) (fun _ _ => rfl) rfl rfl (g10 L d M J 2 (by unfold jm_isF; decide) (32 + 3 * x0.toNatClampNeg) (jm_aF2 h6) _ h8) ?_
      obtain ⟨q9, h10, H⟩ := jm_bdo H
      refine jm_go.call 7 (d := d + 1) (b := true) (u := 48) (as := [.ref 5]) (pc' := 50) (ls' := [some (.ref 1), some (.int x0)]) (st' := []) (t' := (jm_S0 L, (jm_up q7 39 0 0), J)) (fun _ _ => rfl) rfl rfl (g48 L (d + 1) (jm_up q7 39 0 0) J _ h10) ?_
      have H := Option.some.inj H
      subst H
      exact jm_go.ret 4 (fun _ _ => rfl)
    · refine jm_go.brf 1 (b := !decide ((M 38 x0.toNatClampNeg) = 0)) (p1 := 22) (l1 := [some (.ref 1), some (.int x0)]) (s1 := []) (t1 := (jm_S0 L, M, J)) (p2 := 19) (l2 := [some (.ref 1), some (.int x0)]) (s2 := []) (t2 := (jm_S0 L, M, J)) (fun _ _ => rfl) h5 ?_
      have H := Option.some.inj H
      subst H
      exact jm_go.ret 2 (fun _ _ => rfl)
  · refine jm_go.brf 1 (b := !decide (q1 = 0)) (p1 := 10) (l1 := [some (.ref 1), some (.int x0)]) (s1 := []) (t1 := (jm_S0 L, M, J)) (p2 := 7) (l2 := [some (.ref 1), some (.int x0)]) (s2 := []) (t2 := (jm_S0 L, M, J)) (fun _ _ => rfl) h3 ?_
    have H := Option.some.inj H
    subst H
    exact jm_go.ret 2 (fun _ _ => rfl)


/-- X8_in -/
def f93 (M : jm_MM) (x0 : Int64) (x1 : Int64) (x2 : Int64) : Option (Int32) := bif decide ((lg_cmp x0 x1) < 0) then (some 0) else (bif decide (0 < (lg_cmp x0 x2)) then (some 0) else (some 1))
set_option maxRecDepth 100000 in
theorem g93 (L : Nat) (d : Nat) (M : jm_MM) (J : jm_JJ) (x0 : Int64) (x1 : Int64) (x2 : Int64) (r : Int32) (H : f93 M x0 x1 x2 = some r) : jm_go d (jm_G 93) 0 (jm_en 6 [.long x0, .long x1, .long x2]) [] (jm_S0 L, M, J) (some (.int r), (jm_S0 L, M, J)) := by
  unfold f93 at H
  rcases jm_bro H with ⟨h1, H⟩ | ⟨h1, H⟩
  · refine jm_go.brt 4 (b := decide ((lg_cmp x0 x1) < 0)) (p1 := 17) (l1 := [some (.long x0), none, some (.long x1), none, some (.long x2), none]) (s1 := []) (t1 := (jm_S0 L, M, J)) (p2 := 6) (l2 := [some (.long x0), none, some (.long x1), none, some (.long x2), none]) (s2 := []) (t2 := (jm_S0 L, M, J)) (fun _ _ => rfl) h1 ?_
    have H := Option.some.inj H
    subst H
    exact jm_go.retz 2 (b := jm_z1 0) (fun _ _ => rfl) rfl
  · refine jm_go.brf 4 (b := decide ((lg_cmp x0 x1) < 0)) (p1 := 17) (l1 := [some (.long x0), none, some (.long x1), none, some (.long x2), none]) (s1 := []) (t1 := (jm_S0 L, M, J)) (p2 := 6) (l2 := [some (.long x0), none, some (.long x1), none, some (.long x2), none]) (s2 := []) (t2 := (jm_S0 L, M, J)) (fun _ _ => rfl) h1 ?_
    rcases jm_bro H with ⟨h2, H⟩ | ⟨h2, H⟩
    · refine jm_go.brt 4 (b := decide (0 < (lg_cmp x0 x2))) (p1 := 17) (l1 := [some (.long x0), none, some (.long x1), none, some (.long x2), none]) (s1 := []) (t1 := (jm_S0 L, M, J)) (p2 := 13) (l2 := [some (.long x0), none, some (.long x1), none, some (.long x2), none]) (s2 := []) (t2 := (jm_S0 L, M, J)) (fun _ _ => rfl) h2 ?_
      have H := Option.some.inj H
      subst H
      exact jm_go.retz 2 (b := jm_z1 0) (fun _ _ => rfl) rfl
    · refine jm_go.brf 4 (b := decide (0 < (lg_cmp x0 x2))) (p1 := 17) (l1 := [some (.long x0), none, some (.long x1), none, some (.long x2), none]) (s1 := []) (t1 := (jm_S0 L, M, J)) (p2 := 13) (l2 := [some (.long x0), none, some (.long x1), none, some (.long x2), none]) (s2 := []) (t2 := (jm_S0 L, M, J)) (fun _ _ => rfl) h2 ?_
      have H := Option.some.inj H
      subst H
      exact jm_go.retz 3 (b := jm_z1 1) (fun _ _ => rfl) rfl


/-- X8_has -/
def f94 (M : jm_MM) (x0 : Int32) (x1 : Int32) : Option (Int32) := bif !decide (((x0 >>> (x1 &&& 31)) &&& 1) = 1) then (some 0) else (some 1)
set_option maxRecDepth 100000 in
theorem g94 (L : Nat) (d : Nat) (M : jm_MM) (J : jm_JJ) (x0 : Int32) (x1 : Int32) (r : Int32) (H : f94 M x0 x1 = some r) : jm_go d (jm_G 94) 0 (jm_en 2 [.int x0, .int x1]) [] (jm_S0 L, M, J) (some (.int r), (jm_S0 L, M, J)) := by
  unfold f94 at H
  rcases jm_bro H with ⟨h1, H⟩ | ⟨h1, H⟩
  · refine jm_go.brt 7 (b := !decide (((x0 >>> (x1 &&& 31)) &&& 1) = 1)) (p1 := 13) (l1 := [some (.int x0), some (.int x1)]) (s1 := []) (t1 := (jm_S0 L, M, J)) (p2 := 9) (l2 := [some (.int x0), some (.int x1)]) (s2 := []) (t2 := (jm_S0 L, M, J)) (fun _ _ => rfl) h1 ?_
    have H := Option.some.inj H
    subst H
    exact jm_go.retz 2 (b := jm_z1 0) (fun _ _ => rfl) rfl
  · refine jm_go.brf 7 (b := !decide (((x0 >>> (x1 &&& 31)) &&& 1) = 1)) (p1 := 13) (l1 := [some (.int x0), some (.int x1)]) (s1 := []) (t1 := (jm_S0 L, M, J)) (p2 := 9) (l2 := [some (.int x0), some (.int x1)]) (s2 := []) (t2 := (jm_S0 L, M, J)) (fun _ _ => rfl) h1 ?_
    have H := Option.some.inj H
    subst H
    exact jm_go.retz 3 (b := jm_z1 1) (fun _ _ => rfl) rfl

def f95_4 (M : jm_MM) (ke0 : Int32 → Option (Int32)) : Nat → Int32 → Int32 → Int32 → Option (Int32)
  | 0, _, _, _ => none
  | n0 + 1, v0, v1, v2 => bif decide (24 ≤ v2) then (ke0 v1) else ((f95_4 M ke0 n0) v0 (v1 + ((v0 >>> (v2 &&& 31)) &&& 1)) (v2 + 1))
set_option maxRecDepth 100000 in
theorem g95_4 (L : Nat) (d : Nat) (M : jm_MM) (J : jm_JJ) (ke0 : Int32 → Option (Int32)) (hke0 : ∀  (v1 : Int32) (r : Int32), ke0 v1 = some r → jm_go d (jm_G 95) 24 [none, some (.int v1), none] [] (jm_S0 L, M, J) (some (.int r), (jm_S0 L, M, J))) : ∀ (n0 : Nat) (v0 : Int32) (v1 : Int32) (v2 : Int32) (r : Int32), f95_4 M ke0 n0 v0 v1 v2 = some r → jm_go d (jm_G 95) 4 [some (.int v0), some (.int v1), some (.int v2)] [] (jm_S0 L, M, J) (some (.int r), (jm_S0 L, M, J)) := by
  intro n0
  induction n0 with
  | zero => intro v0 v1 v2 r H; cases H
  | succ n0 ih =>
    intro v0 v1 v2 r H
    have hkb := ih
    unfold f95_4 at H
    rcases jm_bro H with ⟨h1, H⟩ | ⟨h1, H⟩
    · refine jm_go.brt 3 (b := decide (24 ≤ v2)) (p1 := 24) (l1 := [some (.int v0), some (.int v1), some (.int v2)]) (s1 := []) (t1 := (jm_S0 L, M, J)) (p2 := 10) (l2 := [some (.int v0), some (.int v1), some (.int v2)]) (s2 := []) (t2 := (jm_S0 L, M, J)) (fun _ _ => rfl) h1 ?_
      refine jm_go.lab (ls' := [none, some (.int v1), none]) (fun i hi => by cases hi; rfl) ?_
      exact hke0 v1 _ H
    · refine jm_go.brf 3 (b := decide (24 ≤ v2)) (p1 := 24) (l1 := [some (.int v0), some (.int v1), some (.int v2)]) (s1 := []) (t1 := (jm_S0 L, M, J)) (p2 := 10) (l2 := [some (.int v0), some (.int v1), some (.int v2)]) (s2 := []) (t2 := (jm_S0 L, M, J)) (fun _ _ => rfl) h1 ?_
      refine jm_go.blk 10 (pc' := 4) (ls' := [some (.int v0), some (.int (v1 + ((v0 >>> (v2 &&& 31)) &&& 1))), some (.int (v2 + 1))]) (st' := []) (t' := (jm_S0 L, M, J)) (fun _ _ => rfl) ?_
      exact hkb v0 (v1 + ((v0 >>> (v2 &&& 31)) &&& 1)) (v2 + 1) _ H

/-- X8_ones -/
def f95 (M : jm_MM) (x0 : Int32) : Option (Int32) := f95_4 M (fun ve2 => some ve2) jm_F x0 0 0
set_option maxRecDepth 100000 in
theorem g95 (L : Nat) (d : Nat) (M : jm_MM) (J : jm_JJ) (x0 : Int32) (r : Int32) (H : f95 M x0 = some r) : jm_go d (jm_G 95) 0 (jm_en 3 [.int x0]) [] (jm_S0 L, M, J) (some (.int r), (jm_S0 L, M, J)) := by
  unfold f95 at H
  refine jm_go.blk 4 (pc' := 4) (ls' := [some (.int x0), some (.int 0), some (.int 0)]) (st' := []) (t' := (jm_S0 L, M, J)) (fun _ _ => rfl) ?_
  exact g95_4 L d M J
    _ (fun ve2 r H => by
      have H := Option.some.inj H
      subst H
      exact jm_go.ret 2 (fun _ _ => rfl)
      )
    _ x0 0 0 _ H


/-- X8_isPicture -/
def f96 (M : jm_MM) (x0 : Int32) : Option (Int32) := jm_bd (f93 M (Int32.toInt64 x0) 0 (Int32.toInt64 ((M 114 2) - 1))) (fun q1 => jm_gd (jm_z1 q1) (some q1))
set_option maxRecDepth 100000 in
theorem g96 (L : Nat) (d : Nat) (M : jm_MM) (J : jm_JJ) (x0 : Int32) (r : Int32) (H : f96 M x0 = some r) : jm_go (d + 1) (jm_G 96) 0 (jm_en 2 [.ref 113, .int x0]) [] (jm_S0 L, M, J) (some (.int r), (jm_S0 L, M, J)) := by
  unfold f96 at H
  obtain ⟨q1, h2, H⟩ := jm_bdo H
  refine jm_go.call 11 (d := d) (b := true) (u := 93) (as := [.long (Int32.toInt64 x0), .long 0, .long (Int32.toInt64 ((M 114 2) - 1))]) (pc' := 15) (ls' := [some (.ref 113), some (.int x0)]) (st' := []) (t' := (jm_S0 L, M, J)) (fun _ _ => rfl) rfl rfl (g93 L d M J (Int32.toInt64 x0) 0 (Int32.toInt64 ((M 114 2) - 1)) _ h2) ?_
  obtain ⟨h3, H⟩ := jm_gdo H
  have H := Option.some.inj H
  subst H
  exact jm_go.retz 1 (b := jm_z1 q1) (fun _ _ => rfl) h3


/-- X8_isGrain -/
def f97 (M : jm_MM) (x0 : Int32) : Option (Int32) := jm_bd (f93 M (Int32.toInt64 x0) 0 23) (fun q1 => jm_gd (jm_z1 q1) (some q1))
set_option maxRecDepth 100000 in
theorem g97 (L : Nat) (d : Nat) (M : jm_MM) (J : jm_JJ) (x0 : Int32) (r : Int32) (H : f97 M x0 = some r) : jm_go (d + 1) (jm_G 97) 0 (jm_en 1 [.int x0]) [] (jm_S0 L, M, J) (some (.int r), (jm_S0 L, M, J)) := by
  unfold f97 at H
  obtain ⟨q1, h2, H⟩ := jm_bdo H
  refine jm_go.call 5 (d := d) (b := true) (u := 93) (as := [.long (Int32.toInt64 x0), .long 0, .long 23]) (pc' := 9) (ls' := [some (.int x0)]) (st' := []) (t' := (jm_S0 L, M, J)) (fun _ _ => rfl) rfl rfl (g93 L d M J (Int32.toInt64 x0) 0 23 _ h2) ?_
  obtain ⟨h3, H⟩ := jm_gdo H
  have H := Option.some.inj H
  subst H
  exact jm_go.retz 1 (b := jm_z1 q1) (fun _ _ => rfl) h3


/-- X8_isPlace -/
def f98 (M : jm_MM) (x0 : Int32) : Option (Int32) := jm_bd (f93 M (Int32.toInt64 x0) 0 63) (fun q1 => jm_gd (jm_z1 q1) (some q1))
set_option maxRecDepth 100000 in
theorem g98 (L : Nat) (d : Nat) (M : jm_MM) (J : jm_JJ) (x0 : Int32) (r : Int32) (H : f98 M x0 = some r) : jm_go (d + 1) (jm_G 98) 0 (jm_en 1 [.int x0]) [] (jm_S0 L, M, J) (some (.int r), (jm_S0 L, M, J)) := by
  unfold f98 at H
  obtain ⟨q1, h2, H⟩ := jm_bdo H
  refine jm_go.call 5 (d := d) (b := true) (u := 93) (as := [.long (Int32.toInt64 x0), .long 0, .long 63]) (pc' := 9) (ls' := [some (.int x0)]) (st' := []) (t' := (jm_S0 L, M, J)) (fun _ _ => rfl) rfl rfl (g93 L d M J (Int32.toInt64 x0) 0 63 _ h2) ?_
  obtain ⟨h3, H⟩ := jm_gdo H
  have H := Option.some.inj H
  subst H
  exact jm_go.retz 1 (b := jm_z1 q1) (fun _ _ => rfl) h3

def f99_2  (ke0 : jm_MM → Option (jm_MM)) : Nat → jm_MM → Int32 → Int32 → Int32 → Option (jm_MM)
  | 0, _, _, _, _ => none
  | n0 + 1, M, v1, v2, v3 => bif decide (321 ≤ v3) then (ke0 M) else (jm_gd (jm_inb (v1 + v3) 3531) (jm_gd (jm_inb (v2 + v3) 3531) ((f99_2  ke0 n0) (jm_up M 114 ((v2 + v3).toNatClampNeg) (M 114 ((v1 + v3).toNatClampNeg))) v1 v2 (v3 + 1))))
set_option maxRecDepth 100000 in
theorem g99_2 (L : Nat) (d : Nat) (_M : jm_MM) (J : jm_JJ) (ke0 : jm_MM → Option (jm_MM)) (hke0 : ∀ (M : jm_MM) (r : jm_MM), ke0 M = some r → jm_go d (jm_G 99) 31 [none, none, none, none] [] (jm_S0 L, M, J) (none, (jm_S0 L, r, J))) : ∀ (n0 : Nat) (M : jm_MM) (v1 : Int32) (v2 : Int32) (v3 : Int32) (r : jm_MM), f99_2  ke0 n0 M v1 v2 v3 = some r → jm_go d (jm_G 99) 2 [some (.ref 113), some (.int v1), some (.int v2), some (.int v3)] [] (jm_S0 L, M, J) (none, (jm_S0 L, r, J)) := by
  intro n0
  induction n0 with
  | zero => intro M v1 v2 v3 r H; cases H
  | succ n0 ih =>
    intro M v1 v2 v3 r H
    have hkb := ih
    unfold f99_2 at H
    rcases jm_bro H with ⟨h1, H⟩ | ⟨h1, H⟩
    · refine jm_go.brt 3 (b := decide (321 ≤ v3)) (p1 := 31) (l1 := [some (.ref 113), some (.int v1), some (.int v2), some (.int v3)]) (s1 := []) (t1 := (jm_S0 L, M, J)) (p2 := 9) (l2 := [some (.ref 113), some (.int v1), some (.int v2), some (.int v3)]) (s2 := []) (t2 := (jm_S0 L, M, J)) (fun _ _ => rfl) h1 ?_
      refine jm_go.lab (ls' := [none, none, none, none]) (fun i hi => by cases hi; rfl) ?_
      exact hke0 M _ H
    · refine jm_go.brf 3 (b := decide (321 ≤ v3)) (p1 := 31) (l1 := [some (.ref 113), some (.int v1), some (.int v2), some (.int v3)]) (s1 := []) (t1 := (jm_S0 L, M, J)) (p2 := 9) (l2 := [some (.ref 113), some (.int v1), some (.int v2), some (.int v3)]) (s2 := []) (t2 := (jm_S0 L, M, J)) (fun _ _ => rfl) h1 ?_
      obtain ⟨h2, H⟩ := jm_gdo H
      refine jm_go.grd 11 (b := jm_inb (v1 + v3) 3531) (pc' := 24) (ls' := [some (.ref 113), some (.int v1), some (.int v2), some (.int v3)]) (st' := [.int (M 114 ((v1 + v3).toNatClampNeg)), .int (v2 + v3), .ref 114]) (t' := (jm_S0 L, M, J)) (fun _ _ => rfl) h2 ?_
      obtain ⟨h3, H⟩ := jm_gdo H
      refine jm_go.grd 1 (b := jm_inb (v2 + v3) 3531) (pc' := 25) (ls' := [some (.ref 113), some (.int v1), some (.int v2), some (.int v3)]) (st' := []) (t' := (jm_S0 L, (jm_up M 114 ((v2 + v3).toNatClampNeg) (M 114 ((v1 + v3).toNatClampNeg))), J)) (fun _ _ => rfl) h3 ?_
      refine jm_go.blk 2 (pc' := 2) (ls' := [some (.ref 113), some (.int v1), some (.int v2), some (.int (v3 + 1))]) (st' := []) (t' := (jm_S0 L, (jm_up M 114 ((v2 + v3).toNatClampNeg) (M 114 ((v1 + v3).toNatClampNeg))), J)) (fun _ _ => rfl) ?_
      exact hkb (jm_up M 114 ((v2 + v3).toNatClampNeg) (M 114 ((v1 + v3).toNatClampNeg))) v1 v2 (v3 + 1) _ H

/-- X8_copy -/
def f99 (M : jm_MM) (x0 : Int32) (x1 : Int32) : Option (jm_MM) := f99_2  (fun Me4 => some Me4) jm_F M x0 x1 0
set_option maxRecDepth 100000 in
theorem g99 (L : Nat) (d : Nat) (M : jm_MM) (J : jm_JJ) (x0 : Int32) (x1 : Int32) (r : jm_MM) (H : f99 M x0 x1 = some r) : jm_go d (jm_G 99) 0 (jm_en 4 [.ref 113, .int x0, .int x1]) [] (jm_S0 L, M, J) (none, (jm_S0 L, r, J)) := by
  unfold f99 at H
  refine jm_go.blk 2 (pc' := 2) (ls' := [some (.ref 113), some (.int x0), some (.int x1), some (.int 0)]) (st' := []) (t' := (jm_S0 L, M, J)) (fun _ _ => rfl) ?_
  exact g99_2 L d M J
    _ (fun Me4 r H => by
      have H := Option.some.inj H
      subst H
      exact jm_go.ret 1 (fun _ _ => rfl)
      )
    _ M x0 x1 0 _ H

def f100_58  (M : jm_MM) : Option (jm_MM) := jm_bd (f99 M 0 (963 + (321 * (M 113 2)))) (fun q2 => some (jm_up q2 113 2 ((q2 113 2) + 1)))
set_option maxRecDepth 100000 in
theorem g100_58 (L : Nat) (d : Nat) (_M : jm_MM) (J : jm_JJ) (M : jm_MM) (r : jm_MM) (H : f100_58  M = some r) : jm_go (d + 1) (jm_G 100) 58 [some (.ref 113), none] [] (jm_S0 L, M, J) (none, (jm_S0 L, r, J)) := by
  unfold f100_58 at H
  obtain ⟨q2, h3, H⟩ := jm_bdo H
  refine jm_go.call 9 (d := d) (b := true) (u := 99) (as := [.ref 113, .int 0, .int (963 + (321 * (M 113 2)))]) (pc' := 75) (ls' := [some (.ref 113), none]) (st' := []) (t' := (jm_S0 L, M, J)) (fun _ _ => rfl) rfl rfl (g99 L d M J 0 (963 + (321 * (M 113 2))) _ h3) ?_
  have H := Option.some.inj H
  subst H
  exact jm_go.ret 7 (fun _ _ => rfl)

def f100_11  (ke0 : jm_MM → Option (jm_MM)) : Nat → jm_MM → Int32 → Option (jm_MM)
  | 0, _, _ => none
  | n0 + 1, M, v1 => bif decide (2247 ≤ v1) then (ke0 M) else (jm_gd (jm_inb ((963 + v1) + 321) 3531) (jm_gd (jm_inb (963 + v1) 3531) ((f100_11  ke0 n0) (jm_up M 114 ((963 + v1).toNatClampNeg) (M 114 (((963 + v1) + 321).toNatClampNeg))) (v1 + 1))))
set_option maxRecDepth 100000 in
theorem g100_11 (L : Nat) (d : Nat) (_M : jm_MM) (J : jm_JJ) (ke0 : jm_MM → Option (jm_MM)) (hke0 : ∀ (M : jm_MM) (r : jm_MM), ke0 M = some r → jm_go (d + 1) (jm_G 100) 48 [some (.ref 113), none] [] (jm_S0 L, M, J) (none, (jm_S0 L, r, J))) : ∀ (n0 : Nat) (M : jm_MM) (v1 : Int32) (r : jm_MM), f100_11  ke0 n0 M v1 = some r → jm_go (d + 1) (jm_G 100) 11 [some (.ref 113), some (.int v1)] [] (jm_S0 L, M, J) (none, (jm_S0 L, r, J)) := by
  intro n0
  induction n0 with
  | zero => intro M v1 r H; cases H
  | succ n0 ih =>
    intro M v1 r H
    have hkb := ih
    unfold f100_11 at H
    rcases jm_bro H with ⟨h4, H⟩ | ⟨h4, H⟩
    · refine jm_go.brt 3 (b := decide (2247 ≤ v1)) (p1 := 48) (l1 := [some (.ref 113), some (.int v1)]) (s1 := []) (t1 := (jm_S0 L, M, J)) (p2 := 18) (l2 := [some (.ref 113), some (.int v1)]) (s2 := []) (t2 := (jm_S0 L, M, J)) (fun _ _ => rfl) h4 ?_
      refine jm_go.lab (ls' := [some (.ref 113), none]) (fun i hi => by cases hi; rfl) ?_
      exact hke0 M _ H
    · refine jm_go.brf 3 (b := decide (2247 ≤ v1)) (p1 := 48) (l1 := [some (.ref 113), some (.int v1)]) (s1 := []) (t1 := (jm_S0 L, M, J)) (p2 := 18) (l2 := [some (.ref 113), some (.int v1)]) (s2 := []) (t2 := (jm_S0 L, M, J)) (fun _ _ => rfl) h4 ?_
      obtain ⟨h5, H⟩ := jm_gdo H
      refine jm_go.grd 13 (b := jm_inb ((963 + v1) + 321) 3531) (pc' := 41) (ls' := [some (.ref 113), some (.int v1)]) (st' := [.int (M 114 (((963 + v1) + 321).toNatClampNeg)), .int (963 + v1), .ref 114]) (t' := (jm_S0 L, M, J)) (fun _ _ => rfl) h5 ?_
      obtain ⟨h6, H⟩ := jm_gdo H
      refine jm_go.grd 1 (b := jm_inb (963 + v1) 3531) (pc' := 42) (ls' := [some (.ref 113), some (.int v1)]) (st' := []) (t' := (jm_S0 L, (jm_up M 114 ((963 + v1).toNatClampNeg) (M 114 (((963 + v1) + 321).toNatClampNeg))), J)) (fun _ _ => rfl) h6 ?_
      refine jm_go.blk 2 (pc' := 11) (ls' := [some (.ref 113), some (.int (v1 + 1))]) (st' := []) (t' := (jm_S0 L, (jm_up M 114 ((963 + v1).toNatClampNeg) (M 114 (((963 + v1) + 321).toNatClampNeg))), J)) (fun _ _ => rfl) ?_
      exact hkb (jm_up M 114 ((963 + v1).toNatClampNeg) (M 114 (((963 + v1) + 321).toNatClampNeg))) (v1 + 1) _ H

/-- X8_minds -/
def f100 (M : jm_MM)  : Option (jm_MM) := bif !decide ((M 113 2) = 8) then (f100_58   M) else (f100_11  (fun Me7 => f100_58   (jm_up Me7 113 2 ((Me7 113 2) - 1))) jm_F M 0)
set_option maxRecDepth 100000 in
theorem g100 (L : Nat) (d : Nat) (M : jm_MM) (J : jm_JJ)  (r : jm_MM) (H : f100 M  = some r) : jm_go (d + 1) (jm_G 100) 0 (jm_en 2 [.ref 113]) [] (jm_S0 L, M, J) (none, (jm_S0 L, r, J)) := by
  unfold f100 at H
  rcases jm_bro H with ⟨h1, H⟩ | ⟨h1, H⟩
  · refine jm_go.brt 4 (b := !decide ((M 113 2) = 8)) (p1 := 58) (l1 := [some (.ref 113), none]) (s1 := []) (t1 := (jm_S0 L, M, J)) (p2 := 9) (l2 := [some (.ref 113), none]) (s2 := []) (t2 := (jm_S0 L, M, J)) (fun _ _ => rfl) h1 ?_
    exact g100_58 L d M J  M _ H
  · refine jm_go.brf 4 (b := !decide ((M 113 2) = 8)) (p1 := 58) (l1 := [some (.ref 113), none]) (s1 := []) (t1 := (jm_S0 L, M, J)) (p2 := 9) (l2 := [some (.ref 113), none]) (s2 := []) (t2 := (jm_S0 L, M, J)) (fun _ _ => rfl) h1 ?_
    refine jm_go.blk 2 (pc' := 11) (ls' := [some (.ref 113), some (.int 0)]) (st' := []) (t' := (jm_S0 L, M, J)) (fun _ _ => rfl) ?_
    exact g100_11 L d M J
      _ (fun Me7 r H => by
        refine jm_go.blk 6 (pc' := 58) (ls' := [some (.ref 113), none]) (st' := []) (t' := (jm_S0 L, (jm_up Me7 113 2 ((Me7 113 2) - 1)), J)) (fun _ _ => rfl) ?_
        exact g100_58 L d M J  (jm_up Me7 113 2 ((Me7 113 2) - 1)) _ H
        )
      _ M 0 _ H


/-- X8_of -/
def f101 (M : jm_MM) (x0 : Int32) : Option (Int32) := some (27 + (49 * x0))
set_option maxRecDepth 100000 in
theorem g101 (L : Nat) (d : Nat) (M : jm_MM) (J : jm_JJ) (x0 : Int32) (r : Int32) (H : f101 M x0 = some r) : jm_go d (jm_G 101) 0 (jm_en 1 [.int x0]) [] (jm_S0 L, M, J) (some (.int r), (jm_S0 L, M, J)) := by
  unfold f101 at H
  have H := Option.some.inj H
  subst H
  exact jm_go.ret 6 (fun _ _ => rfl)


/-- X8_setOf -/
def f102 (M : jm_MM) (x0 : Int32) : Option (Int32) := jm_bd (f101 M x0) (fun q1 => jm_gd (jm_inb q1 3531) (some (M 114 q1.toNatClampNeg)))
set_option maxRecDepth 100000 in
theorem g102 (L : Nat) (d : Nat) (M : jm_MM) (J : jm_JJ) (x0 : Int32) (r : Int32) (H : f102 M x0 = some r) : jm_go (d + 1) (jm_G 102) 0 (jm_en 2 [.ref 113, .int x0]) [] (jm_S0 L, M, J) (some (.int r), (jm_S0 L, M, J)) := by
  unfold f102 at H
  obtain ⟨q1, h2, H⟩ := jm_bdo H
  refine jm_go.call 4 (d := d) (b := true) (u := 101) (as := [.int x0]) (pc' := 8) (ls' := [some (.ref 113), some (.int x0)]) (st' := [.ref 114]) (t' := (jm_S0 L, M, J)) (fun _ _ => rfl) rfl rfl (g101 L d M J x0 _ h2) ?_
  obtain ⟨h3, H⟩ := jm_gdo H
  refine jm_go.grd 1 (b := jm_inb q1 3531) (pc' := 9) (ls' := [some (.ref 113), some (.int x0)]) (st' := [.int (M 114 q1.toNatClampNeg)]) (t' := (jm_S0 L, M, J)) (fun _ _ => rfl) h3 ?_
  have H := Option.some.inj H
  subst H
  exact jm_go.ret 1 (fun _ _ => rfl)


/-- X8_x -/
def f103 (M : jm_MM) (x0 : Int32) (x1 : Int32) : Option (Int32) := jm_bd (f101 M x0) (fun q1 => jm_gd (jm_inb ((q1 + 1) + x1) 3531) (some (M 114 (((q1 + 1) + x1).toNatClampNeg))))
set_option maxRecDepth 100000 in
theorem g103 (L : Nat) (d : Nat) (M : jm_MM) (J : jm_JJ) (x0 : Int32) (x1 : Int32) (r : Int32) (H : f103 M x0 x1 = some r) : jm_go (d + 1) (jm_G 103) 0 (jm_en 3 [.ref 113, .int x0, .int x1]) [] (jm_S0 L, M, J) (some (.int r), (jm_S0 L, M, J)) := by
  unfold f103 at H
  obtain ⟨q1, h2, H⟩ := jm_bdo H
  refine jm_go.call 4 (d := d) (b := true) (u := 101) (as := [.int x0]) (pc' := 8) (ls' := [some (.ref 113), some (.int x0), some (.int x1)]) (st' := [.ref 114]) (t' := (jm_S0 L, M, J)) (fun _ _ => rfl) rfl rfl (g101 L d M J x0 _ h2) ?_
  obtain ⟨h3, H⟩ := jm_gdo H
  refine jm_go.grd 5 (b := jm_inb ((q1 + 1) + x1) 3531) (pc' := 13) (ls' := [some (.ref 113), some (.int x0), some (.int x1)]) (st' := [.int (M 114 (((q1 + 1) + x1).toNatClampNeg))]) (t' := (jm_S0 L, M, J)) (fun _ _ => rfl) h3 ?_
  have H := Option.some.inj H
  subst H
  exact jm_go.ret 1 (fun _ _ => rfl)


/-- X8_y -/
def f104 (M : jm_MM) (x0 : Int32) (x1 : Int32) : Option (Int32) := jm_bd (f101 M x0) (fun q1 => jm_gd (jm_inb ((q1 + 25) + x1) 3531) (some (M 114 (((q1 + 25) + x1).toNatClampNeg))))
set_option maxRecDepth 100000 in
theorem g104 (L : Nat) (d : Nat) (M : jm_MM) (J : jm_JJ) (x0 : Int32) (x1 : Int32) (r : Int32) (H : f104 M x0 x1 = some r) : jm_go (d + 1) (jm_G 104) 0 (jm_en 3 [.ref 113, .int x0, .int x1]) [] (jm_S0 L, M, J) (some (.int r), (jm_S0 L, M, J)) := by
  unfold f104 at H
  obtain ⟨q1, h2, H⟩ := jm_bdo H
  refine jm_go.call 4 (d := d) (b := true) (u := 101) (as := [.int x0]) (pc' := 8) (ls' := [some (.ref 113), some (.int x0), some (.int x1)]) (st' := [.ref 114]) (t' := (jm_S0 L, M, J)) (fun _ _ => rfl) rfl rfl (g101 L d M J x0 _ h2) ?_
  obtain ⟨h3, H⟩ := jm_gdo H
  refine jm_go.grd 5 (b := jm_inb ((q1 + 25) + x1) 3531) (pc' := 14) (ls' := [some (.ref 113), some (.int x0), some (.int x1)]) (st' := [.int (M 114 (((q1 + 25) + x1).toNatClampNeg))]) (t' := (jm_S0 L, M, J)) (fun _ _ => rfl) h3 ?_
  have H := Option.some.inj H
  subst H
  exact jm_go.ret 1 (fun _ _ => rfl)


/-- X8_lays -/
def f105 (M : jm_MM) (x0 : Int32) (x1 : Int32) (x2 : Int32) (x3 : Int32) : Option (jm_MM) := jm_bd (f101 M x0) (fun q1 => jm_gd (jm_inb q1 3531) (jm_gd (jm_inb q1 3531) (jm_bd (f101 (jm_up M 114 q1.toNatClampNeg ((M 114 q1.toNatClampNeg) ||| (1 <<< (x1 &&& 31)))) x0) (fun q5 => jm_gd (jm_inb ((q5 + 1) + x1) 3531) (jm_bd (f101 (jm_up (jm_up M 114 q1.toNatClampNeg ((M 114 q1.toNatClampNeg) ||| (1 <<< (x1 &&& 31)))) 114 (((q5 + 1) + x1).toNatClampNeg) x2) x0) (fun q8 => jm_gd (jm_inb ((q8 + 25) + x1) 3531) (some (jm_up (jm_up (jm_up M 114 q1.toNatClampNeg ((M 114 q1.toNatClampNeg) ||| (1 <<< (x1 &&& 31)))) 114 (((q5 + 1) + x1).toNatClampNeg) x2) 114 (((q8 + 25) + x1).toNatClampNeg) x3))))))))
set_option maxRecDepth 100000 in
theorem g105 (L : Nat) (d : Nat) (M : jm_MM) (J : jm_JJ) (x0 : Int32) (x1 : Int32) (x2 : Int32) (x3 : Int32) (r : jm_MM) (H : f105 M x0 x1 x2 x3 = some r) : jm_go (d + 1) (jm_G 105) 0 (jm_en 5 [.ref 113, .int x0, .int x1, .int x2, .int x3]) [] (jm_S0 L, M, J) (none, (jm_S0 L, r, J)) := by
  unfold f105 at H
  obtain ⟨q1, h2, H⟩ := jm_bdo H
  refine jm_go.call 4 (d := d) (b := true) (u := 101) (as := [.int x0]) (pc' := 8) (ls' := [some (.ref 113), some (.int x0), some (.int x1), some (.int x2), some (.int x3)]) (st' := [.ref 114]) (t' := (jm_S0 L, M, J)) (fun _ _ => rfl) rfl rfl (g101 L d M J x0 _ h2) ?_
  obtain ⟨h3, H⟩ := jm_gdo H
  refine jm_go.grd 2 (b := jm_inb q1 3531) (pc' := 10) (ls' := [some (.ref 113), some (.int x0), some (.int x1), some (.int x2), some (.int x3)]) (st' := [.int (M 114 q1.toNatClampNeg), .int q1, .ref 114]) (t' := (jm_S0 L, M, J)) (fun _ _ => rfl) h3 ?_
  obtain ⟨h4, H⟩ := jm_gdo H
  refine jm_go.grd 5 (b := jm_inb q1 3531) (pc' := 15) (ls' := [some (.ref 113), some (.int x0), some (.int x1), some (.int x2), some (.int x3)]) (st' := []) (t' := (jm_S0 L, (jm_up M 114 q1.toNatClampNeg ((M 114 q1.toNatClampNeg) ||| (1 <<< (x1 &&& 31)))), J)) (fun _ _ => rfl) h4 ?_
  obtain ⟨q5, h6, H⟩ := jm_bdo H
  refine jm_go.call 4 (d := d) (b := true) (u := 101) (as := [.int x0]) (pc' := 23) (ls' := [some (.ref 113), some (.int x0), some (.int x1), some (.int x2), some (.int x3)]) (st' := [.ref 114]) (t' := (jm_S0 L, (jm_up M 114 q1.toNatClampNeg ((M 114 q1.toNatClampNeg) ||| (1 <<< (x1 &&& 31)))), J)) (fun _ _ => rfl) rfl rfl (g101 L d (jm_up M 114 q1.toNatClampNeg ((M 114 q1.toNatClampNeg) ||| (1 <<< (x1 &&& 31)))) J x0 _ h6) ?_
  obtain ⟨h7, H⟩ := jm_gdo H
  refine jm_go.grd 6 (b := jm_inb ((q5 + 1) + x1) 3531) (pc' := 29) (ls' := [some (.ref 113), some (.int x0), some (.int x1), some (.int x2), some (.int x3)]) (st' := []) (t' := (jm_S0 L, (jm_up (jm_up M 114 q1.toNatClampNeg ((M 114 q1.toNatClampNeg) ||| (1 <<< (x1 &&& 31)))) 114 (((q5 + 1) + x1).toNatClampNeg) x2), J)) (fun _ _ => rfl) h7 ?_
  obtain ⟨q8, h9, H⟩ := jm_bdo H
  refine jm_go.call 4 (d := d) (b := true) (u := 101) (as := [.int x0]) (pc' := 37) (ls' := [some (.ref 113), some (.int x0), some (.int x1), some (.int x2), some (.int x3)]) (st' := [.ref 114]) (t' := (jm_S0 L, (jm_up (jm_up M 114 q1.toNatClampNeg ((M 114 q1.toNatClampNeg) ||| (1 <<< (x1 &&& 31)))) 114 (((q5 + 1) + x1).toNatClampNeg) x2), J)) (fun _ _ => rfl) rfl rfl (g101 L d (jm_up (jm_up M 114 q1.toNatClampNeg ((M 114 q1.toNatClampNeg) ||| (1 <<< (x1 &&& 31)))) 114 (((q5 + 1) + x1).toNatClampNeg) x2) J x0 _ h9) ?_
  obtain ⟨h10, H⟩ := jm_gdo H
  refine jm_go.grd 6 (b := jm_inb ((q8 + 25) + x1) 3531) (pc' := 45) (ls' := [some (.ref 113), some (.int x0), some (.int x1), some (.int x2), some (.int x3)]) (st' := []) (t' := (jm_S0 L, (jm_up (jm_up (jm_up M 114 q1.toNatClampNeg ((M 114 q1.toNatClampNeg) ||| (1 <<< (x1 &&& 31)))) 114 (((q5 + 1) + x1).toNatClampNeg) x2) 114 (((q8 + 25) + x1).toNatClampNeg) x3), J)) (fun _ _ => rfl) h10 ?_
  have H := Option.some.inj H
  subst H
  exact jm_go.ret 1 (fun _ _ => rfl)

def f106_9  (ke0 : jm_MM → Int32 → Option (Int32 × jm_MM)) : Nat → jm_MM → Int32 → Int32 → Option (Int32 × jm_MM)
  | 0, _, _, _ => none
  | n0 + 1, M, v1, v2 => bif decide (49 ≤ v2) then (ke0 M v1) else (jm_bd (f101 M v1) (fun q2 => jm_gd (jm_inb (q2 + v2) 3531) ((f106_9  ke0 n0) (jm_up M 114 ((q2 + v2).toNatClampNeg) 0) v1 (v2 + 1))))
set_option maxRecDepth 100000 in
theorem g106_9 (L : Nat) (d : Nat) (_M : jm_MM) (J : jm_JJ) (ke0 : jm_MM → Int32 → Option (Int32 × jm_MM)) (hke0 : ∀ (M : jm_MM) (v1 : Int32) (r : Int32 × jm_MM), ke0 M v1 = some r → jm_go (d + 1) (jm_G 106) 33 [some (.ref 113), some (.int v1), none] [] (jm_S0 L, M, J) (some (.int r.1), (jm_S0 L, r.2, J))) : ∀ (n0 : Nat) (M : jm_MM) (v1 : Int32) (v2 : Int32) (r : Int32 × jm_MM), f106_9  ke0 n0 M v1 v2 = some r → jm_go (d + 1) (jm_G 106) 9 [some (.ref 113), some (.int v1), some (.int v2)] [] (jm_S0 L, M, J) (some (.int r.1), (jm_S0 L, r.2, J)) := by
  intro n0
  induction n0 with
  | zero => intro M v1 v2 r H; cases H
  | succ n0 ih =>
    intro M v1 v2 r H
    have hkb := ih
    unfold f106_9 at H
    rcases jm_bro H with ⟨h1, H⟩ | ⟨h1, H⟩
    · refine jm_go.brt 3 (b := decide (49 ≤ v2)) (p1 := 33) (l1 := [some (.ref 113), some (.int v1), some (.int v2)]) (s1 := []) (t1 := (jm_S0 L, M, J)) (p2 := 15) (l2 := [some (.ref 113), some (.int v1), some (.int v2)]) (s2 := []) (t2 := (jm_S0 L, M, J)) (fun _ _ => rfl) h1 ?_
      refine jm_go.lab (ls' := [some (.ref 113), some (.int v1), none]) (fun i hi => by cases hi; rfl) ?_
      exact hke0 M v1 _ H
    · refine jm_go.brf 3 (b := decide (49 ≤ v2)) (p1 := 33) (l1 := [some (.ref 113), some (.int v1), some (.int v2)]) (s1 := []) (t1 := (jm_S0 L, M, J)) (p2 := 15) (l2 := [some (.ref 113), some (.int v1), some (.int v2)]) (s2 := []) (t2 := (jm_S0 L, M, J)) (fun _ _ => rfl) h1 ?_
      obtain ⟨q2, h3, H⟩ := jm_bdo H
      refine jm_go.call 4 (d := d) (b := true) (u := 101) (as := [.int v1]) (pc' := 23) (ls' := [some (.ref 113), some (.int v1), some (.int v2)]) (st' := [.ref 114]) (t' := (jm_S0 L, M, J)) (fun _ _ => rfl) rfl rfl (g101 L d M J v1 _ h3) ?_
      obtain ⟨h4, H⟩ := jm_gdo H
      refine jm_go.grd 4 (b := jm_inb (q2 + v2) 3531) (pc' := 27) (ls' := [some (.ref 113), some (.int v1), some (.int v2)]) (st' := []) (t' := (jm_S0 L, (jm_up M 114 ((q2 + v2).toNatClampNeg) 0), J)) (fun _ _ => rfl) h4 ?_
      refine jm_go.blk 2 (pc' := 9) (ls' := [some (.ref 113), some (.int v1), some (.int (v2 + 1))]) (st' := []) (t' := (jm_S0 L, (jm_up M 114 ((q2 + v2).toNatClampNeg) 0), J)) (fun _ _ => rfl) ?_
      exact hkb (jm_up M 114 ((q2 + v2).toNatClampNeg) 0) v1 (v2 + 1) _ H

/-- X8_begins -/
def f106 (M : jm_MM)  : Option (Int32 × jm_MM) := f106_9  (fun Me5 ve6 => some (ve6, (jm_up Me5 114 2 ((Me5 114 2) + 1)))) jm_F M (M 114 2) 0
set_option maxRecDepth 100000 in
theorem g106 (L : Nat) (d : Nat) (M : jm_MM) (J : jm_JJ)  (r : Int32 × jm_MM) (H : f106 M  = some r) : jm_go (d + 1) (jm_G 106) 0 (jm_en 3 [.ref 113]) [] (jm_S0 L, M, J) (some (.int r.1), (jm_S0 L, r.2, J)) := by
  unfold f106 at H
  refine jm_go.blk 7 (pc' := 9) (ls' := [some (.ref 113), some (.int (M 114 2)), some (.int 0)]) (st' := []) (t' := (jm_S0 L, M, J)) (fun _ _ => rfl) ?_
  exact g106_9 L d M J
    _ (fun Me5 ve6 r H => by
      have H := Option.some.inj H
      subst H
      exact jm_go.ret 10 (fun _ _ => rfl)
      )
    _ M (M 114 2) 0 _ H


/-- X8_picture -/
def f107 (M : jm_MM)  : Option (Int32 × jm_MM) := bif !decide ((M 114 2) = 6) then (jm_bd (f100 M) (fun q2 => jm_bd (f106 q2) (fun q4 => some (q4.1, q4.2)))) else (some ((-1000000004), M))
set_option maxRecDepth 100000 in
theorem g107 (L : Nat) (d : Nat) (M : jm_MM) (J : jm_JJ)  (r : Int32 × jm_MM) (H : f107 M  = some r) : jm_go (d + 2) (jm_G 107) 0 (jm_en 1 [.ref 113]) [] (jm_S0 L, M, J) (some (.int r.1), (jm_S0 L, r.2, J)) := by
  unfold f107 at H
  rcases jm_bro H with ⟨h1, H⟩ | ⟨h1, H⟩
  · refine jm_go.brt 6 (b := !decide ((M 114 2) = 6)) (p1 := 14) (l1 := [some (.ref 113)]) (s1 := []) (t1 := (jm_S0 L, M, J)) (p2 := 11) (l2 := [some (.ref 113)]) (s2 := []) (t2 := (jm_S0 L, M, J)) (fun _ _ => rfl) h1 ?_
    obtain ⟨q2, h3, H⟩ := jm_bdo H
    refine jm_go.call 2 (d := d + 1) (b := true) (u := 100) (as := [.ref 113]) (pc' := 18) (ls' := [some (.ref 113)]) (st' := []) (t' := (jm_S0 L, M, J)) (fun _ _ => rfl) rfl rfl (g100 L d M J _ h3) ?_
    obtain ⟨q4, h5, H⟩ := jm_bdo H
    refine jm_go.call 2 (d := d + 1) (b := true) (u := 106) (as := [.ref 113]) (pc' := 22) (ls' := [some (.ref 113)]) (st' := []) (t' := (jm_S0 L, q2, J)) (fun _ _ => rfl) rfl rfl (g106 L d q2 J _ h5) ?_
    have H := Option.some.inj H
    subst H
    exact jm_go.ret 1 (fun _ _ => rfl)
  · refine jm_go.brf 6 (b := !decide ((M 114 2) = 6)) (p1 := 14) (l1 := [some (.ref 113)]) (s1 := []) (t1 := (jm_S0 L, M, J)) (p2 := 11) (l2 := [some (.ref 113)]) (s2 := []) (t2 := (jm_S0 L, M, J)) (fun _ _ => rfl) h1 ?_
    have H := Option.some.inj H
    subst H
    exact jm_go.ret 2 (fun _ _ => rfl)


/-- X8_drop -/
def f108 (M : jm_MM)  : Option (Int32 × jm_MM) := bif !decide ((M 114 2) = 0) then (jm_bd (f100 M) (fun q2 => some ((jm_up q2 114 2 ((q2 114 2) - 1)) 114 2, (jm_up q2 114 2 ((q2 114 2) - 1))))) else (some ((-1000000003), M))
set_option maxRecDepth 100000 in
theorem g108 (L : Nat) (d : Nat) (M : jm_MM) (J : jm_JJ)  (r : Int32 × jm_MM) (H : f108 M  = some r) : jm_go (d + 2) (jm_G 108) 0 (jm_en 1 [.ref 113]) [] (jm_S0 L, M, J) (some (.int r.1), (jm_S0 L, r.2, J)) := by
  unfold f108 at H
  rcases jm_bro H with ⟨h1, H⟩ | ⟨h1, H⟩
  · refine jm_go.brt 5 (b := !decide ((M 114 2) = 0)) (p1 := 12) (l1 := [some (.ref 113)]) (s1 := []) (t1 := (jm_S0 L, M, J)) (p2 := 9) (l2 := [some (.ref 113)]) (s2 := []) (t2 := (jm_S0 L, M, J)) (fun _ _ => rfl) h1 ?_
    obtain ⟨q2, h3, H⟩ := jm_bdo H
    refine jm_go.call 2 (d := d + 1) (b := true) (u := 100) (as := [.ref 113]) (pc' := 16) (ls' := [some (.ref 113)]) (st' := []) (t' := (jm_S0 L, M, J)) (fun _ _ => rfl) rfl rfl (g100 L d M J _ h3) ?_
    have H := Option.some.inj H
    subst H
    exact jm_go.ret 13 (fun _ _ => rfl)
  · refine jm_go.brf 5 (b := !decide ((M 114 2) = 0)) (p1 := 12) (l1 := [some (.ref 113)]) (s1 := []) (t1 := (jm_S0 L, M, J)) (p2 := 9) (l2 := [some (.ref 113)]) (s2 := []) (t2 := (jm_S0 L, M, J)) (fun _ _ => rfl) h1 ?_
    have H := Option.some.inj H
    subst H
    exact jm_go.ret 2 (fun _ _ => rfl)

def f109_57  (M : jm_MM) (v1 : Int32) (v2 : Int32) (v3 : Int32) (v4 : Int32) (s0 : Int32) : Option (Int32 × jm_MM) := jm_bd (f105 M v1 v2 v3 v4) (fun q20 => some (s0, q20))
set_option maxRecDepth 100000 in
theorem g109_57 (L : Nat) (d : Nat) (_M : jm_MM) (J : jm_JJ) (M : jm_MM) (v1 : Int32) (v2 : Int32) (v3 : Int32) (v4 : Int32) (s0 : Int32) (r : Int32 × jm_MM) (H : f109_57  M v1 v2 v3 v4 s0 = some r) : jm_go (d + 2) (jm_G 109) 57 [some (.ref 113), some (.int v1), some (.int v2), some (.int v3), some (.int v4), none] [.int s0] (jm_S0 L, M, J) (some (.int r.1), (jm_S0 L, r.2, J)) := by
  unfold f109_57 at H
  obtain ⟨q20, h21, H⟩ := jm_bdo H
  refine jm_go.call 7 (d := d + 1) (b := true) (u := 105) (as := [.ref 113, .int v1, .int v2, .int v3, .int v4]) (pc' := 68) (ls' := [some (.ref 113), some (.int v1), some (.int v2), some (.int v3), some (.int v4), some (.int s0)]) (st' := []) (t' := (jm_S0 L, M, J)) (fun _ _ => rfl) rfl rfl (g105 L d M J v1 v2 v3 v4 _ h21) ?_
  have H := Option.some.inj H
  subst H
  exact jm_go.ret 2 (fun _ _ => rfl)

/-- X8_put -/
def f109 (M : jm_MM) (x0 : Int32) (x1 : Int32) (x2 : Int32) (x3 : Int32) : Option (Int32 × jm_MM) := jm_bd (f96 M x0) (fun q1 => bif decide (q1 = 0) then (some ((-1000000001), M)) else (jm_bd (f97 M x1) (fun q4 => bif !decide (q4 = 0) then (jm_bd (f98 M x2) (fun q7 => bif decide (q7 = 0) then (some ((-1000000002), M)) else (jm_bd (f98 M x3) (fun q10 => bif !decide (q10 = 0) then (jm_bd (f100 M) (fun q13 => jm_bd (f102 q13 x0) (fun q15 => jm_bd (f94 q13 q15 x1) (fun q17 => bif decide (q17 = 0) then (f109_57   q13 x0 x1 x2 x3 0) else (f109_57   q13 x0 x1 x2 x3 1))))) else (some ((-1000000002), M)))))) else (some ((-1000000001), M)))))
set_option maxRecDepth 100000 in
theorem g109 (L : Nat) (d : Nat) (M : jm_MM) (J : jm_JJ) (x0 : Int32) (x1 : Int32) (x2 : Int32) (x3 : Int32) (r : Int32 × jm_MM) (H : f109 M x0 x1 x2 x3 = some r) : jm_go (d + 2) (jm_G 109) 0 (jm_en 6 [.ref 113, .int x0, .int x1, .int x2, .int x3]) [] (jm_S0 L, M, J) (some (.int r.1), (jm_S0 L, r.2, J)) := by
  unfold f109 at H
  obtain ⟨q1, h2, H⟩ := jm_bdo H
  refine jm_go.call 3 (d := d + 1) (b := true) (u := 96) (as := [.ref 113, .int x0]) (pc' := 5) (ls' := [some (.ref 113), some (.int x0), some (.int x1), some (.int x2), some (.int x3), none]) (st' := []) (t' := (jm_S0 L, M, J)) (fun _ _ => rfl) rfl rfl (g96 L d M J x0 _ h2) ?_
  rcases jm_bro H with ⟨h3, H⟩ | ⟨h3, H⟩
  · refine jm_go.brt 1 (b := decide (q1 = 0)) (p1 := 15) (l1 := [some (.ref 113), some (.int x0), some (.int x1), some (.int x2), some (.int x3), none]) (s1 := []) (t1 := (jm_S0 L, M, J)) (p2 := 8) (l2 := [some (.ref 113), some (.int x0), some (.int x1), some (.int x2), some (.int x3), none]) (s2 := []) (t2 := (jm_S0 L, M, J)) (fun _ _ => rfl) h3 ?_
    have H := Option.some.inj H
    subst H
    exact jm_go.ret 2 (fun _ _ => rfl)
  · refine jm_go.brf 1 (b := decide (q1 = 0)) (p1 := 15) (l1 := [some (.ref 113), some (.int x0), some (.int x1), some (.int x2), some (.int x3), none]) (s1 := []) (t1 := (jm_S0 L, M, J)) (p2 := 8) (l2 := [some (.ref 113), some (.int x0), some (.int x1), some (.int x2), some (.int x3), none]) (s2 := []) (t2 := (jm_S0 L, M, J)) (fun _ _ => rfl) h3 ?_
    obtain ⟨q4, h5, H⟩ := jm_bdo H
    refine jm_go.call 2 (d := d + 1) (b := true) (u := 97) (as := [.int x1]) (pc' := 12) (ls' := [some (.ref 113), some (.int x0), some (.int x1), some (.int x2), some (.int x3), none]) (st' := []) (t' := (jm_S0 L, M, J)) (fun _ _ => rfl) rfl rfl (g97 L d M J x1 _ h5) ?_
    rcases jm_bro H with ⟨h6, H⟩ | ⟨h6, H⟩
    · refine jm_go.brt 1 (b := !decide (q4 = 0)) (p1 := 18) (l1 := [some (.ref 113), some (.int x0), some (.int x1), some (.int x2), some (.int x3), none]) (s1 := []) (t1 := (jm_S0 L, M, J)) (p2 := 15) (l2 := [some (.ref 113), some (.int x0), some (.int x1), some (.int x2), some (.int x3), none]) (s2 := []) (t2 := (jm_S0 L, M, J)) (fun _ _ => rfl) h6 ?_
      obtain ⟨q7, h8, H⟩ := jm_bdo H
      refine jm_go.call 2 (d := d + 1) (b := true) (u := 98) (as := [.int x2]) (pc' := 22) (ls' := [some (.ref 113), some (.int x0), some (.int x1), some (.int x2), some (.int x3), none]) (st' := []) (t' := (jm_S0 L, M, J)) (fun _ _ => rfl) rfl rfl (g98 L d M J x2 _ h8) ?_
      rcases jm_bro H with ⟨h9, H⟩ | ⟨h9, H⟩
      · refine jm_go.brt 1 (b := decide (q7 = 0)) (p1 := 33) (l1 := [some (.ref 113), some (.int x0), some (.int x1), some (.int x2), some (.int x3), none]) (s1 := []) (t1 := (jm_S0 L, M, J)) (p2 := 25) (l2 := [some (.ref 113), some (.int x0), some (.int x1), some (.int x2), some (.int x3), none]) (s2 := []) (t2 := (jm_S0 L, M, J)) (fun _ _ => rfl) h9 ?_
        have H := Option.some.inj H
        subst H
        exact jm_go.ret 2 (fun _ _ => rfl)
      · refine jm_go.brf 1 (b := decide (q7 = 0)) (p1 := 33) (l1 := [some (.ref 113), some (.int x0), some (.int x1), some (.int x2), some (.int x3), none]) (s1 := []) (t1 := (jm_S0 L, M, J)) (p2 := 25) (l2 := [some (.ref 113), some (.int x0), some (.int x1), some (.int x2), some (.int x3), none]) (s2 := []) (t2 := (jm_S0 L, M, J)) (fun _ _ => rfl) h9 ?_
        obtain ⟨q10, h11, H⟩ := jm_bdo H
        refine jm_go.call 2 (d := d + 1) (b := true) (u := 98) (as := [.int x3]) (pc' := 30) (ls' := [some (.ref 113), some (.int x0), some (.int x1), some (.int x2), some (.int x3), none]) (st' := []) (t' := (jm_S0 L, M, J)) (fun _ _ => rfl) rfl rfl (g98 L d M J x3 _ h11) ?_
        rcases jm_bro H with ⟨h12, H⟩ | ⟨h12, H⟩
        · refine jm_go.brt 1 (b := !decide (q10 = 0)) (p1 := 36) (l1 := [some (.ref 113), some (.int x0), some (.int x1), some (.int x2), some (.int x3), none]) (s1 := []) (t1 := (jm_S0 L, M, J)) (p2 := 33) (l2 := [some (.ref 113), some (.int x0), some (.int x1), some (.int x2), some (.int x3), none]) (s2 := []) (t2 := (jm_S0 L, M, J)) (fun _ _ => rfl) h12 ?_
          obtain ⟨q13, h14, H⟩ := jm_bdo H
          refine jm_go.call 2 (d := d + 1) (b := true) (u := 100) (as := [.ref 113]) (pc' := 40) (ls' := [some (.ref 113), some (.int x0), some (.int x1), some (.int x2), some (.int x3), none]) (st' := []) (t' := (jm_S0 L, M, J)) (fun _ _ => rfl) rfl rfl (g100 L d M J _ h14) ?_
          obtain ⟨q15, h16, H⟩ := jm_bdo H
          refine jm_go.call 3 (d := d + 1) (b := true) (u := 102) (as := [.ref 113, .int x0]) (pc' := 45) (ls' := [some (.ref 113), some (.int x0), some (.int x1), some (.int x2), some (.int x3), none]) (st' := []) (t' := (jm_S0 L, q13, J)) (fun _ _ => rfl) rfl rfl (g102 L d q13 J x0 _ h16) ?_
          obtain ⟨q17, h18, H⟩ := jm_bdo H
          refine jm_go.call 2 (d := d + 1) (b := true) (u := 94) (as := [.int q15, .int x1]) (pc' := 49) (ls' := [some (.ref 113), some (.int x0), some (.int x1), some (.int x2), some (.int x3), none]) (st' := []) (t' := (jm_S0 L, q13, J)) (fun _ _ => rfl) rfl rfl (g94 L (d + 1) q13 J q15 x1 _ h18) ?_
          rcases jm_bro H with ⟨h19, H⟩ | ⟨h19, H⟩
          · refine jm_go.brt 1 (b := decide (q17 = 0)) (p1 := 56) (l1 := [some (.ref 113), some (.int x0), some (.int x1), some (.int x2), some (.int x3), none]) (s1 := []) (t1 := (jm_S0 L, q13, J)) (p2 := 52) (l2 := [some (.ref 113), some (.int x0), some (.int x1), some (.int x2), some (.int x3), none]) (s2 := []) (t2 := (jm_S0 L, q13, J)) (fun _ _ => rfl) h19 ?_
            refine jm_go.blk 1 (pc' := 57) (ls' := [some (.ref 113), some (.int x0), some (.int x1), some (.int x2), some (.int x3), none]) (st' := [.int 0]) (t' := (jm_S0 L, q13, J)) (fun _ _ => rfl) ?_
            exact g109_57 L d M J  q13 x0 x1 x2 x3 0 _ H
          · refine jm_go.brf 1 (b := decide (q17 = 0)) (p1 := 56) (l1 := [some (.ref 113), some (.int x0), some (.int x1), some (.int x2), some (.int x3), none]) (s1 := []) (t1 := (jm_S0 L, q13, J)) (p2 := 52) (l2 := [some (.ref 113), some (.int x0), some (.int x1), some (.int x2), some (.int x3), none]) (s2 := []) (t2 := (jm_S0 L, q13, J)) (fun _ _ => rfl) h19 ?_
            refine jm_go.blk 2 (pc' := 57) (ls' := [some (.ref 113), some (.int x0), some (.int x1), some (.int x2), some (.int x3), none]) (st' := [.int 1]) (t' := (jm_S0 L, q13, J)) (fun _ _ => rfl) ?_
            exact g109_57 L d M J  q13 x0 x1 x2 x3 1 _ H
        · refine jm_go.brf 1 (b := !decide (q10 = 0)) (p1 := 36) (l1 := [some (.ref 113), some (.int x0), some (.int x1), some (.int x2), some (.int x3), none]) (s1 := []) (t1 := (jm_S0 L, M, J)) (p2 := 33) (l2 := [some (.ref 113), some (.int x0), some (.int x1), some (.int x2), some (.int x3), none]) (s2 := []) (t2 := (jm_S0 L, M, J)) (fun _ _ => rfl) h12 ?_
          have H := Option.some.inj H
          subst H
          exact jm_go.ret 2 (fun _ _ => rfl)
    · refine jm_go.brf 1 (b := !decide (q4 = 0)) (p1 := 18) (l1 := [some (.ref 113), some (.int x0), some (.int x1), some (.int x2), some (.int x3), none]) (s1 := []) (t1 := (jm_S0 L, M, J)) (p2 := 15) (l2 := [some (.ref 113), some (.int x0), some (.int x1), some (.int x2), some (.int x3), none]) (s2 := []) (t2 := (jm_S0 L, M, J)) (fun _ _ => rfl) h6 ?_
      have H := Option.some.inj H
      subst H
      exact jm_go.ret 2 (fun _ _ => rfl)


/-- X8_lose -/
def f110 (M : jm_MM) (x0 : Int32) (x1 : Int32) : Option (Int32 × jm_MM) := jm_bd (f96 M x0) (fun q1 => bif decide (q1 = 0) then (some ((-1000000001), M)) else (jm_bd (f97 M x1) (fun q4 => bif !decide (q4 = 0) then (jm_bd (f102 M x0) (fun q7 => jm_bd (f94 M q7 x1) (fun q9 => bif !decide (q9 = 0) then (jm_bd (f100 M) (fun q12 => jm_bd (f101 q12 x0) (fun q14 => jm_gd (jm_inb q14 3531) (jm_gd (jm_inb q14 3531) (jm_bd (f102 (jm_up q12 114 q14.toNatClampNeg ((q12 114 q14.toNatClampNeg) &&& ((1 <<< (x1 &&& 31)) ^^^ (-1)))) x0) (fun q18 => jm_bd (f95 (jm_up q12 114 q14.toNatClampNeg ((q12 114 q14.toNatClampNeg) &&& ((1 <<< (x1 &&& 31)) ^^^ (-1)))) q18) (fun q20 => some (q20, (jm_up q12 114 q14.toNatClampNeg ((q12 114 q14.toNatClampNeg) &&& ((1 <<< (x1 &&& 31)) ^^^ (-1)))))))))))) else (some ((-1000000003), M))))) else (some ((-1000000001), M)))))
set_option maxRecDepth 100000 in
theorem g110 (L : Nat) (d : Nat) (M : jm_MM) (J : jm_JJ) (x0 : Int32) (x1 : Int32) (r : Int32 × jm_MM) (H : f110 M x0 x1 = some r) : jm_go (d + 2) (jm_G 110) 0 (jm_en 3 [.ref 113, .int x0, .int x1]) [] (jm_S0 L, M, J) (some (.int r.1), (jm_S0 L, r.2, J)) := by
  unfold f110 at H
  obtain ⟨q1, h2, H⟩ := jm_bdo H
  refine jm_go.call 3 (d := d + 1) (b := true) (u := 96) (as := [.ref 113, .int x0]) (pc' := 5) (ls' := [some (.ref 113), some (.int x0), some (.int x1)]) (st' := []) (t' := (jm_S0 L, M, J)) (fun _ _ => rfl) rfl rfl (g96 L d M J x0 _ h2) ?_
  rcases jm_bro H with ⟨h3, H⟩ | ⟨h3, H⟩
  · refine jm_go.brt 1 (b := decide (q1 = 0)) (p1 := 15) (l1 := [some (.ref 113), some (.int x0), some (.int x1)]) (s1 := []) (t1 := (jm_S0 L, M, J)) (p2 := 8) (l2 := [some (.ref 113), some (.int x0), some (.int x1)]) (s2 := []) (t2 := (jm_S0 L, M, J)) (fun _ _ => rfl) h3 ?_
    have H := Option.some.inj H
    subst H
    exact jm_go.ret 2 (fun _ _ => rfl)
  · refine jm_go.brf 1 (b := decide (q1 = 0)) (p1 := 15) (l1 := [some (.ref 113), some (.int x0), some (.int x1)]) (s1 := []) (t1 := (jm_S0 L, M, J)) (p2 := 8) (l2 := [some (.ref 113), some (.int x0), some (.int x1)]) (s2 := []) (t2 := (jm_S0 L, M, J)) (fun _ _ => rfl) h3 ?_
    obtain ⟨q4, h5, H⟩ := jm_bdo H
    refine jm_go.call 2 (d := d + 1) (b := true) (u := 97) (as := [.int x1]) (pc' := 12) (ls' := [some (.ref 113), some (.int x0), some (.int x1)]) (st' := []) (t' := (jm_S0 L, M, J)) (fun _ _ => rfl) rfl rfl (g97 L d M J x1 _ h5) ?_
    rcases jm_bro H with ⟨h6, H⟩ | ⟨h6, H⟩
    · refine jm_go.brt 1 (b := !decide (q4 = 0)) (p1 := 18) (l1 := [some (.ref 113), some (.int x0), some (.int x1)]) (s1 := []) (t1 := (jm_S0 L, M, J)) (p2 := 15) (l2 := [some (.ref 113), some (.int x0), some (.int x1)]) (s2 := []) (t2 := (jm_S0 L, M, J)) (fun _ _ => rfl) h6 ?_
      obtain ⟨q7, h8, H⟩ := jm_bdo H
      refine jm_go.call 3 (d := d + 1) (b := true) (u := 102) (as := [.ref 113, .int x0]) (pc' := 23) (ls' := [some (.ref 113), some (.int x0), some (.int x1)]) (st' := []) (t' := (jm_S0 L, M, J)) (fun _ _ => rfl) rfl rfl (g102 L d M J x0 _ h8) ?_
      obtain ⟨q9, h10, H⟩ := jm_bdo H
      refine jm_go.call 2 (d := d + 1) (b := true) (u := 94) (as := [.int q7, .int x1]) (pc' := 27) (ls' := [some (.ref 113), some (.int x0), some (.int x1)]) (st' := []) (t' := (jm_S0 L, M, J)) (fun _ _ => rfl) rfl rfl (g94 L (d + 1) M J q7 x1 _ h10) ?_
      rcases jm_bro H with ⟨h11, H⟩ | ⟨h11, H⟩
      · refine jm_go.brt 1 (b := !decide (q9 = 0)) (p1 := 33) (l1 := [some (.ref 113), some (.int x0), some (.int x1)]) (s1 := []) (t1 := (jm_S0 L, M, J)) (p2 := 30) (l2 := [some (.ref 113), some (.int x0), some (.int x1)]) (s2 := []) (t2 := (jm_S0 L, M, J)) (fun _ _ => rfl) h11 ?_
        obtain ⟨q12, h13, H⟩ := jm_bdo H
        refine jm_go.call 2 (d := d + 1) (b := true) (u := 100) (as := [.ref 113]) (pc' := 37) (ls' := [some (.ref 113), some (.int x0), some (.int x1)]) (st' := []) (t' := (jm_S0 L, M, J)) (fun _ _ => rfl) rfl rfl (g100 L d M J _ h13) ?_
        obtain ⟨q14, h15, H⟩ := jm_bdo H
        refine jm_go.call 4 (d := d + 1) (b := true) (u := 101) (as := [.int x0]) (pc' := 45) (ls' := [some (.ref 113), some (.int x0), some (.int x1)]) (st' := [.ref 114]) (t' := (jm_S0 L, q12, J)) (fun _ _ => rfl) rfl rfl (g101 L (d + 1) q12 J x0 _ h15) ?_
        obtain ⟨h16, H⟩ := jm_gdo H
        refine jm_go.grd 2 (b := jm_inb q14 3531) (pc' := 47) (ls' := [some (.ref 113), some (.int x0), some (.int x1)]) (st' := [.int (q12 114 q14.toNatClampNeg), .int q14, .ref 114]) (t' := (jm_S0 L, q12, J)) (fun _ _ => rfl) h16 ?_
        obtain ⟨h17, H⟩ := jm_gdo H
        refine jm_go.grd 7 (b := jm_inb q14 3531) (pc' := 54) (ls' := [some (.ref 113), some (.int x0), some (.int x1)]) (st' := []) (t' := (jm_S0 L, (jm_up q12 114 q14.toNatClampNeg ((q12 114 q14.toNatClampNeg) &&& ((1 <<< (x1 &&& 31)) ^^^ (-1)))), J)) (fun _ _ => rfl) h17 ?_
        obtain ⟨q18, h19, H⟩ := jm_bdo H
        refine jm_go.call 3 (d := d + 1) (b := true) (u := 102) (as := [.ref 113, .int x0]) (pc' := 59) (ls' := [some (.ref 113), some (.int x0), some (.int x1)]) (st' := []) (t' := (jm_S0 L, (jm_up q12 114 q14.toNatClampNeg ((q12 114 q14.toNatClampNeg) &&& ((1 <<< (x1 &&& 31)) ^^^ (-1)))), J)) (fun _ _ => rfl) rfl rfl (g102 L d (jm_up q12 114 q14.toNatClampNeg ((q12 114 q14.toNatClampNeg) &&& ((1 <<< (x1 &&& 31)) ^^^ (-1)))) J x0 _ h19) ?_
        obtain ⟨q20, h21, H⟩ := jm_bdo H
        refine jm_go.call 1 (d := d + 1) (b := true) (u := 95) (as := [.int q18]) (pc' := 62) (ls' := [some (.ref 113), some (.int x0), some (.int x1)]) (st' := []) (t' := (jm_S0 L, (jm_up q12 114 q14.toNatClampNeg ((q12 114 q14.toNatClampNeg) &&& ((1 <<< (x1 &&& 31)) ^^^ (-1)))), J)) (fun _ _ => rfl) rfl rfl (g95 L (d + 1) (jm_up q12 114 q14.toNatClampNeg ((q12 114 q14.toNatClampNeg) &&& ((1 <<< (x1 &&& 31)) ^^^ (-1)))) J q18 _ h21) ?_
        have H := Option.some.inj H
        subst H
        exact jm_go.ret 1 (fun _ _ => rfl)
      · refine jm_go.brf 1 (b := !decide (q9 = 0)) (p1 := 33) (l1 := [some (.ref 113), some (.int x0), some (.int x1)]) (s1 := []) (t1 := (jm_S0 L, M, J)) (p2 := 30) (l2 := [some (.ref 113), some (.int x0), some (.int x1)]) (s2 := []) (t2 := (jm_S0 L, M, J)) (fun _ _ => rfl) h11 ?_
        have H := Option.some.inj H
        subst H
        exact jm_go.ret 2 (fun _ _ => rfl)
    · refine jm_go.brf 1 (b := !decide (q4 = 0)) (p1 := 18) (l1 := [some (.ref 113), some (.int x0), some (.int x1)]) (s1 := []) (t1 := (jm_S0 L, M, J)) (p2 := 15) (l2 := [some (.ref 113), some (.int x0), some (.int x1)]) (s2 := []) (t2 := (jm_S0 L, M, J)) (fun _ _ => rfl) h6 ?_
      have H := Option.some.inj H
      subst H
      exact jm_go.ret 2 (fun _ _ => rfl)


/-- X8_weigh -/
def f111 (M : jm_MM) (x0 : Int32) (x1 : Int32) : Option (Int32 × jm_MM) := jm_bd (f97 M x0) (fun q1 => bif !decide (q1 = 0) then (jm_bd (f93 M (Int32.toInt64 x1) 1 9) (fun q4 => bif !decide (q4 = 0) then (jm_bd (f100 M) (fun q7 => jm_gd (jm_inb (3 + x0) 3531) (jm_gd (jm_inb (3 + x0) 3531) (some (q7 114 ((3 + x0).toNatClampNeg), (jm_up q7 114 ((3 + x0).toNatClampNeg) x1)))))) else (some ((-1000000002), M)))) else (some ((-1000000001), M)))
set_option maxRecDepth 100000 in
theorem g111 (L : Nat) (d : Nat) (M : jm_MM) (J : jm_JJ) (x0 : Int32) (x1 : Int32) (r : Int32 × jm_MM) (H : f111 M x0 x1 = some r) : jm_go (d + 2) (jm_G 111) 0 (jm_en 4 [.ref 113, .int x0, .int x1]) [] (jm_S0 L, M, J) (some (.int r.1), (jm_S0 L, r.2, J)) := by
  unfold f111 at H
  obtain ⟨q1, h2, H⟩ := jm_bdo H
  refine jm_go.call 2 (d := d + 1) (b := true) (u := 97) (as := [.int x0]) (pc' := 4) (ls' := [some (.ref 113), some (.int x0), some (.int x1), none]) (st' := []) (t' := (jm_S0 L, M, J)) (fun _ _ => rfl) rfl rfl (g97 L d M J x0 _ h2) ?_
  rcases jm_bro H with ⟨h3, H⟩ | ⟨h3, H⟩
  · refine jm_go.brt 1 (b := !decide (q1 = 0)) (p1 := 10) (l1 := [some (.ref 113), some (.int x0), some (.int x1), none]) (s1 := []) (t1 := (jm_S0 L, M, J)) (p2 := 7) (l2 := [some (.ref 113), some (.int x0), some (.int x1), none]) (s2 := []) (t2 := (jm_S0 L, M, J)) (fun _ _ => rfl) h3 ?_
    obtain ⟨q4, h5, H⟩ := jm_bdo H
    refine jm_go.call 5 (d := d + 1) (b := true) (u := 93) (as := [.long (Int32.toInt64 x1), .long 1, .long 9]) (pc' := 19) (ls' := [some (.ref 113), some (.int x0), some (.int x1), none]) (st' := []) (t' := (jm_S0 L, M, J)) (fun _ _ => rfl) rfl rfl (g93 L (d + 1) M J (Int32.toInt64 x1) 1 9 _ h5) ?_
    rcases jm_bro H with ⟨h6, H⟩ | ⟨h6, H⟩
    · refine jm_go.brt 1 (b := !decide (q4 = 0)) (p1 := 25) (l1 := [some (.ref 113), some (.int x0), some (.int x1), none]) (s1 := []) (t1 := (jm_S0 L, M, J)) (p2 := 22) (l2 := [some (.ref 113), some (.int x0), some (.int x1), none]) (s2 := []) (t2 := (jm_S0 L, M, J)) (fun _ _ => rfl) h6 ?_
      obtain ⟨q7, h8, H⟩ := jm_bdo H
      refine jm_go.call 2 (d := d + 1) (b := true) (u := 100) (as := [.ref 113]) (pc' := 29) (ls' := [some (.ref 113), some (.int x0), some (.int x1), none]) (st' := []) (t' := (jm_S0 L, M, J)) (fun _ _ => rfl) rfl rfl (g100 L d M J _ h8) ?_
      obtain ⟨h9, H⟩ := jm_gdo H
      refine jm_go.grd 6 (b := jm_inb (3 + x0) 3531) (pc' := 37) (ls' := [some (.ref 113), some (.int x0), some (.int x1), none]) (st' := [.int (q7 114 ((3 + x0).toNatClampNeg))]) (t' := (jm_S0 L, q7, J)) (fun _ _ => rfl) h9 ?_
      obtain ⟨h10, H⟩ := jm_gdo H
      refine jm_go.grd 8 (b := jm_inb (3 + x0) 3531) (pc' := 47) (ls' := [some (.ref 113), some (.int x0), some (.int x1), some (.int (q7 114 ((3 + x0).toNatClampNeg)))]) (st' := []) (t' := (jm_S0 L, (jm_up q7 114 ((3 + x0).toNatClampNeg) x1), J)) (fun _ _ => rfl) h10 ?_
      have H := Option.some.inj H
      subst H
      exact jm_go.ret 2 (fun _ _ => rfl)
    · refine jm_go.brf 1 (b := !decide (q4 = 0)) (p1 := 25) (l1 := [some (.ref 113), some (.int x0), some (.int x1), none]) (s1 := []) (t1 := (jm_S0 L, M, J)) (p2 := 22) (l2 := [some (.ref 113), some (.int x0), some (.int x1), none]) (s2 := []) (t2 := (jm_S0 L, M, J)) (fun _ _ => rfl) h6 ?_
      have H := Option.some.inj H
      subst H
      exact jm_go.ret 2 (fun _ _ => rfl)
  · refine jm_go.brf 1 (b := !decide (q1 = 0)) (p1 := 10) (l1 := [some (.ref 113), some (.int x0), some (.int x1), none]) (s1 := []) (t1 := (jm_S0 L, M, J)) (p2 := 7) (l2 := [some (.ref 113), some (.int x0), some (.int x1), none]) (s2 := []) (t2 := (jm_S0 L, M, J)) (fun _ _ => rfl) h3 ?_
    have H := Option.some.inj H
    subst H
    exact jm_go.ret 2 (fun _ _ => rfl)

def f112_38  (M : jm_MM) (v1 : Int32) (v2 : Int32) (s0 : Int32) : Option (Int32 × jm_MM) := bif !decide (s0 = 0) then (jm_bd (f100 M) (fun q4 => jm_gd (jm_inb (0 + v1) 3531) (jm_gd (jm_inb (0 + v1) 3531) (some (q4 114 ((0 + v1).toNatClampNeg), (jm_up q4 114 ((0 + v1).toNatClampNeg) v2)))))) else (some ((-1000000002), M))
set_option maxRecDepth 100000 in
theorem g112_38 (L : Nat) (d : Nat) (_M : jm_MM) (J : jm_JJ) (M : jm_MM) (v1 : Int32) (v2 : Int32) (s0 : Int32) (r : Int32 × jm_MM) (H : f112_38  M v1 v2 s0 = some r) : jm_go (d + 2) (jm_G 112) 38 [some (.ref 113), some (.int v1), some (.int v2), none, none] [.int s0] (jm_S0 L, M, J) (some (.int r.1), (jm_S0 L, r.2, J)) := by
  unfold f112_38 at H
  rcases jm_bro H with ⟨h3, H⟩ | ⟨h3, H⟩
  · refine jm_go.brt 3 (b := !decide (s0 = 0)) (p1 := 46) (l1 := [some (.ref 113), some (.int v1), some (.int v2), some (.int s0), none]) (s1 := []) (t1 := (jm_S0 L, M, J)) (p2 := 43) (l2 := [some (.ref 113), some (.int v1), some (.int v2), some (.int s0), none]) (s2 := []) (t2 := (jm_S0 L, M, J)) (fun _ _ => rfl) h3 ?_
    obtain ⟨q4, h5, H⟩ := jm_bdo H
    refine jm_go.call 2 (d := d + 1) (b := true) (u := 100) (as := [.ref 113]) (pc' := 50) (ls' := [some (.ref 113), some (.int v1), some (.int v2), none, none]) (st' := []) (t' := (jm_S0 L, M, J)) (fun _ _ => rfl) rfl rfl (g100 L d M J _ h5) ?_
    obtain ⟨h6, H⟩ := jm_gdo H
    refine jm_go.grd 6 (b := jm_inb (0 + v1) 3531) (pc' := 58) (ls' := [some (.ref 113), some (.int v1), some (.int v2), none, none]) (st' := [.int (q4 114 ((0 + v1).toNatClampNeg))]) (t' := (jm_S0 L, q4, J)) (fun _ _ => rfl) h6 ?_
    obtain ⟨h7, H⟩ := jm_gdo H
    refine jm_go.grd 8 (b := jm_inb (0 + v1) 3531) (pc' := 69) (ls' := [some (.ref 113), some (.int v1), some (.int v2), none, some (.int (q4 114 ((0 + v1).toNatClampNeg)))]) (st' := []) (t' := (jm_S0 L, (jm_up q4 114 ((0 + v1).toNatClampNeg) v2), J)) (fun _ _ => rfl) h7 ?_
    have H := Option.some.inj H
    subst H
    exact jm_go.ret 2 (fun _ _ => rfl)
  · refine jm_go.brf 3 (b := !decide (s0 = 0)) (p1 := 46) (l1 := [some (.ref 113), some (.int v1), some (.int v2), some (.int s0), none]) (s1 := []) (t1 := (jm_S0 L, M, J)) (p2 := 43) (l2 := [some (.ref 113), some (.int v1), some (.int v2), some (.int s0), none]) (s2 := []) (t2 := (jm_S0 L, M, J)) (fun _ _ => rfl) h3 ?_
    have H := Option.some.inj H
    subst H
    exact jm_go.ret 2 (fun _ _ => rfl)

def f112_37  (M : jm_MM) (v1 : Int32) (v2 : Int32) : Option (Int32 × jm_MM) := f112_38   M v1 v2 0
set_option maxRecDepth 100000 in
theorem g112_37 (L : Nat) (d : Nat) (_M : jm_MM) (J : jm_JJ) (M : jm_MM) (v1 : Int32) (v2 : Int32) (r : Int32 × jm_MM) (H : f112_37  M v1 v2 = some r) : jm_go (d + 2) (jm_G 112) 37 [some (.ref 113), some (.int v1), some (.int v2), none, none] [] (jm_S0 L, M, J) (some (.int r.1), (jm_S0 L, r.2, J)) := by
  unfold f112_37 at H
  refine jm_go.blk 1 (pc' := 38) (ls' := [some (.ref 113), some (.int v1), some (.int v2), none, none]) (st' := [.int 0]) (t' := (jm_S0 L, M, J)) (fun _ _ => rfl) ?_
  exact g112_38 L d M J  M v1 v2 0 _ H

/-- X8_bound -/
def f112 (M : jm_MM) (x0 : Int32) (x1 : Int32) : Option (Int32 × jm_MM) := bif !decide (x0 = 0) then (bif !decide (x0 = 1) then (f112_37   M x0 x1) else (jm_bd (f93 M (Int32.toInt64 x1) 1 99) (fun q8 => bif decide (q8 = 0) then (f112_37   M x0 x1) else (f112_38   M x0 x1 1)))) else (jm_bd (f93 M (Int32.toInt64 x1) 0 40) (fun q11 => f112_38   M x0 x1 q11))
set_option maxRecDepth 100000 in
theorem g112 (L : Nat) (d : Nat) (M : jm_MM) (J : jm_JJ) (x0 : Int32) (x1 : Int32) (r : Int32 × jm_MM) (H : f112 M x0 x1 = some r) : jm_go (d + 2) (jm_G 112) 0 (jm_en 5 [.ref 113, .int x0, .int x1]) [] (jm_S0 L, M, J) (some (.int r.1), (jm_S0 L, r.2, J)) := by
  unfold f112 at H
  rcases jm_bro H with ⟨h1, H⟩ | ⟨h1, H⟩
  · refine jm_go.brt 2 (b := !decide (x0 = 0)) (p1 := 16) (l1 := [some (.ref 113), some (.int x0), some (.int x1), none, none]) (s1 := []) (t1 := (jm_S0 L, M, J)) (p2 := 4) (l2 := [some (.ref 113), some (.int x0), some (.int x1), none, none]) (s2 := []) (t2 := (jm_S0 L, M, J)) (fun _ _ => rfl) h1 ?_
    rcases jm_bro H with ⟨h2, H⟩ | ⟨h2, H⟩
    · refine jm_go.brt 3 (b := !decide (x0 = 1)) (p1 := 37) (l1 := [some (.ref 113), some (.int x0), some (.int x1), none, none]) (s1 := []) (t1 := (jm_S0 L, M, J)) (p2 := 21) (l2 := [some (.ref 113), some (.int x0), some (.int x1), none, none]) (s2 := []) (t2 := (jm_S0 L, M, J)) (fun _ _ => rfl) h2 ?_
      exact g112_37 L d M J  M x0 x1 _ H
    · refine jm_go.brf 3 (b := !decide (x0 = 1)) (p1 := 37) (l1 := [some (.ref 113), some (.int x0), some (.int x1), none, none]) (s1 := []) (t1 := (jm_S0 L, M, J)) (p2 := 21) (l2 := [some (.ref 113), some (.int x0), some (.int x1), none, none]) (s2 := []) (t2 := (jm_S0 L, M, J)) (fun _ _ => rfl) h2 ?_
      obtain ⟨q8, h9, H⟩ := jm_bdo H
      refine jm_go.call 5 (d := d + 1) (b := true) (u := 93) (as := [.long (Int32.toInt64 x1), .long 1, .long 99]) (pc' := 30) (ls' := [some (.ref 113), some (.int x0), some (.int x1), none, none]) (st' := []) (t' := (jm_S0 L, M, J)) (fun _ _ => rfl) rfl rfl (g93 L (d + 1) M J (Int32.toInt64 x1) 1 99 _ h9) ?_
      rcases jm_bro H with ⟨h10, H⟩ | ⟨h10, H⟩
      · refine jm_go.brt 1 (b := decide (q8 = 0)) (p1 := 37) (l1 := [some (.ref 113), some (.int x0), some (.int x1), none, none]) (s1 := []) (t1 := (jm_S0 L, M, J)) (p2 := 33) (l2 := [some (.ref 113), some (.int x0), some (.int x1), none, none]) (s2 := []) (t2 := (jm_S0 L, M, J)) (fun _ _ => rfl) h10 ?_
        exact g112_37 L d M J  M x0 x1 _ H
      · refine jm_go.brf 1 (b := decide (q8 = 0)) (p1 := 37) (l1 := [some (.ref 113), some (.int x0), some (.int x1), none, none]) (s1 := []) (t1 := (jm_S0 L, M, J)) (p2 := 33) (l2 := [some (.ref 113), some (.int x0), some (.int x1), none, none]) (s2 := []) (t2 := (jm_S0 L, M, J)) (fun _ _ => rfl) h10 ?_
        refine jm_go.blk 2 (pc' := 38) (ls' := [some (.ref 113), some (.int x0), some (.int x1), none, none]) (st' := [.int 1]) (t' := (jm_S0 L, M, J)) (fun _ _ => rfl) ?_
        exact g112_38 L d M J  M x0 x1 1 _ H
  · refine jm_go.brf 2 (b := !decide (x0 = 0)) (p1 := 16) (l1 := [some (.ref 113), some (.int x0), some (.int x1), none, none]) (s1 := []) (t1 := (jm_S0 L, M, J)) (p2 := 4) (l2 := [some (.ref 113), some (.int x0), some (.int x1), none, none]) (s2 := []) (t2 := (jm_S0 L, M, J)) (fun _ _ => rfl) h1 ?_
    obtain ⟨q11, h12, H⟩ := jm_bdo H
    refine jm_go.call 5 (d := d + 1) (b := true) (u := 93) (as := [.long (Int32.toInt64 x1), .long 0, .long 40]) (pc' := 13) (ls' := [some (.ref 113), some (.int x0), some (.int x1), none, none]) (st' := []) (t' := (jm_S0 L, M, J)) (fun _ _ => rfl) rfl rfl (g93 L (d + 1) M J (Int32.toInt64 x1) 0 40 _ h12) ?_
    refine jm_go.blk 1 (pc' := 38) (ls' := [some (.ref 113), some (.int x0), some (.int x1), none, none]) (st' := [.int q11]) (t' := (jm_S0 L, M, J)) (fun _ _ => rfl) ?_
    exact g112_38 L d M J  M x0 x1 q11 _ H
