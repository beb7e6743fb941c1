/-! methods as functions: printed by wip/whole/gen/lay.py (funs.py) -/
def f151_9  (ke0 : jm_MM → Int32 → Option (Int32 × jm_MM)) : Nat → jm_MM → Int32 → Int32 → Option (Int32 × jm_MM)
  | 0, _, _, _ => none
  | n0 + 1, M, v2, v3 => bif decide (24 ≤ v3) then (ke0 M v2) else (jm_gd (jm_inb v3 24) (bif decide (((M 120 v3.toNatClampNeg) + 1) ≤ v2) then ((f151_9  ke0 n0) M v2 (v3 + 1)) else (jm_gd (jm_inb v3 24) ((f151_9  ke0 n0) M ((M 120 v3.toNatClampNeg) + 1) (v3 + 1)))))
set_option maxRecDepth 100000 in
theorem g151_9 (L : Nat) (d : Nat) (_M : jm_MM) (J : jm_JJ) (ke0 : jm_MM → Int32 → Option (Int32 × jm_MM)) (hke0 : ∀ (M : jm_MM) (v2 : Int32) (r : Int32 × jm_MM), ke0 M v2 = some r → jm_go (d + 5) (jm_G 151) 46 [none, none, some (.int v2), none] [] (jm_S0 L, M, J) (some (.int r.1), (jm_S0 L, r.2, J))) : ∀ (n0 : Nat) (M : jm_MM) (v2 : Int32) (v3 : Int32) (r : Int32 × jm_MM), f151_9  ke0 n0 M v2 v3 = some r → jm_go (d + 5) (jm_G 151) 9 [some (.ref 113), none, some (.int v2), some (.int v3)] [] (jm_S0 L, M, J) (some (.int r.1), (jm_S0 L, r.2, J)) := by
  intro n0
  induction n0 with
  | zero => intro M v2 v3 r H; cases H
  | succ n0 ih =>
    intro M v2 v3 r H
    have hkb := ih
    unfold f151_9 at H
    rcases jm_bro H with ⟨h3, H⟩ | ⟨h3, H⟩
    · refine jm_go.brt 3 (b := decide (24 ≤ v3)) (p1 := 46) (l1 := [some (.ref 113), none, some (.int v2), some (.int v3)]) (s1 := []) (t1 := (jm_S0 L, M, J)) (p2 := 15) (l2 := [some (.ref 113), none, some (.int v2), some (.int v3)]) (s2 := []) (t2 := (jm_S0 L, M, J)) (fun _ _ => rfl) h3 ?_
      refine jm_go.lab (ls' := [none, none, some (.int v2), none]) (fun i hi => by cases hi; rfl) ?_
      exact hke0 M v2 _ H
    · refine jm_go.brf 3 (b := decide (24 ≤ v3)) (p1 := 46) (l1 := [some (.ref 113), none, some (.int v2), some (.int v3)]) (s1 := []) (t1 := (jm_S0 L, M, J)) (p2 := 15) (l2 := [some (.ref 113), none, some (.int v2), some (.int v3)]) (s2 := []) (t2 := (jm_S0 L, M, J)) (fun _ _ => rfl) h3 ?_
      obtain ⟨h4, H⟩ := jm_gdo H
      refine jm_go.grd 4 (b := jm_inb v3 24) (pc' := 21) (ls' := [some (.ref 113), none, some (.int v2), some (.int v3)]) (st' := [.int (M 120 v3.toNatClampNeg)]) (t' := (jm_S0 L, M, J)) (fun _ _ => rfl) h4 ?_
      rcases jm_bro H with ⟨h5, H⟩ | ⟨h5, H⟩
      · refine jm_go.brt 4 (b := decide (((M 120 v3.toNatClampNeg) + 1) ≤ v2)) (p1 := 38) (l1 := [some (.ref 113), none, some (.int v2), some (.int v3)]) (s1 := []) (t1 := (jm_S0 L, M, J)) (p2 := 27) (l2 := [some (.ref 113), none, some (.int v2), some (.int v3)]) (s2 := []) (t2 := (jm_S0 L, M, J)) (fun _ _ => rfl) h5 ?_
        refine jm_go.blk 4 (pc' := 9) (ls' := [some (.ref 113), none, some (.int v2), some (.int (v3 + 1))]) (st' := []) (t' := (jm_S0 L, M, J)) (fun _ _ => rfl) ?_
        exact hkb M v2 (v3 + 1) _ H
      · refine jm_go.brf 4 (b := decide (((M 120 v3.toNatClampNeg) + 1) ≤ v2)) (p1 := 38) (l1 := [some (.ref 113), none, some (.int v2), some (.int v3)]) (s1 := []) (t1 := (jm_S0 L, M, J)) (p2 := 27) (l2 := [some (.ref 113), none, some (.int v2), some (.int v3)]) (s2 := []) (t2 := (jm_S0 L, M, J)) (fun _ _ => rfl) h5 ?_
        obtain ⟨h6, H⟩ := jm_gdo H
        refine jm_go.grd 4 (b := jm_inb v3 24) (pc' := 33) (ls' := [some (.ref 113), none, some (.int v2), some (.int v3)]) (st' := [.int (M 120 v3.toNatClampNeg)]) (t' := (jm_S0 L, M, J)) (fun _ _ => rfl) h6 ?_
        refine jm_go.blk 6 (pc' := 9) (ls' := [some (.ref 113), none, some (.int ((M 120 v3.toNatClampNeg) + 1)), some (.int (v3 + 1))]) (st' := []) (t' := (jm_S0 L, M, J)) (fun _ _ => rfl) ?_
        exact hkb M ((M 120 v3.toNatClampNeg) + 1) (v3 + 1) _ H

/-- X8_longest -/
def f151 (M : jm_MM) (x0 : Int32) : Option (Int32 × jm_MM) := jm_bd (f150 M x0) (fun q1 => f151_9  (fun Me7 ve8 => some (ve8, Me7)) jm_F q1 0 0)
set_option maxRecDepth 100000 in
theorem g151 (L : Nat) (d : Nat) (M : jm_MM) (J : jm_JJ) (x0 : Int32) (r : Int32 × jm_MM) (H : f151 M x0 = some r) : jm_go (d + 5) (jm_G 151) 0 (jm_en 4 [.ref 113, .int x0]) [] (jm_S0 L, M, J) (some (.int r.1), (jm_S0 L, r.2, J)) := by
  unfold f151 at H
  obtain ⟨q1, h2, H⟩ := jm_bdo H
  refine jm_go.call 3 (d := d + 4) (b := true) (u := 150) (as := [.ref 113, .int x0]) (pc' := 5) (ls' := [some (.ref 113), some (.int x0), none, none]) (st' := []) (t' := (jm_S0 L, M, J)) (fun _ _ => rfl) rfl rfl (g150 L d M J x0 _ h2) ?_
  refine jm_go.blk 4 (pc' := 9) (ls' := [some (.ref 113), some (.int x0), some (.int 0), some (.int 0)]) (st' := []) (t' := (jm_S0 L, q1, J)) (fun _ _ => rfl) ?_
  refine jm_go.lab (ls' := [some (.ref 113), none, some (.int 0), some (.int 0)]) (fun i hi => by cases hi; rfl) ?_
  exact g151_9 L d M J
    _ (fun Me7 ve8 r H => by
      have H := Option.some.inj H
      subst H
      exact jm_go.ret 2 (fun _ _ => rfl)
      )
    _ q1 0 0 _ H


/-- X8_topOf -/
def f152 (M : jm_MM) (x0 : Int32) : Option (Int32 × jm_MM) := jm_bd (f150 M x0) (fun q1 => some (q1 113 6, q1))
set_option maxRecDepth 100000 in
theorem g152 (L : Nat) (d : Nat) (M : jm_MM) (J : jm_JJ) (x0 : Int32) (r : Int32 × jm_MM) (H : f152 M x0 = some r) : jm_go (d + 5) (jm_G 152) 0 (jm_en 2 [.ref 113, .int x0]) [] (jm_S0 L, M, J) (some (.int r.1), (jm_S0 L, r.2, J)) := by
  unfold f152 at H
  obtain ⟨q1, h2, H⟩ := jm_bdo H
  refine jm_go.call 3 (d := d + 4) (b := true) (u := 150) (as := [.ref 113, .int x0]) (pc' := 5) (ls' := [some (.ref 113), some (.int x0)]) (st' := []) (t' := (jm_S0 L, M, J)) (fun _ _ => rfl) rfl rfl (g150 L d M J x0 _ h2) ?_
  have H := Option.some.inj H
  subst H
  exact jm_go.ret 3 (fun _ _ => rfl)


/-- X8_ofPicture -/
def f138 (M : jm_MM) (x0 : Int32) (x1 : Int32) : Option (Int32 × jm_MM) := jm_bd (f96 M x0) (fun q1 => bif !decide (q1 = 0) then (bif decide (x1 = 0) then (jm_bd (f102 M x0) (fun q4 => jm_bd (f95 M q4) (fun q6 => some (q6, M)))) else (bif decide (x1 = 1) then (jm_bd (f102 M x0) (fun q9 => some (q9, M))) else (bif decide (x1 = 2) then (jm_bd (f136 M x0) (fun q12 => some (q12, M))) else (bif decide (x1 = 3) then (jm_bd (f102 M x0) (fun q15 => jm_bd (f121 M x0 q15 (M 114 0)) (fun q17 => some (q17, M)))) else (bif decide (x1 = 4) then (jm_bd (f137 M x0) (fun q20 => some (q20.1, q20.2))) else (bif decide (x1 = 5) then (jm_bd (f151 M x0) (fun q23 => some (q23.1, q23.2))) else (bif decide (x1 = 6) then (jm_bd (f152 M x0) (fun q26 => some (q26.1, q26.2))) else (bif decide (x1 = 7) then (jm_bd (f102 M x0) (fun q29 => jm_bd (f119 M q29) (fun q31 => some (q31, M)))) else (some ((-1000000002), M)))))))))) else (some ((-1000000001), M)))
set_option maxRecDepth 100000 in
theorem g138 (L : Nat) (d : Nat) (M : jm_MM) (J : jm_JJ) (x0 : Int32) (x1 : Int32) (r : Int32 × jm_MM) (H : f138 M x0 x1 = some r) : jm_go (d + 7) (jm_G 138) 0 (jm_en 3 [.ref 113, .int x0, .int x1]) [] (jm_S0 L, M, J) (some (.int r.1), (jm_S0 L, r.2, J)) := by
  unfold f138 at H
  obtain ⟨q1, h2, H⟩ := jm_bdo H
  refine jm_go.call 3 (d := d + 6) (b := true) (u := 96) (as := [.ref 113, .int x0]) (pc' := 5) (ls' := [some (.ref 113), some (.int x0), some (.int x1)]) (st' := []) (t' := (jm_S0 L, M, J)) (fun _ _ => rfl) rfl rfl (g96 L (d + 5) M J x0 _ h2) ?_
  rcases jm_bro H with ⟨h3, H⟩ | ⟨h3, H⟩
  · refine jm_go.brt 1 (b := !decide (q1 = 0)) (p1 := 11) (l1 := [some (.ref 113), some (.int x0), some (.int x1)]) (s1 := []) (t1 := (jm_S0 L, M, J)) (p2 := 8) (l2 := [some (.ref 113), some (.int x0), some (.int x1)]) (s2 := []) (t2 := (jm_S0 L, M, J)) (fun _ _ => rfl) h3 ?_
    rcases jm_bro H with ⟨h8, H⟩ | ⟨h8, H⟩
    · refine jm_go.sw 2 (x := x1) (u := 126) (ts := [(0, 60), (1, 69), (2, 75), (3, 81), (4, 98), (5, 104), (6, 110), (7, 116)]) (q := 60) (ls' := [some (.ref 113), some (.int x0), some (.int x1)]) (st' := []) (t' := (jm_S0 L, M, J)) (fun _ _ => rfl) (by simp only [jm_tgt, h8, cond_true, cond_false]) ?_
      obtain ⟨q4, h5, H⟩ := jm_bdo H
      refine jm_go.call 3 (d := d + 6) (b := true) (u := 102) (as := [.ref 113, .int x0]) (pc' := 65) (ls' := [some (.ref 113), some (.int x0), none]) (st' := []) (t' := (jm_S0 L, M, J)) (fun _ _ => rfl) rfl rfl (g102 L (d + 5) M J x0 _ h5) ?_
      obtain ⟨q6, h7, H⟩ := jm_bdo H
      refine jm_go.call 1 (d := d + 6) (b := true) (u := 95) (as := [.int q4]) (pc' := 68) (ls' := [some (.ref 113), some (.int x0), none]) (st' := []) (t' := (jm_S0 L, M, J)) (fun _ _ => rfl) rfl rfl (g95 L (d + 6) M J q4 _ h7) ?_
      have H := Option.some.inj H
      subst H
      exact jm_go.ret 1 (fun _ _ => rfl)
    · skip
      rcases jm_bro H with ⟨h11, H⟩ | ⟨h11, H⟩
      · refine jm_go.sw 2 (x := x1) (u := 126) (ts := [(0, 60), (1, 69), (2, 75), (3, 81), (4, 98), (5, 104), (6, 110), (7, 116)]) (q := 69) (ls' := [some (.ref 113), some (.int x0), some (.int x1)]) (st' := []) (t' := (jm_S0 L, M, J)) (fun _ _ => rfl) (by simp only [jm_tgt, h8, h11, cond_true, cond_false]) ?_
        obtain ⟨q9, h10, H⟩ := jm_bdo H
        refine jm_go.call 3 (d := d + 6) (b := true) (u := 102) (as := [.ref 113, .int x0]) (pc' := 74) (ls' := [some (.ref 113), some (.int x0), none]) (st' := []) (t' := (jm_S0 L, M, J)) (fun _ _ => rfl) rfl rfl (g102 L (d + 5) M J x0 _ h10) ?_
        have H := Option.some.inj H
        subst H
        exact jm_go.ret 1 (fun _ _ => rfl)
      · skip
        rcases jm_bro H with ⟨h14, H⟩ | ⟨h14, H⟩
        · refine jm_go.sw 2 (x := x1) (u := 126) (ts := [(0, 60), (1, 69), (2, 75), (3, 81), (4, 98), (5, 104), (6, 110), (7, 116)]) (q := 75) (ls' := [some (.ref 113), some (.int x0), some (.int x1)]) (st' := []) (t' := (jm_S0 L, M, J)) (fun _ _ => rfl) (by simp only [jm_tgt, h8, h11, h14, cond_true, cond_false]) ?_
          obtain ⟨q12, h13, H⟩ := jm_bdo H
          refine jm_go.call 3 (d := d + 6) (b := true) (u := 136) (as := [.ref 113, .int x0]) (pc' := 80) (ls' := [some (.ref 113), some (.int x0), none]) (st' := []) (t' := (jm_S0 L, M, J)) (fun _ _ => rfl) rfl rfl (g136 L (d + 1) M J x0 _ h13) ?_
          have H := Option.some.inj H
          subst H
          exact jm_go.ret 1 (fun _ _ => rfl)
        · skip
          rcases jm_bro H with ⟨h19, H⟩ | ⟨h19, H⟩
          · refine jm_go.sw 2 (x := x1) (u := 126) (ts := [(0, 60), (1, 69), (2, 75), (3, 81), (4, 98), (5, 104), (6, 110), (7, 116)]) (q := 81) (ls' := [some (.ref 113), some (.int x0), some (.int x1)]) (st' := []) (t' := (jm_S0 L, M, J)) (fun _ _ => rfl) (by simp only [jm_tgt, h8, h11, h14, h19, cond_true, cond_false]) ?_
            obtain ⟨q15, h16, H⟩ := jm_bdo H
            refine jm_go.call 5 (d := d + 6) (b := true) (u := 102) (as := [.ref 113, .int x0]) (pc' := 88) (ls' := [some (.ref 113), some (.int x0), none]) (st' := [.int x0, .ref 113]) (t' := (jm_S0 L, M, J)) (fun _ _ => rfl) rfl rfl (g102 L (d + 5) M J x0 _ h16) ?_
            obtain ⟨q17, h18, H⟩ := jm_bdo H
            refine jm_go.call 5 (d := d + 6) (b := true) (u := 121) (as := [.ref 113, .int x0, .int q15, .int (M 114 0)]) (pc' := 97) (ls' := [some (.ref 113), some (.int x0), none]) (st' := []) (t' := (jm_S0 L, M, J)) (fun _ _ => rfl) rfl rfl (g121 L (d + 1) M J x0 q15 (M 114 0) _ h18) ?_
            have H := Option.some.inj H
            subst H
            exact jm_go.ret 1 (fun _ _ => rfl)
          · skip
            rcases jm_bro H with ⟨h22, H⟩ | ⟨h22, H⟩
            · refine jm_go.sw 2 (x := x1) (u := 126) (ts := [(0, 60), (1, 69), (2, 75), (3, 81), (4, 98), (5, 104), (6, 110), (7, 116)]) (q := 98) (ls' := [some (.ref 113), some (.int x0), some (.int x1)]) (st' := []) (t' := (jm_S0 L, M, J)) (fun _ _ => rfl) (by simp only [jm_tgt, h8, h11, h14, h19, h22, cond_true, cond_false]) ?_
              obtain ⟨q20, h21, H⟩ := jm_bdo H
              refine jm_go.call 3 (d := d + 6) (b := true) (u := 137) (as := [.ref 113, .int x0]) (pc' := 103) (ls' := [some (.ref 113), some (.int x0), none]) (st' := []) (t' := (jm_S0 L, M, J)) (fun _ _ => rfl) rfl rfl (g137 L d M J x0 _ h21) ?_
              have H := Option.some.inj H
              subst H
              exact jm_go.ret 1 (fun _ _ => rfl)
            · skip
              rcases jm_bro H with ⟨h25, H⟩ | ⟨h25, H⟩
              · refine jm_go.sw 2 (x := x1) (u := 126) (ts := [(0, 60), (1, 69), (2, 75), (3, 81), (4, 98), (5, 104), (6, 110), (7, 116)]) (q := 104) (ls' := [some (.ref 113), some (.int x0), some (.int x1)]) (st' := []) (t' := (jm_S0 L, M, J)) (fun _ _ => rfl) (by simp only [jm_tgt, h8, h11, h14, h19, h22, h25, cond_true, cond_false]) ?_
                obtain ⟨q23, h24, H⟩ := jm_bdo H
                refine jm_go.call 3 (d := d + 6) (b := true) (u := 151) (as := [.ref 113, .int x0]) (pc' := 109) (ls' := [some (.ref 113), some (.int x0), none]) (st' := []) (t' := (jm_S0 L, M, J)) (fun _ _ => rfl) rfl rfl (g151 L (d + 1) M J x0 _ h24) ?_
                have H := Option.some.inj H
                subst H
                exact jm_go.ret 1 (fun _ _ => rfl)
              · skip
                rcases jm_bro H with ⟨h28, H⟩ | ⟨h28, H⟩
                · refine jm_go.sw 2 (x := x1) (u := 126) (ts := [(0, 60), (1, 69), (2, 75), (3, 81), (4, 98), (5, 104), (6, 110), (7, 116)]) (q := 110) (ls' := [some (.ref 113), some (.int x0), some (.int x1)]) (st' := []) (t' := (jm_S0 L, M, J)) (fun _ _ => rfl) (by simp only [jm_tgt, h8, h11, h14, h19, h22, h25, h28, cond_true, cond_false]) ?_
                  obtain ⟨q26, h27, H⟩ := jm_bdo H
                  refine jm_go.call 3 (d := d + 6) (b := true) (u := 152) (as := [.ref 113, .int x0]) (pc' := 115) (ls' := [some (.ref 113), some (.int x0), none]) (st' := []) (t' := (jm_S0 L, M, J)) (fun _ _ => rfl) rfl rfl (g152 L (d + 1) M J x0 _ h27) ?_
                  have H := Option.some.inj H
                  subst H
                  exact jm_go.ret 1 (fun _ _ => rfl)
                · skip
                  rcases jm_bro H with ⟨h33, H⟩ | ⟨h33, H⟩
                  · refine jm_go.sw 2 (x := x1) (u := 126) (ts := [(0, 60), (1, 69), (2, 75), (3, 81), (4, 98), (5, 104), (6, 110), (7, 116)]) (q := 116) (ls' := [some (.ref 113), some (.int x0), some (.int x1)]) (st' := []) (t' := (jm_S0 L, M, J)) (fun _ _ => rfl) (by simp only [jm_tgt, h8, h11, h14, h19, h22, h25, h28, h33, cond_true, cond_false]) ?_
                    obtain ⟨q29, h30, H⟩ := jm_bdo H
                    refine jm_go.call 4 (d := d + 6) (b := true) (u := 102) (as := [.ref 113, .int x0]) (pc' := 122) (ls' := [some (.ref 113), some (.int x0), none]) (st' := [.ref 113]) (t' := (jm_S0 L, M, J)) (fun _ _ => rfl) rfl rfl (g102 L (d + 5) M J x0 _ h30) ?_
                    obtain ⟨q31, h32, H⟩ := jm_bdo H
                    refine jm_go.call 1 (d := d + 6) (b := true) (u := 119) (as := [.ref 113, .int q29]) (pc' := 125) (ls' := [some (.ref 113), some (.int x0), none]) (st' := []) (t' := (jm_S0 L, M, J)) (fun _ _ => rfl) rfl rfl (g119 L (d + 5) M J q29 _ h32) ?_
                    have H := Option.some.inj H
                    subst H
                    exact jm_go.ret 1 (fun _ _ => rfl)
                  · skip
                    refine jm_go.sw 2 (x := x1) (u := 126) (ts := [(0, 60), (1, 69), (2, 75), (3, 81), (4, 98), (5, 104), (6, 110), (7, 116)]) (q := 126) (ls' := [some (.ref 113), some (.int x0), some (.int x1)]) (st' := []) (t' := (jm_S0 L, M, J)) (fun _ _ => rfl) (by simp only [jm_tgt, h8, h11, h14, h19, h22, h25, h28, h33, cond_true, cond_false]) ?_
                    have H := Option.some.inj H
                    subst H
                    exact jm_go.ret 2 (fun _ _ => rfl)
  · refine jm_go.brf 1 (b := !decide (q1 = 0)) (p1 := 11) (l1 := [some (.ref 113), some (.int x0), some (.int x1)]) (s1 := []) (t1 := (jm_S0 L, M, J)) (p2 := 8) (l2 := [some (.ref 113), some (.int x0), some (.int x1)]) (s2 := []) (t2 := (jm_S0 L, M, J)) (fun _ _ => rfl) h3 ?_
    have H := Option.some.inj H
    subst H
    exact jm_go.ret 2 (fun _ _ => rfl)

def f139_10  (ke0 : jm_MM → Int32 → Option (Int32 × jm_MM)) : Nat → jm_MM → Int32 → Int32 → Int32 → Int32 → Option (Int32 × jm_MM)
  | 0, _, _, _, _, _ => none
  | n0 + 1, M, v1, v2, v3, v4 => jm_gd (jm_inb v1 6) (bif decide ((M 117 v1.toNatClampNeg) ≤ v4) then (ke0 M v3) else (jm_bd (f127 M v1 v4) (fun q5 => jm_bd (f94 M q5 v2) (fun q7 => bif decide (q7 = 0) then ((f139_10  ke0 n0) M v1 v2 v3 (v4 + 1)) else ((f139_10  ke0 n0) M v1 v2 v4 (v4 + 1))))))
set_option maxRecDepth 100000 in
theorem g139_10 (L : Nat) (d : Nat) (_M : jm_MM) (J : jm_JJ) (ke0 : jm_MM → Int32 → Option (Int32 × jm_MM)) (hke0 : ∀ (M : jm_MM) (v3 : Int32) (r : Int32 × jm_MM), ke0 M v3 = some r → jm_go (d + 6) (jm_G 139) 48 [none, none, none, some (.int v3), none] [] (jm_S0 L, M, J) (some (.int r.1), (jm_S0 L, r.2, J))) : ∀ (n0 : Nat) (M : jm_MM) (v1 : Int32) (v2 : Int32) (v3 : Int32) (v4 : Int32) (r : Int32 × jm_MM), f139_10  ke0 n0 M v1 v2 v3 v4 = some r → jm_go (d + 6) (jm_G 139) 10 [some (.ref 113), some (.int v1), some (.int v2), some (.int v3), some (.int v4)] [] (jm_S0 L, M, J) (some (.int r.1), (jm_S0 L, r.2, J)) := by
  intro n0
  induction n0 with
  | zero => intro M v1 v2 v3 v4 r H; cases H
  | succ n0 ih =>
    intro M v1 v2 v3 v4 r H
    have hkb := ih
    unfold f139_10 at H
    obtain ⟨h3, H⟩ := jm_gdo H
    refine jm_go.grd 5 (b := jm_inb v1 6) (pc' := 18) (ls' := [some (.ref 113), some (.int v1), some (.int v2), some (.int v3), some (.int v4)]) (st' := [.int (M 117 v1.toNatClampNeg), .int v4]) (t' := (jm_S0 L, M, J)) (fun _ _ => rfl) h3 ?_
    rcases jm_bro H with ⟨h4, H⟩ | ⟨h4, H⟩
    · refine jm_go.brt 1 (b := decide ((M 117 v1.toNatClampNeg) ≤ v4)) (p1 := 48) (l1 := [some (.ref 113), some (.int v1), some (.int v2), some (.int v3), some (.int v4)]) (s1 := []) (t1 := (jm_S0 L, M, J)) (p2 := 21) (l2 := [some (.ref 113), some (.int v1), some (.int v2), some (.int v3), some (.int v4)]) (s2 := []) (t2 := (jm_S0 L, M, J)) (fun _ _ => rfl) h4 ?_
      refine jm_go.lab (ls' := [none, none, none, some (.int v3), none]) (fun i hi => by cases hi; rfl) ?_
      exact hke0 M v3 _ H
    · refine jm_go.brf 1 (b := decide ((M 117 v1.toNatClampNeg) ≤ v4)) (p1 := 48) (l1 := [some (.ref 113), some (.int v1), some (.int v2), some (.int v3), some (.int v4)]) (s1 := []) (t1 := (jm_S0 L, M, J)) (p2 := 21) (l2 := [some (.ref 113), some (.int v1), some (.int v2), some (.int v3), some (.int v4)]) (s2 := []) (t2 := (jm_S0 L, M, J)) (fun _ _ => rfl) h4 ?_
      obtain ⟨q5, h6, H⟩ := jm_bdo H
      refine jm_go.call 4 (d := d + 5) (b := true) (u := 127) (as := [.ref 113, .int v1, .int v4]) (pc' := 28) (ls' := [some (.ref 113), some (.int v1), some (.int v2), some (.int v3), some (.int v4)]) (st' := []) (t' := (jm_S0 L, M, J)) (fun _ _ => rfl) rfl rfl (g127 L (d + 5) M J v1 v4 _ h6) ?_
      obtain ⟨q7, h8, H⟩ := jm_bdo H
      refine jm_go.call 2 (d := d + 5) (b := true) (u := 94) (as := [.int q5, .int v2]) (pc' := 32) (ls' := [some (.ref 113), some (.int v1), some (.int v2), some (.int v3), some (.int v4)]) (st' := []) (t' := (jm_S0 L, M, J)) (fun _ _ => rfl) rfl rfl (g94 L (d + 5) M J q5 v2 _ h8) ?_
      rcases jm_bro H with ⟨h9, H⟩ | ⟨h9, H⟩
      · refine jm_go.brt 1 (b := decide (q7 = 0)) (p1 := 40) (l1 := [some (.ref 113), some (.int v1), some (.int v2), some (.int v3), some (.int v4)]) (s1 := []) (t1 := (jm_S0 L, M, J)) (p2 := 35) (l2 := [some (.ref 113), some (.int v1), some (.int v2), some (.int v3), some (.int v4)]) (s2 := []) (t2 := (jm_S0 L, M, J)) (fun _ _ => rfl) h9 ?_
        refine jm_go.blk 4 (pc' := 10) (ls' := [some (.ref 113), some (.int v1), some (.int v2), some (.int v3), some (.int (v4 + 1))]) (st' := []) (t' := (jm_S0 L, M, J)) (fun _ _ => rfl) ?_
        exact hkb M v1 v2 v3 (v4 + 1) _ H
      · refine jm_go.brf 1 (b := decide (q7 = 0)) (p1 := 40) (l1 := [some (.ref 113), some (.int v1), some (.int v2), some (.int v3), some (.int v4)]) (s1 := []) (t1 := (jm_S0 L, M, J)) (p2 := 35) (l2 := [some (.ref 113), some (.int v1), some (.int v2), some (.int v3), some (.int v4)]) (s2 := []) (t2 := (jm_S0 L, M, J)) (fun _ _ => rfl) h9 ?_
        refine jm_go.blk 5 (pc' := 10) (ls' := [some (.ref 113), some (.int v1), some (.int v2), some (.int v4), some (.int (v4 + 1))]) (st' := []) (t' := (jm_S0 L, M, J)) (fun _ _ => rfl) ?_
        exact hkb M v1 v2 v4 (v4 + 1) _ H

/-- X8_haloIn -/
def f139 (M : jm_MM) (x0 : Int32) (x1 : Int32) : Option (Int32 × jm_MM) := jm_bd (f124 M x0) (fun q1 => f139_10  (fun Me10 ve11 => some (ve11, Me10)) jm_F q1 x0 x1 (-1) 0)
set_option maxRecDepth 100000 in
theorem g139 (L : Nat) (d : Nat) (M : jm_MM) (J : jm_JJ) (x0 : Int32) (x1 : Int32) (r : Int32 × jm_MM) (H : f139 M x0 x1 = some r) : jm_go (d + 6) (jm_G 139) 0 (jm_en 5 [.ref 113, .int x0, .int x1]) [] (jm_S0 L, M, J) (some (.int r.1), (jm_S0 L, r.2, J)) := by
  unfold f139 at H
  obtain ⟨q1, h2, H⟩ := jm_bdo H
  refine jm_go.call 3 (d := d + 5) (b := true) (u := 124) (as := [.ref 113, .int x0]) (pc' := 5) (ls' := [some (.ref 113), some (.int x0), some (.int x1), none, none]) (st' := []) (t' := (jm_S0 L, M, J)) (fun _ _ => rfl) rfl rfl (g124 L d M J x0 _ h2) ?_
  refine jm_go.blk 4 (pc' := 10) (ls' := [some (.ref 113), some (.int x0), some (.int x1), some (.int (-1)), some (.int 0)]) (st' := []) (t' := (jm_S0 L, q1, J)) (fun _ _ => rfl) ?_
  exact g139_10 L d M J
    _ (fun Me10 ve11 r H => by
      have H := Option.some.inj H
      subst H
      exact jm_go.ret 2 (fun _ _ => rfl)
      )
    _ q1 x0 x1 (-1) 0 _ H


/-- X8_holds -/
def f140 (M : jm_MM) (x0 : Int32) (x1 : Int32) : Option (Int32) := jm_bd (f102 M x0) (fun q1 => jm_bd (f120 M x0 x1 q1 (M 114 0)) (fun q3 => jm_bd (f121 M x0 (q3 &&& ((1 <<< (x1 &&& 31)) ^^^ (-1))) (M 114 0)) (fun q5 => bif decide (q5 ≤ 1) then (some 0) else (some 1))))
set_option maxRecDepth 100000 in
theorem g140 (L : Nat) (d : Nat) (M : jm_MM) (J : jm_JJ) (x0 : Int32) (x1 : Int32) (r : Int32) (H : f140 M x0 x1 = some r) : jm_go (d + 6) (jm_G 140) 0 (jm_en 4 [.ref 113, .int x0, .int x1]) [] (jm_S0 L, M, J) (some (.int r), (jm_S0 L, M, J)) := by
  unfold f140 at H
  obtain ⟨q1, h2, H⟩ := jm_bdo H
  refine jm_go.call 6 (d := d + 5) (b := true) (u := 102) (as := [.ref 113, .int x0]) (pc' := 8) (ls' := [some (.ref 113), some (.int x0), some (.int x1), none]) (st' := [.int x1, .int x0, .ref 113]) (t' := (jm_S0 L, M, J)) (fun _ _ => rfl) rfl rfl (g102 L (d + 4) M J x0 _ h2) ?_
  obtain ⟨q3, h4, H⟩ := jm_bdo H
  refine jm_go.call 5 (d := d + 5) (b := true) (u := 120) (as := [.ref 113, .int x0, .int x1, .int q1, .int (M 114 0)]) (pc' := 17) (ls' := [some (.ref 113), some (.int x0), some (.int x1), none]) (st' := []) (t' := (jm_S0 L, M, J)) (fun _ _ => rfl) rfl rfl (g120 L (d + 1) M J x0 x1 q1 (M 114 0) _ h4) ?_
  obtain ⟨q5, h6, H⟩ := jm_bdo H
  refine jm_go.call 15 (d := d + 5) (b := true) (u := 121) (as := [.ref 113, .int x0, .int (q3 &&& ((1 <<< (x1 &&& 31)) ^^^ (-1))), .int (M 114 0)]) (pc' := 36) (ls' := [some (.ref 113), some (.int x0), some (.int x1), some (.int (q3 &&& ((1 <<< (x1 &&& 31)) ^^^ (-1))))]) (st' := []) (t' := (jm_S0 L, M, J)) (fun _ _ => rfl) rfl rfl (g121 L d M J x0 (q3 &&& ((1 <<< (x1 &&& 31)) ^^^ (-1))) (M 114 0) _ h6) ?_
  rcases jm_bro H with ⟨h7, H⟩ | ⟨h7, H⟩
  · refine jm_go.brt 2 (b := decide (q5 ≤ 1)) (p1 := 44) (l1 := [some (.ref 113), some (.int x0), some (.int x1), some (.int (q3 &&& ((1 <<< (x1 &&& 31)) ^^^ (-1))))]) (s1 := []) (t1 := (jm_S0 L, M, J)) (p2 := 40) (l2 := [some (.ref 113), some (.int x0), some (.int x1), some (.int (q3 &&& ((1 <<< (x1 &&& 31)) ^^^ (-1))))]) (s2 := []) (t2 := (jm_S0 L, M, J)) (fun _ _ => rfl) h7 ?_
    have H := Option.some.inj H
    subst H
    exact jm_go.ret 2 (fun _ _ => rfl)
  · refine jm_go.brf 2 (b := decide (q5 ≤ 1)) (p1 := 44) (l1 := [some (.ref 113), some (.int x0), some (.int x1), some (.int (q3 &&& ((1 <<< (x1 &&& 31)) ^^^ (-1))))]) (s1 := []) (t1 := (jm_S0 L, M, J)) (p2 := 40) (l2 := [some (.ref 113), some (.int x0), some (.int x1), some (.int (q3 &&& ((1 <<< (x1 &&& 31)) ^^^ (-1))))]) (s2 := []) (t2 := (jm_S0 L, M, J)) (fun _ _ => rfl) h7 ?_
    have H := Option.some.inj H
    subst H
    exact jm_go.ret 3 (fun _ _ => rfl)


/-- X8_depthOf -/
def f153 (M : jm_MM) (x0 : Int32) (x1 : Int32) : Option (Int32 × jm_MM) := jm_bd (f150 M x0) (fun q1 => jm_gd (jm_inb x1 24) (some (q1 120 x1.toNatClampNeg, q1)))
set_option maxRecDepth 100000 in
theorem g153 (L : Nat) (d : Nat) (M : jm_MM) (J : jm_JJ) (x0 : Int32) (x1 : Int32) (r : Int32 × jm_MM) (H : f153 M x0 x1 = some r) : jm_go (d + 5) (jm_G 153) 0 (jm_en 3 [.ref 113, .int x0, .int x1]) [] (jm_S0 L, M, J) (some (.int r.1), (jm_S0 L, r.2, J)) := by
  unfold f153 at H
  obtain ⟨q1, h2, H⟩ := jm_bdo H
  refine jm_go.call 3 (d := d + 4) (b := true) (u := 150) (as := [.ref 113, .int x0]) (pc' := 5) (ls' := [some (.ref 113), some (.int x0), some (.int x1)]) (st' := []) (t' := (jm_S0 L, M, J)) (fun _ _ => rfl) rfl rfl (g150 L d M J x0 _ h2) ?_
  obtain ⟨h3, H⟩ := jm_gdo H
  refine jm_go.grd 4 (b := jm_inb x1 24) (pc' := 11) (ls' := [some (.ref 113), some (.int x0), some (.int x1)]) (st' := [.int (q1 120 x1.toNatClampNeg)]) (t' := (jm_S0 L, q1, J)) (fun _ _ => rfl) h3 ?_
  have H := Option.some.inj H
  subst H
  exact jm_go.ret 1 (fun _ _ => rfl)


/-- X8_grain -/
def f141 (M : jm_MM) (x0 : Int32) (x1 : Int32) (x2 : Int32) : Option (Int32 × jm_MM) := jm_bd (f96 M x0) (fun q1 => bif decide (q1 = 0) then (some ((-1000000001), M)) else (jm_bd (f97 M x1) (fun q4 => bif !decide (q4 = 0) then (jm_bd (f102 M x0) (fun q7 => jm_bd (f94 M q7 x1) (fun q9 => bif decide (x2 = 0) then (bif decide (q9 = 0) then (some ((-1), M)) else (jm_bd (f103 M x0 x1) (fun q12 => some (q12, M)))) else (bif decide (x2 = 1) then (bif decide (q9 = 0) then (some ((-1), M)) else (jm_bd (f104 M x0 x1) (fun q16 => some (q16, M)))) else (bif decide (x2 = 2) then (bif decide (q9 = 0) then (some (0, M)) else (jm_bd (f102 M x0) (fun q20 => jm_bd (f120 M x0 x1 q20 (M 114 0)) (fun q22 => some (q22, M))))) else (bif decide (x2 = 3) then (bif decide (q9 = 0) then (some ((-1), M)) else (jm_bd (f139 M x0 x1) (fun q26 => some (q26.1, q26.2)))) else (bif decide (x2 = 4) then (bif decide (q9 = 0) then (some (0, M)) else (jm_bd (f135 M x0 x1) (fun q30 => jm_bd (f95 M q30) (fun q32 => some (q32, M))))) else (bif decide (x2 = 5) then (bif decide (q9 = 0) then (some (0, M)) else (jm_bd (f140 M x0 x1) (fun q36 => some (q36, M)))) else (bif decide (x2 = 6) then (bif decide (q9 = 0) then (some ((-1), M)) else (jm_bd (f153 M x0 x1) (fun q40 => some (q40.1, q40.2)))) else (bif decide (x2 = 7) then (jm_gd (jm_inb (3 + x1) 3531) (some (M 114 ((3 + x1).toNatClampNeg), M))) else (some ((-1000000002), M)))))))))))) else (some ((-1000000001), M)))))
set_option maxRecDepth 100000 in
theorem g141 (L : Nat) (d : Nat) (M : jm_MM) (J : jm_JJ) (x0 : Int32) (x1 : Int32) (x2 : Int32) (r : Int32 × jm_MM) (H : f141 M x0 x1 x2 = some r) : jm_go (d + 7) (jm_G 141) 0 (jm_en 5 [.ref 113, .int x0, .int x1, .int x2]) [] (jm_S0 L, M, J) (some (.int r.1), (jm_S0 L, r.2, J)) := by
  unfold f141 at H
  obtain ⟨q1, h2, H⟩ := jm_bdo H
  refine jm_go.call 3 (d := d + 6) (b := true) (u := 96) (as := [.ref 113, .int x0]) (pc' := 5) (ls' := [some (.ref 113), some (.int x0), some (.int x1), some (.int x2), none]) (st' := []) (t' := (jm_S0 L, M, J)) (fun _ _ => rfl) rfl rfl (g96 L (d + 5) M J x0 _ h2) ?_
  rcases jm_bro H with ⟨h3, H⟩ | ⟨h3, H⟩
  · refine jm_go.brt 1 (b := decide (q1 = 0)) (p1 := 15) (l1 := [some (.ref 113), some (.int x0), some (.int x1), some (.int x2), none]) (s1 := []) (t1 := (jm_S0 L, M, J)) (p2 := 8) (l2 := [some (.ref 113), some (.int x0), some (.int x1), some (.int x2), none]) (s2 := []) (t2 := (jm_S0 L, M, J)) (fun _ _ => rfl) h3 ?_
    have H := Option.some.inj H
    subst H
    exact jm_go.ret 2 (fun _ _ => rfl)
  · refine jm_go.brf 1 (b := decide (q1 = 0)) (p1 := 15) (l1 := [some (.ref 113), some (.int x0), some (.int x1), some (.int x2), none]) (s1 := []) (t1 := (jm_S0 L, M, J)) (p2 := 8) (l2 := [some (.ref 113), some (.int x0), some (.int x1), some (.int x2), none]) (s2 := []) (t2 := (jm_S0 L, M, J)) (fun _ _ => rfl) h3 ?_
    obtain ⟨q4, h5, H⟩ := jm_bdo H
    refine jm_go.call 2 (d := d + 6) (b := true) (u := 97) (as := [.int x1]) (pc' := 12) (ls' := [some (.ref 113), some (.int x0), some (.int x1), some (.int x2), none]) (st' := []) (t' := (jm_S0 L, M, J)) (fun _ _ => rfl) rfl rfl (g97 L (d + 5) M J x1 _ h5) ?_
    rcases jm_bro H with ⟨h6, H⟩ | ⟨h6, H⟩
    · refine jm_go.brt 1 (b := !decide (q4 = 0)) (p1 := 18) (l1 := [some (.ref 113), some (.int x0), some (.int x1), some (.int x2), none]) (s1 := []) (t1 := (jm_S0 L, M, J)) (p2 := 15) (l2 := [some (.ref 113), some (.int x0), some (.int x1), some (.int x2), none]) (s2 := []) (t2 := (jm_S0 L, M, J)) (fun _ _ => rfl) h6 ?_
      obtain ⟨q7, h8, H⟩ := jm_bdo H
      refine jm_go.call 3 (d := d + 6) (b := true) (u := 102) (as := [.ref 113, .int x0]) (pc' := 23) (ls' := [some (.ref 113), some (.int x0), some (.int x1), some (.int x2), none]) (st' := []) (t' := (jm_S0 L, M, J)) (fun _ _ => rfl) rfl rfl (g102 L (d + 5) M J x0 _ h8) ?_
      obtain ⟨q9, h10, H⟩ := jm_bdo H
      refine jm_go.call 2 (d := d + 6) (b := true) (u := 94) (as := [.int q7, .int x1]) (pc' := 27) (ls' := [some (.ref 113), some (.int x0), some (.int x1), some (.int x2), none]) (st' := []) (t' := (jm_S0 L, M, J)) (fun _ _ => rfl) rfl rfl (g94 L (d + 6) M J q7 x1 _ h10) ?_
      rcases jm_bro H with ⟨h14, H⟩ | ⟨h14, H⟩
      · refine jm_go.sw 3 (x := x2) (u := 211) (ts := [(0, 76), (1, 92), (2, 108), (3, 135), (4, 151), (5, 170), (6, 186), (7, 202)]) (q := 76) (ls' := [some (.ref 113), some (.int x0), some (.int x1), some (.int x2), some (.int q9)]) (st' := []) (t' := (jm_S0 L, M, J)) (fun _ _ => rfl) (by simp only [jm_tgt, h14, cond_true, cond_false]) ?_
        rcases jm_bro H with ⟨h11, H⟩ | ⟨h11, H⟩
        · refine jm_go.brt 2 (b := decide (q9 = 0)) (p1 := 90) (l1 := [some (.ref 113), some (.int x0), some (.int x1), none, some (.int q9)]) (s1 := []) (t1 := (jm_S0 L, M, J)) (p2 := 81) (l2 := [some (.ref 113), some (.int x0), some (.int x1), none, some (.int q9)]) (s2 := []) (t2 := (jm_S0 L, M, J)) (fun _ _ => rfl) h11 ?_
          have H := Option.some.inj H
          subst H
          exact jm_go.ret 2 (fun _ _ => rfl)
        · refine jm_go.brf 2 (b := decide (q9 = 0)) (p1 := 90) (l1 := [some (.ref 113), some (.int x0), some (.int x1), none, some (.int q9)]) (s1 := []) (t1 := (jm_S0 L, M, J)) (p2 := 81) (l2 := [some (.ref 113), some (.int x0), some (.int x1), none, some (.int q9)]) (s2 := []) (t2 := (jm_S0 L, M, J)) (fun _ _ => rfl) h11 ?_
          obtain ⟨q12, h13, H⟩ := jm_bdo H
          refine jm_go.call 4 (d := d + 6) (b := true) (u := 103) (as := [.ref 113, .int x0, .int x1]) (pc' := 87) (ls' := [some (.ref 113), some (.int x0), some (.int x1), none, some (.int q9)]) (st' := []) (t' := (jm_S0 L, M, J)) (fun _ _ => rfl) rfl rfl (g103 L (d + 5) M J x0 x1 _ h13) ?_
          have H := Option.some.inj H
          subst H
          exact jm_go.ret 2 (fun _ _ => rfl)
      · skip
        rcases jm_bro H with ⟨h18, H⟩ | ⟨h18, H⟩
        · refine jm_go.sw 3 (x := x2) (u := 211) (ts := [(0, 76), (1, 92), (2, 108), (3, 135), (4, 151), (5, 170), (6, 186), (7, 202)]) (q := 92) (ls' := [some (.ref 113), some (.int x0), some (.int x1), some (.int x2), some (.int q9)]) (st' := []) (t' := (jm_S0 L, M, J)) (fun _ _ => rfl) (by simp only [jm_tgt, h14, h18, cond_true, cond_false]) ?_
          rcases jm_bro H with ⟨h15, H⟩ | ⟨h15, H⟩
          · refine jm_go.brt 2 (b := decide (q9 = 0)) (p1 := 106) (l1 := [some (.ref 113), some (.int x0), some (.int x1), none, some (.int q9)]) (s1 := []) (t1 := (jm_S0 L, M, J)) (p2 := 97) (l2 := [some (.ref 113), some (.int x0), some (.int x1), none, some (.int q9)]) (s2 := []) (t2 := (jm_S0 L, M, J)) (fun _ _ => rfl) h15 ?_
            have H := Option.some.inj H
            subst H
            exact jm_go.ret 2 (fun _ _ => rfl)
          · refine jm_go.brf 2 (b := decide (q9 = 0)) (p1 := 106) (l1 := [some (.ref 113), some (.int x0), some (.int x1), none, some (.int q9)]) (s1 := []) (t1 := (jm_S0 L, M, J)) (p2 := 97) (l2 := [some (.ref 113), some (.int x0), some (.int x1), none, some (.int q9)]) (s2 := []) (t2 := (jm_S0 L, M, J)) (fun _ _ => rfl) h15 ?_
            obtain ⟨q16, h17, H⟩ := jm_bdo H
            refine jm_go.call 4 (d := d + 6) (b := true) (u := 104) (as := [.ref 113, .int x0, .int x1]) (pc' := 103) (ls' := [some (.ref 113), some (.int x0), some (.int x1), none, some (.int q9)]) (st' := []) (t' := (jm_S0 L, M, J)) (fun _ _ => rfl) rfl rfl (g104 L (d + 5) M J x0 x1 _ h17) ?_
            have H := Option.some.inj H
            subst H
            exact jm_go.ret 2 (fun _ _ => rfl)
        · skip
          rcases jm_bro H with ⟨h24, H⟩ | ⟨h24, H⟩
          · refine jm_go.sw 3 (x := x2) (u := 211) (ts := [(0, 76), (1, 92), (2, 108), (3, 135), (4, 151), (5, 170), (6, 186), (7, 202)]) (q := 108) (ls' := [some (.ref 113), some (.int x0), some (.int x1), some (.int x2), some (.int q9)]) (st' := []) (t' := (jm_S0 L, M, J)) (fun _ _ => rfl) (by simp only [jm_tgt, h14, h18, h24, cond_true, cond_false]) ?_
            rcases jm_bro H with ⟨h19, H⟩ | ⟨h19, H⟩
            · refine jm_go.brt 2 (b := decide (q9 = 0)) (p1 := 133) (l1 := [some (.ref 113), some (.int x0), some (.int x1), none, some (.int q9)]) (s1 := []) (t1 := (jm_S0 L, M, J)) (p2 := 113) (l2 := [some (.ref 113), some (.int x0), some (.int x1), none, some (.int q9)]) (s2 := []) (t2 := (jm_S0 L, M, J)) (fun _ _ => rfl) h19 ?_
              have H := Option.some.inj H
              subst H
              exact jm_go.ret 2 (fun _ _ => rfl)
            · refine jm_go.brf 2 (b := decide (q9 = 0)) (p1 := 133) (l1 := [some (.ref 113), some (.int x0), some (.int x1), none, some (.int q9)]) (s1 := []) (t1 := (jm_S0 L, M, J)) (p2 := 113) (l2 := [some (.ref 113), some (.int x0), some (.int x1), none, some (.int q9)]) (s2 := []) (t2 := (jm_S0 L, M, J)) (fun _ _ => rfl) h19 ?_
              obtain ⟨q20, h21, H⟩ := jm_bdo H
              refine jm_go.call 6 (d := d + 6) (b := true) (u := 102) (as := [.ref 113, .int x0]) (pc' := 121) (ls' := [some (.ref 113), some (.int x0), some (.int x1), none, some (.int q9)]) (st' := [.int x1, .int x0, .ref 113]) (t' := (jm_S0 L, M, J)) (fun _ _ => rfl) rfl rfl (g102 L (d + 5) M J x0 _ h21) ?_
              obtain ⟨q22, h23, H⟩ := jm_bdo H
              refine jm_go.call 5 (d := d + 6) (b := true) (u := 120) (as := [.ref 113, .int x0, .int x1, .int q20, .int (M 114 0)]) (pc' := 130) (ls' := [some (.ref 113), some (.int x0), some (.int x1), none, some (.int q9)]) (st' := []) (t' := (jm_S0 L, M, J)) (fun _ _ => rfl) rfl rfl (g120 L (d + 2) M J x0 x1 q20 (M 114 0) _ h23) ?_
              have H := Option.some.inj H
              subst H
              exact jm_go.ret 2 (fun _ _ => rfl)
          · skip
            rcases jm_bro H with ⟨h28, H⟩ | ⟨h28, H⟩
            · refine jm_go.sw 3 (x := x2) (u := 211) (ts := [(0, 76), (1, 92), (2, 108), (3, 135), (4, 151), (5, 170), (6, 186), (7, 202)]) (q := 135) (ls' := [some (.ref 113), some (.int x0), some (.int x1), some (.int x2), some (.int q9)]) (st' := []) (t' := (jm_S0 L, M, J)) (fun _ _ => rfl) (by simp only [jm_tgt, h14, h18, h24, h28, cond_true, cond_false]) ?_
              rcases jm_bro H with ⟨h25, H⟩ | ⟨h25, H⟩
              · refine jm_go.brt 2 (b := decide (q9 = 0)) (p1 := 149) (l1 := [some (.ref 113), some (.int x0), some (.int x1), none, some (.int q9)]) (s1 := []) (t1 := (jm_S0 L, M, J)) (p2 := 140) (l2 := [some (.ref 113), some (.int x0), some (.int x1), none, some (.int q9)]) (s2 := []) (t2 := (jm_S0 L, M, J)) (fun _ _ => rfl) h25 ?_
                have H := Option.some.inj H
                subst H
                exact jm_go.ret 2 (fun _ _ => rfl)
              · refine jm_go.brf 2 (b := decide (q9 = 0)) (p1 := 149) (l1 := [some (.ref 113), some (.int x0), some (.int x1), none, some (.int q9)]) (s1 := []) (t1 := (jm_S0 L, M, J)) (p2 := 140) (l2 := [some (.ref 113), some (.int x0), some (.int x1), none, some (.int q9)]) (s2 := []) (t2 := (jm_S0 L, M, J)) (fun _ _ => rfl) h25 ?_
                obtain ⟨q26, h27, H⟩ := jm_bdo H
                refine jm_go.call 4 (d := d + 6) (b := true) (u := 139) (as := [.ref 113, .int x0, .int x1]) (pc' := 146) (ls' := [some (.ref 113), some (.int x0), some (.int x1), none, some (.int q9)]) (st' := []) (t' := (jm_S0 L, M, J)) (fun _ _ => rfl) rfl rfl (g139 L d M J x0 x1 _ h27) ?_
                have H := Option.some.inj H
                subst H
                exact jm_go.ret 2 (fun _ _ => rfl)
            · skip
              rcases jm_bro H with ⟨h34, H⟩ | ⟨h34, H⟩
              · refine jm_go.sw 3 (x := x2) (u := 211) (ts := [(0, 76), (1, 92), (2, 108), (3, 135), (4, 151), (5, 170), (6, 186), (7, 202)]) (q := 151) (ls' := [some (.ref 113), some (.int x0), some (.int x1), some (.int x2), some (.int q9)]) (st' := []) (t' := (jm_S0 L, M, J)) (fun _ _ => rfl) (by simp only [jm_tgt, h14, h18, h24, h28, h34, cond_true, cond_false]) ?_
                rcases jm_bro H with ⟨h29, H⟩ | ⟨h29, H⟩
                · refine jm_go.brt 2 (b := decide (q9 = 0)) (p1 := 168) (l1 := [some (.ref 113), some (.int x0), some (.int x1), none, some (.int q9)]) (s1 := []) (t1 := (jm_S0 L, M, J)) (p2 := 156) (l2 := [some (.ref 113), some (.int x0), some (.int x1), none, some (.int q9)]) (s2 := []) (t2 := (jm_S0 L, M, J)) (fun _ _ => rfl) h29 ?_
                  have H := Option.some.inj H
                  subst H
                  exact jm_go.ret 2 (fun _ _ => rfl)
                · refine jm_go.brf 2 (b := decide (q9 = 0)) (p1 := 168) (l1 := [some (.ref 113), some (.int x0), some (.int x1), none, some (.int q9)]) (s1 := []) (t1 := (jm_S0 L, M, J)) (p2 := 156) (l2 := [some (.ref 113), some (.int x0), some (.int x1), none, some (.int q9)]) (s2 := []) (t2 := (jm_S0 L, M, J)) (fun _ _ => rfl) h29 ?_
                  obtain ⟨q30, h31, H⟩ := jm_bdo H
                  refine jm_go.call 4 (d := d + 6) (b := true) (u := 135) (as := [.ref 113, .int x0, .int x1]) (pc' := 162) (ls' := [some (.ref 113), some (.int x0), some (.int x1), none, some (.int q9)]) (st' := []) (t' := (jm_S0 L, M, J)) (fun _ _ => rfl) rfl rfl (g135 L (d + 2) M J x0 x1 _ h31) ?_
                  obtain ⟨q32, h33, H⟩ := jm_bdo H
                  refine jm_go.call 1 (d := d + 6) (b := true) (u := 95) (as := [.int q30]) (pc' := 165) (ls' := [some (.ref 113), some (.int x0), some (.int x1), none, some (.int q9)]) (st' := []) (t' := (jm_S0 L, M, J)) (fun _ _ => rfl) rfl rfl (g95 L (d + 6) M J q30 _ h33) ?_
                  have H := Option.some.inj H
                  subst H
                  exact jm_go.ret 2 (fun _ _ => rfl)
              · skip
                rcases jm_bro H with ⟨h38, H⟩ | ⟨h38, H⟩
                · refine jm_go.sw 3 (x := x2) (u := 211) (ts := [(0, 76), (1, 92), (2, 108), (3, 135), (4, 151), (5, 170), (6, 186), (7, 202)]) (q := 170) (ls' := [some (.ref 113), some (.int x0), some (.int x1), some (.int x2), some (.int q9)]) (st' := []) (t' := (jm_S0 L, M, J)) (fun _ _ => rfl) (by simp only [jm_tgt, h14, h18, h24, h28, h34, h38, cond_true, cond_false]) ?_
                  rcases jm_bro H with ⟨h35, H⟩ | ⟨h35, H⟩
                  · refine jm_go.brt 2 (b := decide (q9 = 0)) (p1 := 184) (l1 := [some (.ref 113), some (.int x0), some (.int x1), none, some (.int q9)]) (s1 := []) (t1 := (jm_S0 L, M, J)) (p2 := 175) (l2 := [some (.ref 113), some (.int x0), some (.int x1), none, some (.int q9)]) (s2 := []) (t2 := (jm_S0 L, M, J)) (fun _ _ => rfl) h35 ?_
                    have H := Option.some.inj H
                    subst H
                    exact jm_go.ret 2 (fun _ _ => rfl)
                  · refine jm_go.brf 2 (b := decide (q9 = 0)) (p1 := 184) (l1 := [some (.ref 113), some (.int x0), some (.int x1), none, some (.int q9)]) (s1 := []) (t1 := (jm_S0 L, M, J)) (p2 := 175) (l2 := [some (.ref 113), some (.int x0), some (.int x1), none, some (.int q9)]) (s2 := []) (t2 := (jm_S0 L, M, J)) (fun _ _ => rfl) h35 ?_
                    obtain ⟨q36, h37, H⟩ := jm_bdo H
                    refine jm_go.call 4 (d := d + 6) (b := true) (u := 140) (as := [.ref 113, .int x0, .int x1]) (pc' := 181) (ls' := [some (.ref 113), some (.int x0), some (.int x1), none, some (.int q9)]) (st' := []) (t' := (jm_S0 L, M, J)) (fun _ _ => rfl) rfl rfl (g140 L d M J x0 x1 _ h37) ?_
                    have H := Option.some.inj H
                    subst H
                    exact jm_go.ret 2 (fun _ _ => rfl)
                · skip
                  rcases jm_bro H with ⟨h42, H⟩ | ⟨h42, H⟩
                  · refine jm_go.sw 3 (x := x2) (u := 211) (ts := [(0, 76), (1, 92), (2, 108), (3, 135), (4, 151), (5, 170), (6, 186), (7, 202)]) (q := 186) (ls' := [some (.ref 113), some (.int x0), some (.int x1), some (.int x2), some (.int q9)]) (st' := []) (t' := (jm_S0 L, M, J)) (fun _ _ => rfl) (by simp only [jm_tgt, h14, h18, h24, h28, h34, h38, h42, cond_true, cond_false]) ?_
                    rcases jm_bro H with ⟨h39, H⟩ | ⟨h39, H⟩
                    · refine jm_go.brt 2 (b := decide (q9 = 0)) (p1 := 200) (l1 := [some (.ref 113), some (.int x0), some (.int x1), none, some (.int q9)]) (s1 := []) (t1 := (jm_S0 L, M, J)) (p2 := 191) (l2 := [some (.ref 113), some (.int x0), some (.int x1), none, some (.int q9)]) (s2 := []) (t2 := (jm_S0 L, M, J)) (fun _ _ => rfl) h39 ?_
                      have H := Option.some.inj H
                      subst H
                      exact jm_go.ret 2 (fun _ _ => rfl)
                    · refine jm_go.brf 2 (b := decide (q9 = 0)) (p1 := 200) (l1 := [some (.ref 113), some (.int x0), some (.int x1), none, some (.int q9)]) (s1 := []) (t1 := (jm_S0 L, M, J)) (p2 := 191) (l2 := [some (.ref 113), some (.int x0), some (.int x1), none, some (.int q9)]) (s2 := []) (t2 := (jm_S0 L, M, J)) (fun _ _ => rfl) h39 ?_
                      obtain ⟨q40, h41, H⟩ := jm_bdo H
                      refine jm_go.call 4 (d := d + 6) (b := true) (u := 153) (as := [.ref 113, .int x0, .int x1]) (pc' := 197) (ls' := [some (.ref 113), some (.int x0), some (.int x1), none, some (.int q9)]) (st' := []) (t' := (jm_S0 L, M, J)) (fun _ _ => rfl) rfl rfl (g153 L (d + 1) M J x0 x1 _ h41) ?_
                      have H := Option.some.inj H
                      subst H
                      exact jm_go.ret 2 (fun _ _ => rfl)
                  · skip
                    rcases jm_bro H with ⟨h44, H⟩ | ⟨h44, H⟩
                    · refine jm_go.sw 3 (x := x2) (u := 211) (ts := [(0, 76), (1, 92), (2, 108), (3, 135), (4, 151), (5, 170), (6, 186), (7, 202)]) (q := 202) (ls' := [some (.ref 113), some (.int x0), some (.int x1), some (.int x2), some (.int q9)]) (st' := []) (t' := (jm_S0 L, M, J)) (fun _ _ => rfl) (by simp only [jm_tgt, h14, h18, h24, h28, h34, h38, h42, h44, cond_true, cond_false]) ?_
                      obtain ⟨h43, H⟩ := jm_gdo H
                      refine jm_go.grd 6 (b := jm_inb (3 + x1) 3531) (pc' := 210) (ls' := [some (.ref 113), none, some (.int x1), none, none]) (st' := [.int (M 114 ((3 + x1).toNatClampNeg))]) (t' := (jm_S0 L, M, J)) (fun _ _ => rfl) h43 ?_
                      have H := Option.some.inj H
                      subst H
                      exact jm_go.ret 1 (fun _ _ => rfl)
                    · skip
                      refine jm_go.sw 3 (x := x2) (u := 211) (ts := [(0, 76), (1, 92), (2, 108), (3, 135), (4, 151), (5, 170), (6, 186), (7, 202)]) (q := 211) (ls' := [some (.ref 113), some (.int x0), some (.int x1), some (.int x2), some (.int q9)]) (st' := []) (t' := (jm_S0 L, M, J)) (fun _ _ => rfl) (by simp only [jm_tgt, h14, h18, h24, h28, h34, h38, h42, h44, cond_true, cond_false]) ?_
                      have H := Option.some.inj H
                      subst H
                      exact jm_go.ret 2 (fun _ _ => rfl)
    · refine jm_go.brf 1 (b := !decide (q4 = 0)) (p1 := 18) (l1 := [some (.ref 113), some (.int x0), some (.int x1), some (.int x2), none]) (s1 := []) (t1 := (jm_S0 L, M, J)) (p2 := 15) (l2 := [some (.ref 113), some (.int x0), some (.int x1), some (.int x2), none]) (s2 := []) (t2 := (jm_S0 L, M, J)) (fun _ _ => rfl) h6 ?_
      have H := Option.some.inj H
      subst H
      exact jm_go.ret 2 (fun _ _ => rfl)


/-- X8_grew -/
def f142 (M : jm_MM) (x0 : Int32) (x1 : Int32) : Option (Int32) := jm_bd (f130 M x0 x1) (fun q1 => jm_bd (f127 M x0 x1) (fun q3 => jm_bd (f119 M q3) (fun q5 => bif !decide (q1 = (-1)) then (jm_bd (f127 M (x0 - 1) q1) (fun q8 => jm_bd (f119 M q8) (fun q10 => some (q5 - q10)))) else (some (q5 - 0)))))
set_option maxRecDepth 100000 in
theorem g142 (L : Nat) (d : Nat) (M : jm_MM) (J : jm_JJ) (x0 : Int32) (x1 : Int32) (r : Int32) (H : f142 M x0 x1 = some r) : jm_go (d + 5) (jm_G 142) 0 (jm_en 4 [.ref 113, .int x0, .int x1]) [] (jm_S0 L, M, J) (some (.int r), (jm_S0 L, M, J)) := by
  unfold f142 at H
  obtain ⟨q1, h2, H⟩ := jm_bdo H
  refine jm_go.call 4 (d := d + 4) (b := true) (u := 130) (as := [.ref 113, .int x0, .int x1]) (pc' := 6) (ls' := [some (.ref 113), some (.int x0), some (.int x1), none]) (st' := []) (t' := (jm_S0 L, M, J)) (fun _ _ => rfl) rfl rfl (g130 L d M J x0 x1 _ h2) ?_
  obtain ⟨q3, h4, H⟩ := jm_bdo H
  refine jm_go.call 6 (d := d + 4) (b := true) (u := 127) (as := [.ref 113, .int x0, .int x1]) (pc' := 14) (ls' := [some (.ref 113), some (.int x0), some (.int x1), some (.int q1)]) (st' := [.ref 113]) (t' := (jm_S0 L, M, J)) (fun _ _ => rfl) rfl rfl (g127 L (d + 4) M J x0 x1 _ h4) ?_
  obtain ⟨q5, h6, H⟩ := jm_bdo H
  refine jm_go.call 1 (d := d + 4) (b := true) (u := 119) (as := [.ref 113, .int q3]) (pc' := 17) (ls' := [some (.ref 113), some (.int x0), some (.int x1), some (.int q1)]) (st' := []) (t' := (jm_S0 L, M, J)) (fun _ _ => rfl) rfl rfl (g119 L (d + 3) M J q3 _ h6) ?_
  rcases jm_bro H with ⟨h7, H⟩ | ⟨h7, H⟩
  · refine jm_go.brt 3 (b := !decide (q1 = (-1))) (p1 := 26) (l1 := [some (.ref 113), some (.int x0), some (.int x1), some (.int q1)]) (s1 := [.int q5]) (t1 := (jm_S0 L, M, J)) (p2 := 22) (l2 := [some (.ref 113), some (.int x0), some (.int x1), some (.int q1)]) (s2 := [.int q5]) (t2 := (jm_S0 L, M, J)) (fun _ _ => rfl) h7 ?_
    obtain ⟨q8, h9, H⟩ := jm_bdo H
    refine jm_go.call 7 (d := d + 4) (b := true) (u := 127) (as := [.ref 113, .int (x0 - 1), .int q1]) (pc' := 35) (ls' := [some (.ref 113), some (.int x0), none, some (.int q1)]) (st' := [.ref 113, .int q5]) (t' := (jm_S0 L, M, J)) (fun _ _ => rfl) rfl rfl (g127 L (d + 4) M J (x0 - 1) q1 _ h9) ?_
    obtain ⟨q10, h11, H⟩ := jm_bdo H
    refine jm_go.call 1 (d := d + 4) (b := true) (u := 119) (as := [.ref 113, .int q8]) (pc' := 38) (ls' := [some (.ref 113), some (.int x0), none, some (.int q1)]) (st' := [.int q5]) (t' := (jm_S0 L, M, J)) (fun _ _ => rfl) rfl rfl (g119 L (d + 3) M J q8 _ h11) ?_
    have H := Option.some.inj H
    subst H
    exact jm_go.ret 2 (fun _ _ => rfl)
  · refine jm_go.brf 3 (b := !decide (q1 = (-1))) (p1 := 26) (l1 := [some (.ref 113), some (.int x0), some (.int x1), some (.int q1)]) (s1 := [.int q5]) (t1 := (jm_S0 L, M, J)) (p2 := 22) (l2 := [some (.ref 113), some (.int x0), some (.int x1), some (.int q1)]) (s2 := [.int q5]) (t2 := (jm_S0 L, M, J)) (fun _ _ => rfl) h7 ?_
    have H := Option.some.inj H
    subst H
    exact jm_go.ret 4 (fun _ _ => rfl)


/-- X8_halo -/
def f143 (M : jm_MM) (x0 : Int32) (x1 : Int32) (x2 : Int32) : Option (Int32 × jm_MM) := jm_bd (f126 M x0 x1) (fun q1 => bif !decide (q1.1 = 0) then (bif decide (x2 = 0) then (jm_bd (f127 q1.2 x0 x1) (fun q4 => some (q4, q1.2))) else (bif decide (x2 = 1) then (jm_bd (f127 q1.2 x0 x1) (fun q7 => jm_bd (f119 q1.2 q7) (fun q9 => some (q9, q1.2)))) else (bif decide (x2 = 2) then (jm_bd (f128 q1.2 x0 x1) (fun q12 => some (q12, q1.2))) else (bif decide (x2 = 3) then (jm_bd (f129 q1.2 x0 x1) (fun q15 => jm_bd (f95 q1.2 q15) (fun q17 => some (q17, q1.2)))) else (bif decide (x2 = 4) then (jm_bd (f130 q1.2 x0 x1) (fun q20 => some (q20, q1.2))) else (bif decide (x2 = 5) then (jm_bd (f131 q1.2 x0 x1) (fun q23 => some (q23, q1.2))) else (bif decide (x2 = 6) then (jm_bd (f142 q1.2 x0 x1) (fun q26 => some (q26, q1.2))) else (bif decide (x2 = 7) then (jm_bd (f132 q1.2 x0 x1) (fun q29 => some (q29, q1.2))) else (some ((-1000000002), q1.2)))))))))) else (some ((-1000000001), q1.2)))
set_option maxRecDepth 100000 in
theorem g143 (L : Nat) (d : Nat) (M : jm_MM) (J : jm_JJ) (x0 : Int32) (x1 : Int32) (x2 : Int32) (r : Int32 × jm_MM) (H : f143 M x0 x1 x2 = some r) : jm_go (d + 8) (jm_G 143) 0 (jm_en 4 [.ref 113, .int x0, .int x1, .int x2]) [] (jm_S0 L, M, J) (some (.int r.1), (jm_S0 L, r.2, J)) := by
  unfold f143 at H
  obtain ⟨q1, h2, H⟩ := jm_bdo H
  refine jm_go.call 4 (d := d + 7) (b := true) (u := 126) (as := [.ref 113, .int x0, .int x1]) (pc' := 6) (ls' := [some (.ref 113), some (.int x0), some (.int x1), some (.int x2)]) (st' := []) (t' := (jm_S0 L, M, J)) (fun _ _ => rfl) rfl rfl (g126 L d M J x0 x1 _ h2) ?_
  rcases jm_bro H with ⟨h3, H⟩ | ⟨h3, H⟩
  · refine jm_go.brt 1 (b := !decide (q1.1 = 0)) (p1 := 12) (l1 := [some (.ref 113), some (.int x0), some (.int x1), some (.int x2)]) (s1 := []) (t1 := (jm_S0 L, q1.2, J)) (p2 := 9) (l2 := [some (.ref 113), some (.int x0), some (.int x1), some (.int x2)]) (s2 := []) (t2 := (jm_S0 L, q1.2, J)) (fun _ _ => rfl) h3 ?_
    rcases jm_bro H with ⟨h6, H⟩ | ⟨h6, H⟩
    · refine jm_go.sw 2 (x := x2) (u := 123) (ts := [(0, 60), (1, 67), (2, 78), (3, 85), (4, 95), (5, 102), (6, 109), (7, 116)]) (q := 60) (ls' := [some (.ref 113), some (.int x0), some (.int x1), some (.int x2)]) (st' := []) (t' := (jm_S0 L, q1.2, J)) (fun _ _ => rfl) (by simp only [jm_tgt, h6, cond_true, cond_false]) ?_
      obtain ⟨q4, h5, H⟩ := jm_bdo H
      refine jm_go.call 4 (d := d + 7) (b := true) (u := 127) (as := [.ref 113, .int x0, .int x1]) (pc' := 66) (ls' := [some (.ref 113), some (.int x0), some (.int x1), none]) (st' := []) (t' := (jm_S0 L, q1.2, J)) (fun _ _ => rfl) rfl rfl (g127 L (d + 7) q1.2 J x0 x1 _ h5) ?_
      have H := Option.some.inj H
      subst H
      exact jm_go.ret 1 (fun _ _ => rfl)
    · skip
      rcases jm_bro H with ⟨h11, H⟩ | ⟨h11, H⟩
      · refine jm_go.sw 2 (x := x2) (u := 123) (ts := [(0, 60), (1, 67), (2, 78), (3, 85), (4, 95), (5, 102), (6, 109), (7, 116)]) (q := 67) (ls' := [some (.ref 113), some (.int x0), some (.int x1), some (.int x2)]) (st' := []) (t' := (jm_S0 L, q1.2, J)) (fun _ _ => rfl) (by simp only [jm_tgt, h6, h11, cond_true, cond_false]) ?_
        obtain ⟨q7, h8, H⟩ := jm_bdo H
        refine jm_go.call 5 (d := d + 7) (b := true) (u := 127) (as := [.ref 113, .int x0, .int x1]) (pc' := 74) (ls' := [some (.ref 113), some (.int x0), some (.int x1), none]) (st' := [.ref 113]) (t' := (jm_S0 L, q1.2, J)) (fun _ _ => rfl) rfl rfl (g127 L (d + 7) q1.2 J x0 x1 _ h8) ?_
        obtain ⟨q9, h10, H⟩ := jm_bdo H
        refine jm_go.call 1 (d := d + 7) (b := true) (u := 119) (as := [.ref 113, .int q7]) (pc' := 77) (ls' := [some (.ref 113), some (.int x0), some (.int x1), none]) (st' := []) (t' := (jm_S0 L, q1.2, J)) (fun _ _ => rfl) rfl rfl (g119 L (d + 6) q1.2 J q7 _ h10) ?_
        have H := Option.some.inj H
        subst H
        exact jm_go.ret 1 (fun _ _ => rfl)
      · skip
        rcases jm_bro H with ⟨h14, H⟩ | ⟨h14, H⟩
        · refine jm_go.sw 2 (x := x2) (u := 123) (ts := [(0, 60), (1, 67), (2, 78), (3, 85), (4, 95), (5, 102), (6, 109), (7, 116)]) (q := 78) (ls' := [some (.ref 113), some (.int x0), some (.int x1), some (.int x2)]) (st' := []) (t' := (jm_S0 L, q1.2, J)) (fun _ _ => rfl) (by simp only [jm_tgt, h6, h11, h14, cond_true, cond_false]) ?_
          obtain ⟨q12, h13, H⟩ := jm_bdo H
          refine jm_go.call 4 (d := d + 7) (b := true) (u := 128) (as := [.ref 113, .int x0, .int x1]) (pc' := 84) (ls' := [some (.ref 113), some (.int x0), some (.int x1), none]) (st' := []) (t' := (jm_S0 L, q1.2, J)) (fun _ _ => rfl) rfl rfl (g128 L (d + 5) q1.2 J x0 x1 _ h13) ?_
          have H := Option.some.inj H
          subst H
          exact jm_go.ret 1 (fun _ _ => rfl)
        · skip
          rcases jm_bro H with ⟨h19, H⟩ | ⟨h19, H⟩
          · refine jm_go.sw 2 (x := x2) (u := 123) (ts := [(0, 60), (1, 67), (2, 78), (3, 85), (4, 95), (5, 102), (6, 109), (7, 116)]) (q := 85) (ls' := [some (.ref 113), some (.int x0), some (.int x1), some (.int x2)]) (st' := []) (t' := (jm_S0 L, q1.2, J)) (fun _ _ => rfl) (by simp only [jm_tgt, h6, h11, h14, h19, cond_true, cond_false]) ?_
            obtain ⟨q15, h16, H⟩ := jm_bdo H
            refine jm_go.call 4 (d := d + 7) (b := true) (u := 129) (as := [.ref 113, .int x0, .int x1]) (pc' := 91) (ls' := [some (.ref 113), some (.int x0), some (.int x1), none]) (st' := []) (t' := (jm_S0 L, q1.2, J)) (fun _ _ => rfl) rfl rfl (g129 L (d + 4) q1.2 J x0 x1 _ h16) ?_
            obtain ⟨q17, h18, H⟩ := jm_bdo H
            refine jm_go.call 1 (d := d + 7) (b := true) (u := 95) (as := [.int q15]) (pc' := 94) (ls' := [some (.ref 113), some (.int x0), some (.int x1), none]) (st' := []) (t' := (jm_S0 L, q1.2, J)) (fun _ _ => rfl) rfl rfl (g95 L (d + 7) q1.2 J q15 _ h18) ?_
            have H := Option.some.inj H
            subst H
            exact jm_go.ret 1 (fun _ _ => rfl)
          · skip
            rcases jm_bro H with ⟨h22, H⟩ | ⟨h22, H⟩
            · refine jm_go.sw 2 (x := x2) (u := 123) (ts := [(0, 60), (1, 67), (2, 78), (3, 85), (4, 95), (5, 102), (6, 109), (7, 116)]) (q := 95) (ls' := [some (.ref 113), some (.int x0), some (.int x1), some (.int x2)]) (st' := []) (t' := (jm_S0 L, q1.2, J)) (fun _ _ => rfl) (by simp only [jm_tgt, h6, h11, h14, h19, h22, cond_true, cond_false]) ?_
              obtain ⟨q20, h21, H⟩ := jm_bdo H
              refine jm_go.call 4 (d := d + 7) (b := true) (u := 130) (as := [.ref 113, .int x0, .int x1]) (pc' := 101) (ls' := [some (.ref 113), some (.int x0), some (.int x1), none]) (st' := []) (t' := (jm_S0 L, q1.2, J)) (fun _ _ => rfl) rfl rfl (g130 L (d + 3) q1.2 J x0 x1 _ h21) ?_
              have H := Option.some.inj H
              subst H
              exact jm_go.ret 1 (fun _ _ => rfl)
            · skip
              rcases jm_bro H with ⟨h25, H⟩ | ⟨h25, H⟩
              · refine jm_go.sw 2 (x := x2) (u := 123) (ts := [(0, 60), (1, 67), (2, 78), (3, 85), (4, 95), (5, 102), (6, 109), (7, 116)]) (q := 102) (ls' := [some (.ref 113), some (.int x0), some (.int x1), some (.int x2)]) (st' := []) (t' := (jm_S0 L, q1.2, J)) (fun _ _ => rfl) (by simp only [jm_tgt, h6, h11, h14, h19, h22, h25, cond_true, cond_false]) ?_
                obtain ⟨q23, h24, H⟩ := jm_bdo H
                refine jm_go.call 4 (d := d + 7) (b := true) (u := 131) (as := [.ref 113, .int x0, .int x1]) (pc' := 108) (ls' := [some (.ref 113), some (.int x0), some (.int x1), none]) (st' := []) (t' := (jm_S0 L, q1.2, J)) (fun _ _ => rfl) rfl rfl (g131 L (d + 2) q1.2 J x0 x1 _ h24) ?_
                have H := Option.some.inj H
                subst H
                exact jm_go.ret 1 (fun _ _ => rfl)
              · skip
                rcases jm_bro H with ⟨h28, H⟩ | ⟨h28, H⟩
                · refine jm_go.sw 2 (x := x2) (u := 123) (ts := [(0, 60), (1, 67), (2, 78), (3, 85), (4, 95), (5, 102), (6, 109), (7, 116)]) (q := 109) (ls' := [some (.ref 113), some (.int x0), some (.int x1), some (.int x2)]) (st' := []) (t' := (jm_S0 L, q1.2, J)) (fun _ _ => rfl) (by simp only [jm_tgt, h6, h11, h14, h19, h22, h25, h28, cond_true, cond_false]) ?_
                  obtain ⟨q26, h27, H⟩ := jm_bdo H
                  refine jm_go.call 4 (d := d + 7) (b := true) (u := 142) (as := [.ref 113, .int x0, .int x1]) (pc' := 115) (ls' := [some (.ref 113), some (.int x0), some (.int x1), none]) (st' := []) (t' := (jm_S0 L, q1.2, J)) (fun _ _ => rfl) rfl rfl (g142 L (d + 2) q1.2 J x0 x1 _ h27) ?_
                  have H := Option.some.inj H
                  subst H
                  exact jm_go.ret 1 (fun _ _ => rfl)
                · skip
                  rcases jm_bro H with ⟨h31, H⟩ | ⟨h31, H⟩
                  · refine jm_go.sw 2 (x := x2) (u := 123) (ts := [(0, 60), (1, 67), (2, 78), (3, 85), (4, 95), (5, 102), (6, 109), (7, 116)]) (q := 116) (ls' := [some (.ref 113), some (.int x0), some (.int x1), some (.int x2)]) (st' := []) (t' := (jm_S0 L, q1.2, J)) (fun _ _ => rfl) (by simp only [jm_tgt, h6, h11, h14, h19, h22, h25, h28, h31, cond_true, cond_false]) ?_
                    obtain ⟨q29, h30, H⟩ := jm_bdo H
                    refine jm_go.call 4 (d := d + 7) (b := true) (u := 132) (as := [.ref 113, .int x0, .int x1]) (pc' := 122) (ls' := [some (.ref 113), some (.int x0), some (.int x1), none]) (st' := []) (t' := (jm_S0 L, q1.2, J)) (fun _ _ => rfl) rfl rfl (g132 L (d + 4) q1.2 J x0 x1 _ h30) ?_
                    have H := Option.some.inj H
                    subst H
                    exact jm_go.ret 1 (fun _ _ => rfl)
                  · skip
                    refine jm_go.sw 2 (x := x2) (u := 123) (ts := [(0, 60), (1, 67), (2, 78), (3, 85), (4, 95), (5, 102), (6, 109), (7, 116)]) (q := 123) (ls' := [some (.ref 113), some (.int x0), some (.int x1), some (.int x2)]) (st' := []) (t' := (jm_S0 L, q1.2, J)) (fun _ _ => rfl) (by simp only [jm_tgt, h6, h11, h14, h19, h22, h25, h28, h31, cond_true, cond_false]) ?_
                    have H := Option.some.inj H
                    subst H
                    exact jm_go.ret 2 (fun _ _ => rfl)
  · refine jm_go.brf 1 (b := !decide (q1.1 = 0)) (p1 := 12) (l1 := [some (.ref 113), some (.int x0), some (.int x1), some (.int x2)]) (s1 := []) (t1 := (jm_S0 L, q1.2, J)) (p2 := 9) (l2 := [some (.ref 113), some (.int x0), some (.int x1), some (.int x2)]) (s2 := []) (t2 := (jm_S0 L, q1.2, J)) (fun _ _ => rfl) h3 ?_
    have H := Option.some.inj H
    subst H
    exact jm_go.ret 2 (fun _ _ => rfl)


/-- X8_from -/
def f144 (M : jm_MM) (x0 : Int32) (x1 : Int32) : Option (Int32 × jm_MM) := jm_bd (f126 M x0 x1) (fun q1 => bif decide (q1.1 = 0) then (some ((-1000000001), q1.2)) else (jm_bd (f129 q1.2 x0 x1) (fun q4 => some (q4, q1.2))))
set_option maxRecDepth 100000 in
theorem g144 (L : Nat) (d : Nat) (M : jm_MM) (J : jm_JJ) (x0 : Int32) (x1 : Int32) (r : Int32 × jm_MM) (H : f144 M x0 x1 = some r) : jm_go (d + 8) (jm_G 144) 0 (jm_en 3 [.ref 113, .int x0, .int x1]) [] (jm_S0 L, M, J) (some (.int r.1), (jm_S0 L, r.2, J)) := by
  unfold f144 at H
  obtain ⟨q1, h2, H⟩ := jm_bdo H
  refine jm_go.call 4 (d := d + 7) (b := true) (u := 126) (as := [.ref 113, .int x0, .int x1]) (pc' := 6) (ls' := [some (.ref 113), some (.int x0), some (.int x1)]) (st' := []) (t' := (jm_S0 L, M, J)) (fun _ _ => rfl) rfl rfl (g126 L d M J x0 x1 _ h2) ?_
  rcases jm_bro H with ⟨h3, H⟩ | ⟨h3, H⟩
  · refine jm_go.brt 1 (b := decide (q1.1 = 0)) (p1 := 18) (l1 := [some (.ref 113), some (.int x0), some (.int x1)]) (s1 := []) (t1 := (jm_S0 L, q1.2, J)) (p2 := 9) (l2 := [some (.ref 113), some (.int x0), some (.int x1)]) (s2 := []) (t2 := (jm_S0 L, q1.2, J)) (fun _ _ => rfl) h3 ?_
    have H := Option.some.inj H
    subst H
    exact jm_go.ret 2 (fun _ _ => rfl)
  · refine jm_go.brf 1 (b := decide (q1.1 = 0)) (p1 := 18) (l1 := [some (.ref 113), some (.int x0), some (.int x1)]) (s1 := []) (t1 := (jm_S0 L, q1.2, J)) (p2 := 9) (l2 := [some (.ref 113), some (.int x0), some (.int x1)]) (s2 := []) (t2 := (jm_S0 L, q1.2, J)) (fun _ _ => rfl) h3 ?_
    obtain ⟨q4, h5, H⟩ := jm_bdo H
    refine jm_go.call 4 (d := d + 7) (b := true) (u := 129) (as := [.ref 113, .int x0, .int x1]) (pc' := 15) (ls' := [some (.ref 113), some (.int x0), some (.int x1)]) (st' := []) (t' := (jm_S0 L, q1.2, J)) (fun _ _ => rfl) rfl rfl (g129 L (d + 4) q1.2 J x0 x1 _ h5) ?_
    have H := Option.some.inj H
    subst H
    exact jm_go.ret 2 (fun _ _ => rfl)

def f145_25  (ke0 : jm_MM → Int32 → Option (Int32 × jm_MM)) : Nat → jm_MM → Int32 → Int32 → Int32 → Int32 → Option (Int32 × jm_MM)
  | 0, _, _, _, _, _ => none
  | n0 + 1, M, v1, v3, v4, v5 => bif decide (v3 ≤ v5) then (ke0 M v4) else (bif decide (v4 = (-1)) then (ke0 M v4) else (jm_bd (f130 M (v1 - v5) v4) (fun q7 => (f145_25  ke0 n0) M v1 v3 q7 (v5 + 1))))
set_option maxRecDepth 100000 in
theorem g145_25 (L : Nat) (d : Nat) (_M : jm_MM) (J : jm_JJ) (ke0 : jm_MM → Int32 → Option (Int32 × jm_MM)) (hke0 : ∀ (M : jm_MM) (v4 : Int32) (r : Int32 × jm_MM), ke0 M v4 = some r → jm_go (d + 8) (jm_G 145) 55 [none, none, none, none, some (.int v4), none] [] (jm_S0 L, M, J) (some (.int r.1), (jm_S0 L, r.2, J))) : ∀ (n0 : Nat) (M : jm_MM) (v1 : Int32) (v3 : Int32) (v4 : Int32) (v5 : Int32) (r : Int32 × jm_MM), f145_25  ke0 n0 M v1 v3 v4 v5 = some r → jm_go (d + 8) (jm_G 145) 25 [some (.ref 113), some (.int v1), none, some (.int v3), some (.int v4), some (.int v5)] [] (jm_S0 L, M, J) (some (.int r.1), (jm_S0 L, r.2, J)) := by
  intro n0
  induction n0 with
  | zero => intro M v1 v3 v4 v5 r H; cases H
  | succ n0 ih =>
    intro M v1 v3 v4 v5 r H
    have hkb := ih
    unfold f145_25 at H
    rcases jm_bro H with ⟨h5, H⟩ | ⟨h5, H⟩
    · refine jm_go.brt 3 (b := decide (v3 ≤ v5)) (p1 := 55) (l1 := [some (.ref 113), some (.int v1), none, some (.int v3), some (.int v4), some (.int v5)]) (s1 := []) (t1 := (jm_S0 L, M, J)) (p2 := 31) (l2 := [some (.ref 113), some (.int v1), none, some (.int v3), some (.int v4), some (.int v5)]) (s2 := []) (t2 := (jm_S0 L, M, J)) (fun _ _ => rfl) h5 ?_
      refine jm_go.lab (ls' := [none, none, none, none, some (.int v4), none]) (fun i hi => by cases hi; rfl) ?_
      exact hke0 M v4 _ H
    · refine jm_go.brf 3 (b := decide (v3 ≤ v5)) (p1 := 55) (l1 := [some (.ref 113), some (.int v1), none, some (.int v3), some (.int v4), some (.int v5)]) (s1 := []) (t1 := (jm_S0 L, M, J)) (p2 := 31) (l2 := [some (.ref 113), some (.int v1), none, some (.int v3), some (.int v4), some (.int v5)]) (s2 := []) (t2 := (jm_S0 L, M, J)) (fun _ _ => rfl) h5 ?_
      rcases jm_bro H with ⟨h6, H⟩ | ⟨h6, H⟩
      · refine jm_go.brt 3 (b := decide (v4 = (-1))) (p1 := 55) (l1 := [some (.ref 113), some (.int v1), none, some (.int v3), some (.int v4), some (.int v5)]) (s1 := []) (t1 := (jm_S0 L, M, J)) (p2 := 37) (l2 := [some (.ref 113), some (.int v1), none, some (.int v3), some (.int v4), some (.int v5)]) (s2 := []) (t2 := (jm_S0 L, M, J)) (fun _ _ => rfl) h6 ?_
        refine jm_go.lab (ls' := [none, none, none, none, some (.int v4), none]) (fun i hi => by cases hi; rfl) ?_
        exact hke0 M v4 _ H
      · refine jm_go.brf 3 (b := decide (v4 = (-1))) (p1 := 55) (l1 := [some (.ref 113), some (.int v1), none, some (.int v3), some (.int v4), some (.int v5)]) (s1 := []) (t1 := (jm_S0 L, M, J)) (p2 := 37) (l2 := [some (.ref 113), some (.int v1), none, some (.int v3), some (.int v4), some (.int v5)]) (s2 := []) (t2 := (jm_S0 L, M, J)) (fun _ _ => rfl) h6 ?_
        obtain ⟨q7, h8, H⟩ := jm_bdo H
        refine jm_go.call 6 (d := d + 7) (b := true) (u := 130) (as := [.ref 113, .int (v1 - v5), .int v4]) (pc' := 47) (ls' := [some (.ref 113), some (.int v1), none, some (.int v3), some (.int v4), some (.int v5)]) (st' := []) (t' := (jm_S0 L, M, J)) (fun _ _ => rfl) rfl rfl (g130 L (d + 3) M J (v1 - v5) v4 _ h8) ?_
        refine jm_go.blk 3 (pc' := 25) (ls' := [some (.ref 113), some (.int v1), none, some (.int v3), some (.int q7), some (.int (v5 + 1))]) (st' := []) (t' := (jm_S0 L, M, J)) (fun _ _ => rfl) ?_
        exact hkb M v1 v3 q7 (v5 + 1) _ H

/-- X8_branch -/
def f145 (M : jm_MM) (x0 : Int32) (x1 : Int32) (x2 : Int32) : Option (Int32 × jm_MM) := jm_bd (f126 M x0 x1) (fun q1 => bif !decide (q1.1 = 0) then (bif decide (0 ≤ x2) then (f145_25  (fun Me9 ve10 => some (ve10, Me9)) jm_F q1.2 x0 x2 x1 0) else (some ((-1000000002), q1.2))) else (some ((-1000000001), q1.2)))
set_option maxRecDepth 100000 in
theorem g145 (L : Nat) (d : Nat) (M : jm_MM) (J : jm_JJ) (x0 : Int32) (x1 : Int32) (x2 : Int32) (r : Int32 × jm_MM) (H : f145 M x0 x1 x2 = some r) : jm_go (d + 8) (jm_G 145) 0 (jm_en 6 [.ref 113, .int x0, .int x1, .int x2]) [] (jm_S0 L, M, J) (some (.int r.1), (jm_S0 L, r.2, J)) := by
  unfold f145 at H
  obtain ⟨q1, h2, H⟩ := jm_bdo H
  refine jm_go.call 4 (d := d + 7) (b := true) (u := 126) (as := [.ref 113, .int x0, .int x1]) (pc' := 6) (ls' := [some (.ref 113), some (.int x0), some (.int x1), some (.int x2), none, none]) (st' := []) (t' := (jm_S0 L, M, J)) (fun _ _ => rfl) rfl rfl (g126 L d M J x0 x1 _ h2) ?_
  rcases jm_bro H with ⟨h3, H⟩ | ⟨h3, H⟩
  · refine jm_go.brt 1 (b := !decide (q1.1 = 0)) (p1 := 12) (l1 := [some (.ref 113), some (.int x0), some (.int x1), some (.int x2), none, none]) (s1 := []) (t1 := (jm_S0 L, q1.2, J)) (p2 := 9) (l2 := [some (.ref 113), some (.int x0), some (.int x1), some (.int x2), none, none]) (s2 := []) (t2 := (jm_S0 L, q1.2, J)) (fun _ _ => rfl) h3 ?_
    rcases jm_bro H with ⟨h4, H⟩ | ⟨h4, H⟩
    · refine jm_go.brt 2 (b := decide (0 ≤ x2)) (p1 := 19) (l1 := [some (.ref 113), some (.int x0), some (.int x1), some (.int x2), none, none]) (s1 := []) (t1 := (jm_S0 L, q1.2, J)) (p2 := 16) (l2 := [some (.ref 113), some (.int x0), some (.int x1), some (.int x2), none, none]) (s2 := []) (t2 := (jm_S0 L, q1.2, J)) (fun _ _ => rfl) h4 ?_
      refine jm_go.blk 4 (pc' := 25) (ls' := [some (.ref 113), some (.int x0), some (.int x1), some (.int x2), some (.int x1), some (.int 0)]) (st' := []) (t' := (jm_S0 L, q1.2, J)) (fun _ _ => rfl) ?_
      refine jm_go.lab (ls' := [some (.ref 113), some (.int x0), none, some (.int x2), some (.int x1), some (.int 0)]) (fun i hi => by cases hi; rfl) ?_
      exact g145_25 L d M J
        _ (fun Me9 ve10 r H => by
          have H := Option.some.inj H
          subst H
          exact jm_go.ret 2 (fun _ _ => rfl)
          )
        _ q1.2 x0 x2 x1 0 _ H
    · refine jm_go.brf 2 (b := decide (0 ≤ x2)) (p1 := 19) (l1 := [some (.ref 113), some (.int x0), some (.int x1), some (.int x2), none, none]) (s1 := []) (t1 := (jm_S0 L, q1.2, J)) (p2 := 16) (l2 := [some (.ref 113), some (.int x0), some (.int x1), some (.int x2), none, none]) (s2 := []) (t2 := (jm_S0 L, q1.2, J)) (fun _ _ => rfl) h4 ?_
      have H := Option.some.inj H
      subst H
      exact jm_go.ret 2 (fun _ _ => rfl)
  · refine jm_go.brf 1 (b := !decide (q1.1 = 0)) (p1 := 12) (l1 := [some (.ref 113), some (.int x0), some (.int x1), some (.int x2), none, none]) (s1 := []) (t1 := (jm_S0 L, q1.2, J)) (p2 := 9) (l2 := [some (.ref 113), some (.int x0), some (.int x1), some (.int x2), none, none]) (s2 := []) (t2 := (jm_S0 L, q1.2, J)) (fun _ _ => rfl) h3 ?_
    have H := Option.some.inj H
    subst H
    exact jm_go.ret 2 (fun _ _ => rfl)


/-- X8_common -/
def f146 (M : jm_MM) (x0 : Int32) (x1 : Int32) (x2 : Int32) : Option (Int32 × jm_MM) := jm_bd (f126 M x0 x1) (fun q1 => bif decide (q1.1 = 0) then (some ((-1000000001), q1.2)) else (bif decide ((q1.2 114 2) ≤ (x0 + 1)) then (some ((-1000000001), q1.2)) else (jm_bd (f126 q1.2 (x0 + 1) x2) (fun q5 => bif !decide (q5.1 = 0) then (jm_bd (f127 q5.2 x0 x1) (fun q8 => jm_bd (f127 q5.2 (x0 + 1) x2) (fun q10 => jm_bd (f119 q5.2 (q8 &&& q10)) (fun q12 => some (q12, q5.2))))) else (some ((-1000000001), q5.2))))))
set_option maxRecDepth 100000 in
theorem g146 (L : Nat) (d : Nat) (M : jm_MM) (J : jm_JJ) (x0 : Int32) (x1 : Int32) (x2 : Int32) (r : Int32 × jm_MM) (H : f146 M x0 x1 x2 = some r) : jm_go (d + 8) (jm_G 146) 0 (jm_en 4 [.ref 113, .int x0, .int x1, .int x2]) [] (jm_S0 L, M, J) (some (.int r.1), (jm_S0 L, r.2, J)) := by
  unfold f146 at H
  obtain ⟨q1, h2, H⟩ := jm_bdo H
  refine jm_go.call 4 (d := d + 7) (b := true) (u := 126) (as := [.ref 113, .int x0, .int x1]) (pc' := 6) (ls' := [some (.ref 113), some (.int x0), some (.int x1), some (.int x2)]) (st' := []) (t' := (jm_S0 L, M, J)) (fun _ _ => rfl) rfl rfl (g126 L d M J x0 x1 _ h2) ?_
  rcases jm_bro H with ⟨h3, H⟩ | ⟨h3, H⟩
  · refine jm_go.brt 1 (b := decide (q1.1 = 0)) (p1 := 32) (l1 := [some (.ref 113), some (.int x0), some (.int x1), some (.int x2)]) (s1 := []) (t1 := (jm_S0 L, q1.2, J)) (p2 := 9) (l2 := [some (.ref 113), some (.int x0), some (.int x1), some (.int x2)]) (s2 := []) (t2 := (jm_S0 L, q1.2, J)) (fun _ _ => rfl) h3 ?_
    have H := Option.some.inj H
    subst H
    exact jm_go.ret 2 (fun _ _ => rfl)
  · refine jm_go.brf 1 (b := decide (q1.1 = 0)) (p1 := 32) (l1 := [some (.ref 113), some (.int x0), some (.int x1), some (.int x2)]) (s1 := []) (t1 := (jm_S0 L, q1.2, J)) (p2 := 9) (l2 := [some (.ref 113), some (.int x0), some (.int x1), some (.int x2)]) (s2 := []) (t2 := (jm_S0 L, q1.2, J)) (fun _ _ => rfl) h3 ?_
    rcases jm_bro H with ⟨h4, H⟩ | ⟨h4, H⟩
    · refine jm_go.brt 8 (b := decide ((q1.2 114 2) ≤ (x0 + 1))) (p1 := 32) (l1 := [some (.ref 113), some (.int x0), some (.int x1), some (.int x2)]) (s1 := []) (t1 := (jm_S0 L, q1.2, J)) (p2 := 21) (l2 := [some (.ref 113), some (.int x0), some (.int x1), some (.int x2)]) (s2 := []) (t2 := (jm_S0 L, q1.2, J)) (fun _ _ => rfl) h4 ?_
      have H := Option.some.inj H
      subst H
      exact jm_go.ret 2 (fun _ _ => rfl)
    · refine jm_go.brf 8 (b := decide ((q1.2 114 2) ≤ (x0 + 1))) (p1 := 32) (l1 := [some (.ref 113), some (.int x0), some (.int x1), some (.int x2)]) (s1 := []) (t1 := (jm_S0 L, q1.2, J)) (p2 := 21) (l2 := [some (.ref 113), some (.int x0), some (.int x1), some (.int x2)]) (s2 := []) (t2 := (jm_S0 L, q1.2, J)) (fun _ _ => rfl) h4 ?_
      obtain ⟨q5, h6, H⟩ := jm_bdo H
      refine jm_go.call 6 (d := d + 7) (b := true) (u := 126) (as := [.ref 113, .int (x0 + 1), .int x2]) (pc' := 29) (ls' := [some (.ref 113), some (.int x0), some (.int x1), some (.int x2)]) (st' := []) (t' := (jm_S0 L, q1.2, J)) (fun _ _ => rfl) rfl rfl (g126 L d q1.2 J (x0 + 1) x2 _ h6) ?_
      rcases jm_bro H with ⟨h7, H⟩ | ⟨h7, H⟩
      · refine jm_go.brt 1 (b := !decide (q5.1 = 0)) (p1 := 35) (l1 := [some (.ref 113), some (.int x0), some (.int x1), some (.int x2)]) (s1 := []) (t1 := (jm_S0 L, q5.2, J)) (p2 := 32) (l2 := [some (.ref 113), some (.int x0), some (.int x1), some (.int x2)]) (s2 := []) (t2 := (jm_S0 L, q5.2, J)) (fun _ _ => rfl) h7 ?_
        obtain ⟨q8, h9, H⟩ := jm_bdo H
        refine jm_go.call 5 (d := d + 7) (b := true) (u := 127) (as := [.ref 113, .int x0, .int x1]) (pc' := 42) (ls' := [some (.ref 113), some (.int x0), some (.int x1), some (.int x2)]) (st' := [.ref 113]) (t' := (jm_S0 L, q5.2, J)) (fun _ _ => rfl) rfl rfl (g127 L (d + 7) q5.2 J x0 x1 _ h9) ?_
        obtain ⟨q10, h11, H⟩ := jm_bdo H
        refine jm_go.call 6 (d := d + 7) (b := true) (u := 127) (as := [.ref 113, .int (x0 + 1), .int x2]) (pc' := 50) (ls' := [some (.ref 113), some (.int x0), some (.int x1), some (.int x2)]) (st' := [.int q8, .ref 113]) (t' := (jm_S0 L, q5.2, J)) (fun _ _ => rfl) rfl rfl (g127 L (d + 7) q5.2 J (x0 + 1) x2 _ h11) ?_
        obtain ⟨q12, h13, H⟩ := jm_bdo H
        refine jm_go.call 2 (d := d + 7) (b := true) (u := 119) (as := [.ref 113, .int (q8 &&& q10)]) (pc' := 54) (ls' := [some (.ref 113), some (.int x0), some (.int x1), some (.int x2)]) (st' := []) (t' := (jm_S0 L, q5.2, J)) (fun _ _ => rfl) rfl rfl (g119 L (d + 6) q5.2 J (q8 &&& q10) _ h13) ?_
        have H := Option.some.inj H
        subst H
        exact jm_go.ret 1 (fun _ _ => rfl)
      · refine jm_go.brf 1 (b := !decide (q5.1 = 0)) (p1 := 35) (l1 := [some (.ref 113), some (.int x0), some (.int x1), some (.int x2)]) (s1 := []) (t1 := (jm_S0 L, q5.2, J)) (p2 := 32) (l2 := [some (.ref 113), some (.int x0), some (.int x1), some (.int x2)]) (s2 := []) (t2 := (jm_S0 L, q5.2, J)) (fun _ _ => rfl) h7 ?_
        have H := Option.some.inj H
        subst H
        exact jm_go.ret 2 (fun _ _ => rfl)


/-- X8_farFrom -/
def f154 (M : jm_MM) (x0 : Int32) (x1 : Int32) (x2 : Int32) (x3 : Int32) : Option (Int32) := jm_bd (f103 M x0 x1) (fun q1 => jm_bd (f104 M x0 x1) (fun q3 => some (((x2 - q1) * (x2 - q1)) + ((x3 - q3) * (x3 - q3)))))
set_option maxRecDepth 100000 in
theorem g154 (L : Nat) (d : Nat) (M : jm_MM) (J : jm_JJ) (x0 : Int32) (x1 : Int32) (x2 : Int32) (x3 : Int32) (r : Int32) (H : f154 M x0 x1 x2 x3 = some r) : jm_go (d + 2) (jm_G 154) 0 (jm_en 7 [.ref 113, .int x0, .int x1, .int x2, .int x3]) [] (jm_S0 L, M, J) (some (.int r), (jm_S0 L, M, J)) := by
  unfold f154 at H
  obtain ⟨q1, h2, H⟩ := jm_bdo H
  refine jm_go.call 5 (d := d + 1) (b := true) (u := 103) (as := [.ref 113, .int x0, .int x1]) (pc' := 7) (ls' := [some (.ref 113), some (.int x0), some (.int x1), some (.int x2), some (.int x3), none, none]) (st' := [.int x2]) (t' := (jm_S0 L, M, J)) (fun _ _ => rfl) rfl rfl (g103 L d M J x0 x1 _ h2) ?_
  obtain ⟨q3, h4, H⟩ := jm_bdo H
  refine jm_go.call 7 (d := d + 1) (b := true) (u := 104) (as := [.ref 113, .int x0, .int x1]) (pc' := 18) (ls' := [some (.ref 113), some (.int x0), some (.int x1), some (.int x2), some (.int x3), some (.int (x2 - q1)), none]) (st' := [.int x3]) (t' := (jm_S0 L, M, J)) (fun _ _ => rfl) rfl rfl (g104 L d M J x0 x1 _ h4) ?_
  have H := Option.some.inj H
  subst H
  exact jm_go.ret 10 (fun _ _ => rfl)

def f155_164  (kb : jm_MM → Int32 → Int32 → Int32 → Int32 → Int32 → Option (Int32 × jm_MM)) (ke0 : jm_MM → Int32 → Option (Int32 × jm_MM)) (M : jm_MM) (v1 : Int32) (v2 : Int32) (v3 : Int32) (v4 : Int32) (v5 : Int32) (v6 : Int32) : Option (Int32 × jm_MM) := jm_gd (jm_inb v6 24) (jm_bd (f149 M (M 119 v6.toNatClampNeg) 0 0 0) (fun q16 => kb q16 v1 v2 v3 v4 v5))
set_option maxRecDepth 100000 in
theorem g155_164 (L : Nat) (d : Nat) (_M : jm_MM) (J : jm_JJ) (kb : jm_MM → Int32 → Int32 → Int32 → Int32 → Int32 → Option (Int32 × jm_MM)) (hkb : ∀ (M : jm_MM) (v1 : Int32) (v2 : Int32) (v3 : Int32) (v4 : Int32) (v5 : Int32) (r : Int32 × jm_MM), kb M v1 v2 v3 v4 v5 = some r → jm_go (d + 5) (jm_G 155) 32 [some (.ref 113), some (.int v1), some (.int v2), some (.int v3), some (.int v4), some (.int v5), none, none] [] (jm_S0 L, M, J) (some (.int r.1), (jm_S0 L, r.2, J))) (ke0 : jm_MM → Int32 → Option (Int32 × jm_MM)) (hke0 : ∀ (M : jm_MM) (v5 : Int32) (r : Int32 × jm_MM), ke0 M v5 = some r → jm_go (d + 5) (jm_G 155) 181 [none, none, none, none, none, some (.int v5), none, none] [] (jm_S0 L, M, J) (some (.int r.1), (jm_S0 L, r.2, J))) (M : jm_MM) (v1 : Int32) (v2 : Int32) (v3 : Int32) (v4 : Int32) (v5 : Int32) (v6 : Int32) (r : Int32 × jm_MM) (H : f155_164  kb ke0 M v1 v2 v3 v4 v5 v6 = some r) : jm_go (d + 5) (jm_G 155) 164 [some (.ref 113), some (.int v1), some (.int v2), some (.int v3), some (.int v4), some (.int v5), some (.int v6), none] [] (jm_S0 L, M, J) (some (.int r.1), (jm_S0 L, r.2, J)) := by
  unfold f155_164 at H
  obtain ⟨h15, H⟩ := jm_gdo H
  refine jm_go.grd 5 (b := jm_inb v6 24) (pc' := 172) (ls' := [some (.ref 113), some (.int v1), some (.int v2), some (.int v3), some (.int v4), some (.int v5), some (.int v6), none]) (st' := [.int (M 119 v6.toNatClampNeg), .ref 113]) (t' := (jm_S0 L, M, J)) (fun _ _ => rfl) h15 ?_
  obtain ⟨q16, h17, H⟩ := jm_bdo H
  refine jm_go.call 4 (d := d + 4) (b := true) (u := 149) (as := [.ref 113, .int (M 119 v6.toNatClampNeg), .int 0, .int 0, .int 0]) (pc' := 178) (ls' := [some (.ref 113), some (.int v1), some (.int v2), some (.int v3), some (.int v4), some (.int v5), some (.int v6), none]) (st' := []) (t' := (jm_S0 L, M, J)) (fun _ _ => rfl) rfl rfl (g149 L (d + 4) M J (M 119 v6.toNatClampNeg) 0 0 0 _ h17) ?_
  refine jm_go.blk 1 (pc' := 32) (ls' := [some (.ref 113), some (.int v1), some (.int v2), some (.int v3), some (.int v4), some (.int v5), none, none]) (st' := []) (t' := (jm_S0 L, q16, J)) (fun _ _ => rfl) ?_
  exact hkb q16 v1 v2 v3 v4 v5 _ H

def f155_138  (kb : jm_MM → Int32 → Int32 → Int32 → Int32 → Int32 → Option (Int32 × jm_MM)) (ke0 : jm_MM → Int32 → Option (Int32 × jm_MM)) (M : jm_MM) (v1 : Int32) (v2 : Int32) (v3 : Int32) (v4 : Int32) (v5 : Int32) (v6 : Int32) (v7 : Int32) : Option (Int32 × jm_MM) := jm_gd (jm_inb v6 24) (bif decide ((M 119 v6.toNatClampNeg) = (-1)) then (kb M v1 v2 v3 v4 v5) else (bif decide (0 ≤ v7) then (f155_164  kb ke0 M v1 v2 v3 v4 v5 v6) else (bif decide (v4 < (v7 * v7)) then (kb M v1 v2 v3 v4 v5) else (f155_164  kb ke0 M v1 v2 v3 v4 v5 v6))))
set_option maxRecDepth 100000 in
theorem g155_138 (L : Nat) (d : Nat) (_M : jm_MM) (J : jm_JJ) (kb : jm_MM → Int32 → Int32 → Int32 → Int32 → Int32 → Option (Int32 × jm_MM)) (hkb : ∀ (M : jm_MM) (v1 : Int32) (v2 : Int32) (v3 : Int32) (v4 : Int32) (v5 : Int32) (r : Int32 × jm_MM), kb M v1 v2 v3 v4 v5 = some r → jm_go (d + 5) (jm_G 155) 32 [some (.ref 113), some (.int v1), some (.int v2), some (.int v3), some (.int v4), some (.int v5), none, none] [] (jm_S0 L, M, J) (some (.int r.1), (jm_S0 L, r.2, J))) (ke0 : jm_MM → Int32 → Option (Int32 × jm_MM)) (hke0 : ∀ (M : jm_MM) (v5 : Int32) (r : Int32 × jm_MM), ke0 M v5 = some r → jm_go (d + 5) (jm_G 155) 181 [none, none, none, none, none, some (.int v5), none, none] [] (jm_S0 L, M, J) (some (.int r.1), (jm_S0 L, r.2, J))) (M : jm_MM) (v1 : Int32) (v2 : Int32) (v3 : Int32) (v4 : Int32) (v5 : Int32) (v6 : Int32) (v7 : Int32) (r : Int32 × jm_MM) (H : f155_138  kb ke0 M v1 v2 v3 v4 v5 v6 v7 = some r) : jm_go (d + 5) (jm_G 155) 138 [some (.ref 113), some (.int v1), some (.int v2), some (.int v3), some (.int v4), some (.int v5), some (.int v6), some (.int v7)] [] (jm_S0 L, M, J) (some (.int r.1), (jm_S0 L, r.2, J)) := by
  unfold f155_138 at H
  obtain ⟨h12, H⟩ := jm_gdo H
  refine jm_go.grd 4 (b := jm_inb v6 24) (pc' := 145) (ls' := [some (.ref 113), some (.int v1), some (.int v2), some (.int v3), some (.int v4), some (.int v5), some (.int v6), some (.int v7)]) (st' := [.int (M 119 v6.toNatClampNeg)]) (t' := (jm_S0 L, M, J)) (fun _ _ => rfl) h12 ?_
  rcases jm_bro H with ⟨h13, H⟩ | ⟨h13, H⟩
  · refine jm_go.brt 2 (b := decide ((M 119 v6.toNatClampNeg) = (-1))) (p1 := 178) (l1 := [some (.ref 113), some (.int v1), some (.int v2), some (.int v3), some (.int v4), some (.int v5), some (.int v6), some (.int v7)]) (s1 := []) (t1 := (jm_S0 L, M, J)) (p2 := 149) (l2 := [some (.ref 113), some (.int v1), some (.int v2), some (.int v3), some (.int v4), some (.int v5), some (.int v6), some (.int v7)]) (s2 := []) (t2 := (jm_S0 L, M, J)) (fun _ _ => rfl) h13 ?_
    refine jm_go.blk 1 (pc' := 32) (ls' := [some (.ref 113), some (.int v1), some (.int v2), some (.int v3), some (.int v4), some (.int v5), none, none]) (st' := []) (t' := (jm_S0 L, M, J)) (fun _ _ => rfl) ?_
    exact hkb M v1 v2 v3 v4 v5 _ H
  · refine jm_go.brf 2 (b := decide ((M 119 v6.toNatClampNeg) = (-1))) (p1 := 178) (l1 := [some (.ref 113), some (.int v1), some (.int v2), some (.int v3), some (.int v4), some (.int v5), some (.int v6), some (.int v7)]) (s1 := []) (t1 := (jm_S0 L, M, J)) (p2 := 149) (l2 := [some (.ref 113), some (.int v1), some (.int v2), some (.int v3), some (.int v4), some (.int v5), some (.int v6), some (.int v7)]) (s2 := []) (t2 := (jm_S0 L, M, J)) (fun _ _ => rfl) h13 ?_
    rcases jm_bro H with ⟨h14, H⟩ | ⟨h14, H⟩
    · refine jm_go.brt 2 (b := decide (0 ≤ v7)) (p1 := 164) (l1 := [some (.ref 113), some (.int v1), some (.int v2), some (.int v3), some (.int v4), some (.int v5), some (.int v6), some (.int v7)]) (s1 := []) (t1 := (jm_S0 L, M, J)) (p2 := 154) (l2 := [some (.ref 113), some (.int v1), some (.int v2), some (.int v3), some (.int v4), some (.int v5), some (.int v6), some (.int v7)]) (s2 := []) (t2 := (jm_S0 L, M, J)) (fun _ _ => rfl) h14 ?_
      refine jm_go.lab (ls' := [some (.ref 113), some (.int v1), some (.int v2), some (.int v3), some (.int v4), some (.int v5), some (.int v6), none]) (fun i hi => by cases hi; rfl) ?_
      exact g155_164 L d M J _ hkb _ hke0 M v1 v2 v3 v4 v5 v6 _ H
    · refine jm_go.brf 2 (b := decide (0 ≤ v7)) (p1 := 164) (l1 := [some (.ref 113), some (.int v1), some (.int v2), some (.int v3), some (.int v4), some (.int v5), some (.int v6), some (.int v7)]) (s1 := []) (t1 := (jm_S0 L, M, J)) (p2 := 154) (l2 := [some (.ref 113), some (.int v1), some (.int v2), some (.int v3), some (.int v4), some (.int v5), some (.int v6), some (.int v7)]) (s2 := []) (t2 := (jm_S0 L, M, J)) (fun _ _ => rfl) h14 ?_
      rcases jm_bro H with ⟨h18, H⟩ | ⟨h18, H⟩
      · refine jm_go.brt 5 (b := decide (v4 < (v7 * v7))) (p1 := 178) (l1 := [some (.ref 113), some (.int v1), some (.int v2), some (.int v3), some (.int v4), some (.int v5), some (.int v6), some (.int v7)]) (s1 := []) (t1 := (jm_S0 L, M, J)) (p2 := 164) (l2 := [some (.ref 113), some (.int v1), some (.int v2), some (.int v3), some (.int v4), some (.int v5), some (.int v6), some (.int v7)]) (s2 := []) (t2 := (jm_S0 L, M, J)) (fun _ _ => rfl) h18 ?_
        refine jm_go.blk 1 (pc' := 32) (ls' := [some (.ref 113), some (.int v1), some (.int v2), some (.int v3), some (.int v4), some (.int v5), none, none]) (st' := []) (t' := (jm_S0 L, M, J)) (fun _ _ => rfl) ?_
        exact hkb M v1 v2 v3 v4 v5 _ H
      · refine jm_go.brf 5 (b := decide (v4 < (v7 * v7))) (p1 := 178) (l1 := [some (.ref 113), some (.int v1), some (.int v2), some (.int v3), some (.int v4), some (.int v5), some (.int v6), some (.int v7)]) (s1 := []) (t1 := (jm_S0 L, M, J)) (p2 := 164) (l2 := [some (.ref 113), some (.int v1), some (.int v2), some (.int v3), some (.int v4), some (.int v5), some (.int v6), some (.int v7)]) (s2 := []) (t2 := (jm_S0 L, M, J)) (fun _ _ => rfl) h18 ?_
        refine jm_go.lab (ls' := [some (.ref 113), some (.int v1), some (.int v2), some (.int v3), some (.int v4), some (.int v5), some (.int v6), none]) (fun i hi => by cases hi; rfl) ?_
        exact g155_164 L d M J _ hkb _ hke0 M v1 v2 v3 v4 v5 v6 _ H

def f155_124  (kb : jm_MM → Int32 → Int32 → Int32 → Int32 → Int32 → Option (Int32 × jm_MM)) (ke0 : jm_MM → Int32 → Option (Int32 × jm_MM)) (M : jm_MM) (v1 : Int32) (v2 : Int32) (v3 : Int32) (v4 : Int32) (v5 : Int32) (v6 : Int32) (v7 : Int32) : Option (Int32 × jm_MM) := jm_gd (jm_inb v6 24) (jm_bd (f149 M (M 118 v6.toNatClampNeg) 0 0 0) (fun q21 => f155_138  kb ke0 q21 v1 v2 v3 v4 v5 v6 v7))
set_option maxRecDepth 100000 in
theorem g155_124 (L : Nat) (d : Nat) (_M : jm_MM) (J : jm_JJ) (kb : jm_MM → Int32 → Int32 → Int32 → Int32 → Int32 → Option (Int32 × jm_MM)) (hkb : ∀ (M : jm_MM) (v1 : Int32) (v2 : Int32) (v3 : Int32) (v4 : Int32) (v5 : Int32) (r : Int32 × jm_MM), kb M v1 v2 v3 v4 v5 = some r → jm_go (d + 5) (jm_G 155) 32 [some (.ref 113), some (.int v1), some (.int v2), some (.int v3), some (.int v4), some (.int v5), none, none] [] (jm_S0 L, M, J) (some (.int r.1), (jm_S0 L, r.2, J))) (ke0 : jm_MM → Int32 → Option (Int32 × jm_MM)) (hke0 : ∀ (M : jm_MM) (v5 : Int32) (r : Int32 × jm_MM), ke0 M v5 = some r → jm_go (d + 5) (jm_G 155) 181 [none, none, none, none, none, some (.int v5), none, none] [] (jm_S0 L, M, J) (some (.int r.1), (jm_S0 L, r.2, J))) (M : jm_MM) (v1 : Int32) (v2 : Int32) (v3 : Int32) (v4 : Int32) (v5 : Int32) (v6 : Int32) (v7 : Int32) (r : Int32 × jm_MM) (H : f155_124  kb ke0 M v1 v2 v3 v4 v5 v6 v7 = some r) : jm_go (d + 5) (jm_G 155) 124 [some (.ref 113), some (.int v1), some (.int v2), some (.int v3), some (.int v4), some (.int v5), some (.int v6), some (.int v7)] [] (jm_S0 L, M, J) (some (.int r.1), (jm_S0 L, r.2, J)) := by
  unfold f155_124 at H
  obtain ⟨h20, H⟩ := jm_gdo H
  refine jm_go.grd 5 (b := jm_inb v6 24) (pc' := 132) (ls' := [some (.ref 113), some (.int v1), some (.int v2), some (.int v3), some (.int v4), some (.int v5), some (.int v6), some (.int v7)]) (st' := [.int (M 118 v6.toNatClampNeg), .ref 113]) (t' := (jm_S0 L, M, J)) (fun _ _ => rfl) h20 ?_
  obtain ⟨q21, h22, H⟩ := jm_bdo H
  refine jm_go.call 4 (d := d + 4) (b := true) (u := 149) (as := [.ref 113, .int (M 118 v6.toNatClampNeg), .int 0, .int 0, .int 0]) (pc' := 138) (ls' := [some (.ref 113), some (.int v1), some (.int v2), some (.int v3), some (.int v4), some (.int v5), some (.int v6), some (.int v7)]) (st' := []) (t' := (jm_S0 L, M, J)) (fun _ _ => rfl) rfl rfl (g149 L (d + 4) M J (M 118 v6.toNatClampNeg) 0 0 0 _ h22) ?_
  exact g155_138 L d M J _ hkb _ hke0 q21 v1 v2 v3 v4 v5 v6 v7 _ H

def f155_96  (kb : jm_MM → Int32 → Int32 → Int32 → Int32 → Int32 → Option (Int32 × jm_MM)) (ke0 : jm_MM → Int32 → Option (Int32 × jm_MM)) (M : jm_MM) (v1 : Int32) (v2 : Int32) (v3 : Int32) (v4 : Int32) (v5 : Int32) (v6 : Int32) (s0 : Int32) : Option (Int32 × jm_MM) := jm_gd (jm_inb v6 24) (bif decide ((M 118 v6.toNatClampNeg) = (-1)) then (f155_138  kb ke0 M v1 v2 v3 v4 v5 v6 s0) else (bif decide (s0 ≤ 0) then (f155_124  kb ke0 M v1 v2 v3 v4 v5 v6 s0) else (bif decide (v4 < (s0 * s0)) then (f155_138  kb ke0 M v1 v2 v3 v4 v5 v6 s0) else (f155_124  kb ke0 M v1 v2 v3 v4 v5 v6 s0))))
set_option maxRecDepth 100000 in
theorem g155_96 (L : Nat) (d : Nat) (_M : jm_MM) (J : jm_JJ) (kb : jm_MM → Int32 → Int32 → Int32 → Int32 → Int32 → Option (Int32 × jm_MM)) (hkb : ∀ (M : jm_MM) (v1 : Int32) (v2 : Int32) (v3 : Int32) (v4 : Int32) (v5 : Int32) (r : Int32 × jm_MM), kb M v1 v2 v3 v4 v5 = some r → jm_go (d + 5) (jm_G 155) 32 [some (.ref 113), some (.int v1), some (.int v2), some (.int v3), some (.int v4), some (.int v5), none, none] [] (jm_S0 L, M, J) (some (.int r.1), (jm_S0 L, r.2, J))) (ke0 : jm_MM → Int32 → Option (Int32 × jm_MM)) (hke0 : ∀ (M : jm_MM) (v5 : Int32) (r : Int32 × jm_MM), ke0 M v5 = some r → jm_go (d + 5) (jm_G 155) 181 [none, none, none, none, none, some (.int v5), none, none] [] (jm_S0 L, M, J) (some (.int r.1), (jm_S0 L, r.2, J))) (M : jm_MM) (v1 : Int32) (v2 : Int32) (v3 : Int32) (v4 : Int32) (v5 : Int32) (v6 : Int32) (s0 : Int32) (r : Int32 × jm_MM) (H : f155_96  kb ke0 M v1 v2 v3 v4 v5 v6 s0 = some r) : jm_go (d + 5) (jm_G 155) 96 [some (.ref 113), some (.int v1), some (.int v2), some (.int v3), some (.int v4), some (.int v5), some (.int v6), none] [.int s0] (jm_S0 L, M, J) (some (.int r.1), (jm_S0 L, r.2, J)) := by
  unfold f155_96 at H
  obtain ⟨h10, H⟩ := jm_gdo H
  refine jm_go.grd 5 (b := jm_inb v6 24) (pc' := 105) (ls' := [some (.ref 113), some (.int v1), some (.int v2), some (.int v3), some (.int v4), some (.int v5), some (.int v6), some (.int s0)]) (st' := [.int (M 118 v6.toNatClampNeg)]) (t' := (jm_S0 L, M, J)) (fun _ _ => rfl) h10 ?_
  rcases jm_bro H with ⟨h11, H⟩ | ⟨h11, H⟩
  · refine jm_go.brt 2 (b := decide ((M 118 v6.toNatClampNeg) = (-1))) (p1 := 138) (l1 := [some (.ref 113), some (.int v1), some (.int v2), some (.int v3), some (.int v4), some (.int v5), some (.int v6), some (.int s0)]) (s1 := []) (t1 := (jm_S0 L, M, J)) (p2 := 109) (l2 := [some (.ref 113), some (.int v1), some (.int v2), some (.int v3), some (.int v4), some (.int v5), some (.int v6), some (.int s0)]) (s2 := []) (t2 := (jm_S0 L, M, J)) (fun _ _ => rfl) h11 ?_
    exact g155_138 L d M J _ hkb _ hke0 M v1 v2 v3 v4 v5 v6 s0 _ H
  · refine jm_go.brf 2 (b := decide ((M 118 v6.toNatClampNeg) = (-1))) (p1 := 138) (l1 := [some (.ref 113), some (.int v1), some (.int v2), some (.int v3), some (.int v4), some (.int v5), some (.int v6), some (.int s0)]) (s1 := []) (t1 := (jm_S0 L, M, J)) (p2 := 109) (l2 := [some (.ref 113), some (.int v1), some (.int v2), some (.int v3), some (.int v4), some (.int v5), some (.int v6), some (.int s0)]) (s2 := []) (t2 := (jm_S0 L, M, J)) (fun _ _ => rfl) h11 ?_
    rcases jm_bro H with ⟨h19, H⟩ | ⟨h19, H⟩
    · refine jm_go.brt 2 (b := decide (s0 ≤ 0)) (p1 := 124) (l1 := [some (.ref 113), some (.int v1), some (.int v2), some (.int v3), some (.int v4), some (.int v5), some (.int v6), some (.int s0)]) (s1 := []) (t1 := (jm_S0 L, M, J)) (p2 := 114) (l2 := [some (.ref 113), some (.int v1), some (.int v2), some (.int v3), some (.int v4), some (.int v5), some (.int v6), some (.int s0)]) (s2 := []) (t2 := (jm_S0 L, M, J)) (fun _ _ => rfl) h19 ?_
      exact g155_124 L d M J _ hkb _ hke0 M v1 v2 v3 v4 v5 v6 s0 _ H
    · refine jm_go.brf 2 (b := decide (s0 ≤ 0)) (p1 := 124) (l1 := [some (.ref 113), some (.int v1), some (.int v2), some (.int v3), some (.int v4), some (.int v5), some (.int v6), some (.int s0)]) (s1 := []) (t1 := (jm_S0 L, M, J)) (p2 := 114) (l2 := [some (.ref 113), some (.int v1), some (.int v2), some (.int v3), some (.int v4), some (.int v5), some (.int v6), some (.int s0)]) (s2 := []) (t2 := (jm_S0 L, M, J)) (fun _ _ => rfl) h19 ?_
      rcases jm_bro H with ⟨h23, H⟩ | ⟨h23, H⟩
      · refine jm_go.brt 5 (b := decide (v4 < (s0 * s0))) (p1 := 138) (l1 := [some (.ref 113), some (.int v1), some (.int v2), some (.int v3), some (.int v4), some (.int v5), some (.int v6), some (.int s0)]) (s1 := []) (t1 := (jm_S0 L, M, J)) (p2 := 124) (l2 := [some (.ref 113), some (.int v1), some (.int v2), some (.int v3), some (.int v4), some (.int v5), some (.int v6), some (.int s0)]) (s2 := []) (t2 := (jm_S0 L, M, J)) (fun _ _ => rfl) h23 ?_
        exact g155_138 L d M J _ hkb _ hke0 M v1 v2 v3 v4 v5 v6 s0 _ H
      · refine jm_go.brf 5 (b := decide (v4 < (s0 * s0))) (p1 := 138) (l1 := [some (.ref 113), some (.int v1), some (.int v2), some (.int v3), some (.int v4), some (.int v5), some (.int v6), some (.int s0)]) (s1 := []) (t1 := (jm_S0 L, M, J)) (p2 := 124) (l2 := [some (.ref 113), some (.int v1), some (.int v2), some (.int v3), some (.int v4), some (.int v5), some (.int v6), some (.int s0)]) (s2 := []) (t2 := (jm_S0 L, M, J)) (fun _ _ => rfl) h23 ?_
        exact g155_124 L d M J _ hkb _ hke0 M v1 v2 v3 v4 v5 v6 s0 _ H

def f155_32  (ke0 : jm_MM → Int32 → Option (Int32 × jm_MM)) : Nat → jm_MM → Int32 → Int32 → Int32 → Int32 → Int32 → Option (Int32 × jm_MM)
  | 0, _, _, _, _, _, _ => none
  | n0 + 1, M, v1, v2, v3, v4, v5 => bif decide ((M 113 11) ≤ 0) then (ke0 M v5) else (jm_gd (jm_inb ((jm_up M 113 11 ((M 113 11) - 1)) 113 11) 48) (jm_gd (jm_inb ((jm_up M 113 11 ((M 113 11) - 1)) 122 (((jm_up M 113 11 ((M 113 11) - 1)) 113 11).toNatClampNeg)) 24) (bif !decide ((((jm_up M 113 11 ((M 113 11) - 1)) 120 (((jm_up M 113 11 ((M 113 11) - 1)) 122 (((jm_up M 113 11 ((M 113 11) - 1)) 113 11).toNatClampNeg)).toNatClampNeg)) - ((jm_up M 113 11 ((M 113 11) - 1)) 120 (((jm_up M 113 11 ((M 113 11) - 1)) 122 (((jm_up M 113 11 ((M 113 11) - 1)) 113 11).toNatClampNeg)).toNatClampNeg)) / 2 * 2) = 0) then (jm_bd (f104 (jm_up M 113 11 ((M 113 11) - 1)) v1 ((jm_up M 113 11 ((M 113 11) - 1)) 122 (((jm_up M 113 11 ((M 113 11) - 1)) 113 11).toNatClampNeg))) (fun q8 => f155_96  (f155_32  ke0 n0) ke0 (jm_up M 113 11 ((M 113 11) - 1)) v1 v2 v3 v4 (v5 + 1) ((jm_up M 113 11 ((M 113 11) - 1)) 122 (((jm_up M 113 11 ((M 113 11) - 1)) 113 11).toNatClampNeg)) (v3 - q8))) else (jm_bd (f103 (jm_up M 113 11 ((M 113 11) - 1)) v1 ((jm_up M 113 11 ((M 113 11) - 1)) 122 (((jm_up M 113 11 ((M 113 11) - 1)) 113 11).toNatClampNeg))) (fun q24 => f155_96  (f155_32  ke0 n0) ke0 (jm_up M 113 11 ((M 113 11) - 1)) v1 v2 v3 v4 (v5 + 1) ((jm_up M 113 11 ((M 113 11) - 1)) 122 (((jm_up M 113 11 ((M 113 11) - 1)) 113 11).toNatClampNeg)) (v2 - q24))))))
set_option maxRecDepth 100000 in
theorem g155_32 (L : Nat) (d : Nat) (_M : jm_MM) (J : jm_JJ) (ke0 : jm_MM → Int32 → Option (Int32 × jm_MM)) (hke0 : ∀ (M : jm_MM) (v5 : Int32) (r : Int32 × jm_MM), ke0 M v5 = some r → jm_go (d + 5) (jm_G 155) 181 [none, none, none, none, none, some (.int v5), none, none] [] (jm_S0 L, M, J) (some (.int r.1), (jm_S0 L, r.2, J))) : ∀ (n0 : Nat) (M : jm_MM) (v1 : Int32) (v2 : Int32) (v3 : Int32) (v4 : Int32) (v5 : Int32) (r : Int32 × jm_MM), f155_32  ke0 n0 M v1 v2 v3 v4 v5 = some r → jm_go (d + 5) (jm_G 155) 32 [some (.ref 113), some (.int v1), some (.int v2), some (.int v3), some (.int v4), some (.int v5), none, none] [] (jm_S0 L, M, J) (some (.int r.1), (jm_S0 L, r.2, J)) := by
  intro n0
  induction n0 with
  | zero => intro M v1 v2 v3 v4 v5 r H; cases H
  | succ n0 ih =>
    intro M v1 v2 v3 v4 v5 r H
    have hkb := ih
    unfold f155_32 at H
    rcases jm_bro H with ⟨h4, H⟩ | ⟨h4, H⟩
    · refine jm_go.brt 3 (b := decide ((M 113 11) ≤ 0)) (p1 := 181) (l1 := [some (.ref 113), some (.int v1), some (.int v2), some (.int v3), some (.int v4), some (.int v5), none, none]) (s1 := []) (t1 := (jm_S0 L, M, J)) (p2 := 39) (l2 := [some (.ref 113), some (.int v1), some (.int v2), some (.int v3), some (.int v4), some (.int v5), none, none]) (s2 := []) (t2 := (jm_S0 L, M, J)) (fun _ _ => rfl) h4 ?_
      refine jm_go.lab (ls' := [none, none, none, none, none, some (.int v5), none, none]) (fun i hi => by cases hi; rfl) ?_
      exact hke0 M v5 _ H
    · refine jm_go.brf 3 (b := decide ((M 113 11) ≤ 0)) (p1 := 181) (l1 := [some (.ref 113), some (.int v1), some (.int v2), some (.int v3), some (.int v4), some (.int v5), none, none]) (s1 := []) (t1 := (jm_S0 L, M, J)) (p2 := 39) (l2 := [some (.ref 113), some (.int v1), some (.int v2), some (.int v3), some (.int v4), some (.int v5), none, none]) (s2 := []) (t2 := (jm_S0 L, M, J)) (fun _ _ => rfl) h4 ?_
      obtain ⟨h5, H⟩ := jm_gdo H
      refine jm_go.grd 11 (b := jm_inb ((jm_up M 113 11 ((M 113 11) - 1)) 113 11) 48) (pc' := 58) (ls' := [some (.ref 113), some (.int v1), some (.int v2), some (.int v3), some (.int v4), some (.int v5), none, none]) (st' := [.int ((jm_up M 113 11 ((M 113 11) - 1)) 122 (((jm_up M 113 11 ((M 113 11) - 1)) 113 11).toNatClampNeg))]) (t' := (jm_S0 L, (jm_up M 113 11 ((M 113 11) - 1)), J)) (fun _ _ => rfl) h5 ?_
      obtain ⟨h6, H⟩ := jm_gdo H
      refine jm_go.grd 6 (b := jm_inb ((jm_up M 113 11 ((M 113 11) - 1)) 122 (((jm_up M 113 11 ((M 113 11) - 1)) 113 11).toNatClampNeg)) 24) (pc' := 70) (ls' := [some (.ref 113), some (.int v1), some (.int v2), some (.int v3), some (.int v4), some (.int (v5 + 1)), some (.int ((jm_up M 113 11 ((M 113 11) - 1)) 122 (((jm_up M 113 11 ((M 113 11) - 1)) 113 11).toNatClampNeg))), none]) (st' := [.int ((jm_up M 113 11 ((M 113 11) - 1)) 120 (((jm_up M 113 11 ((M 113 11) - 1)) 122 (((jm_up M 113 11 ((M 113 11) - 1)) 113 11).toNatClampNeg)).toNatClampNeg))]) (t' := (jm_S0 L, (jm_up M 113 11 ((M 113 11) - 1)), J)) (fun _ _ => rfl) h6 ?_
      rcases jm_bro H with ⟨h7, H⟩ | ⟨h7, H⟩
      · refine jm_go.brt 3 (b := !decide ((((jm_up M 113 11 ((M 113 11) - 1)) 120 (((jm_up M 113 11 ((M 113 11) - 1)) 122 (((jm_up M 113 11 ((M 113 11) - 1)) 113 11).toNatClampNeg)).toNatClampNeg)) - ((jm_up M 113 11 ((M 113 11) - 1)) 120 (((jm_up M 113 11 ((M 113 11) - 1)) 122 (((jm_up M 113 11 ((M 113 11) - 1)) 113 11).toNatClampNeg)).toNatClampNeg)) / 2 * 2) = 0)) (p1 := 87) (l1 := [some (.ref 113), some (.int v1), some (.int v2), some (.int v3), some (.int v4), some (.int (v5 + 1)), some (.int ((jm_up M 113 11 ((M 113 11) - 1)) 122 (((jm_up M 113 11 ((M 113 11) - 1)) 113 11).toNatClampNeg))), none]) (s1 := []) (t1 := (jm_S0 L, (jm_up M 113 11 ((M 113 11) - 1)), J)) (p2 := 75) (l2 := [some (.ref 113), some (.int v1), some (.int v2), some (.int v3), some (.int v4), some (.int (v5 + 1)), some (.int ((jm_up M 113 11 ((M 113 11) - 1)) 122 (((jm_up M 113 11 ((M 113 11) - 1)) 113 11).toNatClampNeg))), none]) (s2 := []) (t2 := (jm_S0 L, (jm_up M 113 11 ((M 113 11) - 1)), J)) (fun _ _ => rfl) h7 ?_
        obtain ⟨q8, h9, H⟩ := jm_bdo H
        refine jm_go.call 5 (d := d + 4) (b := true) (u := 104) (as := [.ref 113, .int v1, .int ((jm_up M 113 11 ((M 113 11) - 1)) 122 (((jm_up M 113 11 ((M 113 11) - 1)) 113 11).toNatClampNeg))]) (pc' := 95) (ls' := [some (.ref 113), some (.int v1), some (.int v2), some (.int v3), some (.int v4), some (.int (v5 + 1)), some (.int ((jm_up M 113 11 ((M 113 11) - 1)) 122 (((jm_up M 113 11 ((M 113 11) - 1)) 113 11).toNatClampNeg))), none]) (st' := [.int v3]) (t' := (jm_S0 L, (jm_up M 113 11 ((M 113 11) - 1)), J)) (fun _ _ => rfl) rfl rfl (g104 L (d + 3) (jm_up M 113 11 ((M 113 11) - 1)) J v1 ((jm_up M 113 11 ((M 113 11) - 1)) 122 (((jm_up M 113 11 ((M 113 11) - 1)) 113 11).toNatClampNeg)) _ h9) ?_
        refine jm_go.blk 1 (pc' := 96) (ls' := [some (.ref 113), some (.int v1), some (.int v2), some (.int v3), some (.int v4), some (.int (v5 + 1)), some (.int ((jm_up M 113 11 ((M 113 11) - 1)) 122 (((jm_up M 113 11 ((M 113 11) - 1)) 113 11).toNatClampNeg))), none]) (st' := [.int (v3 - q8)]) (t' := (jm_S0 L, (jm_up M 113 11 ((M 113 11) - 1)), J)) (fun _ _ => rfl) ?_
        exact g155_96 L d M J _ hkb _ hke0 (jm_up M 113 11 ((M 113 11) - 1)) v1 v2 v3 v4 (v5 + 1) ((jm_up M 113 11 ((M 113 11) - 1)) 122 (((jm_up M 113 11 ((M 113 11) - 1)) 113 11).toNatClampNeg)) (v3 - q8) _ H
      · refine jm_go.brf 3 (b := !decide ((((jm_up M 113 11 ((M 113 11) - 1)) 120 (((jm_up M 113 11 ((M 113 11) - 1)) 122 (((jm_up M 113 11 ((M 113 11) - 1)) 113 11).toNatClampNeg)).toNatClampNeg)) - ((jm_up M 113 11 ((M 113 11) - 1)) 120 (((jm_up M 113 11 ((M 113 11) - 1)) 122 (((jm_up M 113 11 ((M 113 11) - 1)) 113 11).toNatClampNeg)).toNatClampNeg)) / 2 * 2) = 0)) (p1 := 87) (l1 := [some (.ref 113), some (.int v1), some (.int v2), some (.int v3), some (.int v4), some (.int (v5 + 1)), some (.int ((jm_up M 113 11 ((M 113 11) - 1)) 122 (((jm_up M 113 11 ((M 113 11) - 1)) 113 11).toNatClampNeg))), none]) (s1 := []) (t1 := (jm_S0 L, (jm_up M 113 11 ((M 113 11) - 1)), J)) (p2 := 75) (l2 := [some (.ref 113), some (.int v1), some (.int v2), some (.int v3), some (.int v4), some (.int (v5 + 1)), some (.int ((jm_up M 113 11 ((M 113 11) - 1)) 122 (((jm_up M 113 11 ((M 113 11) - 1)) 113 11).toNatClampNeg))), none]) (s2 := []) (t2 := (jm_S0 L, (jm_up M 113 11 ((M 113 11) - 1)), J)) (fun _ _ => rfl) h7 ?_
        obtain ⟨q24, h25, H⟩ := jm_bdo H
        refine jm_go.call 5 (d := d + 4) (b := true) (u := 103) (as := [.ref 113, .int v1, .int ((jm_up M 113 11 ((M 113 11) - 1)) 122 (((jm_up M 113 11 ((M 113 11) - 1)) 113 11).toNatClampNeg))]) (pc' := 83) (ls' := [some (.ref 113), some (.int v1), some (.int v2), some (.int v3), some (.int v4), some (.int (v5 + 1)), some (.int ((jm_up M 113 11 ((M 113 11) - 1)) 122 (((jm_up M 113 11 ((M 113 11) - 1)) 113 11).toNatClampNeg))), none]) (st' := [.int v2]) (t' := (jm_S0 L, (jm_up M 113 11 ((M 113 11) - 1)), J)) (fun _ _ => rfl) rfl rfl (g103 L (d + 3) (jm_up M 113 11 ((M 113 11) - 1)) J v1 ((jm_up M 113 11 ((M 113 11) - 1)) 122 (((jm_up M 113 11 ((M 113 11) - 1)) 113 11).toNatClampNeg)) _ h25) ?_
        refine jm_go.blk 2 (pc' := 96) (ls' := [some (.ref 113), some (.int v1), some (.int v2), some (.int v3), some (.int v4), some (.int (v5 + 1)), some (.int ((jm_up M 113 11 ((M 113 11) - 1)) 122 (((jm_up M 113 11 ((M 113 11) - 1)) 113 11).toNatClampNeg))), none]) (st' := [.int (v2 - q24)]) (t' := (jm_S0 L, (jm_up M 113 11 ((M 113 11) - 1)), J)) (fun _ _ => rfl) ?_
        exact g155_96 L d M J _ hkb _ hke0 (jm_up M 113 11 ((M 113 11) - 1)) v1 v2 v3 v4 (v5 + 1) ((jm_up M 113 11 ((M 113 11) - 1)) 122 (((jm_up M 113 11 ((M 113 11) - 1)) 113 11).toNatClampNeg)) (v2 - q24) _ H

/-- X8_looked -/
def f155 (M : jm_MM) (x0 : Int32) (x1 : Int32) (x2 : Int32) (x3 : Int32) : Option (Int32 × jm_MM) := jm_bd (f150 M x0) (fun q1 => bif decide (((jm_up q1 113 11 0) 113 6) = (-1)) then (f155_32  (fun Me26 ve27 => some (ve27, Me26)) jm_F (jm_up q1 113 11 0) x0 x1 x2 x3 0) else (jm_bd (f149 (jm_up q1 113 11 0) ((jm_up q1 113 11 0) 113 6) 0 0 0) (fun q28 => f155_32  (fun Me30 ve31 => some (ve31, Me30)) jm_F q28 x0 x1 x2 x3 0)))
set_option maxRecDepth 100000 in
theorem g155 (L : Nat) (d : Nat) (M : jm_MM) (J : jm_JJ) (x0 : Int32) (x1 : Int32) (x2 : Int32) (x3 : Int32) (r : Int32 × jm_MM) (H : f155 M x0 x1 x2 x3 = some r) : jm_go (d + 5) (jm_G 155) 0 (jm_en 8 [.ref 113, .int x0, .int x1, .int x2, .int x3]) [] (jm_S0 L, M, J) (some (.int r.1), (jm_S0 L, r.2, J)) := by
  unfold f155 at H
  obtain ⟨q1, h2, H⟩ := jm_bdo H
  refine jm_go.call 3 (d := d + 4) (b := true) (u := 150) (as := [.ref 113, .int x0]) (pc' := 5) (ls' := [some (.ref 113), some (.int x0), some (.int x1), some (.int x2), some (.int x3), none, none, none]) (st' := []) (t' := (jm_S0 L, M, J)) (fun _ _ => rfl) rfl rfl (g150 L d M J x0 _ h2) ?_
  rcases jm_bro H with ⟨h3, H⟩ | ⟨h3, H⟩
  · refine jm_go.brt 9 (b := decide (((jm_up q1 113 11 0) 113 6) = (-1))) (p1 := 32) (l1 := [some (.ref 113), some (.int x0), some (.int x1), some (.int x2), some (.int x3), some (.int 0), none, none]) (s1 := []) (t1 := (jm_S0 L, (jm_up q1 113 11 0), J)) (p2 := 21) (l2 := [some (.ref 113), some (.int x0), some (.int x1), some (.int x2), some (.int x3), some (.int 0), none, none]) (s2 := []) (t2 := (jm_S0 L, (jm_up q1 113 11 0), J)) (fun _ _ => rfl) h3 ?_
    exact g155_32 L d M J
      _ (fun Me26 ve27 r H => by
        have H := Option.some.inj H
        subst H
        exact jm_go.ret 2 (fun _ _ => rfl)
        )
      _ (jm_up q1 113 11 0) x0 x1 x2 x3 0 _ H
  · refine jm_go.brf 9 (b := decide (((jm_up q1 113 11 0) 113 6) = (-1))) (p1 := 32) (l1 := [some (.ref 113), some (.int x0), some (.int x1), some (.int x2), some (.int x3), some (.int 0), none, none]) (s1 := []) (t1 := (jm_S0 L, (jm_up q1 113 11 0), J)) (p2 := 21) (l2 := [some (.ref 113), some (.int x0), some (.int x1), some (.int x2), some (.int x3), some (.int 0), none, none]) (s2 := []) (t2 := (jm_S0 L, (jm_up q1 113 11 0), J)) (fun _ _ => rfl) h3 ?_
    obtain ⟨q28, h29, H⟩ := jm_bdo H
    refine jm_go.call 7 (d := d + 4) (b := true) (u := 149) (as := [.ref 113, .int ((jm_up q1 113 11 0) 113 6), .int 0, .int 0, .int 0]) (pc' := 32) (ls' := [some (.ref 113), some (.int x0), some (.int x1), some (.int x2), some (.int x3), some (.int 0), none, none]) (st' := []) (t' := (jm_S0 L, (jm_up q1 113 11 0), J)) (fun _ _ => rfl) rfl rfl (g149 L (d + 4) (jm_up q1 113 11 0) J ((jm_up q1 113 11 0) 113 6) 0 0 0 _ h29) ?_
    exact g155_32 L d M J
      _ (fun Me30 ve31 r H => by
        have H := Option.some.inj H
        subst H
        exact jm_go.ret 2 (fun _ _ => rfl)
        )
      _ q28 x0 x1 x2 x3 0 _ H
