/-! methods as functions: printed by wip/whole/gen/lay.py (funs.py) -/

/-- X8_draw -/
def f113 (M : jm_MM) (J : jm_JJ) (x0 : Int32) : Option (Int32 × jm_JJ) := jm_gd (!decide (Int32.toInt64 x0 = 0)) (some ((((jm_upL J 113 3 (((J 113 3) * 16807) - ((J 113 3) * 16807) / 2147483647 * 2147483647)) 113 3) - ((jm_upL J 113 3 (((J 113 3) * 16807) - ((J 113 3) * 16807) / 2147483647 * 2147483647)) 113 3) / (Int32.toInt64 x0) * (Int32.toInt64 x0)).toInt32, (jm_upL J 113 3 (((J 113 3) * 16807) - ((J 113 3) * 16807) / 2147483647 * 2147483647))))
set_option maxRecDepth 100000 in
theorem g113 (L : Nat) (d : Nat) (M : jm_MM) (J : jm_JJ) (x0 : Int32) (r : Int32 × jm_JJ) (H : f113 M J x0 = some r) : jm_go d (jm_G 113) 0 (jm_en 2 [.ref 113, .int x0]) [] (jm_S0 L, M, J) (some (.int r.1), (jm_S0 L, M, r.2)) := by
  unfold f113 at H
  obtain ⟨h1, H⟩ := jm_gdo H
  refine jm_go.grd 13 (b := !decide (Int32.toInt64 x0 = 0)) (pc' := 23) (ls' := [some (.ref 113), some (.int x0)]) (st' := [.long (((jm_upL J 113 3 (((J 113 3) * 16807) - ((J 113 3) * 16807) / 2147483647 * 2147483647)) 113 3) - ((jm_upL J 113 3 (((J 113 3) * 16807) - ((J 113 3) * 16807) / 2147483647 * 2147483647)) 113 3) / (Int32.toInt64 x0) * (Int32.toInt64 x0))]) (t' := (jm_S0 L, M, (jm_upL J 113 3 (((J 113 3) * 16807) - ((J 113 3) * 16807) / 2147483647 * 2147483647)))) (fun _ _ => rfl) h1 ?_
  have H := Option.some.inj H
  subst H
  exact jm_go.ret 2 (fun _ _ => rfl)


/-- X8_bounded -/
def f114 (M : jm_MM) (x0 : Int32) : Option (Int32) := bif decide (0 ≤ x0) then (bif decide (x0 ≤ 63) then (some x0) else (some 63)) else (some 0)
set_option maxRecDepth 100000 in
theorem g114 (L : Nat) (d : Nat) (M : jm_MM) (J : jm_JJ) (x0 : Int32) (r : Int32) (H : f114 M x0 = some r) : jm_go d (jm_G 114) 0 (jm_en 1 [.int x0]) [] (jm_S0 L, M, J) (some (.int r), (jm_S0 L, M, J)) := by
  unfold f114 at H
  rcases jm_bro H with ⟨h1, H⟩ | ⟨h1, H⟩
  · refine jm_go.brt 2 (b := decide (0 ≤ x0)) (p1 := 8) (l1 := [some (.int x0)]) (s1 := []) (t1 := (jm_S0 L, M, J)) (p2 := 4) (l2 := [some (.int x0)]) (s2 := []) (t2 := (jm_S0 L, M, J)) (fun _ _ => rfl) h1 ?_
    rcases jm_bro H with ⟨h2, H⟩ | ⟨h2, H⟩
    · refine jm_go.brt 3 (b := decide (x0 ≤ 63)) (p1 := 19) (l1 := [some (.int x0)]) (s1 := []) (t1 := (jm_S0 L, M, J)) (p2 := 14) (l2 := [some (.int x0)]) (s2 := []) (t2 := (jm_S0 L, M, J)) (fun _ _ => rfl) h2 ?_
      have H := Option.some.inj H
      subst H
      exact jm_go.ret 2 (fun _ _ => rfl)
    · refine jm_go.brf 3 (b := decide (x0 ≤ 63)) (p1 := 19) (l1 := [some (.int x0)]) (s1 := []) (t1 := (jm_S0 L, M, J)) (p2 := 14) (l2 := [some (.int x0)]) (s2 := []) (t2 := (jm_S0 L, M, J)) (fun _ _ => rfl) h2 ?_
      have H := Option.some.inj H
      subst H
      exact jm_go.ret 3 (fun _ _ => rfl)
  · refine jm_go.brf 2 (b := decide (0 ≤ x0)) (p1 := 8) (l1 := [some (.int x0)]) (s1 := []) (t1 := (jm_S0 L, M, J)) (p2 := 4) (l2 := [some (.int x0)]) (s2 := []) (t2 := (jm_S0 L, M, J)) (fun _ _ => rfl) h1 ?_
    have H := Option.some.inj H
    subst H
    exact jm_go.ret 3 (fun _ _ => rfl)

def f115_199  (kb : jm_MM → jm_JJ → Int32 → Int32 → Option (Int32 × jm_MM × jm_JJ)) (ke0 : jm_MM → jm_JJ → Int32 → Option (Int32 × jm_MM × jm_JJ)) (M : jm_MM) (J : jm_JJ) (v2 : Int32) (v3 : Int32) (v6 : Int32) : Option (Int32 × jm_MM × jm_JJ) := bif decide (v6 = 0) then (kb M J v2 (v3 + 1)) else (jm_bd (f113 M J 64) (fun q19 => jm_bd (f113 M q19.2 64) (fun q21 => jm_bd (f105 M v2 v3 q19.1 q21.1) (fun q23 => kb q23 q21.2 v2 (v3 + 1)))))
set_option maxRecDepth 100000 in
theorem g115_199 (L : Nat) (d : Nat) (_M : jm_MM) (_J : jm_JJ) (kb : jm_MM → jm_JJ → Int32 → Int32 → Option (Int32 × jm_MM × jm_JJ)) (hkb : ∀ (M : jm_MM) (J : jm_JJ) (v2 : Int32) (v3 : Int32) (r : Int32 × jm_MM × jm_JJ), kb M J v2 v3 = some r → jm_go (d + 2) (jm_G 115) 46 [some (.ref 113), none, some (.int v2), some (.int v3), none, none, none, none, none] [] (jm_S0 L, M, J) (some (.int r.1), (jm_S0 L, r.2.1, r.2.2))) (ke0 : jm_MM → jm_JJ → Int32 → Option (Int32 × jm_MM × jm_JJ)) (hke0 : ∀ (M : jm_MM) (J : jm_JJ) (v2 : Int32) (r : Int32 × jm_MM × jm_JJ), ke0 M J v2 = some r → jm_go (d + 2) (jm_G 115) 236 [some (.ref 113), none, some (.int v2), none, none, none, none, none, none] [] (jm_S0 L, M, J) (some (.int r.1), (jm_S0 L, r.2.1, r.2.2))) (M : jm_MM) (J : jm_JJ) (v2 : Int32) (v3 : Int32) (v6 : Int32) (r : Int32 × jm_MM × jm_JJ) (H : f115_199  kb ke0 M J v2 v3 v6 = some r) : jm_go (d + 2) (jm_G 115) 199 [some (.ref 113), none, some (.int v2), some (.int v3), none, none, some (.int v6), none, none] [] (jm_S0 L, M, J) (some (.int r.1), (jm_S0 L, r.2.1, r.2.2)) := by
  unfold f115_199 at H
  rcases jm_bro H with ⟨h18, H⟩ | ⟨h18, H⟩
  · refine jm_go.brt 2 (b := decide (v6 = 0)) (p1 := 230) (l1 := [some (.ref 113), none, some (.int v2), some (.int v3), none, none, some (.int v6), none, none]) (s1 := []) (t1 := (jm_S0 L, M, J)) (p2 := 204) (l2 := [some (.ref 113), none, some (.int v2), some (.int v3), none, none, some (.int v6), none, none]) (s2 := []) (t2 := (jm_S0 L, M, J)) (fun _ _ => rfl) h18 ?_
    refine jm_go.blk 2 (pc' := 46) (ls' := [some (.ref 113), none, some (.int v2), some (.int (v3 + 1)), none, none, none, none, none]) (st' := []) (t' := (jm_S0 L, M, J)) (fun _ _ => rfl) ?_
    exact hkb M J v2 (v3 + 1) _ H
  · refine jm_go.brf 2 (b := decide (v6 = 0)) (p1 := 230) (l1 := [some (.ref 113), none, some (.int v2), some (.int v3), none, none, some (.int v6), none, none]) (s1 := []) (t1 := (jm_S0 L, M, J)) (p2 := 204) (l2 := [some (.ref 113), none, some (.int v2), some (.int v3), none, none, some (.int v6), none, none]) (s2 := []) (t2 := (jm_S0 L, M, J)) (fun _ _ => rfl) h18 ?_
    obtain ⟨q19, h20, H⟩ := jm_bdo H
    refine jm_go.call 3 (d := d + 1) (b := true) (u := 113) (as := [.ref 113, .int 64]) (pc' := 210) (ls' := [some (.ref 113), none, some (.int v2), some (.int v3), none, none, some (.int v6), none, none]) (st' := []) (t' := (jm_S0 L, M, J)) (fun _ _ => rfl) rfl rfl (g113 L (d + 1) M J 64 _ h20) ?_
    obtain ⟨q21, h22, H⟩ := jm_bdo H
    refine jm_go.call 4 (d := d + 1) (b := true) (u := 113) (as := [.ref 113, .int 64]) (pc' := 218) (ls' := [some (.ref 113), none, some (.int v2), some (.int v3), none, none, some (.int v6), some (.int q19.1), none]) (st' := []) (t' := (jm_S0 L, M, q19.2)) (fun _ _ => rfl) rfl rfl (g113 L (d + 1) M q19.2 64 _ h22) ?_
    obtain ⟨q23, h24, H⟩ := jm_bdo H
    refine jm_go.call 7 (d := d + 1) (b := true) (u := 105) (as := [.ref 113, .int v2, .int v3, .int q19.1, .int q21.1]) (pc' := 230) (ls' := [some (.ref 113), none, some (.int v2), some (.int v3), none, none, some (.int v6), some (.int q19.1), some (.int q21.1)]) (st' := []) (t' := (jm_S0 L, M, q21.2)) (fun _ _ => rfl) rfl rfl (g105 L d M q21.2 v2 v3 q19.1 q21.1 _ h24) ?_
    refine jm_go.blk 2 (pc' := 46) (ls' := [some (.ref 113), none, some (.int v2), some (.int (v3 + 1)), none, none, none, none, none]) (st' := []) (t' := (jm_S0 L, q23, q21.2)) (fun _ _ => rfl) ?_
    exact hkb q23 q21.2 v2 (v3 + 1) _ H

def f115_130  (kb : jm_MM → jm_JJ → Int32 → Int32 → Option (Int32 × jm_MM × jm_JJ)) (ke0 : jm_MM → jm_JJ → Int32 → Option (Int32 × jm_MM × jm_JJ)) (M : jm_MM) (J : jm_JJ) (v2 : Int32) (v3 : Int32) (v4 : Int32) (s0 : Int32) : Option (Int32 × jm_MM × jm_JJ) := bif decide (s0 = 0) then (f115_199  kb ke0 M J v2 v3 s0) else (bif decide (v4 = 0) then (f115_199  kb ke0 M J v2 v3 s0) else (jm_bd (f113 M J 7) (fun q26 => jm_bd (f113 M q26.2 7) (fun q28 => jm_bd (f103 M (v2 - 1) v3) (fun q30 => jm_bd (f114 M (q30 + (q26.1 - 3))) (fun q32 => jm_bd (f104 M (v2 - 1) v3) (fun q34 => jm_bd (f114 M (q34 + (q28.1 - 3))) (fun q36 => jm_bd (f105 M v2 v3 q32 q36) (fun q38 => kb q38 q28.2 v2 (v3 + 1))))))))))
set_option maxRecDepth 100000 in
theorem g115_130 (L : Nat) (d : Nat) (_M : jm_MM) (_J : jm_JJ) (kb : jm_MM → jm_JJ → Int32 → Int32 → Option (Int32 × jm_MM × jm_JJ)) (hkb : ∀ (M : jm_MM) (J : jm_JJ) (v2 : Int32) (v3 : Int32) (r : Int32 × jm_MM × jm_JJ), kb M J v2 v3 = some r → jm_go (d + 2) (jm_G 115) 46 [some (.ref 113), none, some (.int v2), some (.int v3), none, none, none, none, none] [] (jm_S0 L, M, J) (some (.int r.1), (jm_S0 L, r.2.1, r.2.2))) (ke0 : jm_MM → jm_JJ → Int32 → Option (Int32 × jm_MM × jm_JJ)) (hke0 : ∀ (M : jm_MM) (J : jm_JJ) (v2 : Int32) (r : Int32 × jm_MM × jm_JJ), ke0 M J v2 = some r → jm_go (d + 2) (jm_G 115) 236 [some (.ref 113), none, some (.int v2), none, none, none, none, none, none] [] (jm_S0 L, M, J) (some (.int r.1), (jm_S0 L, r.2.1, r.2.2))) (M : jm_MM) (J : jm_JJ) (v2 : Int32) (v3 : Int32) (v4 : Int32) (s0 : Int32) (r : Int32 × jm_MM × jm_JJ) (H : f115_130  kb ke0 M J v2 v3 v4 s0 = some r) : jm_go (d + 2) (jm_G 115) 130 [some (.ref 113), none, some (.int v2), some (.int v3), some (.int v4), none, none, none, none] [.int s0] (jm_S0 L, M, J) (some (.int r.1), (jm_S0 L, r.2.1, r.2.2)) := by
  unfold f115_130 at H
  rcases jm_bro H with ⟨h17, H⟩ | ⟨h17, H⟩
  · refine jm_go.brt 3 (b := decide (s0 = 0)) (p1 := 199) (l1 := [some (.ref 113), none, some (.int v2), some (.int v3), some (.int v4), none, some (.int s0), none, none]) (s1 := []) (t1 := (jm_S0 L, M, J)) (p2 := 137) (l2 := [some (.ref 113), none, some (.int v2), some (.int v3), some (.int v4), none, some (.int s0), none, none]) (s2 := []) (t2 := (jm_S0 L, M, J)) (fun _ _ => rfl) h17 ?_
    refine jm_go.lab (ls' := [some (.ref 113), none, some (.int v2), some (.int v3), none, none, some (.int s0), none, none]) (fun i hi => by cases hi; rfl) ?_
    exact g115_199 L d M J _ hkb _ hke0 M J v2 v3 s0 _ H
  · refine jm_go.brf 3 (b := decide (s0 = 0)) (p1 := 199) (l1 := [some (.ref 113), none, some (.int v2), some (.int v3), some (.int v4), none, some (.int s0), none, none]) (s1 := []) (t1 := (jm_S0 L, M, J)) (p2 := 137) (l2 := [some (.ref 113), none, some (.int v2), some (.int v3), some (.int v4), none, some (.int s0), none, none]) (s2 := []) (t2 := (jm_S0 L, M, J)) (fun _ _ => rfl) h17 ?_
    rcases jm_bro H with ⟨h25, H⟩ | ⟨h25, H⟩
    · refine jm_go.brt 2 (b := decide (v4 = 0)) (p1 := 199) (l1 := [some (.ref 113), none, some (.int v2), some (.int v3), some (.int v4), none, some (.int s0), none, none]) (s1 := []) (t1 := (jm_S0 L, M, J)) (p2 := 142) (l2 := [some (.ref 113), none, some (.int v2), some (.int v3), some (.int v4), none, some (.int s0), none, none]) (s2 := []) (t2 := (jm_S0 L, M, J)) (fun _ _ => rfl) h25 ?_
      refine jm_go.lab (ls' := [some (.ref 113), none, some (.int v2), some (.int v3), none, none, some (.int s0), none, none]) (fun i hi => by cases hi; rfl) ?_
      exact g115_199 L d M J _ hkb _ hke0 M J v2 v3 s0 _ H
    · refine jm_go.brf 2 (b := decide (v4 = 0)) (p1 := 199) (l1 := [some (.ref 113), none, some (.int v2), some (.int v3), some (.int v4), none, some (.int s0), none, none]) (s1 := []) (t1 := (jm_S0 L, M, J)) (p2 := 142) (l2 := [some (.ref 113), none, some (.int v2), some (.int v3), some (.int v4), none, some (.int s0), none, none]) (s2 := []) (t2 := (jm_S0 L, M, J)) (fun _ _ => rfl) h25 ?_
      obtain ⟨q26, h27, H⟩ := jm_bdo H
      refine jm_go.call 3 (d := d + 1) (b := true) (u := 113) (as := [.ref 113, .int 7]) (pc' := 148) (ls' := [some (.ref 113), none, some (.int v2), some (.int v3), some (.int v4), none, some (.int s0), none, none]) (st' := []) (t' := (jm_S0 L, M, J)) (fun _ _ => rfl) rfl rfl (g113 L (d + 1) M J 7 _ h27) ?_
      obtain ⟨q28, h29, H⟩ := jm_bdo H
      refine jm_go.call 6 (d := d + 1) (b := true) (u := 113) (as := [.ref 113, .int 7]) (pc' := 158) (ls' := [some (.ref 113), none, some (.int v2), some (.int v3), some (.int v4), none, some (.int s0), some (.int (q26.1 - 3)), none]) (st' := []) (t' := (jm_S0 L, M, q26.2)) (fun _ _ => rfl) rfl rfl (g113 L (d + 1) M q26.2 7 _ h29) ?_
      obtain ⟨q30, h31, H⟩ := jm_bdo H
      refine jm_go.call 12 (d := d + 1) (b := true) (u := 103) (as := [.ref 113, .int (v2 - 1), .int v3]) (pc' := 173) (ls' := [some (.ref 113), none, some (.int v2), some (.int v3), some (.int v4), none, some (.int s0), some (.int (q26.1 - 3)), some (.int (q28.1 - 3))]) (st' := [.int v3, .int v2, .ref 113]) (t' := (jm_S0 L, M, q28.2)) (fun _ _ => rfl) rfl rfl (g103 L d M q28.2 (v2 - 1) v3 _ h31) ?_
      obtain ⟨q32, h33, H⟩ := jm_bdo H
      refine jm_go.call 3 (d := d + 1) (b := true) (u := 114) (as := [.int (q30 + (q26.1 - 3))]) (pc' := 179) (ls' := [some (.ref 113), none, some (.int v2), some (.int v3), some (.int v4), none, some (.int s0), some (.int (q26.1 - 3)), some (.int (q28.1 - 3))]) (st' := [.int v3, .int v2, .ref 113]) (t' := (jm_S0 L, M, q28.2)) (fun _ _ => rfl) rfl rfl (g114 L (d + 1) M q28.2 (q30 + (q26.1 - 3)) _ h33) ?_
      obtain ⟨q34, h35, H⟩ := jm_bdo H
      refine jm_go.call 6 (d := d + 1) (b := true) (u := 104) (as := [.ref 113, .int (v2 - 1), .int v3]) (pc' := 187) (ls' := [some (.ref 113), none, some (.int v2), some (.int v3), some (.int v4), none, some (.int s0), some (.int (q26.1 - 3)), some (.int (q28.1 - 3))]) (st' := [.int q32, .int v3, .int v2, .ref 113]) (t' := (jm_S0 L, M, q28.2)) (fun _ _ => rfl) rfl rfl (g104 L d M q28.2 (v2 - 1) v3 _ h35) ?_
      obtain ⟨q36, h37, H⟩ := jm_bdo H
      refine jm_go.call 3 (d := d + 1) (b := true) (u := 114) (as := [.int (q34 + (q28.1 - 3))]) (pc' := 193) (ls' := [some (.ref 113), none, some (.int v2), some (.int v3), some (.int v4), none, some (.int s0), some (.int (q26.1 - 3)), some (.int (q28.1 - 3))]) (st' := [.int q32, .int v3, .int v2, .ref 113]) (t' := (jm_S0 L, M, q28.2)) (fun _ _ => rfl) rfl rfl (g114 L (d + 1) M q28.2 (q34 + (q28.1 - 3)) _ h37) ?_
      obtain ⟨q38, h39, H⟩ := jm_bdo H
      refine jm_go.call 1 (d := d + 1) (b := true) (u := 105) (as := [.ref 113, .int v2, .int v3, .int q32, .int q36]) (pc' := 196) (ls' := [some (.ref 113), none, some (.int v2), some (.int v3), some (.int v4), none, some (.int s0), some (.int (q26.1 - 3)), some (.int (q28.1 - 3))]) (st' := []) (t' := (jm_S0 L, M, q28.2)) (fun _ _ => rfl) rfl rfl (g105 L d M q28.2 v2 v3 q32 q36 _ h39) ?_
      refine jm_go.blk 3 (pc' := 46) (ls' := [some (.ref 113), none, some (.int v2), some (.int (v3 + 1)), none, none, none, none, none]) (st' := []) (t' := (jm_S0 L, q38, q28.2)) (fun _ _ => rfl) ?_
      exact hkb q38 q28.2 v2 (v3 + 1) _ H

def f115_99  (kb : jm_MM → jm_JJ → Int32 → Int32 → Option (Int32 × jm_MM × jm_JJ)) (ke0 : jm_MM → jm_JJ → Int32 → Option (Int32 × jm_MM × jm_JJ)) (M : jm_MM) (J : jm_JJ) (v2 : Int32) (v3 : Int32) (v4 : Int32) (s0 : Int32) : Option (Int32 × jm_MM × jm_JJ) := bif decide (v2 ≤ 0) then (bif !decide (s0 = 0) then (f115_130  kb ke0 M J v2 v3 v4 0) else (f115_130  kb ke0 M J v2 v3 v4 1)) else (bif decide (v4 = s0) then (f115_130  kb ke0 M J v2 v3 v4 0) else (f115_130  kb ke0 M J v2 v3 v4 1))
set_option maxRecDepth 100000 in
theorem g115_99 (L : Nat) (d : Nat) (_M : jm_MM) (_J : jm_JJ) (kb : jm_MM → jm_JJ → Int32 → Int32 → Option (Int32 × jm_MM × jm_JJ)) (hkb : ∀ (M : jm_MM) (J : jm_JJ) (v2 : Int32) (v3 : Int32) (r : Int32 × jm_MM × jm_JJ), kb M J v2 v3 = some r → jm_go (d + 2) (jm_G 115) 46 [some (.ref 113), none, some (.int v2), some (.int v3), none, none, none, none, none] [] (jm_S0 L, M, J) (some (.int r.1), (jm_S0 L, r.2.1, r.2.2))) (ke0 : jm_MM → jm_JJ → Int32 → Option (Int32 × jm_MM × jm_JJ)) (hke0 : ∀ (M : jm_MM) (J : jm_JJ) (v2 : Int32) (r : Int32 × jm_MM × jm_JJ), ke0 M J v2 = some r → jm_go (d + 2) (jm_G 115) 236 [some (.ref 113), none, some (.int v2), none, none, none, none, none, none] [] (jm_S0 L, M, J) (some (.int r.1), (jm_S0 L, r.2.1, r.2.2))) (M : jm_MM) (J : jm_JJ) (v2 : Int32) (v3 : Int32) (v4 : Int32) (s0 : Int32) (r : Int32 × jm_MM × jm_JJ) (H : f115_99  kb ke0 M J v2 v3 v4 s0 = some r) : jm_go (d + 2) (jm_G 115) 99 [some (.ref 113), none, some (.int v2), some (.int v3), some (.int v4), none, none, none, none] [.int s0] (jm_S0 L, M, J) (some (.int r.1), (jm_S0 L, r.2.1, r.2.2)) := by
  unfold f115_99 at H
  rcases jm_bro H with ⟨h15, H⟩ | ⟨h15, H⟩
  · refine jm_go.brt 3 (b := decide (v2 ≤ 0)) (p1 := 120) (l1 := [some (.ref 113), none, some (.int v2), some (.int v3), some (.int v4), some (.int s0), none, none, none]) (s1 := []) (t1 := (jm_S0 L, M, J)) (p2 := 105) (l2 := [some (.ref 113), none, some (.int v2), some (.int v3), some (.int v4), some (.int s0), none, none, none]) (s2 := []) (t2 := (jm_S0 L, M, J)) (fun _ _ => rfl) h15 ?_
    rcases jm_bro H with ⟨h16, H⟩ | ⟨h16, H⟩
    · refine jm_go.brt 2 (b := !decide (s0 = 0)) (p1 := 129) (l1 := [some (.ref 113), none, some (.int v2), some (.int v3), some (.int v4), some (.int s0), none, none, none]) (s1 := []) (t1 := (jm_S0 L, M, J)) (p2 := 125) (l2 := [some (.ref 113), none, some (.int v2), some (.int v3), some (.int v4), some (.int s0), none, none, none]) (s2 := []) (t2 := (jm_S0 L, M, J)) (fun _ _ => rfl) h16 ?_
      refine jm_go.blk 1 (pc' := 130) (ls' := [some (.ref 113), none, some (.int v2), some (.int v3), some (.int v4), none, none, none, none]) (st' := [.int 0]) (t' := (jm_S0 L, M, J)) (fun _ _ => rfl) ?_
      exact g115_130 L d M J _ hkb _ hke0 M J v2 v3 v4 0 _ H
    · refine jm_go.brf 2 (b := !decide (s0 = 0)) (p1 := 129) (l1 := [some (.ref 113), none, some (.int v2), some (.int v3), some (.int v4), some (.int s0), none, none, none]) (s1 := []) (t1 := (jm_S0 L, M, J)) (p2 := 125) (l2 := [some (.ref 113), none, some (.int v2), some (.int v3), some (.int v4), some (.int s0), none, none, none]) (s2 := []) (t2 := (jm_S0 L, M, J)) (fun _ _ => rfl) h16 ?_
      refine jm_go.blk 2 (pc' := 130) (ls' := [some (.ref 113), none, some (.int v2), some (.int v3), some (.int v4), some (.int s0), none, none, none]) (st' := [.int 1]) (t' := (jm_S0 L, M, J)) (fun _ _ => rfl) ?_
      refine jm_go.lab (ls' := [some (.ref 113), none, some (.int v2), some (.int v3), some (.int v4), none, none, none, none]) (fun i hi => by cases hi; rfl) ?_
      exact g115_130 L d M J _ hkb _ hke0 M J v2 v3 v4 1 _ H
  · refine jm_go.brf 3 (b := decide (v2 ≤ 0)) (p1 := 120) (l1 := [some (.ref 113), none, some (.int v2), some (.int v3), some (.int v4), some (.int s0), none, none, none]) (s1 := []) (t1 := (jm_S0 L, M, J)) (p2 := 105) (l2 := [some (.ref 113), none, some (.int v2), some (.int v3), some (.int v4), some (.int s0), none, none, none]) (s2 := []) (t2 := (jm_S0 L, M, J)) (fun _ _ => rfl) h15 ?_
    rcases jm_bro H with ⟨h40, H⟩ | ⟨h40, H⟩
    · refine jm_go.brt 3 (b := decide (v4 = s0)) (p1 := 116) (l1 := [some (.ref 113), none, some (.int v2), some (.int v3), some (.int v4), some (.int s0), none, none, none]) (s1 := []) (t1 := (jm_S0 L, M, J)) (p2 := 112) (l2 := [some (.ref 113), none, some (.int v2), some (.int v3), some (.int v4), some (.int s0), none, none, none]) (s2 := []) (t2 := (jm_S0 L, M, J)) (fun _ _ => rfl) h40 ?_
      refine jm_go.blk 2 (pc' := 130) (ls' := [some (.ref 113), none, some (.int v2), some (.int v3), some (.int v4), none, none, none, none]) (st' := [.int 0]) (t' := (jm_S0 L, M, J)) (fun _ _ => rfl) ?_
      exact g115_130 L d M J _ hkb _ hke0 M J v2 v3 v4 0 _ H
    · refine jm_go.brf 3 (b := decide (v4 = s0)) (p1 := 116) (l1 := [some (.ref 113), none, some (.int v2), some (.int v3), some (.int v4), some (.int s0), none, none, none]) (s1 := []) (t1 := (jm_S0 L, M, J)) (p2 := 112) (l2 := [some (.ref 113), none, some (.int v2), some (.int v3), some (.int v4), some (.int s0), none, none, none]) (s2 := []) (t2 := (jm_S0 L, M, J)) (fun _ _ => rfl) h40 ?_
      refine jm_go.blk 2 (pc' := 130) (ls' := [some (.ref 113), none, some (.int v2), some (.int v3), some (.int v4), some (.int s0), none, none, none]) (st' := [.int 1]) (t' := (jm_S0 L, M, J)) (fun _ _ => rfl) ?_
      refine jm_go.lab (ls' := [some (.ref 113), none, some (.int v2), some (.int v3), some (.int v4), none, none, none, none]) (fun i hi => by cases hi; rfl) ?_
      exact g115_130 L d M J _ hkb _ hke0 M J v2 v3 v4 1 _ H

def f115_88  (kb : jm_MM → jm_JJ → Int32 → Int32 → Option (Int32 × jm_MM × jm_JJ)) (ke0 : jm_MM → jm_JJ → Int32 → Option (Int32 × jm_MM × jm_JJ)) (M : jm_MM) (J : jm_JJ) (v2 : Int32) (v3 : Int32) (v4 : Int32) (s0 : Int32) : Option (Int32 × jm_MM × jm_JJ) := jm_bd (f113 M J s0) (fun q12 => bif !decide (q12.1 = 0) then (f115_99  kb ke0 M q12.2 v2 v3 v4 0) else (f115_99  kb ke0 M q12.2 v2 v3 v4 1))
set_option maxRecDepth 100000 in
theorem g115_88 (L : Nat) (d : Nat) (_M : jm_MM) (_J : jm_JJ) (kb : jm_MM → jm_JJ → Int32 → Int32 → Option (Int32 × jm_MM × jm_JJ)) (hkb : ∀ (M : jm_MM) (J : jm_JJ) (v2 : Int32) (v3 : Int32) (r : Int32 × jm_MM × jm_JJ), kb M J v2 v3 = some r → jm_go (d + 2) (jm_G 115) 46 [some (.ref 113), none, some (.int v2), some (.int v3), none, none, none, none, none] [] (jm_S0 L, M, J) (some (.int r.1), (jm_S0 L, r.2.1, r.2.2))) (ke0 : jm_MM → jm_JJ → Int32 → Option (Int32 × jm_MM × jm_JJ)) (hke0 : ∀ (M : jm_MM) (J : jm_JJ) (v2 : Int32) (r : Int32 × jm_MM × jm_JJ), ke0 M J v2 = some r → jm_go (d + 2) (jm_G 115) 236 [some (.ref 113), none, some (.int v2), none, none, none, none, none, none] [] (jm_S0 L, M, J) (some (.int r.1), (jm_S0 L, r.2.1, r.2.2))) (M : jm_MM) (J : jm_JJ) (v2 : Int32) (v3 : Int32) (v4 : Int32) (s0 : Int32) (r : Int32 × jm_MM × jm_JJ) (H : f115_88  kb ke0 M J v2 v3 v4 s0 = some r) : jm_go (d + 2) (jm_G 115) 88 [some (.ref 113), none, some (.int v2), some (.int v3), some (.int v4), none, none, none, none] [.int s0, .ref 113] (jm_S0 L, M, J) (some (.int r.1), (jm_S0 L, r.2.1, r.2.2)) := by
  unfold f115_88 at H
  obtain ⟨q12, h13, H⟩ := jm_bdo H
  refine jm_go.call 1 (d := d + 1) (b := true) (u := 113) (as := [.ref 113, .int s0]) (pc' := 91) (ls' := [some (.ref 113), none, some (.int v2), some (.int v3), some (.int v4), none, none, none, none]) (st' := []) (t' := (jm_S0 L, M, J)) (fun _ _ => rfl) rfl rfl (g113 L (d + 1) M J s0 _ h13) ?_
  rcases jm_bro H with ⟨h14, H⟩ | ⟨h14, H⟩
  · refine jm_go.brt 1 (b := !decide (q12.1 = 0)) (p1 := 98) (l1 := [some (.ref 113), none, some (.int v2), some (.int v3), some (.int v4), none, none, none, none]) (s1 := []) (t1 := (jm_S0 L, M, q12.2)) (p2 := 94) (l2 := [some (.ref 113), none, some (.int v2), some (.int v3), some (.int v4), none, none, none, none]) (s2 := []) (t2 := (jm_S0 L, M, q12.2)) (fun _ _ => rfl) h14 ?_
    refine jm_go.blk 1 (pc' := 99) (ls' := [some (.ref 113), none, some (.int v2), some (.int v3), some (.int v4), none, none, none, none]) (st' := [.int 0]) (t' := (jm_S0 L, M, q12.2)) (fun _ _ => rfl) ?_
    exact g115_99 L d M J _ hkb _ hke0 M q12.2 v2 v3 v4 0 _ H
  · refine jm_go.brf 1 (b := !decide (q12.1 = 0)) (p1 := 98) (l1 := [some (.ref 113), none, some (.int v2), some (.int v3), some (.int v4), none, none, none, none]) (s1 := []) (t1 := (jm_S0 L, M, q12.2)) (p2 := 94) (l2 := [some (.ref 113), none, some (.int v2), some (.int v3), some (.int v4), none, none, none, none]) (s2 := []) (t2 := (jm_S0 L, M, q12.2)) (fun _ _ => rfl) h14 ?_
    refine jm_go.blk 2 (pc' := 99) (ls' := [some (.ref 113), none, some (.int v2), some (.int v3), some (.int v4), none, none, none, none]) (st' := [.int 1]) (t' := (jm_S0 L, M, q12.2)) (fun _ _ => rfl) ?_
    exact g115_99 L d M J _ hkb _ hke0 M q12.2 v2 v3 v4 1 _ H

def f115_75  (kb : jm_MM → jm_JJ → Int32 → Int32 → Option (Int32 × jm_MM × jm_JJ)) (ke0 : jm_MM → jm_JJ → Int32 → Option (Int32 × jm_MM × jm_JJ)) (M : jm_MM) (J : jm_JJ) (v2 : Int32) (v3 : Int32) (s0 : Int32) : Option (Int32 × jm_MM × jm_JJ) := bif decide (v2 ≤ 0) then (f115_88  kb ke0 M J v2 v3 s0 4) else (f115_88  kb ke0 M J v2 v3 s0 16)
set_option maxRecDepth 100000 in
theorem g115_75 (L : Nat) (d : Nat) (_M : jm_MM) (_J : jm_JJ) (kb : jm_MM → jm_JJ → Int32 → Int32 → Option (Int32 × jm_MM × jm_JJ)) (hkb : ∀ (M : jm_MM) (J : jm_JJ) (v2 : Int32) (v3 : Int32) (r : Int32 × jm_MM × jm_JJ), kb M J v2 v3 = some r → jm_go (d + 2) (jm_G 115) 46 [some (.ref 113), none, some (.int v2), some (.int v3), none, none, none, none, none] [] (jm_S0 L, M, J) (some (.int r.1), (jm_S0 L, r.2.1, r.2.2))) (ke0 : jm_MM → jm_JJ → Int32 → Option (Int32 × jm_MM × jm_JJ)) (hke0 : ∀ (M : jm_MM) (J : jm_JJ) (v2 : Int32) (r : Int32 × jm_MM × jm_JJ), ke0 M J v2 = some r → jm_go (d + 2) (jm_G 115) 236 [some (.ref 113), none, some (.int v2), none, none, none, none, none, none] [] (jm_S0 L, M, J) (some (.int r.1), (jm_S0 L, r.2.1, r.2.2))) (M : jm_MM) (J : jm_JJ) (v2 : Int32) (v3 : Int32) (s0 : Int32) (r : Int32 × jm_MM × jm_JJ) (H : f115_75  kb ke0 M J v2 v3 s0 = some r) : jm_go (d + 2) (jm_G 115) 75 [some (.ref 113), none, some (.int v2), some (.int v3), none, none, none, none, none] [.int s0] (jm_S0 L, M, J) (some (.int r.1), (jm_S0 L, r.2.1, r.2.2)) := by
  unfold f115_75 at H
  rcases jm_bro H with ⟨h11, H⟩ | ⟨h11, H⟩
  · refine jm_go.brt 4 (b := decide (v2 ≤ 0)) (p1 := 87) (l1 := [some (.ref 113), none, some (.int v2), some (.int v3), some (.int s0), none, none, none, none]) (s1 := [.ref 113]) (t1 := (jm_S0 L, M, J)) (p2 := 82) (l2 := [some (.ref 113), none, some (.int v2), some (.int v3), some (.int s0), none, none, none, none]) (s2 := [.ref 113]) (t2 := (jm_S0 L, M, J)) (fun _ _ => rfl) h11 ?_
    refine jm_go.blk 1 (pc' := 88) (ls' := [some (.ref 113), none, some (.int v2), some (.int v3), some (.int s0), none, none, none, none]) (st' := [.int 4, .ref 113]) (t' := (jm_S0 L, M, J)) (fun _ _ => rfl) ?_
    exact g115_88 L d M J _ hkb _ hke0 M J v2 v3 s0 4 _ H
  · refine jm_go.brf 4 (b := decide (v2 ≤ 0)) (p1 := 87) (l1 := [some (.ref 113), none, some (.int v2), some (.int v3), some (.int s0), none, none, none, none]) (s1 := [.ref 113]) (t1 := (jm_S0 L, M, J)) (p2 := 82) (l2 := [some (.ref 113), none, some (.int v2), some (.int v3), some (.int s0), none, none, none, none]) (s2 := [.ref 113]) (t2 := (jm_S0 L, M, J)) (fun _ _ => rfl) h11 ?_
    refine jm_go.blk 2 (pc' := 88) (ls' := [some (.ref 113), none, some (.int v2), some (.int v3), some (.int s0), none, none, none, none]) (st' := [.int 16, .ref 113]) (t' := (jm_S0 L, M, J)) (fun _ _ => rfl) ?_
    exact g115_88 L d M J _ hkb _ hke0 M J v2 v3 s0 16 _ H

def f115_74  (kb : jm_MM → jm_JJ → Int32 → Int32 → Option (Int32 × jm_MM × jm_JJ)) (ke0 : jm_MM → jm_JJ → Int32 → Option (Int32 × jm_MM × jm_JJ)) (M : jm_MM) (J : jm_JJ) (v2 : Int32) (v3 : Int32) : Option (Int32 × jm_MM × jm_JJ) := f115_75  kb ke0 M J v2 v3 0
set_option maxRecDepth 100000 in
theorem g115_74 (L : Nat) (d : Nat) (_M : jm_MM) (_J : jm_JJ) (kb : jm_MM → jm_JJ → Int32 → Int32 → Option (Int32 × jm_MM × jm_JJ)) (hkb : ∀ (M : jm_MM) (J : jm_JJ) (v2 : Int32) (v3 : Int32) (r : Int32 × jm_MM × jm_JJ), kb M J v2 v3 = some r → jm_go (d + 2) (jm_G 115) 46 [some (.ref 113), none, some (.int v2), some (.int v3), none, none, none, none, none] [] (jm_S0 L, M, J) (some (.int r.1), (jm_S0 L, r.2.1, r.2.2))) (ke0 : jm_MM → jm_JJ → Int32 → Option (Int32 × jm_MM × jm_JJ)) (hke0 : ∀ (M : jm_MM) (J : jm_JJ) (v2 : Int32) (r : Int32 × jm_MM × jm_JJ), ke0 M J v2 = some r → jm_go (d + 2) (jm_G 115) 236 [some (.ref 113), none, some (.int v2), none, none, none, none, none, none] [] (jm_S0 L, M, J) (some (.int r.1), (jm_S0 L, r.2.1, r.2.2))) (M : jm_MM) (J : jm_JJ) (v2 : Int32) (v3 : Int32) (r : Int32 × jm_MM × jm_JJ) (H : f115_74  kb ke0 M J v2 v3 = some r) : jm_go (d + 2) (jm_G 115) 74 [some (.ref 113), none, some (.int v2), some (.int v3), none, none, none, none, none] [] (jm_S0 L, M, J) (some (.int r.1), (jm_S0 L, r.2.1, r.2.2)) := by
  unfold f115_74 at H
  refine jm_go.blk 1 (pc' := 75) (ls' := [some (.ref 113), none, some (.int v2), some (.int v3), none, none, none, none, none]) (st' := [.int 0]) (t' := (jm_S0 L, M, J)) (fun _ _ => rfl) ?_
  exact g115_75 L d M J _ hkb _ hke0 M J v2 v3 0 _ H

def f115_46  (ke0 : jm_MM → jm_JJ → Int32 → Option (Int32 × jm_MM × jm_JJ)) : Nat → jm_MM → jm_JJ → Int32 → Int32 → Option (Int32 × jm_MM × jm_JJ)
  | 0, _, _, _, _ => none
  | n0 + 1, M, J, v2, v3 => bif decide (24 ≤ v3) then (ke0 M J v2) else (bif decide (v2 ≤ 0) then (f115_74  (f115_46  ke0 n0) ke0 M J v2 v3) else (jm_bd (f102 M (v2 - 1)) (fun q41 => jm_bd (f94 M q41 v3) (fun q43 => bif decide (q43 = 0) then (f115_74  (f115_46  ke0 n0) ke0 M J v2 v3) else (f115_75  (f115_46  ke0 n0) ke0 M J v2 v3 1)))))
set_option maxRecDepth 100000 in
theorem g115_46 (L : Nat) (d : Nat) (_M : jm_MM) (_J : jm_JJ) (ke0 : jm_MM → jm_JJ → Int32 → Option (Int32 × jm_MM × jm_JJ)) (hke0 : ∀ (M : jm_MM) (J : jm_JJ) (v2 : Int32) (r : Int32 × jm_MM × jm_JJ), ke0 M J v2 = some r → jm_go (d + 2) (jm_G 115) 236 [some (.ref 113), none, some (.int v2), none, none, none, none, none, none] [] (jm_S0 L, M, J) (some (.int r.1), (jm_S0 L, r.2.1, r.2.2))) : ∀ (n0 : Nat) (M : jm_MM) (J : jm_JJ) (v2 : Int32) (v3 : Int32) (r : Int32 × jm_MM × jm_JJ), f115_46  ke0 n0 M J v2 v3 = some r → jm_go (d + 2) (jm_G 115) 46 [some (.ref 113), none, some (.int v2), some (.int v3), none, none, none, none, none] [] (jm_S0 L, M, J) (some (.int r.1), (jm_S0 L, r.2.1, r.2.2)) := by
  intro n0
  induction n0 with
  | zero => intro M J v2 v3 r H; cases H
  | succ n0 ih =>
    intro M J v2 v3 r H
    have hkb := ih
    unfold f115_46 at H
    rcases jm_bro H with ⟨h9, H⟩ | ⟨h9, H⟩
    · refine jm_go.brt 3 (b := decide (24 ≤ v3)) (p1 := 236) (l1 := [some (.ref 113), none, some (.int v2), some (.int v3), none, none, none, none, none]) (s1 := []) (t1 := (jm_S0 L, M, J)) (p2 := 52) (l2 := [some (.ref 113), none, some (.int v2), some (.int v3), none, none, none, none, none]) (s2 := []) (t2 := (jm_S0 L, M, J)) (fun _ _ => rfl) h9 ?_
      refine jm_go.lab (ls' := [some (.ref 113), none, some (.int v2), none, none, none, none, none, none]) (fun i hi => by cases hi; rfl) ?_
      exact hke0 M J v2 _ H
    · refine jm_go.brf 3 (b := decide (24 ≤ v3)) (p1 := 236) (l1 := [some (.ref 113), none, some (.int v2), some (.int v3), none, none, none, none, none]) (s1 := []) (t1 := (jm_S0 L, M, J)) (p2 := 52) (l2 := [some (.ref 113), none, some (.int v2), some (.int v3), none, none, none, none, none]) (s2 := []) (t2 := (jm_S0 L, M, J)) (fun _ _ => rfl) h9 ?_
      rcases jm_bro H with ⟨h10, H⟩ | ⟨h10, H⟩
      · refine jm_go.brt 2 (b := decide (v2 ≤ 0)) (p1 := 74) (l1 := [some (.ref 113), none, some (.int v2), some (.int v3), none, none, none, none, none]) (s1 := []) (t1 := (jm_S0 L, M, J)) (p2 := 56) (l2 := [some (.ref 113), none, some (.int v2), some (.int v3), none, none, none, none, none]) (s2 := []) (t2 := (jm_S0 L, M, J)) (fun _ _ => rfl) h10 ?_
        exact g115_74 L d M J _ hkb _ hke0 M J v2 v3 _ H
      · refine jm_go.brf 2 (b := decide (v2 ≤ 0)) (p1 := 74) (l1 := [some (.ref 113), none, some (.int v2), some (.int v3), none, none, none, none, none]) (s1 := []) (t1 := (jm_S0 L, M, J)) (p2 := 56) (l2 := [some (.ref 113), none, some (.int v2), some (.int v3), none, none, none, none, none]) (s2 := []) (t2 := (jm_S0 L, M, J)) (fun _ _ => rfl) h10 ?_
        obtain ⟨q41, h42, H⟩ := jm_bdo H
        refine jm_go.call 5 (d := d + 1) (b := true) (u := 102) (as := [.ref 113, .int (v2 - 1)]) (pc' := 63) (ls' := [some (.ref 113), none, some (.int v2), some (.int v3), none, none, none, none, none]) (st' := []) (t' := (jm_S0 L, M, J)) (fun _ _ => rfl) rfl rfl (g102 L d M J (v2 - 1) _ h42) ?_
        obtain ⟨q43, h44, H⟩ := jm_bdo H
        refine jm_go.call 2 (d := d + 1) (b := true) (u := 94) (as := [.int q41, .int v3]) (pc' := 67) (ls' := [some (.ref 113), none, some (.int v2), some (.int v3), none, none, none, none, none]) (st' := []) (t' := (jm_S0 L, M, J)) (fun _ _ => rfl) rfl rfl (g94 L (d + 1) M J q41 v3 _ h44) ?_
        rcases jm_bro H with ⟨h45, H⟩ | ⟨h45, H⟩
        · refine jm_go.brt 1 (b := decide (q43 = 0)) (p1 := 74) (l1 := [some (.ref 113), none, some (.int v2), some (.int v3), none, none, none, none, none]) (s1 := []) (t1 := (jm_S0 L, M, J)) (p2 := 70) (l2 := [some (.ref 113), none, some (.int v2), some (.int v3), none, none, none, none, none]) (s2 := []) (t2 := (jm_S0 L, M, J)) (fun _ _ => rfl) h45 ?_
          exact g115_74 L d M J _ hkb _ hke0 M J v2 v3 _ H
        · refine jm_go.brf 1 (b := decide (q43 = 0)) (p1 := 74) (l1 := [some (.ref 113), none, some (.int v2), some (.int v3), none, none, none, none, none]) (s1 := []) (t1 := (jm_S0 L, M, J)) (p2 := 70) (l2 := [some (.ref 113), none, some (.int v2), some (.int v3), none, none, none, none, none]) (s2 := []) (t2 := (jm_S0 L, M, J)) (fun _ _ => rfl) h45 ?_
          refine jm_go.blk 2 (pc' := 75) (ls' := [some (.ref 113), none, some (.int v2), some (.int v3), none, none, none, none, none]) (st' := [.int 1]) (t' := (jm_S0 L, M, J)) (fun _ _ => rfl) ?_
          exact g115_75 L d M J _ hkb _ hke0 M J v2 v3 1 _ H

/-- X8_drift -/
def f115 (M : jm_MM) (J : jm_JJ) (x0 : Int32) : Option (Int32 × jm_MM × jm_JJ) := jm_bd (f93 M (Int32.toInt64 x0) 1 999999) (fun q1 => bif !decide (q1 = 0) then (bif !decide ((M 114 2) = 6) then (jm_bd (f100 M) (fun q5 => jm_bd (f106 q5) (fun q7 => f115_46  (fun Me46 Je47 ve48 => jm_bd (f102 Me46 ve48) (fun q49 => jm_bd (f95 Me46 q49) (fun q51 => some (q51, Me46, Je47)))) jm_F q7.2 (jm_upL J 113 3 (Int32.toInt64 x0)) q7.1 0))) else (some ((-1000000004), M, J))) else (some ((-1000000002), M, J)))
set_option maxRecDepth 100000 in
theorem g115 (L : Nat) (d : Nat) (M : jm_MM) (J : jm_JJ) (x0 : Int32) (r : Int32 × jm_MM × jm_JJ) (H : f115 M J x0 = some r) : jm_go (d + 2) (jm_G 115) 0 (jm_en 9 [.ref 113, .int x0]) [] (jm_S0 L, M, J) (some (.int r.1), (jm_S0 L, r.2.1, r.2.2)) := by
  unfold f115 at H
  obtain ⟨q1, h2, H⟩ := jm_bdo H
  refine jm_go.call 5 (d := d + 1) (b := true) (u := 93) (as := [.long (Int32.toInt64 x0), .long 1, .long 999999]) (pc' := 9) (ls' := [some (.ref 113), some (.int x0), none, none, none, none, none, none, none]) (st' := []) (t' := (jm_S0 L, M, J)) (fun _ _ => rfl) rfl rfl (g93 L (d + 1) M J (Int32.toInt64 x0) 1 999999 _ h2) ?_
  rcases jm_bro H with ⟨h3, H⟩ | ⟨h3, H⟩
  · refine jm_go.brt 1 (b := !decide (q1 = 0)) (p1 := 15) (l1 := [some (.ref 113), some (.int x0), none, none, none, none, none, none, none]) (s1 := []) (t1 := (jm_S0 L, M, J)) (p2 := 12) (l2 := [some (.ref 113), some (.int x0), none, none, none, none, none, none, none]) (s2 := []) (t2 := (jm_S0 L, M, J)) (fun _ _ => rfl) h3 ?_
    rcases jm_bro H with ⟨h4, H⟩ | ⟨h4, H⟩
    · refine jm_go.brt 6 (b := !decide ((M 114 2) = 6)) (p1 := 29) (l1 := [some (.ref 113), some (.int x0), none, none, none, none, none, none, none]) (s1 := []) (t1 := (jm_S0 L, M, J)) (p2 := 26) (l2 := [some (.ref 113), some (.int x0), none, none, none, none, none, none, none]) (s2 := []) (t2 := (jm_S0 L, M, J)) (fun _ _ => rfl) h4 ?_
      obtain ⟨q5, h6, H⟩ := jm_bdo H
      refine jm_go.call 2 (d := d + 1) (b := true) (u := 100) (as := [.ref 113]) (pc' := 33) (ls' := [some (.ref 113), some (.int x0), none, none, none, none, none, none, none]) (st' := []) (t' := (jm_S0 L, M, J)) (fun _ _ => rfl) rfl rfl (g100 L d M J _ h6) ?_
      obtain ⟨q7, h8, H⟩ := jm_bdo H
      refine jm_go.call 6 (d := d + 1) (b := true) (u := 106) (as := [.ref 113]) (pc' := 43) (ls' := [some (.ref 113), some (.int x0), none, none, none, none, none, none, none]) (st' := []) (t' := (jm_S0 L, q5, (jm_upL J 113 3 (Int32.toInt64 x0)))) (fun _ _ => rfl) rfl rfl (g106 L d q5 (jm_upL J 113 3 (Int32.toInt64 x0)) _ h8) ?_
      refine jm_go.blk 3 (pc' := 46) (ls' := [some (.ref 113), some (.int x0), some (.int q7.1), some (.int 0), none, none, none, none, none]) (st' := []) (t' := (jm_S0 L, q7.2, (jm_upL J 113 3 (Int32.toInt64 x0)))) (fun _ _ => rfl) ?_
      refine jm_go.lab (ls' := [some (.ref 113), none, some (.int q7.1), some (.int 0), none, none, none, none, none]) (fun i hi => by cases hi; rfl) ?_
      exact g115_46 L d M J
        _ (fun Me46 Je47 ve48 r H => by
          obtain ⟨q49, h50, H⟩ := jm_bdo H
          refine jm_go.call 3 (d := d + 1) (b := true) (u := 102) (as := [.ref 113, .int ve48]) (pc' := 241) (ls' := [some (.ref 113), none, some (.int ve48), none, none, none, none, none, none]) (st' := []) (t' := (jm_S0 L, Me46, Je47)) (fun _ _ => rfl) rfl rfl (g102 L d Me46 Je47 ve48 _ h50) ?_
          obtain ⟨q51, h52, H⟩ := jm_bdo H
          refine jm_go.call 1 (d := d + 1) (b := true) (u := 95) (as := [.int q49]) (pc' := 244) (ls' := [some (.ref 113), none, some (.int ve48), none, none, none, none, none, none]) (st' := []) (t' := (jm_S0 L, Me46, Je47)) (fun _ _ => rfl) rfl rfl (g95 L (d + 1) Me46 Je47 q49 _ h52) ?_
          have H := Option.some.inj H
          subst H
          exact jm_go.ret 1 (fun _ _ => rfl)
          )
        _ q7.2 (jm_upL J 113 3 (Int32.toInt64 x0)) q7.1 0 _ H
    · refine jm_go.brf 6 (b := !decide ((M 114 2) = 6)) (p1 := 29) (l1 := [some (.ref 113), some (.int x0), none, none, none, none, none, none, none]) (s1 := []) (t1 := (jm_S0 L, M, J)) (p2 := 26) (l2 := [some (.ref 113), some (.int x0), none, none, none, none, none, none, none]) (s2 := []) (t2 := (jm_S0 L, M, J)) (fun _ _ => rfl) h4 ?_
      have H := Option.some.inj H
      subst H
      exact jm_go.ret 2 (fun _ _ => rfl)
  · refine jm_go.brf 1 (b := !decide (q1 = 0)) (p1 := 15) (l1 := [some (.ref 113), some (.int x0), none, none, none, none, none, none, none]) (s1 := []) (t1 := (jm_S0 L, M, J)) (p2 := 12) (l2 := [some (.ref 113), some (.int x0), none, none, none, none, none, none, none]) (s2 := []) (t2 := (jm_S0 L, M, J)) (fun _ _ => rfl) h3 ?_
    have H := Option.some.inj H
    subst H
    exact jm_go.ret 2 (fun _ _ => rfl)


/-- X8_undo -/
def f116 (M : jm_MM)  : Option (Int32 × jm_MM) := bif !decide ((M 113 2) = 0) then (jm_bd (f99 (jm_up M 113 2 ((M 113 2) - 1)) (963 + (321 * ((jm_up M 113 2 ((M 113 2) - 1)) 113 2))) 0) (fun q2 => some (q2 113 2, q2))) else (some ((-1000000003), M))
set_option maxRecDepth 100000 in
theorem g116 (L : Nat) (d : Nat) (M : jm_MM) (J : jm_JJ)  (r : Int32 × jm_MM) (H : f116 M  = some r) : jm_go (d + 1) (jm_G 116) 0 (jm_en 1 [.ref 113]) [] (jm_S0 L, M, J) (some (.int r.1), (jm_S0 L, r.2, J)) := by
  unfold f116 at H
  rcases jm_bro H with ⟨h1, H⟩ | ⟨h1, H⟩
  · refine jm_go.brt 3 (b := !decide ((M 113 2) = 0)) (p1 := 10) (l1 := [some (.ref 113)]) (s1 := []) (t1 := (jm_S0 L, M, J)) (p2 := 7) (l2 := [some (.ref 113)]) (s2 := []) (t2 := (jm_S0 L, M, J)) (fun _ _ => rfl) h1 ?_
    obtain ⟨q2, h3, H⟩ := jm_bdo H
    refine jm_go.call 15 (d := d) (b := true) (u := 99) (as := [.ref 113, .int (963 + (321 * ((jm_up M 113 2 ((M 113 2) - 1)) 113 2))), .int 0]) (pc' := 37) (ls' := [some (.ref 113)]) (st' := []) (t' := (jm_S0 L, (jm_up M 113 2 ((M 113 2) - 1)), J)) (fun _ _ => rfl) rfl rfl (g99 L d (jm_up M 113 2 ((M 113 2) - 1)) J (963 + (321 * ((jm_up M 113 2 ((M 113 2) - 1)) 113 2))) 0 _ h3) ?_
    have H := Option.some.inj H
    subst H
    exact jm_go.ret 3 (fun _ _ => rfl)
  · refine jm_go.brf 3 (b := !decide ((M 113 2) = 0)) (p1 := 10) (l1 := [some (.ref 113)]) (s1 := []) (t1 := (jm_S0 L, M, J)) (p2 := 7) (l2 := [some (.ref 113)]) (s2 := []) (t2 := (jm_S0 L, M, J)) (fun _ _ => rfl) h1 ?_
    have H := Option.some.inj H
    subst H
    exact jm_go.ret 2 (fun _ _ => rfl)


/-- X8_way -/
def f117 (M : jm_MM) (x0 : Int32) (x1 : Int32) (x2 : Int32) : Option (Int32) := jm_bd (f103 M x0 x1) (fun q1 => jm_bd (f103 M x0 x2) (fun q3 => jm_bd (f104 M x0 x1) (fun q5 => jm_bd (f104 M x0 x2) (fun q7 => some (((q1 - q3) * (q1 - q3)) + ((q5 - q7) * (q5 - q7)))))))
set_option maxRecDepth 100000 in
theorem g117 (L : Nat) (d : Nat) (M : jm_MM) (J : jm_JJ) (x0 : Int32) (x1 : Int32) (x2 : Int32) (r : Int32) (H : f117 M x0 x1 x2 = some r) : jm_go (d + 2) (jm_G 117) 0 (jm_en 6 [.ref 113, .int x0, .int x1, .int x2]) [] (jm_S0 L, M, J) (some (.int r), (jm_S0 L, M, J)) := by
  unfold f117 at H
  obtain ⟨q1, h2, H⟩ := jm_bdo H
  refine jm_go.call 4 (d := d + 1) (b := true) (u := 103) (as := [.ref 113, .int x0, .int x1]) (pc' := 6) (ls' := [some (.ref 113), some (.int x0), some (.int x1), some (.int x2), none, none]) (st' := []) (t' := (jm_S0 L, M, J)) (fun _ _ => rfl) rfl rfl (g103 L d M J x0 x1 _ h2) ?_
  obtain ⟨q3, h4, H⟩ := jm_bdo H
  refine jm_go.call 4 (d := d + 1) (b := true) (u := 103) (as := [.ref 113, .int x0, .int x2]) (pc' := 12) (ls' := [some (.ref 113), some (.int x0), some (.int x1), some (.int x2), none, none]) (st' := [.int q1]) (t' := (jm_S0 L, M, J)) (fun _ _ => rfl) rfl rfl (g103 L d M J x0 x2 _ h4) ?_
  obtain ⟨q5, h6, H⟩ := jm_bdo H
  refine jm_go.call 6 (d := d + 1) (b := true) (u := 104) (as := [.ref 113, .int x0, .int x1]) (pc' := 21) (ls' := [some (.ref 113), some (.int x0), some (.int x1), some (.int x2), some (.int (q1 - q3)), none]) (st' := []) (t' := (jm_S0 L, M, J)) (fun _ _ => rfl) rfl rfl (g104 L d M J x0 x1 _ h6) ?_
  obtain ⟨q7, h8, H⟩ := jm_bdo H
  refine jm_go.call 4 (d := d + 1) (b := true) (u := 104) (as := [.ref 113, .int x0, .int x2]) (pc' := 27) (ls' := [some (.ref 113), some (.int x0), some (.int x1), some (.int x2), some (.int (q1 - q3)), none]) (st' := [.int q5]) (t' := (jm_S0 L, M, J)) (fun _ _ => rfl) rfl rfl (g104 L d M J x0 x2 _ h8) ?_
  have H := Option.some.inj H
  subst H
  exact jm_go.ret 10 (fun _ _ => rfl)


/-- X8_isLinked -/
def f118 (M : jm_MM) (x0 : Int32) (x1 : Int32) (x2 : Int32) (x3 : Int32) : Option (Int32) := bif decide (x1 = x2) then (some 0) else (jm_bd (f117 M x0 x1 x2) (fun q2 => bif decide ((x3 * x3) < q2) then (some 0) else (some 1)))
set_option maxRecDepth 100000 in
theorem g118 (L : Nat) (d : Nat) (M : jm_MM) (J : jm_JJ) (x0 : Int32) (x1 : Int32) (x2 : Int32) (x3 : Int32) (r : Int32) (H : f118 M x0 x1 x2 x3 = some r) : jm_go (d + 3) (jm_G 118) 0 (jm_en 5 [.ref 113, .int x0, .int x1, .int x2, .int x3]) [] (jm_S0 L, M, J) (some (.int r), (jm_S0 L, M, J)) := by
  unfold f118 at H
  rcases jm_bro H with ⟨h1, H⟩ | ⟨h1, H⟩
  · refine jm_go.brt 3 (b := decide (x1 = x2)) (p1 := 24) (l1 := [some (.ref 113), some (.int x0), some (.int x1), some (.int x2), some (.int x3)]) (s1 := []) (t1 := (jm_S0 L, M, J)) (p2 := 5) (l2 := [some (.ref 113), some (.int x0), some (.int x1), some (.int x2), some (.int x3)]) (s2 := []) (t2 := (jm_S0 L, M, J)) (fun _ _ => rfl) h1 ?_
    have H := Option.some.inj H
    subst H
    exact jm_go.retz 2 (b := jm_z1 0) (fun _ _ => rfl) rfl
  · refine jm_go.brf 3 (b := decide (x1 = x2)) (p1 := 24) (l1 := [some (.ref 113), some (.int x0), some (.int x1), some (.int x2), some (.int x3)]) (s1 := []) (t1 := (jm_S0 L, M, J)) (p2 := 5) (l2 := [some (.ref 113), some (.int x0), some (.int x1), some (.int x2), some (.int x3)]) (s2 := []) (t2 := (jm_S0 L, M, J)) (fun _ _ => rfl) h1 ?_
    obtain ⟨q2, h3, H⟩ := jm_bdo H
    refine jm_go.call 5 (d := d + 2) (b := true) (u := 117) (as := [.ref 113, .int x0, .int x1, .int x2]) (pc' := 12) (ls' := [some (.ref 113), some (.int x0), some (.int x1), some (.int x2), some (.int x3)]) (st' := []) (t' := (jm_S0 L, M, J)) (fun _ _ => rfl) rfl rfl (g117 L d M J x0 x1 x2 _ h3) ?_
    rcases jm_bro H with ⟨h4, H⟩ | ⟨h4, H⟩
    · refine jm_go.brt 4 (b := decide ((x3 * x3) < q2)) (p1 := 24) (l1 := [some (.ref 113), some (.int x0), some (.int x1), some (.int x2), some (.int x3)]) (s1 := []) (t1 := (jm_S0 L, M, J)) (p2 := 20) (l2 := [some (.ref 113), some (.int x0), some (.int x1), some (.int x2), some (.int x3)]) (s2 := []) (t2 := (jm_S0 L, M, J)) (fun _ _ => rfl) h4 ?_
      have H := Option.some.inj H
      subst H
      exact jm_go.retz 2 (b := jm_z1 0) (fun _ _ => rfl) rfl
    · refine jm_go.brf 4 (b := decide ((x3 * x3) < q2)) (p1 := 24) (l1 := [some (.ref 113), some (.int x0), some (.int x1), some (.int x2), some (.int x3)]) (s1 := []) (t1 := (jm_S0 L, M, J)) (p2 := 20) (l2 := [some (.ref 113), some (.int x0), some (.int x1), some (.int x2), some (.int x3)]) (s2 := []) (t2 := (jm_S0 L, M, J)) (fun _ _ => rfl) h4 ?_
      have H := Option.some.inj H
      subst H
      exact jm_go.retz 3 (b := jm_z1 1) (fun _ _ => rfl) rfl

def f119_4 (M : jm_MM) (ke0 : Int32 → Option (Int32)) : Nat → Int32 → Int32 → Int32 → Option (Int32)
  | 0, _, _, _ => none
  | n0 + 1, v1, v2, v3 => bif decide (24 ≤ v3) then (ke0 v2) else (jm_bd (f94 M v1 v3) (fun q2 => bif decide (q2 = 0) then ((f119_4 M ke0 n0) v1 (v2 + 0) (v3 + 1)) else (jm_gd (jm_inb (3 + v3) 3531) ((f119_4 M ke0 n0) v1 (v2 + (M 114 ((3 + v3).toNatClampNeg))) (v3 + 1)))))
set_option maxRecDepth 100000 in
theorem g119_4 (L : Nat) (d : Nat) (M : jm_MM) (J : jm_JJ) (ke0 : Int32 → Option (Int32)) (hke0 : ∀  (v2 : Int32) (r : Int32), ke0 v2 = some r → jm_go (d + 1) (jm_G 119) 39 [none, none, some (.int v2), none] [] (jm_S0 L, M, J) (some (.int r), (jm_S0 L, M, J))) : ∀ (n0 : Nat) (v1 : Int32) (v2 : Int32) (v3 : Int32) (r : Int32), f119_4 M ke0 n0 v1 v2 v3 = some r → jm_go (d + 1) (jm_G 119) 4 [some (.ref 113), some (.int v1), some (.int v2), some (.int v3)] [] (jm_S0 L, M, J) (some (.int r), (jm_S0 L, M, J)) := by
  intro n0
  induction n0 with
  | zero => intro v1 v2 v3 r H; cases H
  | succ n0 ih =>
    intro v1 v2 v3 r H
    have hkb := ih
    unfold f119_4 at H
    rcases jm_bro H with ⟨h1, H⟩ | ⟨h1, H⟩
    · refine jm_go.brt 3 (b := decide (24 ≤ v3)) (p1 := 39) (l1 := [some (.ref 113), some (.int v1), some (.int v2), some (.int v3)]) (s1 := []) (t1 := (jm_S0 L, M, J)) (p2 := 10) (l2 := [some (.ref 113), some (.int v1), some (.int v2), some (.int v3)]) (s2 := []) (t2 := (jm_S0 L, M, J)) (fun _ _ => rfl) h1 ?_
      refine jm_go.lab (ls' := [none, none, some (.int v2), none]) (fun i hi => by cases hi; rfl) ?_
      exact hke0 v2 _ H
    · refine jm_go.brf 3 (b := decide (24 ≤ v3)) (p1 := 39) (l1 := [some (.ref 113), some (.int v1), some (.int v2), some (.int v3)]) (s1 := []) (t1 := (jm_S0 L, M, J)) (p2 := 10) (l2 := [some (.ref 113), some (.int v1), some (.int v2), some (.int v3)]) (s2 := []) (t2 := (jm_S0 L, M, J)) (fun _ _ => rfl) h1 ?_
      obtain ⟨q2, h3, H⟩ := jm_bdo H
      refine jm_go.call 4 (d := d) (b := true) (u := 94) (as := [.int v1, .int v3]) (pc' := 16) (ls' := [some (.ref 113), some (.int v1), some (.int v2), some (.int v3)]) (st' := [.int v2]) (t' := (jm_S0 L, M, J)) (fun _ _ => rfl) rfl rfl (g94 L d M J v1 v3 _ h3) ?_
      rcases jm_bro H with ⟨h4, H⟩ | ⟨h4, H⟩
      · refine jm_go.brt 1 (b := decide (q2 = 0)) (p1 := 30) (l1 := [some (.ref 113), some (.int v1), some (.int v2), some (.int v3)]) (s1 := [.int v2]) (t1 := (jm_S0 L, M, J)) (p2 := 19) (l2 := [some (.ref 113), some (.int v1), some (.int v2), some (.int v3)]) (s2 := [.int v2]) (t2 := (jm_S0 L, M, J)) (fun _ _ => rfl) h4 ?_
        refine jm_go.blk 5 (pc' := 4) (ls' := [some (.ref 113), some (.int v1), some (.int (v2 + 0)), some (.int (v3 + 1))]) (st' := []) (t' := (jm_S0 L, M, J)) (fun _ _ => rfl) ?_
        exact hkb v1 (v2 + 0) (v3 + 1) _ H
      · refine jm_go.brf 1 (b := decide (q2 = 0)) (p1 := 30) (l1 := [some (.ref 113), some (.int v1), some (.int v2), some (.int v3)]) (s1 := [.int v2]) (t1 := (jm_S0 L, M, J)) (p2 := 19) (l2 := [some (.ref 113), some (.int v1), some (.int v2), some (.int v3)]) (s2 := [.int v2]) (t2 := (jm_S0 L, M, J)) (fun _ _ => rfl) h4 ?_
        obtain ⟨h5, H⟩ := jm_gdo H
        refine jm_go.grd 6 (b := jm_inb (3 + v3) 3531) (pc' := 27) (ls' := [some (.ref 113), some (.int v1), some (.int v2), some (.int v3)]) (st' := [.int (M 114 ((3 + v3).toNatClampNeg)), .int v2]) (t' := (jm_S0 L, M, J)) (fun _ _ => rfl) h5 ?_
        refine jm_go.blk 5 (pc' := 4) (ls' := [some (.ref 113), some (.int v1), some (.int (v2 + (M 114 ((3 + v3).toNatClampNeg)))), some (.int (v3 + 1))]) (st' := []) (t' := (jm_S0 L, M, J)) (fun _ _ => rfl) ?_
        exact hkb v1 (v2 + (M 114 ((3 + v3).toNatClampNeg))) (v3 + 1) _ H

/-- X8_weight -/
def f119 (M : jm_MM) (x0 : Int32) : Option (Int32) := f119_4 M (fun ve6 => some ve6) jm_F x0 0 0
set_option maxRecDepth 100000 in
theorem g119 (L : Nat) (d : Nat) (M : jm_MM) (J : jm_JJ) (x0 : Int32) (r : Int32) (H : f119 M x0 = some r) : jm_go (d + 1) (jm_G 119) 0 (jm_en 4 [.ref 113, .int x0]) [] (jm_S0 L, M, J) (some (.int r), (jm_S0 L, M, J)) := by
  unfold f119 at H
  refine jm_go.blk 4 (pc' := 4) (ls' := [some (.ref 113), some (.int x0), some (.int 0), some (.int 0)]) (st' := []) (t' := (jm_S0 L, M, J)) (fun _ _ => rfl) ?_
  exact g119_4 L d M J
    _ (fun ve6 r H => by
      have H := Option.some.inj H
      subst H
      exact jm_go.ret 2 (fun _ _ => rfl)
      )
    _ x0 0 0 _ H

def f120_32 (M : jm_MM) (ke0 : Int32 → Int32 → Int32 → Int32 → Int32 → Int32 → Option (Int32)) : Nat → Int32 → Int32 → Int32 → Int32 → Int32 → Int32 → Int32 → Option (Int32)
  | 0, _, _, _, _, _, _, _ => none
  | n0 + 1, v1, v3, v4, v5, v6, v7, v8 => bif decide (24 ≤ v8) then (ke0 v1 v3 v4 v5 v6 v7) else (jm_bd (f94 M v5 v7) (fun q4 => bif decide (q4 = 0) then (ke0 v1 v3 v4 v5 v6 v7) else (jm_bd (f94 M v3 v8) (fun q7 => bif decide (q7 = 0) then ((f120_32 M ke0 n0) v1 v3 v4 (v5 ||| 0) v6 v7 (v8 + 1)) else (jm_bd (f118 M v1 v7 v8 v4) (fun q10 => bif decide (q10 = 0) then ((f120_32 M ke0 n0) v1 v3 v4 (v5 ||| 0) v6 v7 (v8 + 1)) else ((f120_32 M ke0 n0) v1 v3 v4 (v5 ||| (1 <<< (v8 &&& 31))) v6 v7 (v8 + 1))))))))
set_option maxRecDepth 100000 in
theorem g120_32 (L : Nat) (d : Nat) (M : jm_MM) (J : jm_JJ) (ke0 : Int32 → Int32 → Int32 → Int32 → Int32 → Int32 → Option (Int32)) (hke0 : ∀  (v1 : Int32) (v3 : Int32) (v4 : Int32) (v5 : Int32) (v6 : Int32) (v7 : Int32) (r : Int32), ke0 v1 v3 v4 v5 v6 v7 = some r → jm_go (d + 4) (jm_G 120) 91 [some (.ref 113), some (.int v1), none, some (.int v3), some (.int v4), some (.int v5), some (.int v6), some (.int v7), none] [] (jm_S0 L, M, J) (some (.int r), (jm_S0 L, M, J))) : ∀ (n0 : Nat) (v1 : Int32) (v3 : Int32) (v4 : Int32) (v5 : Int32) (v6 : Int32) (v7 : Int32) (v8 : Int32) (r : Int32), f120_32 M ke0 n0 v1 v3 v4 v5 v6 v7 v8 = some r → jm_go (d + 4) (jm_G 120) 32 [some (.ref 113), some (.int v1), none, some (.int v3), some (.int v4), some (.int v5), some (.int v6), some (.int v7), some (.int v8)] [] (jm_S0 L, M, J) (some (.int r), (jm_S0 L, M, J)) := by
  intro n0
  induction n0 with
  | zero => intro v1 v3 v4 v5 v6 v7 v8 r H; cases H
  | succ n0 ih =>
    intro v1 v3 v4 v5 v6 v7 v8 r H
    have hkb := ih
    unfold f120_32 at H
    rcases jm_bro H with ⟨h3, H⟩ | ⟨h3, H⟩
    · refine jm_go.brt 3 (b := decide (24 ≤ v8)) (p1 := 91) (l1 := [some (.ref 113), some (.int v1), none, some (.int v3), some (.int v4), some (.int v5), some (.int v6), some (.int v7), some (.int v8)]) (s1 := []) (t1 := (jm_S0 L, M, J)) (p2 := 39) (l2 := [some (.ref 113), some (.int v1), none, some (.int v3), some (.int v4), some (.int v5), some (.int v6), some (.int v7), some (.int v8)]) (s2 := []) (t2 := (jm_S0 L, M, J)) (fun _ _ => rfl) h3 ?_
      refine jm_go.lab (ls' := [some (.ref 113), some (.int v1), none, some (.int v3), some (.int v4), some (.int v5), some (.int v6), some (.int v7), none]) (fun i hi => by cases hi; rfl) ?_
      exact hke0 v1 v3 v4 v5 v6 v7 _ H
    · refine jm_go.brf 3 (b := decide (24 ≤ v8)) (p1 := 91) (l1 := [some (.ref 113), some (.int v1), none, some (.int v3), some (.int v4), some (.int v5), some (.int v6), some (.int v7), some (.int v8)]) (s1 := []) (t1 := (jm_S0 L, M, J)) (p2 := 39) (l2 := [some (.ref 113), some (.int v1), none, some (.int v3), some (.int v4), some (.int v5), some (.int v6), some (.int v7), some (.int v8)]) (s2 := []) (t2 := (jm_S0 L, M, J)) (fun _ _ => rfl) h3 ?_
      obtain ⟨q4, h5, H⟩ := jm_bdo H
      refine jm_go.call 3 (d := d + 3) (b := true) (u := 94) (as := [.int v5, .int v7]) (pc' := 46) (ls' := [some (.ref 113), some (.int v1), none, some (.int v3), some (.int v4), some (.int v5), some (.int v6), some (.int v7), some (.int v8)]) (st' := []) (t' := (jm_S0 L, M, J)) (fun _ _ => rfl) rfl rfl (g94 L (d + 3) M J v5 v7 _ h5) ?_
      rcases jm_bro H with ⟨h6, H⟩ | ⟨h6, H⟩
      · refine jm_go.brt 1 (b := decide (q4 = 0)) (p1 := 91) (l1 := [some (.ref 113), some (.int v1), none, some (.int v3), some (.int v4), some (.int v5), some (.int v6), some (.int v7), some (.int v8)]) (s1 := []) (t1 := (jm_S0 L, M, J)) (p2 := 49) (l2 := [some (.ref 113), some (.int v1), none, some (.int v3), some (.int v4), some (.int v5), some (.int v6), some (.int v7), some (.int v8)]) (s2 := []) (t2 := (jm_S0 L, M, J)) (fun _ _ => rfl) h6 ?_
        refine jm_go.lab (ls' := [some (.ref 113), some (.int v1), none, some (.int v3), some (.int v4), some (.int v5), some (.int v6), some (.int v7), none]) (fun i hi => by cases hi; rfl) ?_
        exact hke0 v1 v3 v4 v5 v6 v7 _ H
      · refine jm_go.brf 1 (b := decide (q4 = 0)) (p1 := 91) (l1 := [some (.ref 113), some (.int v1), none, some (.int v3), some (.int v4), some (.int v5), some (.int v6), some (.int v7), some (.int v8)]) (s1 := []) (t1 := (jm_S0 L, M, J)) (p2 := 49) (l2 := [some (.ref 113), some (.int v1), none, some (.int v3), some (.int v4), some (.int v5), some (.int v6), some (.int v7), some (.int v8)]) (s2 := []) (t2 := (jm_S0 L, M, J)) (fun _ _ => rfl) h6 ?_
        obtain ⟨q7, h8, H⟩ := jm_bdo H
        refine jm_go.call 4 (d := d + 3) (b := true) (u := 94) (as := [.int v3, .int v8]) (pc' := 57) (ls' := [some (.ref 113), some (.int v1), none, some (.int v3), some (.int v4), some (.int v5), some (.int v6), some (.int v7), some (.int v8)]) (st' := [.int v5]) (t' := (jm_S0 L, M, J)) (fun _ _ => rfl) rfl rfl (g94 L (d + 3) M J v3 v8 _ h8) ?_
        rcases jm_bro H with ⟨h9, H⟩ | ⟨h9, H⟩
        · refine jm_go.brt 1 (b := decide (q7 = 0)) (p1 := 81) (l1 := [some (.ref 113), some (.int v1), none, some (.int v3), some (.int v4), some (.int v5), some (.int v6), some (.int v7), some (.int v8)]) (s1 := [.int v5]) (t1 := (jm_S0 L, M, J)) (p2 := 60) (l2 := [some (.ref 113), some (.int v1), none, some (.int v3), some (.int v4), some (.int v5), some (.int v6), some (.int v7), some (.int v8)]) (s2 := [.int v5]) (t2 := (jm_S0 L, M, J)) (fun _ _ => rfl) h9 ?_
          refine jm_go.blk 5 (pc' := 32) (ls' := [some (.ref 113), some (.int v1), none, some (.int v3), some (.int v4), some (.int (v5 ||| 0)), some (.int v6), some (.int v7), some (.int (v8 + 1))]) (st' := []) (t' := (jm_S0 L, M, J)) (fun _ _ => rfl) ?_
          exact hkb v1 v3 v4 (v5 ||| 0) v6 v7 (v8 + 1) _ H
        · refine jm_go.brf 1 (b := decide (q7 = 0)) (p1 := 81) (l1 := [some (.ref 113), some (.int v1), none, some (.int v3), some (.int v4), some (.int v5), some (.int v6), some (.int v7), some (.int v8)]) (s1 := [.int v5]) (t1 := (jm_S0 L, M, J)) (p2 := 60) (l2 := [some (.ref 113), some (.int v1), none, some (.int v3), some (.int v4), some (.int v5), some (.int v6), some (.int v7), some (.int v8)]) (s2 := [.int v5]) (t2 := (jm_S0 L, M, J)) (fun _ _ => rfl) h9 ?_
          obtain ⟨q10, h11, H⟩ := jm_bdo H
          refine jm_go.call 6 (d := d + 3) (b := true) (u := 118) (as := [.ref 113, .int v1, .int v7, .int v8, .int v4]) (pc' := 71) (ls' := [some (.ref 113), some (.int v1), none, some (.int v3), some (.int v4), some (.int v5), some (.int v6), some (.int v7), some (.int v8)]) (st' := [.int v5]) (t' := (jm_S0 L, M, J)) (fun _ _ => rfl) rfl rfl (g118 L d M J v1 v7 v8 v4 _ h11) ?_
          rcases jm_bro H with ⟨h12, H⟩ | ⟨h12, H⟩
          · refine jm_go.brt 1 (b := decide (q10 = 0)) (p1 := 81) (l1 := [some (.ref 113), some (.int v1), none, some (.int v3), some (.int v4), some (.int v5), some (.int v6), some (.int v7), some (.int v8)]) (s1 := [.int v5]) (t1 := (jm_S0 L, M, J)) (p2 := 74) (l2 := [some (.ref 113), some (.int v1), none, some (.int v3), some (.int v4), some (.int v5), some (.int v6), some (.int v7), some (.int v8)]) (s2 := [.int v5]) (t2 := (jm_S0 L, M, J)) (fun _ _ => rfl) h12 ?_
            refine jm_go.blk 5 (pc' := 32) (ls' := [some (.ref 113), some (.int v1), none, some (.int v3), some (.int v4), some (.int (v5 ||| 0)), some (.int v6), some (.int v7), some (.int (v8 + 1))]) (st' := []) (t' := (jm_S0 L, M, J)) (fun _ _ => rfl) ?_
            exact hkb v1 v3 v4 (v5 ||| 0) v6 v7 (v8 + 1) _ H
          · refine jm_go.brf 1 (b := decide (q10 = 0)) (p1 := 81) (l1 := [some (.ref 113), some (.int v1), none, some (.int v3), some (.int v4), some (.int v5), some (.int v6), some (.int v7), some (.int v8)]) (s1 := [.int v5]) (t1 := (jm_S0 L, M, J)) (p2 := 74) (l2 := [some (.ref 113), some (.int v1), none, some (.int v3), some (.int v4), some (.int v5), some (.int v6), some (.int v7), some (.int v8)]) (s2 := [.int v5]) (t2 := (jm_S0 L, M, J)) (fun _ _ => rfl) h12 ?_
            refine jm_go.blk 8 (pc' := 32) (ls' := [some (.ref 113), some (.int v1), none, some (.int v3), some (.int v4), some (.int (v5 ||| (1 <<< (v8 &&& 31)))), some (.int v6), some (.int v7), some (.int (v8 + 1))]) (st' := []) (t' := (jm_S0 L, M, J)) (fun _ _ => rfl) ?_
            exact hkb v1 v3 v4 (v5 ||| (1 <<< (v8 &&& 31))) v6 v7 (v8 + 1) _ H

def f120_22 (M : jm_MM) (ke0 : Int32 → Int32 → Int32 → Int32 → Int32 → Option (Int32)) : Nat → Int32 → Int32 → Int32 → Int32 → Int32 → Int32 → Option (Int32)
  | 0, _, _, _, _, _, _ => none
  | n0 + 1, v1, v3, v4, v5, v6, v7 => bif decide (24 ≤ v7) then (ke0 v1 v3 v4 v5 v6) else (f120_32 M (fun ve13 ve14 ve15 ve16 ve17 ve18 => (f120_22 M ke0 n0) ve13 ve14 ve15 ve16 ve17 (ve18 + 1)) jm_F v1 v3 v4 v5 v6 v7 0)
set_option maxRecDepth 100000 in
theorem g120_22 (L : Nat) (d : Nat) (M : jm_MM) (J : jm_JJ) (ke0 : Int32 → Int32 → Int32 → Int32 → Int32 → Option (Int32)) (hke0 : ∀  (v1 : Int32) (v3 : Int32) (v4 : Int32) (v5 : Int32) (v6 : Int32) (r : Int32), ke0 v1 v3 v4 v5 v6 = some r → jm_go (d + 4) (jm_G 120) 97 [some (.ref 113), some (.int v1), none, some (.int v3), some (.int v4), some (.int v5), some (.int v6), none, none] [] (jm_S0 L, M, J) (some (.int r), (jm_S0 L, M, J))) : ∀ (n0 : Nat) (v1 : Int32) (v3 : Int32) (v4 : Int32) (v5 : Int32) (v6 : Int32) (v7 : Int32) (r : Int32), f120_22 M ke0 n0 v1 v3 v4 v5 v6 v7 = some r → jm_go (d + 4) (jm_G 120) 22 [some (.ref 113), some (.int v1), none, some (.int v3), some (.int v4), some (.int v5), some (.int v6), some (.int v7), none] [] (jm_S0 L, M, J) (some (.int r), (jm_S0 L, M, J)) := by
  intro n0
  induction n0 with
  | zero => intro v1 v3 v4 v5 v6 v7 r H; cases H
  | succ n0 ih =>
    intro v1 v3 v4 v5 v6 v7 r H
    have hkb := ih
    unfold f120_22 at H
    rcases jm_bro H with ⟨h2, H⟩ | ⟨h2, H⟩
    · refine jm_go.brt 3 (b := decide (24 ≤ v7)) (p1 := 97) (l1 := [some (.ref 113), some (.int v1), none, some (.int v3), some (.int v4), some (.int v5), some (.int v6), some (.int v7), none]) (s1 := []) (t1 := (jm_S0 L, M, J)) (p2 := 29) (l2 := [some (.ref 113), some (.int v1), none, some (.int v3), some (.int v4), some (.int v5), some (.int v6), some (.int v7), none]) (s2 := []) (t2 := (jm_S0 L, M, J)) (fun _ _ => rfl) h2 ?_
      refine jm_go.lab (ls' := [some (.ref 113), some (.int v1), none, some (.int v3), some (.int v4), some (.int v5), some (.int v6), none, none]) (fun i hi => by cases hi; rfl) ?_
      exact hke0 v1 v3 v4 v5 v6 _ H
    · refine jm_go.brf 3 (b := decide (24 ≤ v7)) (p1 := 97) (l1 := [some (.ref 113), some (.int v1), none, some (.int v3), some (.int v4), some (.int v5), some (.int v6), some (.int v7), none]) (s1 := []) (t1 := (jm_S0 L, M, J)) (p2 := 29) (l2 := [some (.ref 113), some (.int v1), none, some (.int v3), some (.int v4), some (.int v5), some (.int v6), some (.int v7), none]) (s2 := []) (t2 := (jm_S0 L, M, J)) (fun _ _ => rfl) h2 ?_
      refine jm_go.blk 2 (pc' := 32) (ls' := [some (.ref 113), some (.int v1), none, some (.int v3), some (.int v4), some (.int v5), some (.int v6), some (.int v7), some (.int 0)]) (st' := []) (t' := (jm_S0 L, M, J)) (fun _ _ => rfl) ?_
      exact g120_32 L d M J
        _ (fun ve13 ve14 ve15 ve16 ve17 ve18 r H => by
          refine jm_go.blk 2 (pc' := 22) (ls' := [some (.ref 113), some (.int ve13), none, some (.int ve14), some (.int ve15), some (.int ve16), some (.int ve17), some (.int (ve18 + 1)), none]) (st' := []) (t' := (jm_S0 L, M, J)) (fun _ _ => rfl) ?_
          exact hkb ve13 ve14 ve15 ve16 ve17 (ve18 + 1) _ H
          )
        _ v1 v3 v4 v5 v6 v7 0 _ H

def f120_8 (M : jm_MM) (ke0 : Int32 → Option (Int32)) : Nat → Int32 → Int32 → Int32 → Int32 → Int32 → Option (Int32)
  | 0, _, _, _, _, _ => none
  | n0 + 1, v1, v3, v4, v5, v6 => bif decide (v6 = v5) then (ke0 v5) else (f120_22 M (fun ve19 ve20 ve21 ve22 ve23 => (f120_8 M ke0 n0) ve19 ve20 ve21 ve22 ve23) jm_F v1 v3 v4 v5 v5 0)
set_option maxRecDepth 100000 in
theorem g120_8 (L : Nat) (d : Nat) (M : jm_MM) (J : jm_JJ) (ke0 : Int32 → Option (Int32)) (hke0 : ∀  (v5 : Int32) (r : Int32), ke0 v5 = some r → jm_go (d + 4) (jm_G 120) 100 [none, none, none, none, none, some (.int v5), none, none, none] [] (jm_S0 L, M, J) (some (.int r), (jm_S0 L, M, J))) : ∀ (n0 : Nat) (v1 : Int32) (v3 : Int32) (v4 : Int32) (v5 : Int32) (v6 : Int32) (r : Int32), f120_8 M ke0 n0 v1 v3 v4 v5 v6 = some r → jm_go (d + 4) (jm_G 120) 8 [some (.ref 113), some (.int v1), none, some (.int v3), some (.int v4), some (.int v5), some (.int v6), none, none] [] (jm_S0 L, M, J) (some (.int r), (jm_S0 L, M, J)) := by
  intro n0
  induction n0 with
  | zero => intro v1 v3 v4 v5 v6 r H; cases H
  | succ n0 ih =>
    intro v1 v3 v4 v5 v6 r H
    have hkb := ih
    unfold f120_8 at H
    rcases jm_bro H with ⟨h1, H⟩ | ⟨h1, H⟩
    · refine jm_go.brt 3 (b := decide (v6 = v5)) (p1 := 100) (l1 := [some (.ref 113), some (.int v1), none, some (.int v3), some (.int v4), some (.int v5), some (.int v6), none, none]) (s1 := []) (t1 := (jm_S0 L, M, J)) (p2 := 15) (l2 := [some (.ref 113), some (.int v1), none, some (.int v3), some (.int v4), some (.int v5), some (.int v6), none, none]) (s2 := []) (t2 := (jm_S0 L, M, J)) (fun _ _ => rfl) h1 ?_
      refine jm_go.lab (ls' := [none, none, none, none, none, some (.int v5), none, none, none]) (fun i hi => by cases hi; rfl) ?_
      exact hke0 v5 _ H
    · refine jm_go.brf 3 (b := decide (v6 = v5)) (p1 := 100) (l1 := [some (.ref 113), some (.int v1), none, some (.int v3), some (.int v4), some (.int v5), some (.int v6), none, none]) (s1 := []) (t1 := (jm_S0 L, M, J)) (p2 := 15) (l2 := [some (.ref 113), some (.int v1), none, some (.int v3), some (.int v4), some (.int v5), some (.int v6), none, none]) (s2 := []) (t2 := (jm_S0 L, M, J)) (fun _ _ => rfl) h1 ?_
      refine jm_go.blk 4 (pc' := 22) (ls' := [some (.ref 113), some (.int v1), none, some (.int v3), some (.int v4), some (.int v5), some (.int v5), some (.int 0), none]) (st' := []) (t' := (jm_S0 L, M, J)) (fun _ _ => rfl) ?_
      exact g120_22 L d M J
        _ (fun ve19 ve20 ve21 ve22 ve23 r H => by
          refine jm_go.blk 1 (pc' := 8) (ls' := [some (.ref 113), some (.int ve19), none, some (.int ve20), some (.int ve21), some (.int ve22), some (.int ve23), none, none]) (st' := []) (t' := (jm_S0 L, M, J)) (fun _ _ => rfl) ?_
          exact hkb ve19 ve20 ve21 ve22 ve23 _ H
          )
        _ v1 v3 v4 v5 v5 0 _ H

/-- X8_clumpOf -/
def f120 (M : jm_MM) (x0 : Int32) (x1 : Int32) (x2 : Int32) (x3 : Int32) : Option (Int32) := f120_8 M (fun ve24 => some ve24) jm_F x0 x2 x3 (1 <<< (x1 &&& 31)) 0
set_option maxRecDepth 100000 in
theorem g120 (L : Nat) (d : Nat) (M : jm_MM) (J : jm_JJ) (x0 : Int32) (x1 : Int32) (x2 : Int32) (x3 : Int32) (r : Int32) (H : f120 M x0 x1 x2 x3 = some r) : jm_go (d + 4) (jm_G 120) 0 (jm_en 9 [.ref 113, .int x0, .int x1, .int x2, .int x3]) [] (jm_S0 L, M, J) (some (.int r), (jm_S0 L, M, J)) := by
  unfold f120 at H
  refine jm_go.blk 6 (pc' := 8) (ls' := [some (.ref 113), some (.int x0), some (.int x1), some (.int x2), some (.int x3), some (.int (1 <<< (x1 &&& 31))), some (.int 0), none, none]) (st' := []) (t' := (jm_S0 L, M, J)) (fun _ _ => rfl) ?_
  refine jm_go.lab (ls' := [some (.ref 113), some (.int x0), none, some (.int x2), some (.int x3), some (.int (1 <<< (x1 &&& 31))), some (.int 0), none, none]) (fun i hi => by cases hi; rfl) ?_
  exact g120_8 L d M J
    _ (fun ve24 r H => by
      have H := Option.some.inj H
      subst H
      exact jm_go.ret 2 (fun _ _ => rfl)
      )
    _ x0 x2 x3 (1 <<< (x1 &&& 31)) 0 _ H

def f121_9 (M : jm_MM) (ke0 : Int32 → Option (Int32)) : Nat → Int32 → Int32 → Int32 → Int32 → Int32 → Int32 → Option (Int32)
  | 0, _, _, _, _, _, _ => none
  | n0 + 1, v1, v2, v3, v4, v5, v6 => bif decide (24 ≤ v6) then (ke0 v4) else (jm_bd (f94 M v5 v6) (fun q2 => bif decide (q2 = 0) then ((f121_9 M ke0 n0) v1 v2 v3 v4 v5 (v6 + 1)) else (jm_bd (f120 M v1 v6 v2 v3) (fun q5 => (f121_9 M ke0 n0) v1 v2 v3 (v4 + 1) (v5 &&& (q5 ^^^ (-1))) (v6 + 1)))))
set_option maxRecDepth 100000 in
theorem g121_9 (L : Nat) (d : Nat) (M : jm_MM) (J : jm_JJ) (ke0 : Int32 → Option (Int32)) (hke0 : ∀  (v4 : Int32) (r : Int32), ke0 v4 = some r → jm_go (d + 5) (jm_G 121) 51 [none, none, none, none, some (.int v4), none, none] [] (jm_S0 L, M, J) (some (.int r), (jm_S0 L, M, J))) : ∀ (n0 : Nat) (v1 : Int32) (v2 : Int32) (v3 : Int32) (v4 : Int32) (v5 : Int32) (v6 : Int32) (r : Int32), f121_9 M ke0 n0 v1 v2 v3 v4 v5 v6 = some r → jm_go (d + 5) (jm_G 121) 9 [some (.ref 113), some (.int v1), some (.int v2), some (.int v3), some (.int v4), some (.int v5), some (.int v6)] [] (jm_S0 L, M, J) (some (.int r), (jm_S0 L, M, J)) := by
  intro n0
  induction n0 with
  | zero => intro v1 v2 v3 v4 v5 v6 r H; cases H
  | succ n0 ih =>
    intro v1 v2 v3 v4 v5 v6 r H
    have hkb := ih
    unfold f121_9 at H
    rcases jm_bro H with ⟨h1, H⟩ | ⟨h1, H⟩
    · refine jm_go.brt 3 (b := decide (24 ≤ v6)) (p1 := 51) (l1 := [some (.ref 113), some (.int v1), some (.int v2), some (.int v3), some (.int v4), some (.int v5), some (.int v6)]) (s1 := []) (t1 := (jm_S0 L, M, J)) (p2 := 16) (l2 := [some (.ref 113), some (.int v1), some (.int v2), some (.int v3), some (.int v4), some (.int v5), some (.int v6)]) (s2 := []) (t2 := (jm_S0 L, M, J)) (fun _ _ => rfl) h1 ?_
      refine jm_go.lab (ls' := [none, none, none, none, some (.int v4), none, none]) (fun i hi => by cases hi; rfl) ?_
      exact hke0 v4 _ H
    · refine jm_go.brf 3 (b := decide (24 ≤ v6)) (p1 := 51) (l1 := [some (.ref 113), some (.int v1), some (.int v2), some (.int v3), some (.int v4), some (.int v5), some (.int v6)]) (s1 := []) (t1 := (jm_S0 L, M, J)) (p2 := 16) (l2 := [some (.ref 113), some (.int v1), some (.int v2), some (.int v3), some (.int v4), some (.int v5), some (.int v6)]) (s2 := []) (t2 := (jm_S0 L, M, J)) (fun _ _ => rfl) h1 ?_
      obtain ⟨q2, h3, H⟩ := jm_bdo H
      refine jm_go.call 3 (d := d + 4) (b := true) (u := 94) (as := [.int v5, .int v6]) (pc' := 23) (ls' := [some (.ref 113), some (.int v1), some (.int v2), some (.int v3), some (.int v4), some (.int v5), some (.int v6)]) (st' := []) (t' := (jm_S0 L, M, J)) (fun _ _ => rfl) rfl rfl (g94 L (d + 4) M J v5 v6 _ h3) ?_
      rcases jm_bro H with ⟨h4, H⟩ | ⟨h4, H⟩
      · refine jm_go.brt 1 (b := decide (q2 = 0)) (p1 := 45) (l1 := [some (.ref 113), some (.int v1), some (.int v2), some (.int v3), some (.int v4), some (.int v5), some (.int v6)]) (s1 := []) (t1 := (jm_S0 L, M, J)) (p2 := 26) (l2 := [some (.ref 113), some (.int v1), some (.int v2), some (.int v3), some (.int v4), some (.int v5), some (.int v6)]) (s2 := []) (t2 := (jm_S0 L, M, J)) (fun _ _ => rfl) h4 ?_
        refine jm_go.blk 2 (pc' := 9) (ls' := [some (.ref 113), some (.int v1), some (.int v2), some (.int v3), some (.int v4), some (.int v5), some (.int (v6 + 1))]) (st' := []) (t' := (jm_S0 L, M, J)) (fun _ _ => rfl) ?_
        exact hkb v1 v2 v3 v4 v5 (v6 + 1) _ H
      · refine jm_go.brf 1 (b := decide (q2 = 0)) (p1 := 45) (l1 := [some (.ref 113), some (.int v1), some (.int v2), some (.int v3), some (.int v4), some (.int v5), some (.int v6)]) (s1 := []) (t1 := (jm_S0 L, M, J)) (p2 := 26) (l2 := [some (.ref 113), some (.int v1), some (.int v2), some (.int v3), some (.int v4), some (.int v5), some (.int v6)]) (s2 := []) (t2 := (jm_S0 L, M, J)) (fun _ _ => rfl) h4 ?_
        obtain ⟨q5, h6, H⟩ := jm_bdo H
        refine jm_go.call 7 (d := d + 4) (b := true) (u := 120) (as := [.ref 113, .int v1, .int v6, .int v2, .int v3]) (pc' := 37) (ls' := [some (.ref 113), some (.int v1), some (.int v2), some (.int v3), some (.int v4), some (.int v5), some (.int v6)]) (st' := [.int v5]) (t' := (jm_S0 L, M, J)) (fun _ _ => rfl) rfl rfl (g120 L d M J v1 v6 v2 v3 _ h6) ?_
        refine jm_go.blk 7 (pc' := 9) (ls' := [some (.ref 113), some (.int v1), some (.int v2), some (.int v3), some (.int (v4 + 1)), some (.int (v5 &&& (q5 ^^^ (-1)))), some (.int (v6 + 1))]) (st' := []) (t' := (jm_S0 L, M, J)) (fun _ _ => rfl) ?_
        exact hkb v1 v2 v3 (v4 + 1) (v5 &&& (q5 ^^^ (-1))) (v6 + 1) _ H

/-- X8_clumpsOf -/
def f121 (M : jm_MM) (x0 : Int32) (x1 : Int32) (x2 : Int32) : Option (Int32) := f121_9 M (fun ve7 => some ve7) jm_F x0 x1 x2 0 x1 0
set_option maxRecDepth 100000 in
theorem g121 (L : Nat) (d : Nat) (M : jm_MM) (J : jm_JJ) (x0 : Int32) (x1 : Int32) (x2 : Int32) (r : Int32) (H : f121 M x0 x1 x2 = some r) : jm_go (d + 5) (jm_G 121) 0 (jm_en 7 [.ref 113, .int x0, .int x1, .int x2]) [] (jm_S0 L, M, J) (some (.int r), (jm_S0 L, M, J)) := by
  unfold f121 at H
  refine jm_go.blk 6 (pc' := 9) (ls' := [some (.ref 113), some (.int x0), some (.int x1), some (.int x2), some (.int 0), some (.int x1), some (.int 0)]) (st' := []) (t' := (jm_S0 L, M, J)) (fun _ _ => rfl) ?_
  exact g121_9 L d M J
    _ (fun ve7 r H => by
      have H := Option.some.inj H
      subst H
      exact jm_go.ret 2 (fun _ _ => rfl)
      )
    _ x0 x1 x2 0 x1 0 _ H

def f122_2 (M : jm_MM) (ke0 : Int32 → Option (Int32)) : Nat → Int32 → Int32 → Option (Int32)
  | 0, _, _ => none
  | n0 + 1, v0, v1 => jm_bd (f94 M v0 v1) (fun q1 => bif !decide (q1 = 0) then (ke0 v1) else ((f122_2 M ke0 n0) v0 (v1 + 1)))
set_option maxRecDepth 100000 in
theorem g122_2 (L : Nat) (d : Nat) (M : jm_MM) (J : jm_JJ) (ke0 : Int32 → Option (Int32)) (hke0 : ∀  (v1 : Int32) (r : Int32), ke0 v1 = some r → jm_go (d + 1) (jm_G 122) 16 [none, some (.int v1)] [] (jm_S0 L, M, J) (some (.int r), (jm_S0 L, M, J))) : ∀ (n0 : Nat) (v0 : Int32) (v1 : Int32) (r : Int32), f122_2 M ke0 n0 v0 v1 = some r → jm_go (d + 1) (jm_G 122) 2 [some (.int v0), some (.int v1)] [] (jm_S0 L, M, J) (some (.int r), (jm_S0 L, M, J)) := by
  intro n0
  induction n0 with
  | zero => intro v0 v1 r H; cases H
  | succ n0 ih =>
    intro v0 v1 r H
    have hkb := ih
    unfold f122_2 at H
    obtain ⟨q1, h2, H⟩ := jm_bdo H
    refine jm_go.call 3 (d := d) (b := true) (u := 94) (as := [.int v0, .int v1]) (pc' := 7) (ls' := [some (.int v0), some (.int v1)]) (st' := []) (t' := (jm_S0 L, M, J)) (fun _ _ => rfl) rfl rfl (g94 L d M J v0 v1 _ h2) ?_
    rcases jm_bro H with ⟨h3, H⟩ | ⟨h3, H⟩
    · refine jm_go.brt 1 (b := !decide (q1 = 0)) (p1 := 16) (l1 := [some (.int v0), some (.int v1)]) (s1 := []) (t1 := (jm_S0 L, M, J)) (p2 := 10) (l2 := [some (.int v0), some (.int v1)]) (s2 := []) (t2 := (jm_S0 L, M, J)) (fun _ _ => rfl) h3 ?_
      refine jm_go.lab (ls' := [none, some (.int v1)]) (fun i hi => by cases hi; rfl) ?_
      exact hke0 v1 _ H
    · refine jm_go.brf 1 (b := !decide (q1 = 0)) (p1 := 16) (l1 := [some (.int v0), some (.int v1)]) (s1 := []) (t1 := (jm_S0 L, M, J)) (p2 := 10) (l2 := [some (.int v0), some (.int v1)]) (s2 := []) (t2 := (jm_S0 L, M, J)) (fun _ _ => rfl) h3 ?_
      refine jm_go.blk 2 (pc' := 2) (ls' := [some (.int v0), some (.int (v1 + 1))]) (st' := []) (t' := (jm_S0 L, M, J)) (fun _ _ => rfl) ?_
      exact hkb v0 (v1 + 1) _ H

/-- X8_lowest -/
def f122 (M : jm_MM) (x0 : Int32) : Option (Int32) := f122_2 M (fun ve4 => some ve4) jm_F x0 0
set_option maxRecDepth 100000 in
theorem g122 (L : Nat) (d : Nat) (M : jm_MM) (J : jm_JJ) (x0 : Int32) (r : Int32) (H : f122 M x0 = some r) : jm_go (d + 1) (jm_G 122) 0 (jm_en 2 [.int x0]) [] (jm_S0 L, M, J) (some (.int r), (jm_S0 L, M, J)) := by
  unfold f122 at H
  refine jm_go.blk 2 (pc' := 2) (ls' := [some (.int x0), some (.int 0)]) (st' := []) (t' := (jm_S0 L, M, J)) (fun _ _ => rfl) ?_
  exact g122_2 L d M J
    _ (fun ve4 r H => by
      have H := Option.some.inj H
      subst H
      exact jm_go.ret 2 (fun _ _ => rfl)
      )
    _ x0 0 _ H


/-- X8_isAhead -/
def f123 (M : jm_MM) (x0 : Int32) (x1 : Int32) : Option (Int32) := jm_bd (f119 M x0) (fun q1 => jm_bd (f119 M x1) (fun q3 => bif decide (q3 < q1) then (some 1) else (jm_bd (f119 M x0) (fun q6 => jm_bd (f119 M x1) (fun q8 => bif !decide (q6 = q8) then (some 0) else (jm_bd (f122 M x0) (fun q11 => jm_bd (f122 M x1) (fun q13 => bif decide (q13 ≤ q11) then (some 0) else (some 1)))))))))
set_option maxRecDepth 100000 in
theorem g123 (L : Nat) (d : Nat) (M : jm_MM) (J : jm_JJ) (x0 : Int32) (x1 : Int32) (r : Int32) (H : f123 M x0 x1 = some r) : jm_go (d + 2) (jm_G 123) 0 (jm_en 3 [.ref 113, .int x0, .int x1]) [] (jm_S0 L, M, J) (some (.int r), (jm_S0 L, M, J)) := by
  unfold f123 at H
  obtain ⟨q1, h2, H⟩ := jm_bdo H
  refine jm_go.call 3 (d := d + 1) (b := true) (u := 119) (as := [.ref 113, .int x0]) (pc' := 5) (ls' := [some (.ref 113), some (.int x0), some (.int x1)]) (st' := []) (t' := (jm_S0 L, M, J)) (fun _ _ => rfl) rfl rfl (g119 L d M J x0 _ h2) ?_
  obtain ⟨q3, h4, H⟩ := jm_bdo H
  refine jm_go.call 3 (d := d + 1) (b := true) (u := 119) (as := [.ref 113, .int x1]) (pc' := 10) (ls' := [some (.ref 113), some (.int x0), some (.int x1)]) (st' := [.int q1]) (t' := (jm_S0 L, M, J)) (fun _ _ => rfl) rfl rfl (g119 L d M J x1 _ h4) ?_
  rcases jm_bro H with ⟨h5, H⟩ | ⟨h5, H⟩
  · refine jm_go.brt 1 (b := decide (q3 < q1)) (p1 := 37) (l1 := [some (.ref 113), some (.int x0), some (.int x1)]) (s1 := []) (t1 := (jm_S0 L, M, J)) (p2 := 13) (l2 := [some (.ref 113), some (.int x0), some (.int x1)]) (s2 := []) (t2 := (jm_S0 L, M, J)) (fun _ _ => rfl) h5 ?_
    have H := Option.some.inj H
    subst H
    exact jm_go.retz 3 (b := jm_z1 1) (fun _ _ => rfl) rfl
  · refine jm_go.brf 1 (b := decide (q3 < q1)) (p1 := 37) (l1 := [some (.ref 113), some (.int x0), some (.int x1)]) (s1 := []) (t1 := (jm_S0 L, M, J)) (p2 := 13) (l2 := [some (.ref 113), some (.int x0), some (.int x1)]) (s2 := []) (t2 := (jm_S0 L, M, J)) (fun _ _ => rfl) h5 ?_
    obtain ⟨q6, h7, H⟩ := jm_bdo H
    refine jm_go.call 3 (d := d + 1) (b := true) (u := 119) (as := [.ref 113, .int x0]) (pc' := 18) (ls' := [some (.ref 113), some (.int x0), some (.int x1)]) (st' := []) (t' := (jm_S0 L, M, J)) (fun _ _ => rfl) rfl rfl (g119 L d M J x0 _ h7) ?_
    obtain ⟨q8, h9, H⟩ := jm_bdo H
    refine jm_go.call 3 (d := d + 1) (b := true) (u := 119) (as := [.ref 113, .int x1]) (pc' := 23) (ls' := [some (.ref 113), some (.int x0), some (.int x1)]) (st' := [.int q6]) (t' := (jm_S0 L, M, J)) (fun _ _ => rfl) rfl rfl (g119 L d M J x1 _ h9) ?_
    rcases jm_bro H with ⟨h10, H⟩ | ⟨h10, H⟩
    · refine jm_go.brt 1 (b := !decide (q6 = q8)) (p1 := 41) (l1 := [some (.ref 113), some (.int x0), some (.int x1)]) (s1 := []) (t1 := (jm_S0 L, M, J)) (p2 := 26) (l2 := [some (.ref 113), some (.int x0), some (.int x1)]) (s2 := []) (t2 := (jm_S0 L, M, J)) (fun _ _ => rfl) h10 ?_
      have H := Option.some.inj H
      subst H
      exact jm_go.retz 2 (b := jm_z1 0) (fun _ _ => rfl) rfl
    · refine jm_go.brf 1 (b := !decide (q6 = q8)) (p1 := 41) (l1 := [some (.ref 113), some (.int x0), some (.int x1)]) (s1 := []) (t1 := (jm_S0 L, M, J)) (p2 := 26) (l2 := [some (.ref 113), some (.int x0), some (.int x1)]) (s2 := []) (t2 := (jm_S0 L, M, J)) (fun _ _ => rfl) h10 ?_
      obtain ⟨q11, h12, H⟩ := jm_bdo H
      refine jm_go.call 2 (d := d + 1) (b := true) (u := 122) (as := [.int x0]) (pc' := 30) (ls' := [some (.ref 113), some (.int x0), some (.int x1)]) (st' := []) (t' := (jm_S0 L, M, J)) (fun _ _ => rfl) rfl rfl (g122 L d M J x0 _ h12) ?_
      obtain ⟨q13, h14, H⟩ := jm_bdo H
      refine jm_go.call 2 (d := d + 1) (b := true) (u := 122) (as := [.int x1]) (pc' := 34) (ls' := [some (.ref 113), some (.int x0), some (.int x1)]) (st' := [.int q11]) (t' := (jm_S0 L, M, J)) (fun _ _ => rfl) rfl rfl (g122 L d M J x1 _ h14) ?_
      rcases jm_bro H with ⟨h15, H⟩ | ⟨h15, H⟩
      · refine jm_go.brt 1 (b := decide (q13 ≤ q11)) (p1 := 41) (l1 := [some (.ref 113), some (.int x0), some (.int x1)]) (s1 := []) (t1 := (jm_S0 L, M, J)) (p2 := 37) (l2 := [some (.ref 113), some (.int x0), some (.int x1)]) (s2 := []) (t2 := (jm_S0 L, M, J)) (fun _ _ => rfl) h15 ?_
        have H := Option.some.inj H
        subst H
        exact jm_go.retz 2 (b := jm_z1 0) (fun _ _ => rfl) rfl
      · refine jm_go.brf 1 (b := decide (q13 ≤ q11)) (p1 := 41) (l1 := [some (.ref 113), some (.int x0), some (.int x1)]) (s1 := []) (t1 := (jm_S0 L, M, J)) (p2 := 37) (l2 := [some (.ref 113), some (.int x0), some (.int x1)]) (s2 := []) (t2 := (jm_S0 L, M, J)) (fun _ _ => rfl) h15 ?_
        have H := Option.some.inj H
        subst H
        exact jm_go.retz 3 (b := jm_z1 1) (fun _ _ => rfl) rfl
