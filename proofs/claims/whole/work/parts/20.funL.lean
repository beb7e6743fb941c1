/-! methods as functions: printed by wip/whole/gen/lay.py (funs.py) -/
def f156_60  (ke0 : jm_MM → Int32 → Int32 → Int32 → Int32 → Int32 → Int32 → Option (Int32 × jm_MM)) : Nat → jm_MM → Int32 → Int32 → Int32 → Int32 → Int32 → Int32 → Int32 → Option (Int32 × jm_MM)
  | 0, _, _, _, _, _, _, _, _ => none
  | n0 + 1, M, v1, v2, v3, v4, v5, v6, v7 => bif decide (24 ≤ v7) then (ke0 M v1 v2 v3 v4 v5 v6) else (jm_bd (f102 M v1) (fun q17 => jm_bd (f94 M q17 v7) (fun q19 => bif decide (q19 = 0) then ((f156_60  ke0 n0) M v1 v2 v3 v4 v5 (v6 ||| 0) (v7 + 1)) else (jm_bd (f154 M v1 v7 v2 v3) (fun q22 => bif decide (v4 < q22) then ((f156_60  ke0 n0) M v1 v2 v3 v4 v5 (v6 ||| 0) (v7 + 1)) else ((f156_60  ke0 n0) M v1 v2 v3 v4 v5 (v6 ||| (1 <<< (v7 &&& 31))) (v7 + 1)))))))
set_option maxRecDepth 100000 in
theorem g156_60 (L : Nat) (d : Nat) (_M : jm_MM) (J : jm_JJ) (ke0 : jm_MM → Int32 → Int32 → Int32 → Int32 → Int32 → Int32 → Option (Int32 × jm_MM)) (hke0 : ∀ (M : jm_MM) (v1 : Int32) (v2 : Int32) (v3 : Int32) (v4 : Int32) (v5 : Int32) (v6 : Int32) (r : Int32 × jm_MM), ke0 M v1 v2 v3 v4 v5 v6 = some r → jm_go (d + 6) (jm_G 156) 113 [some (.ref 113), some (.int v1), some (.int v2), some (.int v3), some (.int v4), some (.int v5), some (.int v6), none] [] (jm_S0 L, M, J) (some (.int r.1), (jm_S0 L, r.2, J))) : ∀ (n0 : Nat) (M : jm_MM) (v1 : Int32) (v2 : Int32) (v3 : Int32) (v4 : Int32) (v5 : Int32) (v6 : Int32) (v7 : Int32) (r : Int32 × jm_MM), f156_60  ke0 n0 M v1 v2 v3 v4 v5 v6 v7 = some r → jm_go (d + 6) (jm_G 156) 60 [some (.ref 113), some (.int v1), some (.int v2), some (.int v3), some (.int v4), some (.int v5), some (.int v6), some (.int v7)] [] (jm_S0 L, M, J) (some (.int r.1), (jm_S0 L, r.2, J)) := by
  intro n0
  induction n0 with
  | zero => intro M v1 v2 v3 v4 v5 v6 v7 r H; cases H
  | succ n0 ih =>
    intro M v1 v2 v3 v4 v5 v6 v7 r H
    have hkb := ih
    unfold f156_60 at H
    rcases jm_bro H with ⟨h16, H⟩ | ⟨h16, H⟩
    · refine jm_go.brt 3 (b := decide (24 ≤ v7)) (p1 := 113) (l1 := [some (.ref 113), some (.int v1), some (.int v2), some (.int v3), some (.int v4), some (.int v5), some (.int v6), some (.int v7)]) (s1 := []) (t1 := (jm_S0 L, M, J)) (p2 := 67) (l2 := [some (.ref 113), some (.int v1), some (.int v2), some (.int v3), some (.int v4), some (.int v5), some (.int v6), some (.int v7)]) (s2 := []) (t2 := (jm_S0 L, M, J)) (fun _ _ => rfl) h16 ?_
      refine jm_go.lab (ls' := [some (.ref 113), some (.int v1), some (.int v2), some (.int v3), some (.int v4), some (.int v5), some (.int v6), none]) (fun i hi => by cases hi; rfl) ?_
      exact hke0 M v1 v2 v3 v4 v5 v6 _ H
    · refine jm_go.brf 3 (b := decide (24 ≤ v7)) (p1 := 113) (l1 := [some (.ref 113), some (.int v1), some (.int v2), some (.int v3), some (.int v4), some (.int v5), some (.int v6), some (.int v7)]) (s1 := []) (t1 := (jm_S0 L, M, J)) (p2 := 67) (l2 := [some (.ref 113), some (.int v1), some (.int v2), some (.int v3), some (.int v4), some (.int v5), some (.int v6), some (.int v7)]) (s2 := []) (t2 := (jm_S0 L, M, J)) (fun _ _ => rfl) h16 ?_
      obtain ⟨q17, h18, H⟩ := jm_bdo H
      refine jm_go.call 4 (d := d + 5) (b := true) (u := 102) (as := [.ref 113, .int v1]) (pc' := 74) (ls' := [some (.ref 113), some (.int v1), some (.int v2), some (.int v3), some (.int v4), some (.int v5), some (.int v6), some (.int v7)]) (st' := [.int v6]) (t' := (jm_S0 L, M, J)) (fun _ _ => rfl) rfl rfl (g102 L (d + 4) M J v1 _ h18) ?_
      obtain ⟨q19, h20, H⟩ := jm_bdo H
      refine jm_go.call 2 (d := d + 5) (b := true) (u := 94) (as := [.int q17, .int v7]) (pc' := 79) (ls' := [some (.ref 113), some (.int v1), some (.int v2), some (.int v3), some (.int v4), some (.int v5), some (.int v6), some (.int v7)]) (st' := [.int v6]) (t' := (jm_S0 L, M, J)) (fun _ _ => rfl) rfl rfl (g94 L (d + 5) M J q17 v7 _ h20) ?_
      rcases jm_bro H with ⟨h21, H⟩ | ⟨h21, H⟩
      · refine jm_go.brt 1 (b := decide (q19 = 0)) (p1 := 103) (l1 := [some (.ref 113), some (.int v1), some (.int v2), some (.int v3), some (.int v4), some (.int v5), some (.int v6), some (.int v7)]) (s1 := [.int v6]) (t1 := (jm_S0 L, M, J)) (p2 := 82) (l2 := [some (.ref 113), some (.int v1), some (.int v2), some (.int v3), some (.int v4), some (.int v5), some (.int v6), some (.int v7)]) (s2 := [.int v6]) (t2 := (jm_S0 L, M, J)) (fun _ _ => rfl) h21 ?_
        refine jm_go.blk 5 (pc' := 60) (ls' := [some (.ref 113), some (.int v1), some (.int v2), some (.int v3), some (.int v4), some (.int v5), some (.int (v6 ||| 0)), some (.int (v7 + 1))]) (st' := []) (t' := (jm_S0 L, M, J)) (fun _ _ => rfl) ?_
        exact hkb M v1 v2 v3 v4 v5 (v6 ||| 0) (v7 + 1) _ H
      · refine jm_go.brf 1 (b := decide (q19 = 0)) (p1 := 103) (l1 := [some (.ref 113), some (.int v1), some (.int v2), some (.int v3), some (.int v4), some (.int v5), some (.int v6), some (.int v7)]) (s1 := [.int v6]) (t1 := (jm_S0 L, M, J)) (p2 := 82) (l2 := [some (.ref 113), some (.int v1), some (.int v2), some (.int v3), some (.int v4), some (.int v5), some (.int v6), some (.int v7)]) (s2 := [.int v6]) (t2 := (jm_S0 L, M, J)) (fun _ _ => rfl) h21 ?_
        obtain ⟨q22, h23, H⟩ := jm_bdo H
        refine jm_go.call 6 (d := d + 5) (b := true) (u := 154) (as := [.ref 113, .int v1, .int v7, .int v2, .int v3]) (pc' := 91) (ls' := [some (.ref 113), some (.int v1), some (.int v2), some (.int v3), some (.int v4), some (.int v5), some (.int v6), some (.int v7)]) (st' := [.int v6]) (t' := (jm_S0 L, M, J)) (fun _ _ => rfl) rfl rfl (g154 L (d + 3) M J v1 v7 v2 v3 _ h23) ?_
        rcases jm_bro H with ⟨h24, H⟩ | ⟨h24, H⟩
        · refine jm_go.brt 2 (b := decide (v4 < q22)) (p1 := 103) (l1 := [some (.ref 113), some (.int v1), some (.int v2), some (.int v3), some (.int v4), some (.int v5), some (.int v6), some (.int v7)]) (s1 := [.int v6]) (t1 := (jm_S0 L, M, J)) (p2 := 96) (l2 := [some (.ref 113), some (.int v1), some (.int v2), some (.int v3), some (.int v4), some (.int v5), some (.int v6), some (.int v7)]) (s2 := [.int v6]) (t2 := (jm_S0 L, M, J)) (fun _ _ => rfl) h24 ?_
          refine jm_go.blk 5 (pc' := 60) (ls' := [some (.ref 113), some (.int v1), some (.int v2), some (.int v3), some (.int v4), some (.int v5), some (.int (v6 ||| 0)), some (.int (v7 + 1))]) (st' := []) (t' := (jm_S0 L, M, J)) (fun _ _ => rfl) ?_
          exact hkb M v1 v2 v3 v4 v5 (v6 ||| 0) (v7 + 1) _ H
        · refine jm_go.brf 2 (b := decide (v4 < q22)) (p1 := 103) (l1 := [some (.ref 113), some (.int v1), some (.int v2), some (.int v3), some (.int v4), some (.int v5), some (.int v6), some (.int v7)]) (s1 := [.int v6]) (t1 := (jm_S0 L, M, J)) (p2 := 96) (l2 := [some (.ref 113), some (.int v1), some (.int v2), some (.int v3), some (.int v4), some (.int v5), some (.int v6), some (.int v7)]) (s2 := [.int v6]) (t2 := (jm_S0 L, M, J)) (fun _ _ => rfl) h24 ?_
          refine jm_go.blk 8 (pc' := 60) (ls' := [some (.ref 113), some (.int v1), some (.int v2), some (.int v3), some (.int v4), some (.int v5), some (.int (v6 ||| (1 <<< (v7 &&& 31)))), some (.int (v7 + 1))]) (st' := []) (t' := (jm_S0 L, M, J)) (fun _ _ => rfl) ?_
          exact hkb M v1 v2 v3 v4 v5 (v6 ||| (1 <<< (v7 &&& 31))) (v7 + 1) _ H

/-- X8_within -/
def f156 (M : jm_MM) (x0 : Int32) (x1 : Int32) (x2 : Int32) (x3 : Int32) (x4 : Int32) : Option (Int32 × jm_MM) := jm_bd (f96 M x0) (fun q1 => bif !decide (q1 = 0) then (jm_bd (f98 M x1) (fun q4 => bif decide (q4 = 0) then (some ((-1000000002), M)) else (jm_bd (f98 M x2) (fun q7 => bif decide (q7 = 0) then (some ((-1000000002), M)) else (jm_bd (f93 M (Int32.toInt64 x3) 0 9999) (fun q10 => bif decide (q10 = 0) then (some ((-1000000002), M)) else (jm_bd (f93 M (Int32.toInt64 x4) 0 3) (fun q13 => bif !decide (q13 = 0) then (f156_60  (fun Me25 ve26 ve27 ve28 ve29 ve30 ve31 => bif !decide (ve30 = 0) then (bif !decide (ve30 = 1) then (bif !decide (ve30 = 2) then (jm_bd (f155 Me25 ve26 ve27 ve28 ve29) (fun q35 => some (q35.1, q35.2))) else (jm_bd (f119 Me25 ve31) (fun q37 => some (q37, Me25)))) else (some (ve31, Me25))) else (jm_bd (f95 Me25 ve31) (fun q39 => some (q39, Me25)))) jm_F M x0 x1 x2 x3 x4 0 0) else (some ((-1000000002), M)))))))))) else (some ((-1000000001), M)))
set_option maxRecDepth 100000 in
theorem g156 (L : Nat) (d : Nat) (M : jm_MM) (J : jm_JJ) (x0 : Int32) (x1 : Int32) (x2 : Int32) (x3 : Int32) (x4 : Int32) (r : Int32 × jm_MM) (H : f156 M x0 x1 x2 x3 x4 = some r) : jm_go (d + 6) (jm_G 156) 0 (jm_en 8 [.ref 113, .int x0, .int x1, .int x2, .int x3, .int x4]) [] (jm_S0 L, M, J) (some (.int r.1), (jm_S0 L, r.2, J)) := by
  unfold f156 at H
  obtain ⟨q1, h2, H⟩ := jm_bdo H
  refine jm_go.call 3 (d := d + 5) (b := true) (u := 96) (as := [.ref 113, .int x0]) (pc' := 5) (ls' := [some (.ref 113), some (.int x0), some (.int x1), some (.int x2), some (.int x3), some (.int x4), none, none]) (st' := []) (t' := (jm_S0 L, M, J)) (fun _ _ => rfl) rfl rfl (g96 L (d + 4) M J x0 _ h2) ?_
  rcases jm_bro H with ⟨h3, H⟩ | ⟨h3, H⟩
  · refine jm_go.brt 1 (b := !decide (q1 = 0)) (p1 := 11) (l1 := [some (.ref 113), some (.int x0), some (.int x1), some (.int x2), some (.int x3), some (.int x4), none, none]) (s1 := []) (t1 := (jm_S0 L, M, J)) (p2 := 8) (l2 := [some (.ref 113), some (.int x0), some (.int x1), some (.int x2), some (.int x3), some (.int x4), none, none]) (s2 := []) (t2 := (jm_S0 L, M, J)) (fun _ _ => rfl) h3 ?_
    obtain ⟨q4, h5, H⟩ := jm_bdo H
    refine jm_go.call 2 (d := d + 5) (b := true) (u := 98) (as := [.int x1]) (pc' := 15) (ls' := [some (.ref 113), some (.int x0), some (.int x1), some (.int x2), some (.int x3), some (.int x4), none, none]) (st' := []) (t' := (jm_S0 L, M, J)) (fun _ _ => rfl) rfl rfl (g98 L (d + 4) M J x1 _ h5) ?_
    rcases jm_bro H with ⟨h6, H⟩ | ⟨h6, H⟩
    · refine jm_go.brt 1 (b := decide (q4 = 0)) (p1 := 51) (l1 := [some (.ref 113), some (.int x0), some (.int x1), some (.int x2), some (.int x3), some (.int x4), none, none]) (s1 := []) (t1 := (jm_S0 L, M, J)) (p2 := 18) (l2 := [some (.ref 113), some (.int x0), some (.int x1), some (.int x2), some (.int x3), some (.int x4), none, none]) (s2 := []) (t2 := (jm_S0 L, M, J)) (fun _ _ => rfl) h6 ?_
      have H := Option.some.inj H
      subst H
      exact jm_go.ret 2 (fun _ _ => rfl)
    · refine jm_go.brf 1 (b := decide (q4 = 0)) (p1 := 51) (l1 := [some (.ref 113), some (.int x0), some (.int x1), some (.int x2), some (.int x3), some (.int x4), none, none]) (s1 := []) (t1 := (jm_S0 L, M, J)) (p2 := 18) (l2 := [some (.ref 113), some (.int x0), some (.int x1), some (.int x2), some (.int x3), some (.int x4), none, none]) (s2 := []) (t2 := (jm_S0 L, M, J)) (fun _ _ => rfl) h6 ?_
      obtain ⟨q7, h8, H⟩ := jm_bdo H
      refine jm_go.call 2 (d := d + 5) (b := true) (u := 98) (as := [.int x2]) (pc' := 22) (ls' := [some (.ref 113), some (.int x0), some (.int x1), some (.int x2), some (.int x3), some (.int x4), none, none]) (st' := []) (t' := (jm_S0 L, M, J)) (fun _ _ => rfl) rfl rfl (g98 L (d + 4) M J x2 _ h8) ?_
      rcases jm_bro H with ⟨h9, H⟩ | ⟨h9, H⟩
      · refine jm_go.brt 1 (b := decide (q7 = 0)) (p1 := 51) (l1 := [some (.ref 113), some (.int x0), some (.int x1), some (.int x2), some (.int x3), some (.int x4), none, none]) (s1 := []) (t1 := (jm_S0 L, M, J)) (p2 := 25) (l2 := [some (.ref 113), some (.int x0), some (.int x1), some (.int x2), some (.int x3), some (.int x4), none, none]) (s2 := []) (t2 := (jm_S0 L, M, J)) (fun _ _ => rfl) h9 ?_
        have H := Option.some.inj H
        subst H
        exact jm_go.ret 2 (fun _ _ => rfl)
      · refine jm_go.brf 1 (b := decide (q7 = 0)) (p1 := 51) (l1 := [some (.ref 113), some (.int x0), some (.int x1), some (.int x2), some (.int x3), some (.int x4), none, none]) (s1 := []) (t1 := (jm_S0 L, M, J)) (p2 := 25) (l2 := [some (.ref 113), some (.int x0), some (.int x1), some (.int x2), some (.int x3), some (.int x4), none, none]) (s2 := []) (t2 := (jm_S0 L, M, J)) (fun _ _ => rfl) h9 ?_
        obtain ⟨q10, h11, H⟩ := jm_bdo H
        refine jm_go.call 5 (d := d + 5) (b := true) (u := 93) (as := [.long (Int32.toInt64 x3), .long 0, .long 9999]) (pc' := 35) (ls' := [some (.ref 113), some (.int x0), some (.int x1), some (.int x2), some (.int x3), some (.int x4), none, none]) (st' := []) (t' := (jm_S0 L, M, J)) (fun _ _ => rfl) rfl rfl (g93 L (d + 5) M J (Int32.toInt64 x3) 0 9999 _ h11) ?_
        rcases jm_bro H with ⟨h12, H⟩ | ⟨h12, H⟩
        · refine jm_go.brt 1 (b := decide (q10 = 0)) (p1 := 51) (l1 := [some (.ref 113), some (.int x0), some (.int x1), some (.int x2), some (.int x3), some (.int x4), none, none]) (s1 := []) (t1 := (jm_S0 L, M, J)) (p2 := 38) (l2 := [some (.ref 113), some (.int x0), some (.int x1), some (.int x2), some (.int x3), some (.int x4), none, none]) (s2 := []) (t2 := (jm_S0 L, M, J)) (fun _ _ => rfl) h12 ?_
          have H := Option.some.inj H
          subst H
          exact jm_go.ret 2 (fun _ _ => rfl)
        · refine jm_go.brf 1 (b := decide (q10 = 0)) (p1 := 51) (l1 := [some (.ref 113), some (.int x0), some (.int x1), some (.int x2), some (.int x3), some (.int x4), none, none]) (s1 := []) (t1 := (jm_S0 L, M, J)) (p2 := 38) (l2 := [some (.ref 113), some (.int x0), some (.int x1), some (.int x2), some (.int x3), some (.int x4), none, none]) (s2 := []) (t2 := (jm_S0 L, M, J)) (fun _ _ => rfl) h12 ?_
          obtain ⟨q13, h14, H⟩ := jm_bdo H
          refine jm_go.call 5 (d := d + 5) (b := true) (u := 93) (as := [.long (Int32.toInt64 x4), .long 0, .long 3]) (pc' := 48) (ls' := [some (.ref 113), some (.int x0), some (.int x1), some (.int x2), some (.int x3), some (.int x4), none, none]) (st' := []) (t' := (jm_S0 L, M, J)) (fun _ _ => rfl) rfl rfl (g93 L (d + 5) M J (Int32.toInt64 x4) 0 3 _ h14) ?_
          rcases jm_bro H with ⟨h15, H⟩ | ⟨h15, H⟩
          · refine jm_go.brt 1 (b := !decide (q13 = 0)) (p1 := 54) (l1 := [some (.ref 113), some (.int x0), some (.int x1), some (.int x2), some (.int x3), some (.int x4), none, none]) (s1 := []) (t1 := (jm_S0 L, M, J)) (p2 := 51) (l2 := [some (.ref 113), some (.int x0), some (.int x1), some (.int x2), some (.int x3), some (.int x4), none, none]) (s2 := []) (t2 := (jm_S0 L, M, J)) (fun _ _ => rfl) h15 ?_
            refine jm_go.blk 4 (pc' := 60) (ls' := [some (.ref 113), some (.int x0), some (.int x1), some (.int x2), some (.int x3), some (.int x4), some (.int 0), some (.int 0)]) (st' := []) (t' := (jm_S0 L, M, J)) (fun _ _ => rfl) ?_
            exact g156_60 L d M J
              _ (fun Me25 ve26 ve27 ve28 ve29 ve30 ve31 r H => by
                rcases jm_bro H with ⟨h32, H⟩ | ⟨h32, H⟩
                · refine jm_go.brt 2 (b := !decide (ve30 = 0)) (p1 := 126) (l1 := [some (.ref 113), some (.int ve26), some (.int ve27), some (.int ve28), some (.int ve29), some (.int ve30), some (.int ve31), none]) (s1 := []) (t1 := (jm_S0 L, Me25, J)) (p2 := 118) (l2 := [some (.ref 113), some (.int ve26), some (.int ve27), some (.int ve28), some (.int ve29), some (.int ve30), some (.int ve31), none]) (s2 := []) (t2 := (jm_S0 L, Me25, J)) (fun _ _ => rfl) h32 ?_
                  rcases jm_bro H with ⟨h33, H⟩ | ⟨h33, H⟩
                  · refine jm_go.brt 3 (b := !decide (ve30 = 1)) (p1 := 137) (l1 := [some (.ref 113), some (.int ve26), some (.int ve27), some (.int ve28), some (.int ve29), some (.int ve30), some (.int ve31), none]) (s1 := []) (t1 := (jm_S0 L, Me25, J)) (p2 := 132) (l2 := [some (.ref 113), some (.int ve26), some (.int ve27), some (.int ve28), some (.int ve29), some (.int ve30), some (.int ve31), none]) (s2 := []) (t2 := (jm_S0 L, Me25, J)) (fun _ _ => rfl) h33 ?_
                    rcases jm_bro H with ⟨h34, H⟩ | ⟨h34, H⟩
                    · refine jm_go.brt 3 (b := !decide (ve30 = 2)) (p1 := 152) (l1 := [some (.ref 113), some (.int ve26), some (.int ve27), some (.int ve28), some (.int ve29), some (.int ve30), some (.int ve31), none]) (s1 := []) (t1 := (jm_S0 L, Me25, J)) (p2 := 143) (l2 := [some (.ref 113), some (.int ve26), some (.int ve27), some (.int ve28), some (.int ve29), some (.int ve30), some (.int ve31), none]) (s2 := []) (t2 := (jm_S0 L, Me25, J)) (fun _ _ => rfl) h34 ?_
                      obtain ⟨q35, h36, H⟩ := jm_bdo H
                      refine jm_go.call 6 (d := d + 5) (b := true) (u := 155) (as := [.ref 113, .int ve26, .int ve27, .int ve28, .int ve29]) (pc' := 161) (ls' := [some (.ref 113), some (.int ve26), some (.int ve27), some (.int ve28), some (.int ve29), none, none, none]) (st' := []) (t' := (jm_S0 L, Me25, J)) (fun _ _ => rfl) rfl rfl (g155 L d Me25 J ve26 ve27 ve28 ve29 _ h36) ?_
                      have H := Option.some.inj H
                      subst H
                      exact jm_go.ret 1 (fun _ _ => rfl)
                    · refine jm_go.brf 3 (b := !decide (ve30 = 2)) (p1 := 152) (l1 := [some (.ref 113), some (.int ve26), some (.int ve27), some (.int ve28), some (.int ve29), some (.int ve30), some (.int ve31), none]) (s1 := []) (t1 := (jm_S0 L, Me25, J)) (p2 := 143) (l2 := [some (.ref 113), some (.int ve26), some (.int ve27), some (.int ve28), some (.int ve29), some (.int ve30), some (.int ve31), none]) (s2 := []) (t2 := (jm_S0 L, Me25, J)) (fun _ _ => rfl) h34 ?_
                      obtain ⟨q37, h38, H⟩ := jm_bdo H
                      refine jm_go.call 3 (d := d + 5) (b := true) (u := 119) (as := [.ref 113, .int ve31]) (pc' := 149) (ls' := [some (.ref 113), some (.int ve26), some (.int ve27), some (.int ve28), some (.int ve29), some (.int ve30), some (.int ve31), none]) (st' := []) (t' := (jm_S0 L, Me25, J)) (fun _ _ => rfl) rfl rfl (g119 L (d + 4) Me25 J ve31 _ h38) ?_
                      have H := Option.some.inj H
                      subst H
                      exact jm_go.ret 2 (fun _ _ => rfl)
                  · refine jm_go.brf 3 (b := !decide (ve30 = 1)) (p1 := 137) (l1 := [some (.ref 113), some (.int ve26), some (.int ve27), some (.int ve28), some (.int ve29), some (.int ve30), some (.int ve31), none]) (s1 := []) (t1 := (jm_S0 L, Me25, J)) (p2 := 132) (l2 := [some (.ref 113), some (.int ve26), some (.int ve27), some (.int ve28), some (.int ve29), some (.int ve30), some (.int ve31), none]) (s2 := []) (t2 := (jm_S0 L, Me25, J)) (fun _ _ => rfl) h33 ?_
                    have H := Option.some.inj H
                    subst H
                    exact jm_go.ret 3 (fun _ _ => rfl)
                · refine jm_go.brf 2 (b := !decide (ve30 = 0)) (p1 := 126) (l1 := [some (.ref 113), some (.int ve26), some (.int ve27), some (.int ve28), some (.int ve29), some (.int ve30), some (.int ve31), none]) (s1 := []) (t1 := (jm_S0 L, Me25, J)) (p2 := 118) (l2 := [some (.ref 113), some (.int ve26), some (.int ve27), some (.int ve28), some (.int ve29), some (.int ve30), some (.int ve31), none]) (s2 := []) (t2 := (jm_S0 L, Me25, J)) (fun _ _ => rfl) h32 ?_
                  obtain ⟨q39, h40, H⟩ := jm_bdo H
                  refine jm_go.call 2 (d := d + 5) (b := true) (u := 95) (as := [.int ve31]) (pc' := 123) (ls' := [some (.ref 113), some (.int ve26), some (.int ve27), some (.int ve28), some (.int ve29), some (.int ve30), some (.int ve31), none]) (st' := []) (t' := (jm_S0 L, Me25, J)) (fun _ _ => rfl) rfl rfl (g95 L (d + 5) Me25 J ve31 _ h40) ?_
                  have H := Option.some.inj H
                  subst H
                  exact jm_go.ret 2 (fun _ _ => rfl)
                )
              _ M x0 x1 x2 x3 x4 0 0 _ H
          · refine jm_go.brf 1 (b := !decide (q13 = 0)) (p1 := 54) (l1 := [some (.ref 113), some (.int x0), some (.int x1), some (.int x2), some (.int x3), some (.int x4), none, none]) (s1 := []) (t1 := (jm_S0 L, M, J)) (p2 := 51) (l2 := [some (.ref 113), some (.int x0), some (.int x1), some (.int x2), some (.int x3), some (.int x4), none, none]) (s2 := []) (t2 := (jm_S0 L, M, J)) (fun _ _ => rfl) h15 ?_
            have H := Option.some.inj H
            subst H
            exact jm_go.ret 2 (fun _ _ => rfl)
  · refine jm_go.brf 1 (b := !decide (q1 = 0)) (p1 := 11) (l1 := [some (.ref 113), some (.int x0), some (.int x1), some (.int x2), some (.int x3), some (.int x4), none, none]) (s1 := []) (t1 := (jm_S0 L, M, J)) (p2 := 8) (l2 := [some (.ref 113), some (.int x0), some (.int x1), some (.int x2), some (.int x3), some (.int x4), none, none]) (s2 := []) (t2 := (jm_S0 L, M, J)) (fun _ _ => rfl) h3 ?_
    have H := Option.some.inj H
    subst H
    exact jm_go.ret 2 (fun _ _ => rfl)

def f157_86 (M : jm_MM) (kb : Int32 → Int32 → Int32 → Int32 → Int32 → Option (Int32)) (ke0 : Int32 → Option (Int32)) (v1 : Int32) (v2 : Int32) (v3 : Int32) (v4 : Int32) (v5 : Int32) (s0 : Int32) : Option (Int32) := bif decide (s0 = 0) then (kb v1 v2 v3 v4 (v5 + 1)) else (kb v1 v2 v3 v5 (v5 + 1))
set_option maxRecDepth 100000 in
theorem g157_86 (L : Nat) (d : Nat) (M : jm_MM) (J : jm_JJ) (kb : Int32 → Int32 → Int32 → Int32 → Int32 → Option (Int32)) (hkb : ∀  (v1 : Int32) (v2 : Int32) (v3 : Int32) (v4 : Int32) (v5 : Int32) (r : Int32), kb v1 v2 v3 v4 v5 = some r → jm_go (d + 3) (jm_G 157) 34 [some (.ref 113), some (.int v1), some (.int v2), some (.int v3), some (.int v4), some (.int v5), none] [] (jm_S0 L, M, J) (some (.int r), (jm_S0 L, M, J))) (ke0 : Int32 → Option (Int32)) (hke0 : ∀  (v4 : Int32) (r : Int32), ke0 v4 = some r → jm_go (d + 3) (jm_G 157) 108 [none, none, none, none, some (.int v4), none, none] [] (jm_S0 L, M, J) (some (.int r), (jm_S0 L, M, J))) (v1 : Int32) (v2 : Int32) (v3 : Int32) (v4 : Int32) (v5 : Int32) (s0 : Int32) (r : Int32) (H : f157_86 M kb ke0 v1 v2 v3 v4 v5 s0 = some r) : jm_go (d + 3) (jm_G 157) 86 [some (.ref 113), some (.int v1), some (.int v2), some (.int v3), some (.int v4), some (.int v5), none] [.int s0] (jm_S0 L, M, J) (some (.int r), (jm_S0 L, M, J)) := by
  unfold f157_86 at H
  rcases jm_bro H with ⟨h16, H⟩ | ⟨h16, H⟩
  · refine jm_go.brt 3 (b := decide (s0 = 0)) (p1 := 98) (l1 := [some (.ref 113), some (.int v1), some (.int v2), some (.int v3), some (.int v4), some (.int v5), some (.int s0)]) (s1 := []) (t1 := (jm_S0 L, M, J)) (p2 := 93) (l2 := [some (.ref 113), some (.int v1), some (.int v2), some (.int v3), some (.int v4), some (.int v5), some (.int s0)]) (s2 := []) (t2 := (jm_S0 L, M, J)) (fun _ _ => rfl) h16 ?_
    refine jm_go.blk 4 (pc' := 34) (ls' := [some (.ref 113), some (.int v1), some (.int v2), some (.int v3), some (.int v4), some (.int (v5 + 1)), none]) (st' := []) (t' := (jm_S0 L, M, J)) (fun _ _ => rfl) ?_
    exact hkb v1 v2 v3 v4 (v5 + 1) _ H
  · refine jm_go.brf 3 (b := decide (s0 = 0)) (p1 := 98) (l1 := [some (.ref 113), some (.int v1), some (.int v2), some (.int v3), some (.int v4), some (.int v5), some (.int s0)]) (s1 := []) (t1 := (jm_S0 L, M, J)) (p2 := 93) (l2 := [some (.ref 113), some (.int v1), some (.int v2), some (.int v3), some (.int v4), some (.int v5), some (.int s0)]) (s2 := []) (t2 := (jm_S0 L, M, J)) (fun _ _ => rfl) h16 ?_
    refine jm_go.blk 5 (pc' := 34) (ls' := [some (.ref 113), some (.int v1), some (.int v2), some (.int v3), some (.int v5), some (.int (v5 + 1)), none]) (st' := []) (t' := (jm_S0 L, M, J)) (fun _ _ => rfl) ?_
    exact hkb v1 v2 v3 v5 (v5 + 1) _ H

def f157_85 (M : jm_MM) (kb : Int32 → Int32 → Int32 → Int32 → Int32 → Option (Int32)) (ke0 : Int32 → Option (Int32)) (v1 : Int32) (v2 : Int32) (v3 : Int32) (v4 : Int32) (v5 : Int32) : Option (Int32) := f157_86 M kb ke0 v1 v2 v3 v4 v5 0
set_option maxRecDepth 100000 in
theorem g157_85 (L : Nat) (d : Nat) (M : jm_MM) (J : jm_JJ) (kb : Int32 → Int32 → Int32 → Int32 → Int32 → Option (Int32)) (hkb : ∀  (v1 : Int32) (v2 : Int32) (v3 : Int32) (v4 : Int32) (v5 : Int32) (r : Int32), kb v1 v2 v3 v4 v5 = some r → jm_go (d + 3) (jm_G 157) 34 [some (.ref 113), some (.int v1), some (.int v2), some (.int v3), some (.int v4), some (.int v5), none] [] (jm_S0 L, M, J) (some (.int r), (jm_S0 L, M, J))) (ke0 : Int32 → Option (Int32)) (hke0 : ∀  (v4 : Int32) (r : Int32), ke0 v4 = some r → jm_go (d + 3) (jm_G 157) 108 [none, none, none, none, some (.int v4), none, none] [] (jm_S0 L, M, J) (some (.int r), (jm_S0 L, M, J))) (v1 : Int32) (v2 : Int32) (v3 : Int32) (v4 : Int32) (v5 : Int32) (r : Int32) (H : f157_85 M kb ke0 v1 v2 v3 v4 v5 = some r) : jm_go (d + 3) (jm_G 157) 85 [some (.ref 113), some (.int v1), some (.int v2), some (.int v3), some (.int v4), some (.int v5), none] [] (jm_S0 L, M, J) (some (.int r), (jm_S0 L, M, J)) := by
  unfold f157_85 at H
  refine jm_go.blk 1 (pc' := 86) (ls' := [some (.ref 113), some (.int v1), some (.int v2), some (.int v3), some (.int v4), some (.int v5), none]) (st' := [.int 0]) (t' := (jm_S0 L, M, J)) (fun _ _ => rfl) ?_
  exact g157_86 L d M J _ hkb _ hke0 v1 v2 v3 v4 v5 0 _ H

def f157_81 (M : jm_MM) (kb : Int32 → Int32 → Int32 → Int32 → Int32 → Option (Int32)) (ke0 : Int32 → Option (Int32)) (v1 : Int32) (v2 : Int32) (v3 : Int32) (v4 : Int32) (v5 : Int32) : Option (Int32) := f157_86 M kb ke0 v1 v2 v3 v4 v5 1
set_option maxRecDepth 100000 in
theorem g157_81 (L : Nat) (d : Nat) (M : jm_MM) (J : jm_JJ) (kb : Int32 → Int32 → Int32 → Int32 → Int32 → Option (Int32)) (hkb : ∀  (v1 : Int32) (v2 : Int32) (v3 : Int32) (v4 : Int32) (v5 : Int32) (r : Int32), kb v1 v2 v3 v4 v5 = some r → jm_go (d + 3) (jm_G 157) 34 [some (.ref 113), some (.int v1), some (.int v2), some (.int v3), some (.int v4), some (.int v5), none] [] (jm_S0 L, M, J) (some (.int r), (jm_S0 L, M, J))) (ke0 : Int32 → Option (Int32)) (hke0 : ∀  (v4 : Int32) (r : Int32), ke0 v4 = some r → jm_go (d + 3) (jm_G 157) 108 [none, none, none, none, some (.int v4), none, none] [] (jm_S0 L, M, J) (some (.int r), (jm_S0 L, M, J))) (v1 : Int32) (v2 : Int32) (v3 : Int32) (v4 : Int32) (v5 : Int32) (r : Int32) (H : f157_81 M kb ke0 v1 v2 v3 v4 v5 = some r) : jm_go (d + 3) (jm_G 157) 81 [some (.ref 113), some (.int v1), some (.int v2), some (.int v3), some (.int v4), some (.int v5), none] [] (jm_S0 L, M, J) (some (.int r), (jm_S0 L, M, J)) := by
  unfold f157_81 at H
  refine jm_go.blk 2 (pc' := 86) (ls' := [some (.ref 113), some (.int v1), some (.int v2), some (.int v3), some (.int v4), some (.int v5), none]) (st' := [.int 1]) (t' := (jm_S0 L, M, J)) (fun _ _ => rfl) ?_
  exact g157_86 L d M J _ hkb _ hke0 v1 v2 v3 v4 v5 1 _ H

def f157_34 (M : jm_MM) (ke0 : Int32 → Option (Int32)) : Nat → Int32 → Int32 → Int32 → Int32 → Int32 → Option (Int32)
  | 0, _, _, _, _, _ => none
  | n0 + 1, v1, v2, v3, v4, v5 => bif decide (24 ≤ v5) then (ke0 v4) else (jm_bd (f102 M v1) (fun q11 => jm_bd (f94 M q11 v5) (fun q13 => bif decide (q13 = 0) then (f157_85 M (f157_34 M ke0 n0) ke0 v1 v2 v3 v4 v5) else (bif decide (v4 = (-1)) then (f157_81 M (f157_34 M ke0 n0) ke0 v1 v2 v3 v4 v5) else (jm_bd (f154 M v1 v5 v2 v3) (fun q18 => jm_bd (f154 M v1 v4 v2 v3) (fun q20 => bif decide (q20 ≤ q18) then (f157_85 M (f157_34 M ke0 n0) ke0 v1 v2 v3 v4 v5) else (f157_81 M (f157_34 M ke0 n0) ke0 v1 v2 v3 v4 v5))))))))
set_option maxRecDepth 100000 in
theorem g157_34 (L : Nat) (d : Nat) (M : jm_MM) (J : jm_JJ) (ke0 : Int32 → Option (Int32)) (hke0 : ∀  (v4 : Int32) (r : Int32), ke0 v4 = some r → jm_go (d + 3) (jm_G 157) 108 [none, none, none, none, some (.int v4), none, none] [] (jm_S0 L, M, J) (some (.int r), (jm_S0 L, M, J))) : ∀ (n0 : Nat) (v1 : Int32) (v2 : Int32) (v3 : Int32) (v4 : Int32) (v5 : Int32) (r : Int32), f157_34 M ke0 n0 v1 v2 v3 v4 v5 = some r → jm_go (d + 3) (jm_G 157) 34 [some (.ref 113), some (.int v1), some (.int v2), some (.int v3), some (.int v4), some (.int v5), none] [] (jm_S0 L, M, J) (some (.int r), (jm_S0 L, M, J)) := by
  intro n0
  induction n0 with
  | zero => intro v1 v2 v3 v4 v5 r H; cases H
  | succ n0 ih =>
    intro v1 v2 v3 v4 v5 r H
    have hkb := ih
    unfold f157_34 at H
    rcases jm_bro H with ⟨h10, H⟩ | ⟨h10, H⟩
    · refine jm_go.brt 3 (b := decide (24 ≤ v5)) (p1 := 108) (l1 := [some (.ref 113), some (.int v1), some (.int v2), some (.int v3), some (.int v4), some (.int v5), none]) (s1 := []) (t1 := (jm_S0 L, M, J)) (p2 := 41) (l2 := [some (.ref 113), some (.int v1), some (.int v2), some (.int v3), some (.int v4), some (.int v5), none]) (s2 := []) (t2 := (jm_S0 L, M, J)) (fun _ _ => rfl) h10 ?_
      refine jm_go.lab (ls' := [none, none, none, none, some (.int v4), none, none]) (fun i hi => by cases hi; rfl) ?_
      exact hke0 v4 _ H
    · refine jm_go.brf 3 (b := decide (24 ≤ v5)) (p1 := 108) (l1 := [some (.ref 113), some (.int v1), some (.int v2), some (.int v3), some (.int v4), some (.int v5), none]) (s1 := []) (t1 := (jm_S0 L, M, J)) (p2 := 41) (l2 := [some (.ref 113), some (.int v1), some (.int v2), some (.int v3), some (.int v4), some (.int v5), none]) (s2 := []) (t2 := (jm_S0 L, M, J)) (fun _ _ => rfl) h10 ?_
      obtain ⟨q11, h12, H⟩ := jm_bdo H
      refine jm_go.call 3 (d := d + 2) (b := true) (u := 102) (as := [.ref 113, .int v1]) (pc' := 46) (ls' := [some (.ref 113), some (.int v1), some (.int v2), some (.int v3), some (.int v4), some (.int v5), none]) (st' := []) (t' := (jm_S0 L, M, J)) (fun _ _ => rfl) rfl rfl (g102 L (d + 1) M J v1 _ h12) ?_
      obtain ⟨q13, h14, H⟩ := jm_bdo H
      refine jm_go.call 2 (d := d + 2) (b := true) (u := 94) (as := [.int q11, .int v5]) (pc' := 51) (ls' := [some (.ref 113), some (.int v1), some (.int v2), some (.int v3), some (.int v4), some (.int v5), none]) (st' := []) (t' := (jm_S0 L, M, J)) (fun _ _ => rfl) rfl rfl (g94 L (d + 2) M J q11 v5 _ h14) ?_
      rcases jm_bro H with ⟨h15, H⟩ | ⟨h15, H⟩
      · refine jm_go.brt 1 (b := decide (q13 = 0)) (p1 := 85) (l1 := [some (.ref 113), some (.int v1), some (.int v2), some (.int v3), some (.int v4), some (.int v5), none]) (s1 := []) (t1 := (jm_S0 L, M, J)) (p2 := 54) (l2 := [some (.ref 113), some (.int v1), some (.int v2), some (.int v3), some (.int v4), some (.int v5), none]) (s2 := []) (t2 := (jm_S0 L, M, J)) (fun _ _ => rfl) h15 ?_
        exact g157_85 L d M J _ hkb _ hke0 v1 v2 v3 v4 v5 _ H
      · refine jm_go.brf 1 (b := decide (q13 = 0)) (p1 := 85) (l1 := [some (.ref 113), some (.int v1), some (.int v2), some (.int v3), some (.int v4), some (.int v5), none]) (s1 := []) (t1 := (jm_S0 L, M, J)) (p2 := 54) (l2 := [some (.ref 113), some (.int v1), some (.int v2), some (.int v3), some (.int v4), some (.int v5), none]) (s2 := []) (t2 := (jm_S0 L, M, J)) (fun _ _ => rfl) h15 ?_
        rcases jm_bro H with ⟨h17, H⟩ | ⟨h17, H⟩
        · refine jm_go.brt 3 (b := decide (v4 = (-1))) (p1 := 81) (l1 := [some (.ref 113), some (.int v1), some (.int v2), some (.int v3), some (.int v4), some (.int v5), none]) (s1 := []) (t1 := (jm_S0 L, M, J)) (p2 := 60) (l2 := [some (.ref 113), some (.int v1), some (.int v2), some (.int v3), some (.int v4), some (.int v5), none]) (s2 := []) (t2 := (jm_S0 L, M, J)) (fun _ _ => rfl) h17 ?_
          exact g157_81 L d M J _ hkb _ hke0 v1 v2 v3 v4 v5 _ H
        · refine jm_go.brf 3 (b := decide (v4 = (-1))) (p1 := 81) (l1 := [some (.ref 113), some (.int v1), some (.int v2), some (.int v3), some (.int v4), some (.int v5), none]) (s1 := []) (t1 := (jm_S0 L, M, J)) (p2 := 60) (l2 := [some (.ref 113), some (.int v1), some (.int v2), some (.int v3), some (.int v4), some (.int v5), none]) (s2 := []) (t2 := (jm_S0 L, M, J)) (fun _ _ => rfl) h17 ?_
          obtain ⟨q18, h19, H⟩ := jm_bdo H
          refine jm_go.call 6 (d := d + 2) (b := true) (u := 154) (as := [.ref 113, .int v1, .int v5, .int v2, .int v3]) (pc' := 69) (ls' := [some (.ref 113), some (.int v1), some (.int v2), some (.int v3), some (.int v4), some (.int v5), none]) (st' := []) (t' := (jm_S0 L, M, J)) (fun _ _ => rfl) rfl rfl (g154 L d M J v1 v5 v2 v3 _ h19) ?_
          obtain ⟨q20, h21, H⟩ := jm_bdo H
          refine jm_go.call 6 (d := d + 2) (b := true) (u := 154) (as := [.ref 113, .int v1, .int v4, .int v2, .int v3]) (pc' := 78) (ls' := [some (.ref 113), some (.int v1), some (.int v2), some (.int v3), some (.int v4), some (.int v5), none]) (st' := [.int q18]) (t' := (jm_S0 L, M, J)) (fun _ _ => rfl) rfl rfl (g154 L d M J v1 v4 v2 v3 _ h21) ?_
          rcases jm_bro H with ⟨h22, H⟩ | ⟨h22, H⟩
          · refine jm_go.brt 1 (b := decide (q20 ≤ q18)) (p1 := 85) (l1 := [some (.ref 113), some (.int v1), some (.int v2), some (.int v3), some (.int v4), some (.int v5), none]) (s1 := []) (t1 := (jm_S0 L, M, J)) (p2 := 81) (l2 := [some (.ref 113), some (.int v1), some (.int v2), some (.int v3), some (.int v4), some (.int v5), none]) (s2 := []) (t2 := (jm_S0 L, M, J)) (fun _ _ => rfl) h22 ?_
            exact g157_85 L d M J _ hkb _ hke0 v1 v2 v3 v4 v5 _ H
          · refine jm_go.brf 1 (b := decide (q20 ≤ q18)) (p1 := 85) (l1 := [some (.ref 113), some (.int v1), some (.int v2), some (.int v3), some (.int v4), some (.int v5), none]) (s1 := []) (t1 := (jm_S0 L, M, J)) (p2 := 81) (l2 := [some (.ref 113), some (.int v1), some (.int v2), some (.int v3), some (.int v4), some (.int v5), none]) (s2 := []) (t2 := (jm_S0 L, M, J)) (fun _ _ => rfl) h22 ?_
            exact g157_81 L d M J _ hkb _ hke0 v1 v2 v3 v4 v5 _ H

/-- X8_nearest -/
def f157 (M : jm_MM) (x0 : Int32) (x1 : Int32) (x2 : Int32) : Option (Int32) := jm_bd (f96 M x0) (fun q1 => bif !decide (q1 = 0) then (jm_bd (f98 M x1) (fun q4 => bif decide (q4 = 0) then (some (-1000000002)) else (jm_bd (f98 M x2) (fun q7 => bif !decide (q7 = 0) then (f157_34 M (fun ve23 => some ve23) jm_F x0 x1 x2 (-1) 0) else (some (-1000000002)))))) else (some (-1000000001)))
set_option maxRecDepth 100000 in
theorem g157 (L : Nat) (d : Nat) (M : jm_MM) (J : jm_JJ) (x0 : Int32) (x1 : Int32) (x2 : Int32) (r : Int32) (H : f157 M x0 x1 x2 = some r) : jm_go (d + 3) (jm_G 157) 0 (jm_en 7 [.ref 113, .int x0, .int x1, .int x2]) [] (jm_S0 L, M, J) (some (.int r), (jm_S0 L, M, J)) := by
  unfold f157 at H
  obtain ⟨q1, h2, H⟩ := jm_bdo H
  refine jm_go.call 3 (d := d + 2) (b := true) (u := 96) (as := [.ref 113, .int x0]) (pc' := 5) (ls' := [some (.ref 113), some (.int x0), some (.int x1), some (.int x2), none, none, none]) (st' := []) (t' := (jm_S0 L, M, J)) (fun _ _ => rfl) rfl rfl (g96 L (d + 1) M J x0 _ h2) ?_
  rcases jm_bro H with ⟨h3, H⟩ | ⟨h3, H⟩
  · refine jm_go.brt 1 (b := !decide (q1 = 0)) (p1 := 11) (l1 := [some (.ref 113), some (.int x0), some (.int x1), some (.int x2), none, none, none]) (s1 := []) (t1 := (jm_S0 L, M, J)) (p2 := 8) (l2 := [some (.ref 113), some (.int x0), some (.int x1), some (.int x2), none, none, none]) (s2 := []) (t2 := (jm_S0 L, M, J)) (fun _ _ => rfl) h3 ?_
    obtain ⟨q4, h5, H⟩ := jm_bdo H
    refine jm_go.call 2 (d := d + 2) (b := true) (u := 98) (as := [.int x1]) (pc' := 15) (ls' := [some (.ref 113), some (.int x0), some (.int x1), some (.int x2), none, none, none]) (st' := []) (t' := (jm_S0 L, M, J)) (fun _ _ => rfl) rfl rfl (g98 L (d + 1) M J x1 _ h5) ?_
    rcases jm_bro H with ⟨h6, H⟩ | ⟨h6, H⟩
    · refine jm_go.brt 1 (b := decide (q4 = 0)) (p1 := 25) (l1 := [some (.ref 113), some (.int x0), some (.int x1), some (.int x2), none, none, none]) (s1 := []) (t1 := (jm_S0 L, M, J)) (p2 := 18) (l2 := [some (.ref 113), some (.int x0), some (.int x1), some (.int x2), none, none, none]) (s2 := []) (t2 := (jm_S0 L, M, J)) (fun _ _ => rfl) h6 ?_
      have H := Option.some.inj H
      subst H
      exact jm_go.ret 2 (fun _ _ => rfl)
    · refine jm_go.brf 1 (b := decide (q4 = 0)) (p1 := 25) (l1 := [some (.ref 113), some (.int x0), some (.int x1), some (.int x2), none, none, none]) (s1 := []) (t1 := (jm_S0 L, M, J)) (p2 := 18) (l2 := [some (.ref 113), some (.int x0), some (.int x1), some (.int x2), none, none, none]) (s2 := []) (t2 := (jm_S0 L, M, J)) (fun _ _ => rfl) h6 ?_
      obtain ⟨q7, h8, H⟩ := jm_bdo H
      refine jm_go.call 2 (d := d + 2) (b := true) (u := 98) (as := [.int x2]) (pc' := 22) (ls' := [some (.ref 113), some (.int x0), some (.int x1), some (.int x2), none, none, none]) (st' := []) (t' := (jm_S0 L, M, J)) (fun _ _ => rfl) rfl rfl (g98 L (d + 1) M J x2 _ h8) ?_
      rcases jm_bro H with ⟨h9, H⟩ | ⟨h9, H⟩
      · refine jm_go.brt 1 (b := !decide (q7 = 0)) (p1 := 28) (l1 := [some (.ref 113), some (.int x0), some (.int x1), some (.int x2), none, none, none]) (s1 := []) (t1 := (jm_S0 L, M, J)) (p2 := 25) (l2 := [some (.ref 113), some (.int x0), some (.int x1), some (.int x2), none, none, none]) (s2 := []) (t2 := (jm_S0 L, M, J)) (fun _ _ => rfl) h9 ?_
        refine jm_go.blk 4 (pc' := 34) (ls' := [some (.ref 113), some (.int x0), some (.int x1), some (.int x2), some (.int (-1)), some (.int 0), none]) (st' := []) (t' := (jm_S0 L, M, J)) (fun _ _ => rfl) ?_
        exact g157_34 L d M J
          _ (fun ve23 r H => by
            have H := Option.some.inj H
            subst H
            exact jm_go.ret 2 (fun _ _ => rfl)
            )
          _ x0 x1 x2 (-1) 0 _ H
      · refine jm_go.brf 1 (b := !decide (q7 = 0)) (p1 := 28) (l1 := [some (.ref 113), some (.int x0), some (.int x1), some (.int x2), none, none, none]) (s1 := []) (t1 := (jm_S0 L, M, J)) (p2 := 25) (l2 := [some (.ref 113), some (.int x0), some (.int x1), some (.int x2), none, none, none]) (s2 := []) (t2 := (jm_S0 L, M, J)) (fun _ _ => rfl) h9 ?_
        have H := Option.some.inj H
        subst H
        exact jm_go.ret 2 (fun _ _ => rfl)
  · refine jm_go.brf 1 (b := !decide (q1 = 0)) (p1 := 11) (l1 := [some (.ref 113), some (.int x0), some (.int x1), some (.int x2), none, none, none]) (s1 := []) (t1 := (jm_S0 L, M, J)) (p2 := 8) (l2 := [some (.ref 113), some (.int x0), some (.int x1), some (.int x2), none, none, none]) (s2 := []) (t2 := (jm_S0 L, M, J)) (fun _ _ => rfl) h3 ?_
    have H := Option.some.inj H
    subst H
    exact jm_go.ret 2 (fun _ _ => rfl)


/-- X8_below -/
def f158 (M : jm_MM) (x0 : Int32) (x1 : Int32) (x2 : Int32) : Option (Int32 × jm_MM) := jm_bd (f96 M x0) (fun q1 => bif decide (q1 = 0) then (some ((-1000000001), M)) else (jm_bd (f97 M x1) (fun q4 => bif !decide (q4 = 0) then (jm_bd (f93 M (Int32.toInt64 x2) 0 1) (fun q7 => bif !decide (q7 = 0) then (jm_bd (f150 M x0) (fun q10 => bif !decide (x2 = 0) then (jm_gd (jm_inb x1 24) (some (q10 119 x1.toNatClampNeg, q10))) else (jm_gd (jm_inb x1 24) (some (q10 118 x1.toNatClampNeg, q10))))) else (some ((-1000000002), M)))) else (some ((-1000000001), M)))))
set_option maxRecDepth 100000 in
theorem g158 (L : Nat) (d : Nat) (M : jm_MM) (J : jm_JJ) (x0 : Int32) (x1 : Int32) (x2 : Int32) (r : Int32 × jm_MM) (H : f158 M x0 x1 x2 = some r) : jm_go (d + 5) (jm_G 158) 0 (jm_en 4 [.ref 113, .int x0, .int x1, .int x2]) [] (jm_S0 L, M, J) (some (.int r.1), (jm_S0 L, r.2, J)) := by
  unfold f158 at H
  obtain ⟨q1, h2, H⟩ := jm_bdo H
  refine jm_go.call 3 (d := d + 4) (b := true) (u := 96) (as := [.ref 113, .int x0]) (pc' := 5) (ls' := [some (.ref 113), some (.int x0), some (.int x1), some (.int x2)]) (st' := []) (t' := (jm_S0 L, M, J)) (fun _ _ => rfl) rfl rfl (g96 L (d + 3) M J x0 _ h2) ?_
  rcases jm_bro H with ⟨h3, H⟩ | ⟨h3, H⟩
  · refine jm_go.brt 1 (b := decide (q1 = 0)) (p1 := 15) (l1 := [some (.ref 113), some (.int x0), some (.int x1), some (.int x2)]) (s1 := []) (t1 := (jm_S0 L, M, J)) (p2 := 8) (l2 := [some (.ref 113), some (.int x0), some (.int x1), some (.int x2)]) (s2 := []) (t2 := (jm_S0 L, M, J)) (fun _ _ => rfl) h3 ?_
    have H := Option.some.inj H
    subst H
    exact jm_go.ret 2 (fun _ _ => rfl)
  · refine jm_go.brf 1 (b := decide (q1 = 0)) (p1 := 15) (l1 := [some (.ref 113), some (.int x0), some (.int x1), some (.int x2)]) (s1 := []) (t1 := (jm_S0 L, M, J)) (p2 := 8) (l2 := [some (.ref 113), some (.int x0), some (.int x1), some (.int x2)]) (s2 := []) (t2 := (jm_S0 L, M, J)) (fun _ _ => rfl) h3 ?_
    obtain ⟨q4, h5, H⟩ := jm_bdo H
    refine jm_go.call 2 (d := d + 4) (b := true) (u := 97) (as := [.int x1]) (pc' := 12) (ls' := [some (.ref 113), some (.int x0), some (.int x1), some (.int x2)]) (st' := []) (t' := (jm_S0 L, M, J)) (fun _ _ => rfl) rfl rfl (g97 L (d + 3) M J x1 _ h5) ?_
    rcases jm_bro H with ⟨h6, H⟩ | ⟨h6, H⟩
    · refine jm_go.brt 1 (b := !decide (q4 = 0)) (p1 := 18) (l1 := [some (.ref 113), some (.int x0), some (.int x1), some (.int x2)]) (s1 := []) (t1 := (jm_S0 L, M, J)) (p2 := 15) (l2 := [some (.ref 113), some (.int x0), some (.int x1), some (.int x2)]) (s2 := []) (t2 := (jm_S0 L, M, J)) (fun _ _ => rfl) h6 ?_
      obtain ⟨q7, h8, H⟩ := jm_bdo H
      refine jm_go.call 5 (d := d + 4) (b := true) (u := 93) (as := [.long (Int32.toInt64 x2), .long 0, .long 1]) (pc' := 25) (ls' := [some (.ref 113), some (.int x0), some (.int x1), some (.int x2)]) (st' := []) (t' := (jm_S0 L, M, J)) (fun _ _ => rfl) rfl rfl (g93 L (d + 4) M J (Int32.toInt64 x2) 0 1 _ h8) ?_
      rcases jm_bro H with ⟨h9, H⟩ | ⟨h9, H⟩
      · refine jm_go.brt 1 (b := !decide (q7 = 0)) (p1 := 31) (l1 := [some (.ref 113), some (.int x0), some (.int x1), some (.int x2)]) (s1 := []) (t1 := (jm_S0 L, M, J)) (p2 := 28) (l2 := [some (.ref 113), some (.int x0), some (.int x1), some (.int x2)]) (s2 := []) (t2 := (jm_S0 L, M, J)) (fun _ _ => rfl) h9 ?_
        obtain ⟨q10, h11, H⟩ := jm_bdo H
        refine jm_go.call 3 (d := d + 4) (b := true) (u := 150) (as := [.ref 113, .int x0]) (pc' := 36) (ls' := [some (.ref 113), some (.int x0), some (.int x1), some (.int x2)]) (st' := []) (t' := (jm_S0 L, M, J)) (fun _ _ => rfl) rfl rfl (g150 L d M J x0 _ h11) ?_
        rcases jm_bro H with ⟨h12, H⟩ | ⟨h12, H⟩
        · refine jm_go.brt 2 (b := !decide (x2 = 0)) (p1 := 49) (l1 := [some (.ref 113), some (.int x0), some (.int x1), some (.int x2)]) (s1 := []) (t1 := (jm_S0 L, q10, J)) (p2 := 40) (l2 := [some (.ref 113), some (.int x0), some (.int x1), some (.int x2)]) (s2 := []) (t2 := (jm_S0 L, q10, J)) (fun _ _ => rfl) h12 ?_
          obtain ⟨h13, H⟩ := jm_gdo H
          refine jm_go.grd 4 (b := jm_inb x1 24) (pc' := 55) (ls' := [some (.ref 113), none, some (.int x1), none]) (st' := [.int (q10 119 x1.toNatClampNeg)]) (t' := (jm_S0 L, q10, J)) (fun _ _ => rfl) h13 ?_
          have H := Option.some.inj H
          subst H
          exact jm_go.ret 1 (fun _ _ => rfl)
        · refine jm_go.brf 2 (b := !decide (x2 = 0)) (p1 := 49) (l1 := [some (.ref 113), some (.int x0), some (.int x1), some (.int x2)]) (s1 := []) (t1 := (jm_S0 L, q10, J)) (p2 := 40) (l2 := [some (.ref 113), some (.int x0), some (.int x1), some (.int x2)]) (s2 := []) (t2 := (jm_S0 L, q10, J)) (fun _ _ => rfl) h12 ?_
          obtain ⟨h14, H⟩ := jm_gdo H
          refine jm_go.grd 4 (b := jm_inb x1 24) (pc' := 46) (ls' := [some (.ref 113), some (.int x0), some (.int x1), some (.int x2)]) (st' := [.int (q10 118 x1.toNatClampNeg)]) (t' := (jm_S0 L, q10, J)) (fun _ _ => rfl) h14 ?_
          have H := Option.some.inj H
          subst H
          exact jm_go.ret 2 (fun _ _ => rfl)
      · refine jm_go.brf 1 (b := !decide (q7 = 0)) (p1 := 31) (l1 := [some (.ref 113), some (.int x0), some (.int x1), some (.int x2)]) (s1 := []) (t1 := (jm_S0 L, M, J)) (p2 := 28) (l2 := [some (.ref 113), some (.int x0), some (.int x1), some (.int x2)]) (s2 := []) (t2 := (jm_S0 L, M, J)) (fun _ _ => rfl) h9 ?_
        have H := Option.some.inj H
        subst H
        exact jm_go.ret 2 (fun _ _ => rfl)
    · refine jm_go.brf 1 (b := !decide (q4 = 0)) (p1 := 18) (l1 := [some (.ref 113), some (.int x0), some (.int x1), some (.int x2)]) (s1 := []) (t1 := (jm_S0 L, M, J)) (p2 := 15) (l2 := [some (.ref 113), some (.int x0), some (.int x1), some (.int x2)]) (s2 := []) (t2 := (jm_S0 L, M, J)) (fun _ _ => rfl) h6 ?_
      have H := Option.some.inj H
      subst H
      exact jm_go.ret 2 (fun _ _ => rfl)

def f159_75 (M : jm_MM) (ke0 : Int32 → Int32 → Int32 → Int32 → Option (Int32)) : Nat → Int32 → Int32 → Int32 → Int32 → Int32 → Int32 → Option (Int32)
  | 0, _, _, _, _, _, _ => none
  | n0 + 1, v1, v3, v4, v5, v6, v7 => bif decide (24 ≤ v7) then (ke0 v1 v3 v5 v6) else (jm_bd (f94 M v4 v7) (fun q20 => bif decide (q20 = 0) then ((f159_75 M ke0 n0) v1 v3 v4 v5 (v6 ||| 0) (v7 + 1)) else (jm_bd (f135 M v1 v7) (fun q23 => (f159_75 M ke0 n0) v1 v3 v4 v5 (v6 ||| q23) (v7 + 1)))))
set_option maxRecDepth 100000 in
theorem g159_75 (L : Nat) (d : Nat) (M : jm_MM) (J : jm_JJ) (ke0 : Int32 → Int32 → Int32 → Int32 → Option (Int32)) (hke0 : ∀  (v1 : Int32) (v3 : Int32) (v5 : Int32) (v6 : Int32) (r : Int32), ke0 v1 v3 v5 v6 = some r → jm_go (d + 5) (jm_G 159) 114 [some (.ref 113), some (.int v1), none, some (.int v3), none, some (.int v5), some (.int v6), none] [] (jm_S0 L, M, J) (some (.int r), (jm_S0 L, M, J))) : ∀ (n0 : Nat) (v1 : Int32) (v3 : Int32) (v4 : Int32) (v5 : Int32) (v6 : Int32) (v7 : Int32) (r : Int32), f159_75 M ke0 n0 v1 v3 v4 v5 v6 v7 = some r → jm_go (d + 5) (jm_G 159) 75 [some (.ref 113), some (.int v1), none, some (.int v3), some (.int v4), some (.int v5), some (.int v6), some (.int v7)] [] (jm_S0 L, M, J) (some (.int r), (jm_S0 L, M, J)) := by
  intro n0
  induction n0 with
  | zero => intro v1 v3 v4 v5 v6 v7 r H; cases H
  | succ n0 ih =>
    intro v1 v3 v4 v5 v6 v7 r H
    have hkb := ih
    unfold f159_75 at H
    rcases jm_bro H with ⟨h19, H⟩ | ⟨h19, H⟩
    · refine jm_go.brt 3 (b := decide (24 ≤ v7)) (p1 := 114) (l1 := [some (.ref 113), some (.int v1), none, some (.int v3), some (.int v4), some (.int v5), some (.int v6), some (.int v7)]) (s1 := []) (t1 := (jm_S0 L, M, J)) (p2 := 82) (l2 := [some (.ref 113), some (.int v1), none, some (.int v3), some (.int v4), some (.int v5), some (.int v6), some (.int v7)]) (s2 := []) (t2 := (jm_S0 L, M, J)) (fun _ _ => rfl) h19 ?_
      refine jm_go.lab (ls' := [some (.ref 113), some (.int v1), none, some (.int v3), none, some (.int v5), some (.int v6), none]) (fun i hi => by cases hi; rfl) ?_
      exact hke0 v1 v3 v5 v6 _ H
    · refine jm_go.brf 3 (b := decide (24 ≤ v7)) (p1 := 114) (l1 := [some (.ref 113), some (.int v1), none, some (.int v3), some (.int v4), some (.int v5), some (.int v6), some (.int v7)]) (s1 := []) (t1 := (jm_S0 L, M, J)) (p2 := 82) (l2 := [some (.ref 113), some (.int v1), none, some (.int v3), some (.int v4), some (.int v5), some (.int v6), some (.int v7)]) (s2 := []) (t2 := (jm_S0 L, M, J)) (fun _ _ => rfl) h19 ?_
      obtain ⟨q20, h21, H⟩ := jm_bdo H
      refine jm_go.call 4 (d := d + 4) (b := true) (u := 94) (as := [.int v4, .int v7]) (pc' := 91) (ls' := [some (.ref 113), some (.int v1), none, some (.int v3), some (.int v4), some (.int v5), some (.int v6), some (.int v7)]) (st' := [.int v6]) (t' := (jm_S0 L, M, J)) (fun _ _ => rfl) rfl rfl (g94 L (d + 4) M J v4 v7 _ h21) ?_
      rcases jm_bro H with ⟨h22, H⟩ | ⟨h22, H⟩
      · refine jm_go.brt 1 (b := decide (q20 = 0)) (p1 := 104) (l1 := [some (.ref 113), some (.int v1), none, some (.int v3), some (.int v4), some (.int v5), some (.int v6), some (.int v7)]) (s1 := [.int v6]) (t1 := (jm_S0 L, M, J)) (p2 := 94) (l2 := [some (.ref 113), some (.int v1), none, some (.int v3), some (.int v4), some (.int v5), some (.int v6), some (.int v7)]) (s2 := [.int v6]) (t2 := (jm_S0 L, M, J)) (fun _ _ => rfl) h22 ?_
        refine jm_go.blk 5 (pc' := 75) (ls' := [some (.ref 113), some (.int v1), none, some (.int v3), some (.int v4), some (.int v5), some (.int (v6 ||| 0)), some (.int (v7 + 1))]) (st' := []) (t' := (jm_S0 L, M, J)) (fun _ _ => rfl) ?_
        exact hkb v1 v3 v4 v5 (v6 ||| 0) (v7 + 1) _ H
      · refine jm_go.brf 1 (b := decide (q20 = 0)) (p1 := 104) (l1 := [some (.ref 113), some (.int v1), none, some (.int v3), some (.int v4), some (.int v5), some (.int v6), some (.int v7)]) (s1 := [.int v6]) (t1 := (jm_S0 L, M, J)) (p2 := 94) (l2 := [some (.ref 113), some (.int v1), none, some (.int v3), some (.int v4), some (.int v5), some (.int v6), some (.int v7)]) (s2 := [.int v6]) (t2 := (jm_S0 L, M, J)) (fun _ _ => rfl) h22 ?_
        obtain ⟨q23, h24, H⟩ := jm_bdo H
        refine jm_go.call 4 (d := d + 4) (b := true) (u := 135) (as := [.ref 113, .int v1, .int v7]) (pc' := 101) (ls' := [some (.ref 113), some (.int v1), none, some (.int v3), some (.int v4), some (.int v5), some (.int v6), some (.int v7)]) (st' := [.int v6]) (t' := (jm_S0 L, M, J)) (fun _ _ => rfl) rfl rfl (g135 L d M J v1 v7 _ h24) ?_
        refine jm_go.blk 5 (pc' := 75) (ls' := [some (.ref 113), some (.int v1), none, some (.int v3), some (.int v4), some (.int v5), some (.int (v6 ||| q23)), some (.int (v7 + 1))]) (st' := []) (t' := (jm_S0 L, M, J)) (fun _ _ => rfl) ?_
        exact hkb v1 v3 v4 v5 (v6 ||| q23) (v7 + 1) _ H

def f159_49 (M : jm_MM) (ke0 : Option (Int32)) (ke1 : Int32 → Int32 → Int32 → Int32 → Option (Int32)) : Nat → Int32 → Int32 → Int32 → Int32 → Option (Int32)
  | 0, _, _, _, _ => none
  | n0 + 1, v1, v3, v4, v5 => bif decide (24 ≤ v5) then (ke0 ) else (jm_bd (f94 M v4 v3) (fun q16 => bif decide (q16 = 0) then (f159_75 M (fun ve25 ve26 ve27 ve28 => (f159_49 M ke0 ke1 n0) ve25 ve26 ve28 (ve27 + 1)) jm_F v1 v3 v4 v5 v4 0) else (ke1 v1 v3 v4 v5)))
set_option maxRecDepth 100000 in
theorem g159_49 (L : Nat) (d : Nat) (M : jm_MM) (J : jm_JJ) (ke0 : Option (Int32)) (hke0 : ∀  (r : Int32), ke0  = some r → jm_go (d + 5) (jm_G 159) 124 [none, none, none, none, none, none, none, none] [] (jm_S0 L, M, J) (some (.int r), (jm_S0 L, M, J))) (ke1 : Int32 → Int32 → Int32 → Int32 → Option (Int32)) (hke1 : ∀  (v1 : Int32) (v3 : Int32) (v4 : Int32) (v5 : Int32) (r : Int32), ke1 v1 v3 v4 v5 = some r → jm_go (d + 5) (jm_G 159) 65 [some (.ref 113), some (.int v1), none, some (.int v3), some (.int v4), some (.int v5), none, none] [] (jm_S0 L, M, J) (some (.int r), (jm_S0 L, M, J))) : ∀ (n0 : Nat) (v1 : Int32) (v3 : Int32) (v4 : Int32) (v5 : Int32) (r : Int32), f159_49 M ke0 ke1 n0 v1 v3 v4 v5 = some r → jm_go (d + 5) (jm_G 159) 49 [some (.ref 113), some (.int v1), none, some (.int v3), some (.int v4), some (.int v5), none, none] [] (jm_S0 L, M, J) (some (.int r), (jm_S0 L, M, J)) := by
  intro n0
  induction n0 with
  | zero => intro v1 v3 v4 v5 r H; cases H
  | succ n0 ih =>
    intro v1 v3 v4 v5 r H
    have hkb := ih
    unfold f159_49 at H
    rcases jm_bro H with ⟨h15, H⟩ | ⟨h15, H⟩
    · refine jm_go.brt 3 (b := decide (24 ≤ v5)) (p1 := 124) (l1 := [some (.ref 113), some (.int v1), none, some (.int v3), some (.int v4), some (.int v5), none, none]) (s1 := []) (t1 := (jm_S0 L, M, J)) (p2 := 56) (l2 := [some (.ref 113), some (.int v1), none, some (.int v3), some (.int v4), some (.int v5), none, none]) (s2 := []) (t2 := (jm_S0 L, M, J)) (fun _ _ => rfl) h15 ?_
      refine jm_go.lab (ls' := [none, none, none, none, none, none, none, none]) (fun i hi => by cases hi; rfl) ?_
      exact hke0  _ H
    · refine jm_go.brf 3 (b := decide (24 ≤ v5)) (p1 := 124) (l1 := [some (.ref 113), some (.int v1), none, some (.int v3), some (.int v4), some (.int v5), none, none]) (s1 := []) (t1 := (jm_S0 L, M, J)) (p2 := 56) (l2 := [some (.ref 113), some (.int v1), none, some (.int v3), some (.int v4), some (.int v5), none, none]) (s2 := []) (t2 := (jm_S0 L, M, J)) (fun _ _ => rfl) h15 ?_
      obtain ⟨q16, h17, H⟩ := jm_bdo H
      refine jm_go.call 3 (d := d + 4) (b := true) (u := 94) (as := [.int v4, .int v3]) (pc' := 62) (ls' := [some (.ref 113), some (.int v1), none, some (.int v3), some (.int v4), some (.int v5), none, none]) (st' := []) (t' := (jm_S0 L, M, J)) (fun _ _ => rfl) rfl rfl (g94 L (d + 4) M J v4 v3 _ h17) ?_
      rcases jm_bro H with ⟨h18, H⟩ | ⟨h18, H⟩
      · refine jm_go.brt 1 (b := decide (q16 = 0)) (p1 := 68) (l1 := [some (.ref 113), some (.int v1), none, some (.int v3), some (.int v4), some (.int v5), none, none]) (s1 := []) (t1 := (jm_S0 L, M, J)) (p2 := 65) (l2 := [some (.ref 113), some (.int v1), none, some (.int v3), some (.int v4), some (.int v5), none, none]) (s2 := []) (t2 := (jm_S0 L, M, J)) (fun _ _ => rfl) h18 ?_
        refine jm_go.blk 4 (pc' := 75) (ls' := [some (.ref 113), some (.int v1), none, some (.int v3), some (.int v4), some (.int v5), some (.int v4), some (.int 0)]) (st' := []) (t' := (jm_S0 L, M, J)) (fun _ _ => rfl) ?_
        exact g159_75 L d M J
          _ (fun ve25 ve26 ve27 ve28 r H => by
            refine jm_go.blk 4 (pc' := 49) (ls' := [some (.ref 113), some (.int ve25), none, some (.int ve26), some (.int ve28), some (.int (ve27 + 1)), some (.int ve28), none]) (st' := []) (t' := (jm_S0 L, M, J)) (fun _ _ => rfl) ?_
            refine jm_go.lab (ls' := [some (.ref 113), some (.int ve25), none, some (.int ve26), some (.int ve28), some (.int (ve27 + 1)), none, none]) (fun i hi => by cases hi; rfl) ?_
            exact hkb ve25 ve26 ve28 (ve27 + 1) _ H
            )
          _ v1 v3 v4 v5 v4 0 _ H
      · refine jm_go.brf 1 (b := decide (q16 = 0)) (p1 := 68) (l1 := [some (.ref 113), some (.int v1), none, some (.int v3), some (.int v4), some (.int v5), none, none]) (s1 := []) (t1 := (jm_S0 L, M, J)) (p2 := 65) (l2 := [some (.ref 113), some (.int v1), none, some (.int v3), some (.int v4), some (.int v5), none, none]) (s2 := []) (t2 := (jm_S0 L, M, J)) (fun _ _ => rfl) h18 ?_
        exact hke1 v1 v3 v4 v5 _ H

/-- X8_steps -/
def f159 (M : jm_MM) (x0 : Int32) (x1 : Int32) (x2 : Int32) : Option (Int32) := jm_bd (f96 M x0) (fun q1 => bif decide (q1 = 0) then (some (-1000000001)) else (jm_bd (f97 M x1) (fun q4 => bif decide (q4 = 0) then (some (-1000000001)) else (jm_bd (f97 M x2) (fun q7 => bif !decide (q7 = 0) then (jm_bd (f102 M x0) (fun q10 => jm_bd (f94 M q10 x1) (fun q12 => bif decide (q12 = 0) then (f159_49 M (some (-1)) (fun ve29 ve30 ve31 ve32 => some ve32) jm_F x0 x2 0 0) else (f159_49 M (some (-1)) (fun ve33 ve34 ve35 ve36 => some ve36) jm_F x0 x2 (1 <<< (x1 &&& 31)) 0)))) else (some (-1000000001)))))))
set_option maxRecDepth 100000 in
theorem g159 (L : Nat) (d : Nat) (M : jm_MM) (J : jm_JJ) (x0 : Int32) (x1 : Int32) (x2 : Int32) (r : Int32) (H : f159 M x0 x1 x2 = some r) : jm_go (d + 5) (jm_G 159) 0 (jm_en 8 [.ref 113, .int x0, .int x1, .int x2]) [] (jm_S0 L, M, J) (some (.int r), (jm_S0 L, M, J)) := by
  unfold f159 at H
  obtain ⟨q1, h2, H⟩ := jm_bdo H
  refine jm_go.call 3 (d := d + 4) (b := true) (u := 96) (as := [.ref 113, .int x0]) (pc' := 5) (ls' := [some (.ref 113), some (.int x0), some (.int x1), some (.int x2), none, none, none, none]) (st' := []) (t' := (jm_S0 L, M, J)) (fun _ _ => rfl) rfl rfl (g96 L (d + 3) M J x0 _ h2) ?_
  rcases jm_bro H with ⟨h3, H⟩ | ⟨h3, H⟩
  · refine jm_go.brt 1 (b := decide (q1 = 0)) (p1 := 22) (l1 := [some (.ref 113), some (.int x0), some (.int x1), some (.int x2), none, none, none, none]) (s1 := []) (t1 := (jm_S0 L, M, J)) (p2 := 8) (l2 := [some (.ref 113), some (.int x0), some (.int x1), some (.int x2), none, none, none, none]) (s2 := []) (t2 := (jm_S0 L, M, J)) (fun _ _ => rfl) h3 ?_
    have H := Option.some.inj H
    subst H
    exact jm_go.ret 2 (fun _ _ => rfl)
  · refine jm_go.brf 1 (b := decide (q1 = 0)) (p1 := 22) (l1 := [some (.ref 113), some (.int x0), some (.int x1), some (.int x2), none, none, none, none]) (s1 := []) (t1 := (jm_S0 L, M, J)) (p2 := 8) (l2 := [some (.ref 113), some (.int x0), some (.int x1), some (.int x2), none, none, none, none]) (s2 := []) (t2 := (jm_S0 L, M, J)) (fun _ _ => rfl) h3 ?_
    obtain ⟨q4, h5, H⟩ := jm_bdo H
    refine jm_go.call 2 (d := d + 4) (b := true) (u := 97) (as := [.int x1]) (pc' := 12) (ls' := [some (.ref 113), some (.int x0), some (.int x1), some (.int x2), none, none, none, none]) (st' := []) (t' := (jm_S0 L, M, J)) (fun _ _ => rfl) rfl rfl (g97 L (d + 3) M J x1 _ h5) ?_
    rcases jm_bro H with ⟨h6, H⟩ | ⟨h6, H⟩
    · refine jm_go.brt 1 (b := decide (q4 = 0)) (p1 := 22) (l1 := [some (.ref 113), some (.int x0), some (.int x1), some (.int x2), none, none, none, none]) (s1 := []) (t1 := (jm_S0 L, M, J)) (p2 := 15) (l2 := [some (.ref 113), some (.int x0), some (.int x1), some (.int x2), none, none, none, none]) (s2 := []) (t2 := (jm_S0 L, M, J)) (fun _ _ => rfl) h6 ?_
      have H := Option.some.inj H
      subst H
      exact jm_go.ret 2 (fun _ _ => rfl)
    · refine jm_go.brf 1 (b := decide (q4 = 0)) (p1 := 22) (l1 := [some (.ref 113), some (.int x0), some (.int x1), some (.int x2), none, none, none, none]) (s1 := []) (t1 := (jm_S0 L, M, J)) (p2 := 15) (l2 := [some (.ref 113), some (.int x0), some (.int x1), some (.int x2), none, none, none, none]) (s2 := []) (t2 := (jm_S0 L, M, J)) (fun _ _ => rfl) h6 ?_
      obtain ⟨q7, h8, H⟩ := jm_bdo H
      refine jm_go.call 2 (d := d + 4) (b := true) (u := 97) (as := [.int x2]) (pc' := 19) (ls' := [some (.ref 113), some (.int x0), some (.int x1), some (.int x2), none, none, none, none]) (st' := []) (t' := (jm_S0 L, M, J)) (fun _ _ => rfl) rfl rfl (g97 L (d + 3) M J x2 _ h8) ?_
      rcases jm_bro H with ⟨h9, H⟩ | ⟨h9, H⟩
      · refine jm_go.brt 1 (b := !decide (q7 = 0)) (p1 := 25) (l1 := [some (.ref 113), some (.int x0), some (.int x1), some (.int x2), none, none, none, none]) (s1 := []) (t1 := (jm_S0 L, M, J)) (p2 := 22) (l2 := [some (.ref 113), some (.int x0), some (.int x1), some (.int x2), none, none, none, none]) (s2 := []) (t2 := (jm_S0 L, M, J)) (fun _ _ => rfl) h9 ?_
        obtain ⟨q10, h11, H⟩ := jm_bdo H
        refine jm_go.call 3 (d := d + 4) (b := true) (u := 102) (as := [.ref 113, .int x0]) (pc' := 30) (ls' := [some (.ref 113), some (.int x0), some (.int x1), some (.int x2), none, none, none, none]) (st' := []) (t' := (jm_S0 L, M, J)) (fun _ _ => rfl) rfl rfl (g102 L (d + 3) M J x0 _ h11) ?_
        obtain ⟨q12, h13, H⟩ := jm_bdo H
        refine jm_go.call 2 (d := d + 4) (b := true) (u := 94) (as := [.int q10, .int x1]) (pc' := 34) (ls' := [some (.ref 113), some (.int x0), some (.int x1), some (.int x2), none, none, none, none]) (st' := []) (t' := (jm_S0 L, M, J)) (fun _ _ => rfl) rfl rfl (g94 L (d + 4) M J q10 x1 _ h13) ?_
        rcases jm_bro H with ⟨h14, H⟩ | ⟨h14, H⟩
        · refine jm_go.brt 1 (b := decide (q12 = 0)) (p1 := 43) (l1 := [some (.ref 113), some (.int x0), some (.int x1), some (.int x2), none, none, none, none]) (s1 := []) (t1 := (jm_S0 L, M, J)) (p2 := 37) (l2 := [some (.ref 113), some (.int x0), some (.int x1), some (.int x2), none, none, none, none]) (s2 := []) (t2 := (jm_S0 L, M, J)) (fun _ _ => rfl) h14 ?_
          refine jm_go.blk 4 (pc' := 49) (ls' := [some (.ref 113), some (.int x0), none, some (.int x2), some (.int 0), some (.int 0), none, none]) (st' := []) (t' := (jm_S0 L, M, J)) (fun _ _ => rfl) ?_
          exact g159_49 L d M J
            _ (fun  r H => by
              have H := Option.some.inj H
              subst H
              exact jm_go.ret 2 (fun _ _ => rfl)
              )
            _ (fun ve29 ve30 ve31 ve32 r H => by
              have H := Option.some.inj H
              subst H
              exact jm_go.ret 2 (fun _ _ => rfl)
              )
            _ x0 x2 0 0 _ H
        · refine jm_go.brf 1 (b := decide (q12 = 0)) (p1 := 43) (l1 := [some (.ref 113), some (.int x0), some (.int x1), some (.int x2), none, none, none, none]) (s1 := []) (t1 := (jm_S0 L, M, J)) (p2 := 37) (l2 := [some (.ref 113), some (.int x0), some (.int x1), some (.int x2), none, none, none, none]) (s2 := []) (t2 := (jm_S0 L, M, J)) (fun _ _ => rfl) h14 ?_
          refine jm_go.blk 7 (pc' := 49) (ls' := [some (.ref 113), some (.int x0), none, some (.int x2), some (.int (1 <<< (x1 &&& 31))), some (.int 0), none, none]) (st' := []) (t' := (jm_S0 L, M, J)) (fun _ _ => rfl) ?_
          exact g159_49 L d M J
            _ (fun  r H => by
              have H := Option.some.inj H
              subst H
              exact jm_go.ret 2 (fun _ _ => rfl)
              )
            _ (fun ve33 ve34 ve35 ve36 r H => by
              have H := Option.some.inj H
              subst H
              exact jm_go.ret 2 (fun _ _ => rfl)
              )
            _ x0 x2 (1 <<< (x1 &&& 31)) 0 _ H
      · refine jm_go.brf 1 (b := !decide (q7 = 0)) (p1 := 25) (l1 := [some (.ref 113), some (.int x0), some (.int x1), some (.int x2), none, none, none, none]) (s1 := []) (t1 := (jm_S0 L, M, J)) (p2 := 22) (l2 := [some (.ref 113), some (.int x0), some (.int x1), some (.int x2), none, none, none, none]) (s2 := []) (t2 := (jm_S0 L, M, J)) (fun _ _ => rfl) h9 ?_
        have H := Option.some.inj H
        subst H
        exact jm_go.ret 2 (fun _ _ => rfl)


/-- X8_clumps -/
def f160 (M : jm_MM) (x0 : Int32) (x1 : Int32) : Option (Int32) := jm_bd (f96 M x0) (fun q1 => bif !decide (q1 = 0) then (jm_bd (f93 M (Int32.toInt64 x1) 0 90) (fun q4 => bif decide (q4 = 0) then (some (-1000000002)) else (jm_bd (f102 M x0) (fun q7 => jm_bd (f121 M x0 q7 x1) (fun q9 => some q9))))) else (some (-1000000001)))
set_option maxRecDepth 100000 in
theorem g160 (L : Nat) (d : Nat) (M : jm_MM) (J : jm_JJ) (x0 : Int32) (x1 : Int32) (r : Int32) (H : f160 M x0 x1 = some r) : jm_go (d + 6) (jm_G 160) 0 (jm_en 3 [.ref 113, .int x0, .int x1]) [] (jm_S0 L, M, J) (some (.int r), (jm_S0 L, M, J)) := by
  unfold f160 at H
  obtain ⟨q1, h2, H⟩ := jm_bdo H
  refine jm_go.call 3 (d := d + 5) (b := true) (u := 96) (as := [.ref 113, .int x0]) (pc' := 5) (ls' := [some (.ref 113), some (.int x0), some (.int x1)]) (st' := []) (t' := (jm_S0 L, M, J)) (fun _ _ => rfl) rfl rfl (g96 L (d + 4) M J x0 _ h2) ?_
  rcases jm_bro H with ⟨h3, H⟩ | ⟨h3, H⟩
  · refine jm_go.brt 1 (b := !decide (q1 = 0)) (p1 := 11) (l1 := [some (.ref 113), some (.int x0), some (.int x1)]) (s1 := []) (t1 := (jm_S0 L, M, J)) (p2 := 8) (l2 := [some (.ref 113), some (.int x0), some (.int x1)]) (s2 := []) (t2 := (jm_S0 L, M, J)) (fun _ _ => rfl) h3 ?_
    obtain ⟨q4, h5, H⟩ := jm_bdo H
    refine jm_go.call 5 (d := d + 5) (b := true) (u := 93) (as := [.long (Int32.toInt64 x1), .long 0, .long 90]) (pc' := 20) (ls' := [some (.ref 113), some (.int x0), some (.int x1)]) (st' := []) (t' := (jm_S0 L, M, J)) (fun _ _ => rfl) rfl rfl (g93 L (d + 5) M J (Int32.toInt64 x1) 0 90 _ h5) ?_
    rcases jm_bro H with ⟨h6, H⟩ | ⟨h6, H⟩
    · refine jm_go.brt 1 (b := decide (q4 = 0)) (p1 := 37) (l1 := [some (.ref 113), some (.int x0), some (.int x1)]) (s1 := []) (t1 := (jm_S0 L, M, J)) (p2 := 23) (l2 := [some (.ref 113), some (.int x0), some (.int x1)]) (s2 := []) (t2 := (jm_S0 L, M, J)) (fun _ _ => rfl) h6 ?_
      have H := Option.some.inj H
      subst H
      exact jm_go.ret 2 (fun _ _ => rfl)
    · refine jm_go.brf 1 (b := decide (q4 = 0)) (p1 := 37) (l1 := [some (.ref 113), some (.int x0), some (.int x1)]) (s1 := []) (t1 := (jm_S0 L, M, J)) (p2 := 23) (l2 := [some (.ref 113), some (.int x0), some (.int x1)]) (s2 := []) (t2 := (jm_S0 L, M, J)) (fun _ _ => rfl) h6 ?_
      obtain ⟨q7, h8, H⟩ := jm_bdo H
      refine jm_go.call 5 (d := d + 5) (b := true) (u := 102) (as := [.ref 113, .int x0]) (pc' := 30) (ls' := [some (.ref 113), some (.int x0), some (.int x1)]) (st' := [.int x0, .ref 113]) (t' := (jm_S0 L, M, J)) (fun _ _ => rfl) rfl rfl (g102 L (d + 4) M J x0 _ h8) ?_
      obtain ⟨q9, h10, H⟩ := jm_bdo H
      refine jm_go.call 2 (d := d + 5) (b := true) (u := 121) (as := [.ref 113, .int x0, .int q7, .int x1]) (pc' := 34) (ls' := [some (.ref 113), some (.int x0), some (.int x1)]) (st' := []) (t' := (jm_S0 L, M, J)) (fun _ _ => rfl) rfl rfl (g121 L d M J x0 q7 x1 _ h10) ?_
      have H := Option.some.inj H
      subst H
      exact jm_go.ret 2 (fun _ _ => rfl)
  · refine jm_go.brf 1 (b := !decide (q1 = 0)) (p1 := 11) (l1 := [some (.ref 113), some (.int x0), some (.int x1)]) (s1 := []) (t1 := (jm_S0 L, M, J)) (p2 := 8) (l2 := [some (.ref 113), some (.int x0), some (.int x1)]) (s2 := []) (t2 := (jm_S0 L, M, J)) (fun _ _ => rfl) h3 ?_
    have H := Option.some.inj H
    subst H
    exact jm_go.ret 2 (fun _ _ => rfl)

def f161_60 (M : jm_MM) (ke0 : Int32 → Option (Int32)) : Nat → Int32 → Int32 → Int32 → Int32 → Int32 → Option (Int32)
  | 0, _, _, _, _, _ => none
  | n0 + 1, v1, v2, v3, v4, v5 => jm_bd (f120 M v1 v2 v4 v5) (fun q19 => jm_bd (f94 M q19 v3) (fun q21 => bif !decide (q21 = 0) then (ke0 v5) else ((f161_60 M ke0 n0) v1 v2 v3 v4 (v5 + 1))))
set_option maxRecDepth 100000 in
theorem g161_60 (L : Nat) (d : Nat) (M : jm_MM) (J : jm_JJ) (ke0 : Int32 → Option (Int32)) (hke0 : ∀  (v5 : Int32) (r : Int32), ke0 v5 = some r → jm_go (d + 5) (jm_G 161) 83 [none, none, none, none, none, some (.int v5)] [] (jm_S0 L, M, J) (some (.int r), (jm_S0 L, M, J))) : ∀ (n0 : Nat) (v1 : Int32) (v2 : Int32) (v3 : Int32) (v4 : Int32) (v5 : Int32) (r : Int32), f161_60 M ke0 n0 v1 v2 v3 v4 v5 = some r → jm_go (d + 5) (jm_G 161) 60 [some (.ref 113), some (.int v1), some (.int v2), some (.int v3), some (.int v4), some (.int v5)] [] (jm_S0 L, M, J) (some (.int r), (jm_S0 L, M, J)) := by
  intro n0
  induction n0 with
  | zero => intro v1 v2 v3 v4 v5 r H; cases H
  | succ n0 ih =>
    intro v1 v2 v3 v4 v5 r H
    have hkb := ih
    unfold f161_60 at H
    obtain ⟨q19, h20, H⟩ := jm_bdo H
    refine jm_go.call 6 (d := d + 4) (b := true) (u := 120) (as := [.ref 113, .int v1, .int v2, .int v4, .int v5]) (pc' := 70) (ls' := [some (.ref 113), some (.int v1), some (.int v2), some (.int v3), some (.int v4), some (.int v5)]) (st' := []) (t' := (jm_S0 L, M, J)) (fun _ _ => rfl) rfl rfl (g120 L d M J v1 v2 v4 v5 _ h20) ?_
    obtain ⟨q21, h22, H⟩ := jm_bdo H
    refine jm_go.call 2 (d := d + 4) (b := true) (u := 94) (as := [.int q19, .int v3]) (pc' := 74) (ls' := [some (.ref 113), some (.int v1), some (.int v2), some (.int v3), some (.int v4), some (.int v5)]) (st' := []) (t' := (jm_S0 L, M, J)) (fun _ _ => rfl) rfl rfl (g94 L (d + 4) M J q19 v3 _ h22) ?_
    rcases jm_bro H with ⟨h23, H⟩ | ⟨h23, H⟩
    · refine jm_go.brt 1 (b := !decide (q21 = 0)) (p1 := 83) (l1 := [some (.ref 113), some (.int v1), some (.int v2), some (.int v3), some (.int v4), some (.int v5)]) (s1 := []) (t1 := (jm_S0 L, M, J)) (p2 := 77) (l2 := [some (.ref 113), some (.int v1), some (.int v2), some (.int v3), some (.int v4), some (.int v5)]) (s2 := []) (t2 := (jm_S0 L, M, J)) (fun _ _ => rfl) h23 ?_
      refine jm_go.lab (ls' := [none, none, none, none, none, some (.int v5)]) (fun i hi => by cases hi; rfl) ?_
      exact hke0 v5 _ H
    · refine jm_go.brf 1 (b := !decide (q21 = 0)) (p1 := 83) (l1 := [some (.ref 113), some (.int v1), some (.int v2), some (.int v3), some (.int v4), some (.int v5)]) (s1 := []) (t1 := (jm_S0 L, M, J)) (p2 := 77) (l2 := [some (.ref 113), some (.int v1), some (.int v2), some (.int v3), some (.int v4), some (.int v5)]) (s2 := []) (t2 := (jm_S0 L, M, J)) (fun _ _ => rfl) h23 ?_
      refine jm_go.blk 2 (pc' := 60) (ls' := [some (.ref 113), some (.int v1), some (.int v2), some (.int v3), some (.int v4), some (.int (v5 + 1))]) (st' := []) (t' := (jm_S0 L, M, J)) (fun _ _ => rfl) ?_
      exact hkb v1 v2 v3 v4 (v5 + 1) _ H

/-- X8_join -/
def f161 (M : jm_MM) (x0 : Int32) (x1 : Int32) (x2 : Int32) : Option (Int32) := jm_bd (f96 M x0) (fun q1 => bif decide (q1 = 0) then (some (-1000000001)) else (jm_bd (f97 M x1) (fun q4 => bif decide (q4 = 0) then (some (-1000000001)) else (jm_bd (f97 M x2) (fun q7 => bif decide (q7 = 0) then (some (-1000000001)) else (bif !decide (x1 = x2) then (jm_bd (f102 M x0) (fun q11 => jm_bd (f94 M q11 x1) (fun q13 => bif decide (q13 = 0) then (some (-1)) else (jm_bd (f94 M q11 x2) (fun q16 => bif !decide (q16 = 0) then (f161_60 M (fun ve24 => some ve24) jm_F x0 x1 x2 q11 0) else (some (-1))))))) else (some (-1000000001))))))))
set_option maxRecDepth 100000 in
theorem g161 (L : Nat) (d : Nat) (M : jm_MM) (J : jm_JJ) (x0 : Int32) (x1 : Int32) (x2 : Int32) (r : Int32) (H : f161 M x0 x1 x2 = some r) : jm_go (d + 5) (jm_G 161) 0 (jm_en 6 [.ref 113, .int x0, .int x1, .int x2]) [] (jm_S0 L, M, J) (some (.int r), (jm_S0 L, M, J)) := by
  unfold f161 at H
  obtain ⟨q1, h2, H⟩ := jm_bdo H
  refine jm_go.call 3 (d := d + 4) (b := true) (u := 96) (as := [.ref 113, .int x0]) (pc' := 5) (ls' := [some (.ref 113), some (.int x0), some (.int x1), some (.int x2), none, none]) (st' := []) (t' := (jm_S0 L, M, J)) (fun _ _ => rfl) rfl rfl (g96 L (d + 3) M J x0 _ h2) ?_
  rcases jm_bro H with ⟨h3, H⟩ | ⟨h3, H⟩
  · refine jm_go.brt 1 (b := decide (q1 = 0)) (p1 := 27) (l1 := [some (.ref 113), some (.int x0), some (.int x1), some (.int x2), none, none]) (s1 := []) (t1 := (jm_S0 L, M, J)) (p2 := 8) (l2 := [some (.ref 113), some (.int x0), some (.int x1), some (.int x2), none, none]) (s2 := []) (t2 := (jm_S0 L, M, J)) (fun _ _ => rfl) h3 ?_
    have H := Option.some.inj H
    subst H
    exact jm_go.ret 2 (fun _ _ => rfl)
  · refine jm_go.brf 1 (b := decide (q1 = 0)) (p1 := 27) (l1 := [some (.ref 113), some (.int x0), some (.int x1), some (.int x2), none, none]) (s1 := []) (t1 := (jm_S0 L, M, J)) (p2 := 8) (l2 := [some (.ref 113), some (.int x0), some (.int x1), some (.int x2), none, none]) (s2 := []) (t2 := (jm_S0 L, M, J)) (fun _ _ => rfl) h3 ?_
    obtain ⟨q4, h5, H⟩ := jm_bdo H
    refine jm_go.call 2 (d := d + 4) (b := true) (u := 97) (as := [.int x1]) (pc' := 12) (ls' := [some (.ref 113), some (.int x0), some (.int x1), some (.int x2), none, none]) (st' := []) (t' := (jm_S0 L, M, J)) (fun _ _ => rfl) rfl rfl (g97 L (d + 3) M J x1 _ h5) ?_
    rcases jm_bro H with ⟨h6, H⟩ | ⟨h6, H⟩
    · refine jm_go.brt 1 (b := decide (q4 = 0)) (p1 := 27) (l1 := [some (.ref 113), some (.int x0), some (.int x1), some (.int x2), none, none]) (s1 := []) (t1 := (jm_S0 L, M, J)) (p2 := 15) (l2 := [some (.ref 113), some (.int x0), some (.int x1), some (.int x2), none, none]) (s2 := []) (t2 := (jm_S0 L, M, J)) (fun _ _ => rfl) h6 ?_
      have H := Option.some.inj H
      subst H
      exact jm_go.ret 2 (fun _ _ => rfl)
    · refine jm_go.brf 1 (b := decide (q4 = 0)) (p1 := 27) (l1 := [some (.ref 113), some (.int x0), some (.int x1), some (.int x2), none, none]) (s1 := []) (t1 := (jm_S0 L, M, J)) (p2 := 15) (l2 := [some (.ref 113), some (.int x0), some (.int x1), some (.int x2), none, none]) (s2 := []) (t2 := (jm_S0 L, M, J)) (fun _ _ => rfl) h6 ?_
      obtain ⟨q7, h8, H⟩ := jm_bdo H
      refine jm_go.call 2 (d := d + 4) (b := true) (u := 97) (as := [.int x2]) (pc' := 19) (ls' := [some (.ref 113), some (.int x0), some (.int x1), some (.int x2), none, none]) (st' := []) (t' := (jm_S0 L, M, J)) (fun _ _ => rfl) rfl rfl (g97 L (d + 3) M J x2 _ h8) ?_
      rcases jm_bro H with ⟨h9, H⟩ | ⟨h9, H⟩
      · refine jm_go.brt 1 (b := decide (q7 = 0)) (p1 := 27) (l1 := [some (.ref 113), some (.int x0), some (.int x1), some (.int x2), none, none]) (s1 := []) (t1 := (jm_S0 L, M, J)) (p2 := 22) (l2 := [some (.ref 113), some (.int x0), some (.int x1), some (.int x2), none, none]) (s2 := []) (t2 := (jm_S0 L, M, J)) (fun _ _ => rfl) h9 ?_
        have H := Option.some.inj H
        subst H
        exact jm_go.ret 2 (fun _ _ => rfl)
      · refine jm_go.brf 1 (b := decide (q7 = 0)) (p1 := 27) (l1 := [some (.ref 113), some (.int x0), some (.int x1), some (.int x2), none, none]) (s1 := []) (t1 := (jm_S0 L, M, J)) (p2 := 22) (l2 := [some (.ref 113), some (.int x0), some (.int x1), some (.int x2), none, none]) (s2 := []) (t2 := (jm_S0 L, M, J)) (fun _ _ => rfl) h9 ?_
        rcases jm_bro H with ⟨h10, H⟩ | ⟨h10, H⟩
        · refine jm_go.brt 3 (b := !decide (x1 = x2)) (p1 := 30) (l1 := [some (.ref 113), some (.int x0), some (.int x1), some (.int x2), none, none]) (s1 := []) (t1 := (jm_S0 L, M, J)) (p2 := 27) (l2 := [some (.ref 113), some (.int x0), some (.int x1), some (.int x2), none, none]) (s2 := []) (t2 := (jm_S0 L, M, J)) (fun _ _ => rfl) h10 ?_
          obtain ⟨q11, h12, H⟩ := jm_bdo H
          refine jm_go.call 3 (d := d + 4) (b := true) (u := 102) (as := [.ref 113, .int x0]) (pc' := 35) (ls' := [some (.ref 113), some (.int x0), some (.int x1), some (.int x2), none, none]) (st' := []) (t' := (jm_S0 L, M, J)) (fun _ _ => rfl) rfl rfl (g102 L (d + 3) M J x0 _ h12) ?_
          obtain ⟨q13, h14, H⟩ := jm_bdo H
          refine jm_go.call 4 (d := d + 4) (b := true) (u := 94) (as := [.int q11, .int x1]) (pc' := 43) (ls' := [some (.ref 113), some (.int x0), some (.int x1), some (.int x2), some (.int q11), none]) (st' := []) (t' := (jm_S0 L, M, J)) (fun _ _ => rfl) rfl rfl (g94 L (d + 4) M J q11 x1 _ h14) ?_
          rcases jm_bro H with ⟨h15, H⟩ | ⟨h15, H⟩
          · refine jm_go.brt 1 (b := decide (q13 = 0)) (p1 := 55) (l1 := [some (.ref 113), some (.int x0), some (.int x1), some (.int x2), some (.int q11), none]) (s1 := []) (t1 := (jm_S0 L, M, J)) (p2 := 46) (l2 := [some (.ref 113), some (.int x0), some (.int x1), some (.int x2), some (.int q11), none]) (s2 := []) (t2 := (jm_S0 L, M, J)) (fun _ _ => rfl) h15 ?_
            have H := Option.some.inj H
            subst H
            exact jm_go.ret 2 (fun _ _ => rfl)
          · refine jm_go.brf 1 (b := decide (q13 = 0)) (p1 := 55) (l1 := [some (.ref 113), some (.int x0), some (.int x1), some (.int x2), some (.int q11), none]) (s1 := []) (t1 := (jm_S0 L, M, J)) (p2 := 46) (l2 := [some (.ref 113), some (.int x0), some (.int x1), some (.int x2), some (.int q11), none]) (s2 := []) (t2 := (jm_S0 L, M, J)) (fun _ _ => rfl) h15 ?_
            obtain ⟨q16, h17, H⟩ := jm_bdo H
            refine jm_go.call 3 (d := d + 4) (b := true) (u := 94) (as := [.int q11, .int x2]) (pc' := 52) (ls' := [some (.ref 113), some (.int x0), some (.int x1), some (.int x2), some (.int q11), none]) (st' := []) (t' := (jm_S0 L, M, J)) (fun _ _ => rfl) rfl rfl (g94 L (d + 4) M J q11 x2 _ h17) ?_
            rcases jm_bro H with ⟨h18, H⟩ | ⟨h18, H⟩
            · refine jm_go.brt 1 (b := !decide (q16 = 0)) (p1 := 57) (l1 := [some (.ref 113), some (.int x0), some (.int x1), some (.int x2), some (.int q11), none]) (s1 := []) (t1 := (jm_S0 L, M, J)) (p2 := 55) (l2 := [some (.ref 113), some (.int x0), some (.int x1), some (.int x2), some (.int q11), none]) (s2 := []) (t2 := (jm_S0 L, M, J)) (fun _ _ => rfl) h18 ?_
              refine jm_go.blk 2 (pc' := 60) (ls' := [some (.ref 113), some (.int x0), some (.int x1), some (.int x2), some (.int q11), some (.int 0)]) (st' := []) (t' := (jm_S0 L, M, J)) (fun _ _ => rfl) ?_
              exact g161_60 L d M J
                _ (fun ve24 r H => by
                  have H := Option.some.inj H
                  subst H
                  exact jm_go.ret 2 (fun _ _ => rfl)
                  )
                _ x0 x1 x2 q11 0 _ H
            · refine jm_go.brf 1 (b := !decide (q16 = 0)) (p1 := 57) (l1 := [some (.ref 113), some (.int x0), some (.int x1), some (.int x2), some (.int q11), none]) (s1 := []) (t1 := (jm_S0 L, M, J)) (p2 := 55) (l2 := [some (.ref 113), some (.int x0), some (.int x1), some (.int x2), some (.int q11), none]) (s2 := []) (t2 := (jm_S0 L, M, J)) (fun _ _ => rfl) h18 ?_
              have H := Option.some.inj H
              subst H
              exact jm_go.ret 2 (fun _ _ => rfl)
        · refine jm_go.brf 3 (b := !decide (x1 = x2)) (p1 := 30) (l1 := [some (.ref 113), some (.int x0), some (.int x1), some (.int x2), none, none]) (s1 := []) (t1 := (jm_S0 L, M, J)) (p2 := 27) (l2 := [some (.ref 113), some (.int x0), some (.int x1), some (.int x2), none, none]) (s2 := []) (t2 := (jm_S0 L, M, J)) (fun _ _ => rfl) h10 ?_
          have H := Option.some.inj H
          subst H
          exact jm_go.ret 2 (fun _ _ => rfl)


/-- X8_keep -/
def f162 (M : jm_MM) (x0 : Int32) : Option (Int32 × jm_MM) := jm_bd (f93 M (Int32.toInt64 x0) 0 1) (fun q1 => bif !decide (q1 = 0) then (jm_bd (f99 M 0 (321 + (321 * x0))) (fun q4 => jm_gd (jm_inb x0 2) (some ((jm_up (jm_up q4 115 x0.toNatClampNeg 1) 113 2 0) 114 2, (jm_up (jm_up q4 115 x0.toNatClampNeg 1) 113 2 0))))) else (some ((-1000000001), M)))
set_option maxRecDepth 100000 in
theorem g162 (L : Nat) (d : Nat) (M : jm_MM) (J : jm_JJ) (x0 : Int32) (r : Int32 × jm_MM) (H : f162 M x0 = some r) : jm_go (d + 1) (jm_G 162) 0 (jm_en 2 [.ref 113, .int x0]) [] (jm_S0 L, M, J) (some (.int r.1), (jm_S0 L, r.2, J)) := by
  unfold f162 at H
  obtain ⟨q1, h2, H⟩ := jm_bdo H
  refine jm_go.call 5 (d := d) (b := true) (u := 93) (as := [.long (Int32.toInt64 x0), .long 0, .long 1]) (pc' := 7) (ls' := [some (.ref 113), some (.int x0)]) (st' := []) (t' := (jm_S0 L, M, J)) (fun _ _ => rfl) rfl rfl (g93 L d M J (Int32.toInt64 x0) 0 1 _ h2) ?_
  rcases jm_bro H with ⟨h3, H⟩ | ⟨h3, H⟩
  · refine jm_go.brt 1 (b := !decide (q1 = 0)) (p1 := 13) (l1 := [some (.ref 113), some (.int x0)]) (s1 := []) (t1 := (jm_S0 L, M, J)) (p2 := 10) (l2 := [some (.ref 113), some (.int x0)]) (s2 := []) (t2 := (jm_S0 L, M, J)) (fun _ _ => rfl) h3 ?_
    obtain ⟨q4, h5, H⟩ := jm_bdo H
    refine jm_go.call 8 (d := d) (b := true) (u := 99) (as := [.ref 113, .int 0, .int (321 + (321 * x0))]) (pc' := 27) (ls' := [some (.ref 113), some (.int x0)]) (st' := []) (t' := (jm_S0 L, M, J)) (fun _ _ => rfl) rfl rfl (g99 L d M J 0 (321 + (321 * x0)) _ h5) ?_
    obtain ⟨h6, H⟩ := jm_gdo H
    refine jm_go.grd 5 (b := jm_inb x0 2 && jm_z1 1) (pc' := 34) (ls' := [some (.ref 113), some (.int x0)]) (st' := []) (t' := (jm_S0 L, (jm_up q4 115 x0.toNatClampNeg 1), J)) (fun _ _ => rfl) (by rw [h6]; rfl) ?_
    have H := Option.some.inj H
    subst H
    exact jm_go.ret 8 (fun _ _ => rfl)
  · refine jm_go.brf 1 (b := !decide (q1 = 0)) (p1 := 13) (l1 := [some (.ref 113), some (.int x0)]) (s1 := []) (t1 := (jm_S0 L, M, J)) (p2 := 10) (l2 := [some (.ref 113), some (.int x0)]) (s2 := []) (t2 := (jm_S0 L, M, J)) (fun _ _ => rfl) h3 ?_
    have H := Option.some.inj H
    subst H
    exact jm_go.ret 2 (fun _ _ => rfl)
