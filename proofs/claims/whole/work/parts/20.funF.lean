/-! methods as functions: printed by wip/whole/gen/lay.py (funs.py) -/

/-- X7_isHalo -/
def f82 (M : jm_MM) (x0 : Int32) (x1 : Int32) : Option (Int32 × jm_MM) := jm_bd (f80 M x0) (fun q1 => bif decide (q1 = 0) then (some (0, M)) else (bif decide (x1 < 0) then (some (0, M)) else (jm_bd (f22 M) (fun q5 => jm_gd (jm_inb x0 6) (bif decide ((q5 (45 + 10 * x0.toNatClampNeg) 0) ≤ x1) then (some (0, q5)) else (some (1, q5)))))))
set_option maxRecDepth 100000 in
theorem g82 (L : Nat) (d : Nat) (M : jm_MM) (J : jm_JJ) (x0 : Int32) (x1 : Int32) (r : Int32 × jm_MM) (H : f82 M x0 x1 = some r) : jm_go (d + 5) (jm_G 82) 0 (jm_en 3 [.ref 1, .int x0, .int x1]) [] (jm_S0 L, M, J) (some (.int r.1), (jm_S0 L, r.2, J)) := by
  unfold f82 at H
  obtain ⟨q1, h2, H⟩ := jm_bdo H
  refine jm_go.call 3 (d := d + 4) (b := true) (u := 80) (as := [.ref 1, .int x0]) (pc' := 5) (ls' := [some (.ref 1), some (.int x0), some (.int x1)]) (st' := []) (t' := (jm_S0 L, M, J)) (fun _ _ => rfl) rfl rfl (g80 L (d + 4) M J x0 _ h2) ?_
  rcases jm_bro H with ⟨h3, H⟩ | ⟨h3, H⟩
  · refine jm_go.brt 1 (b := decide (q1 = 0)) (p1 := 39) (l1 := [some (.ref 1), some (.int x0), some (.int x1)]) (s1 := []) (t1 := (jm_S0 L, M, J)) (p2 := 8) (l2 := [some (.ref 1), some (.int x0), some (.int x1)]) (s2 := []) (t2 := (jm_S0 L, M, J)) (fun _ _ => rfl) h3 ?_
    have H := Option.some.inj H
    subst H
    exact jm_go.retz 2 (b := jm_z1 0) (fun _ _ => rfl) rfl
  · refine jm_go.brf 1 (b := decide (q1 = 0)) (p1 := 39) (l1 := [some (.ref 1), some (.int x0), some (.int x1)]) (s1 := []) (t1 := (jm_S0 L, M, J)) (p2 := 8) (l2 := [some (.ref 1), some (.int x0), some (.int x1)]) (s2 := []) (t2 := (jm_S0 L, M, J)) (fun _ _ => rfl) h3 ?_
    rcases jm_bro H with ⟨h4, H⟩ | ⟨h4, H⟩
    · refine jm_go.brt 2 (b := decide (x1 < 0)) (p1 := 39) (l1 := [some (.ref 1), some (.int x0), some (.int x1)]) (s1 := []) (t1 := (jm_S0 L, M, J)) (p2 := 12) (l2 := [some (.ref 1), some (.int x0), some (.int x1)]) (s2 := []) (t2 := (jm_S0 L, M, J)) (fun _ _ => rfl) h4 ?_
      have H := Option.some.inj H
      subst H
      exact jm_go.retz 2 (b := jm_z1 0) (fun _ _ => rfl) rfl
    · refine jm_go.brf 2 (b := decide (x1 < 0)) (p1 := 39) (l1 := [some (.ref 1), some (.int x0), some (.int x1)]) (s1 := []) (t1 := (jm_S0 L, M, J)) (p2 := 12) (l2 := [some (.ref 1), some (.int x0), some (.int x1)]) (s2 := []) (t2 := (jm_S0 L, M, J)) (fun _ _ => rfl) h4 ?_
      obtain ⟨q5, h6, H⟩ := jm_bdo H
      refine jm_go.call 6 (d := d + 4) (b := true) (u := 22) (as := [.ref 39, .ref 2]) (pc' := 24) (ls' := [some (.ref 1), some (.int x0), some (.int x1)]) (st' := [.int x1]) (t' := (jm_S0 L, M, J)) (fun _ _ => rfl) rfl rfl (g22 L d M J _ h6) ?_
      obtain ⟨h7, H⟩ := jm_gdo H
      refine jm_go.gfr 3 (b := jm_inb x0 6) (o := (jm_S0 L).2.2.2.2 41 x0.toNatClampNeg) (q := 45 + 10 * x0.toNatClampNeg) (pc' := 29) (ls' := [some (.ref 1), some (.int x0), some (.int x1)]) (st' := [.int x1]) (t' := (jm_S0 L, q5, J)) (fun _ _ => rfl) h7 (jm_aHr L h7) ?_
      refine jm_go.grd 1 (b := jm_is (jm_S0 L) (45 + 10 * x0.toNatClampNeg) 3) (pc' := 32) (ls' := [some (.ref 1), some (.int x0), some (.int x1)]) (st' := [.int (q5 (45 + 10 * x0.toNatClampNeg) 0), .int x1]) (t' := (jm_S0 L, q5, J)) (fun _ _ => rfl) (jm_fH L (jm_aH h7)) ?_
      rcases jm_bro H with ⟨h8, H⟩ | ⟨h8, H⟩
      · refine jm_go.brt 1 (b := decide ((q5 (45 + 10 * x0.toNatClampNeg) 0) ≤ x1)) (p1 := 39) (l1 := [some (.ref 1), some (.int x0), some (.int x1)]) (s1 := []) (t1 := (jm_S0 L, q5, J)) (p2 := 35) (l2 := [some (.ref 1), some (.int x0), some (.int x1)]) (s2 := []) (t2 := (jm_S0 L, q5, J)) (fun _ _ => rfl) h8 ?_
        have H := Option.some.inj H
        subst H
        exact jm_go.retz 2 (b := jm_z1 0) (fun _ _ => rfl) rfl
      · refine jm_go.brf 1 (b := decide ((q5 (45 + 10 * x0.toNatClampNeg) 0) ≤ x1)) (p1 := 39) (l1 := [some (.ref 1), some (.int x0), some (.int x1)]) (s1 := []) (t1 := (jm_S0 L, q5, J)) (p2 := 35) (l2 := [some (.ref 1), some (.int x0), some (.int x1)]) (s2 := []) (t2 := (jm_S0 L, q5, J)) (fun _ _ => rfl) h8 ?_
        have H := Option.some.inj H
        subst H
        exact jm_go.retz 3 (b := jm_z1 1) (fun _ _ => rfl) rfl

def f91_82  (M : jm_MM) (v4 : Int32) (s0 : Int32) : Option (Int32 × jm_MM) := jm_bd (f20 M (v4 &&& (s0 ^^^ (-1)))) (fun q13 => some (q13, M))
set_option maxRecDepth 100000 in
theorem g91_82 (L : Nat) (d : Nat) (_M : jm_MM) (J : jm_JJ) (M : jm_MM) (v4 : Int32) (s0 : Int32) (r : Int32 × jm_MM) (H : f91_82  M v4 s0 = some r) : jm_go (d + 5) (jm_G 91) 82 [some (.ref 1), none, none, none, some (.int v4), none, none] [.int s0] (jm_S0 L, M, J) (some (.int r.1), (jm_S0 L, r.2, J)) := by
  unfold f91_82 at H
  obtain ⟨q13, h14, H⟩ := jm_bdo H
  refine jm_go.call 9 (d := d + 4) (b := true) (u := 20) (as := [.ref 2, .int (v4 &&& (s0 ^^^ (-1)))]) (pc' := 98) (ls' := [some (.ref 1), none, none, none, some (.int v4), none, some (.int s0)]) (st' := []) (t' := (jm_S0 L, M, J)) (fun _ _ => rfl) rfl rfl (g20 L (d + 3) M J (v4 &&& (s0 ^^^ (-1))) _ h14) ?_
  have H := Option.some.inj H
  subst H
  exact jm_go.ret 1 (fun _ _ => rfl)

/-- X7_strayed -/
def f91 (M : jm_MM) (x0 : Int32) (x1 : Int32) : Option (Int32 × jm_MM) := bif decide ((x0 + 1) < (M 2 0)) then (jm_bd (f22 M) (fun q2 => jm_gd (jm_inb x0 6) (jm_gd (jm_inb x1 24) (jm_bd (f18 q2 (x0 + 1)) (fun q6 => jm_gd (jm_inb x0 6) (jm_gd (jm_inb x1 24) (bif !decide ((q2 (45 + 10 * x0.toNatClampNeg + 3) x1.toNatClampNeg) = (-1)) then (jm_gd (jm_inb (x0 + 1) 6) (jm_gd (jm_inb (q2 (45 + 10 * x0.toNatClampNeg + 3) x1.toNatClampNeg) 24) (f91_82   q2 ((q2 (45 + 10 * x0.toNatClampNeg + 1) x1.toNatClampNeg) &&& q6) (q2 (45 + 10 * (x0 + 1).toNatClampNeg + 1) ((q2 (45 + 10 * x0.toNatClampNeg + 3) x1.toNatClampNeg).toNatClampNeg))))) else (f91_82   q2 ((q2 (45 + 10 * x0.toNatClampNeg + 1) x1.toNatClampNeg) &&& q6) 0)))))))) else (some (0, M))
set_option maxRecDepth 100000 in
theorem g91 (L : Nat) (d : Nat) (M : jm_MM) (J : jm_JJ) (x0 : Int32) (x1 : Int32) (r : Int32 × jm_MM) (H : f91 M x0 x1 = some r) : jm_go (d + 5) (jm_G 91) 0 (jm_en 7 [.ref 1, .int x0, .int x1]) [] (jm_S0 L, M, J) (some (.int r.1), (jm_S0 L, r.2, J)) := by
  unfold f91 at H
  rcases jm_bro H with ⟨h1, H⟩ | ⟨h1, H⟩
  · refine jm_go.brt 7 (b := decide ((x0 + 1) < (M 2 0))) (p1 := 15) (l1 := [some (.ref 1), some (.int x0), some (.int x1), none, none, none, none]) (s1 := []) (t1 := (jm_S0 L, M, J)) (p2 := 13) (l2 := [some (.ref 1), some (.int x0), some (.int x1), none, none, none, none]) (s2 := []) (t2 := (jm_S0 L, M, J)) (fun _ _ => rfl) h1 ?_
    obtain ⟨q2, h3, H⟩ := jm_bdo H
    refine jm_go.call 5 (d := d + 4) (b := true) (u := 22) (as := [.ref 39, .ref 2]) (pc' := 26) (ls' := [some (.ref 1), some (.int x0), some (.int x1), none, none, none, none]) (st' := []) (t' := (jm_S0 L, M, J)) (fun _ _ => rfl) rfl rfl (g22 L d M J _ h3) ?_
    obtain ⟨h4, H⟩ := jm_gdo H
    refine jm_go.gfr 5 (b := jm_inb x0 6) (o := (jm_S0 L).2.2.2.2 41 x0.toNatClampNeg) (q := 45 + 10 * x0.toNatClampNeg) (pc' := 33) (ls' := [some (.ref 1), some (.int x0), some (.int x1), some (.ref 41), none, none, none]) (st' := []) (t' := (jm_S0 L, q2, J)) (fun _ _ => rfl) h4 (jm_aHr L h4) ?_
    refine jm_go.gfr 1 (b := jm_is (jm_S0 L) (45 + 10 * x0.toNatClampNeg) 3) (o := (jm_S0 L).2.2.2.2 (45 + 10 * x0.toNatClampNeg) 1) (q := 45 + 10 * x0.toNatClampNeg + 1) (pc' := 36) (ls' := [some (.ref 1), some (.int x0), some (.int x1), some (.ref 41), none, none, none]) (st' := []) (t' := (jm_S0 L, q2, J)) (fun _ _ => rfl) (jm_fH L (jm_aH h4)) (jm_rH1 L (jm_aH h4)) ?_
    obtain ⟨h5, H⟩ := jm_gdo H
    refine jm_go.grd 2 (b := ((Nat.beq 0 1 && Nat.beq (45 + 10 * x0.toNatClampNeg + 1) 0) || (Nat.beq 0 0 && jm_is (jm_S0 L) (45 + 10 * x0.toNatClampNeg + 1) 9)) && jm_inb x1 ((jm_S0 L).2.2.2.1 (45 + 10 * x0.toNatClampNeg + 1))) (pc' := 38) (ls' := [some (.ref 1), some (.int x0), some (.int x1), some (.ref 41), none, none, none]) (st' := [.int (q2 (45 + 10 * x0.toNatClampNeg + 1) x1.toNatClampNeg)]) (t' := (jm_S0 L, q2, J)) (fun _ _ => rfl) (jm_gia (jm_fH1 L (jm_aH h4)) h5) ?_
    obtain ⟨q6, h7, H⟩ := jm_bdo H
    refine jm_go.call 6 (d := d + 4) (b := true) (u := 18) (as := [.ref 2, .int (x0 + 1)]) (pc' := 48) (ls' := [some (.ref 1), some (.int x0), some (.int x1), some (.ref 41), none, none, none]) (st' := [.int (q2 (45 + 10 * x0.toNatClampNeg + 1) x1.toNatClampNeg)]) (t' := (jm_S0 L, q2, J)) (fun _ _ => rfl) rfl rfl (g18 L (d + 3) q2 J (x0 + 1) _ h7) ?_
    obtain ⟨h8, H⟩ := jm_gdo H
    refine jm_go.gfr 5 (b := jm_inb x0 6) (o := (jm_S0 L).2.2.2.2 41 x0.toNatClampNeg) (q := 45 + 10 * x0.toNatClampNeg) (pc' := 54) (ls' := [some (.ref 1), some (.int x0), some (.int x1), some (.ref 41), some (.int ((q2 (45 + 10 * x0.toNatClampNeg + 1) x1.toNatClampNeg) &&& q6)), none, none]) (st' := []) (t' := (jm_S0 L, q2, J)) (fun _ _ => rfl) h8 (jm_aHr L h8) ?_
    refine jm_go.gfr 1 (b := jm_is (jm_S0 L) (45 + 10 * x0.toNatClampNeg) 3) (o := (jm_S0 L).2.2.2.2 (45 + 10 * x0.toNatClampNeg) 3) (q := 45 + 10 * x0.toNatClampNeg + 3) (pc' := 57) (ls' := [some (.ref 1), some (.int x0), some (.int x1), some (.ref 41), some (.int ((q2 (45 + 10 * x0.toNatClampNeg + 1) x1.toNatClampNeg) &&& q6)), none, none]) (st' := []) (t' := (jm_S0 L, q2, J)) (fun _ _ => rfl) (jm_fH L (jm_aH h8)) (jm_rH3 L (jm_aH h8)) ?_
    obtain ⟨h9, H⟩ := jm_gdo H
    refine jm_go.grd 2 (b := ((Nat.beq 0 1 && Nat.beq (45 + 10 * x0.toNatClampNeg + 3) 0) || (Nat.beq 0 0 && jm_is (jm_S0 L) (45 + 10 * x0.toNatClampNeg + 3) 9)) && jm_inb x1 ((jm_S0 L).2.2.2.1 (45 + 10 * x0.toNatClampNeg + 3))) (pc' := 59) (ls' := [some (.ref 1), some (.int x0), some (.int x1), some (.ref 41), some (.int ((q2 (45 + 10 * x0.toNatClampNeg + 1) x1.toNatClampNeg) &&& q6)), none, none]) (st' := [.int (q2 (45 + 10 * x0.toNatClampNeg + 3) x1.toNatClampNeg)]) (t' := (jm_S0 L, q2, J)) (fun _ _ => rfl) (jm_gia (jm_fH3 L (jm_aH h8)) h9) ?_
    rcases jm_bro H with ⟨h10, H⟩ | ⟨h10, H⟩
    · refine jm_go.brt 4 (b := !decide ((q2 (45 + 10 * x0.toNatClampNeg + 3) x1.toNatClampNeg) = (-1))) (p1 := 71) (l1 := [some (.ref 1), some (.int x0), some (.int x1), some (.ref 41), some (.int ((q2 (45 + 10 * x0.toNatClampNeg + 1) x1.toNatClampNeg) &&& q6)), some (.int (q2 (45 + 10 * x0.toNatClampNeg + 3) x1.toNatClampNeg)), none]) (s1 := []) (t1 := (jm_S0 L, q2, J)) (p2 := 67) (l2 := [some (.ref 1), some (.int x0), some (.int x1), some (.ref 41), some (.int ((q2 (45 + 10 * x0.toNatClampNeg + 1) x1.toNatClampNeg) &&& q6)), some (.int (q2 (45 + 10 * x0.toNatClampNeg + 3) x1.toNatClampNeg)), none]) (s2 := []) (t2 := (jm_S0 L, q2, J)) (fun _ _ => rfl) h10 ?_
      obtain ⟨h11, H⟩ := jm_gdo H
      refine jm_go.gfr 5 (b := jm_inb (x0 + 1) 6) (o := (jm_S0 L).2.2.2.2 41 (x0 + 1).toNatClampNeg) (q := 45 + 10 * (x0 + 1).toNatClampNeg) (pc' := 76) (ls' := [some (.ref 1), some (.int x0), none, some (.ref 41), some (.int ((q2 (45 + 10 * x0.toNatClampNeg + 1) x1.toNatClampNeg) &&& q6)), some (.int (q2 (45 + 10 * x0.toNatClampNeg + 3) x1.toNatClampNeg)), none]) (st' := []) (t' := (jm_S0 L, q2, J)) (fun _ _ => rfl) h11 (jm_aHr L h11) ?_
      refine jm_go.gfr 1 (b := jm_is (jm_S0 L) (45 + 10 * (x0 + 1).toNatClampNeg) 3) (o := (jm_S0 L).2.2.2.2 (45 + 10 * (x0 + 1).toNatClampNeg) 1) (q := 45 + 10 * (x0 + 1).toNatClampNeg + 1) (pc' := 79) (ls' := [some (.ref 1), some (.int x0), none, some (.ref 41), some (.int ((q2 (45 + 10 * x0.toNatClampNeg + 1) x1.toNatClampNeg) &&& q6)), some (.int (q2 (45 + 10 * x0.toNatClampNeg + 3) x1.toNatClampNeg)), none]) (st' := []) (t' := (jm_S0 L, q2, J)) (fun _ _ => rfl) (jm_fH L (jm_aH h11)) (jm_rH1 L (jm_aH h11)) ?_
      obtain ⟨h12, H⟩ := jm_gdo H
      refine jm_go.grd 2 (b := ((Nat.beq 0 1 && Nat.beq (45 + 10 * (x0 + 1).toNatClampNeg + 1) 0) || (Nat.beq 0 0 && jm_is (jm_S0 L) (45 + 10 * (x0 + 1).toNatClampNeg + 1) 9)) && jm_inb (q2 (45 + 10 * x0.toNatClampNeg + 3) x1.toNatClampNeg) ((jm_S0 L).2.2.2.1 (45 + 10 * (x0 + 1).toNatClampNeg + 1))) (pc' := 82) (ls' := [some (.ref 1), some (.int x0), none, some (.ref 41), some (.int ((q2 (45 + 10 * x0.toNatClampNeg + 1) x1.toNatClampNeg) &&& q6)), some (.int (q2 (45 + 10 * x0.toNatClampNeg + 3) x1.toNatClampNeg)), none]) (st' := [.int (q2 (45 + 10 * (x0 + 1).toNatClampNeg + 1) ((q2 (45 + 10 * x0.toNatClampNeg + 3) x1.toNatClampNeg).toNatClampNeg))]) (t' := (jm_S0 L, q2, J)) (fun _ _ => rfl) (jm_gia (jm_fH1 L (jm_aH h11)) h12) ?_
      refine jm_go.lab (ls' := [some (.ref 1), none, none, none, some (.int ((q2 (45 + 10 * x0.toNatClampNeg + 1) x1.toNatClampNeg) &&& q6)), none, none]) (fun i hi => by cases hi; rfl) ?_
      exact g91_82 L d M J  q2 ((q2 (45 + 10 * x0.toNatClampNeg + 1) x1.toNatClampNeg) &&& q6) (q2 (45 + 10 * (x0 + 1).toNatClampNeg + 1) ((q2 (45 + 10 * x0.toNatClampNeg + 3) x1.toNatClampNeg).toNatClampNeg)) _ H
    · refine jm_go.brf 4 (b := !decide ((q2 (45 + 10 * x0.toNatClampNeg + 3) x1.toNatClampNeg) = (-1))) (p1 := 71) (l1 := [some (.ref 1), some (.int x0), some (.int x1), some (.ref 41), some (.int ((q2 (45 + 10 * x0.toNatClampNeg + 1) x1.toNatClampNeg) &&& q6)), some (.int (q2 (45 + 10 * x0.toNatClampNeg + 3) x1.toNatClampNeg)), none]) (s1 := []) (t1 := (jm_S0 L, q2, J)) (p2 := 67) (l2 := [some (.ref 1), some (.int x0), some (.int x1), some (.ref 41), some (.int ((q2 (45 + 10 * x0.toNatClampNeg + 1) x1.toNatClampNeg) &&& q6)), some (.int (q2 (45 + 10 * x0.toNatClampNeg + 3) x1.toNatClampNeg)), none]) (s2 := []) (t2 := (jm_S0 L, q2, J)) (fun _ _ => rfl) h10 ?_
      refine jm_go.blk 2 (pc' := 82) (ls' := [some (.ref 1), some (.int x0), some (.int x1), some (.ref 41), some (.int ((q2 (45 + 10 * x0.toNatClampNeg + 1) x1.toNatClampNeg) &&& q6)), some (.int (q2 (45 + 10 * x0.toNatClampNeg + 3) x1.toNatClampNeg)), none]) (st' := [.int 0]) (t' := (jm_S0 L, q2, J)) (fun _ _ => rfl) ?_
      refine jm_go.lab (ls' := [some (.ref 1), none, none, none, some (.int ((q2 (45 + 10 * x0.toNatClampNeg + 1) x1.toNatClampNeg) &&& q6)), none, none]) (fun i hi => by cases hi; rfl) ?_
      exact g91_82 L d M J  q2 ((q2 (45 + 10 * x0.toNatClampNeg + 1) x1.toNatClampNeg) &&& q6) 0 _ H
  · refine jm_go.brf 7 (b := decide ((x0 + 1) < (M 2 0))) (p1 := 15) (l1 := [some (.ref 1), some (.int x0), some (.int x1), none, none, none, none]) (s1 := []) (t1 := (jm_S0 L, M, J)) (p2 := 13) (l2 := [some (.ref 1), some (.int x0), some (.int x1), none, none, none, none]) (s2 := []) (t2 := (jm_S0 L, M, J)) (fun _ _ => rfl) h1 ?_
    have H := Option.some.inj H
    subst H
    exact jm_go.ret 2 (fun _ _ => rfl)


/-- X7_halo -/
def f68 (M : jm_MM) (x0 : Int32) (x1 : Int32) (x2 : Int32) : Option (Int32 × jm_MM) := jm_bd (f82 M x0 x1) (fun q1 => bif !decide (q1.1 = 0) then (jm_bd (f22 q1.2) (fun q4 => jm_gd (jm_inb x0 6) (bif decide (x2 = 0) then (jm_gd (jm_inb x1 24) (some (q4 (45 + 10 * x0.toNatClampNeg + 1) x1.toNatClampNeg, q4))) else (bif decide (x2 = 1) then (jm_gd (jm_inb x1 24) (some (q4 (45 + 10 * x0.toNatClampNeg + 2) x1.toNatClampNeg, q4))) else (bif decide (x2 = 2) then (jm_gd (jm_inb x1 24) (some (q4 (45 + 10 * x0.toNatClampNeg + 3) x1.toNatClampNeg, q4))) else (bif decide (x2 = 3) then (jm_gd (jm_inb x1 24) (jm_bd (f164 q4 (q4 (45 + 10 * x0.toNatClampNeg + 4) x1.toNatClampNeg)) (fun q14 => some (q14, q4)))) else (bif decide (x2 = 4) then (jm_gd (jm_inb x1 24) (some (q4 (45 + 10 * x0.toNatClampNeg + 5) x1.toNatClampNeg, q4))) else (bif decide (x2 = 5) then (jm_gd (jm_inb x1 24) (some (q4 (45 + 10 * x0.toNatClampNeg + 6) x1.toNatClampNeg, q4))) else (bif decide (x2 = 6) then (jm_gd (jm_inb x1 24) (jm_bd (f24 q4 x0 x1) (fun q22 => some ((q4 (45 + 10 * x0.toNatClampNeg + 2) x1.toNatClampNeg) - q22, q4)))) else (bif decide (x2 = 7) then (jm_bd (f91 q4 x0 x1) (fun q25 => some (q25.1, q25.2))) else (some ((-1000000002), q4)))))))))))) else (some ((-1000000001), q1.2)))
set_option maxRecDepth 100000 in
theorem g68 (L : Nat) (d : Nat) (M : jm_MM) (J : jm_JJ) (x0 : Int32) (x1 : Int32) (x2 : Int32) (r : Int32 × jm_MM) (H : f68 M x0 x1 x2 = some r) : jm_go (d + 6) (jm_G 68) 0 (jm_en 5 [.ref 1, .int x0, .int x1, .int x2]) [] (jm_S0 L, M, J) (some (.int r.1), (jm_S0 L, r.2, J)) := by
  unfold f68 at H
  obtain ⟨q1, h2, H⟩ := jm_bdo H
  refine jm_go.call 4 (d := d + 5) (b := true) (u := 82) (as := [.ref 1, .int x0, .int x1]) (pc' := 6) (ls' := [some (.ref 1), some (.int x0), some (.int x1), some (.int x2), none]) (st' := []) (t' := (jm_S0 L, M, J)) (fun _ _ => rfl) rfl rfl (g82 L d M J x0 x1 _ h2) ?_
  rcases jm_bro H with ⟨h3, H⟩ | ⟨h3, H⟩
  · refine jm_go.brt 1 (b := !decide (q1.1 = 0)) (p1 := 12) (l1 := [some (.ref 1), some (.int x0), some (.int x1), some (.int x2), none]) (s1 := []) (t1 := (jm_S0 L, q1.2, J)) (p2 := 9) (l2 := [some (.ref 1), some (.int x0), some (.int x1), some (.int x2), none]) (s2 := []) (t2 := (jm_S0 L, q1.2, J)) (fun _ _ => rfl) h3 ?_
    obtain ⟨q4, h5, H⟩ := jm_bdo H
    refine jm_go.call 5 (d := d + 5) (b := true) (u := 22) (as := [.ref 39, .ref 2]) (pc' := 23) (ls' := [some (.ref 1), some (.int x0), some (.int x1), some (.int x2), none]) (st' := []) (t' := (jm_S0 L, q1.2, J)) (fun _ _ => rfl) rfl rfl (g22 L (d + 1) q1.2 J _ h5) ?_
    obtain ⟨h6, H⟩ := jm_gdo H
    refine jm_go.gfr 3 (b := jm_inb x0 6) (o := (jm_S0 L).2.2.2.2 41 x0.toNatClampNeg) (q := 45 + 10 * x0.toNatClampNeg) (pc' := 28) (ls' := [some (.ref 1), some (.int x0), some (.int x1), some (.int x2), none]) (st' := []) (t' := (jm_S0 L, q4, J)) (fun _ _ => rfl) h6 (jm_aHr L h6) ?_
    rcases jm_bro H with ⟨h8, H⟩ | ⟨h8, H⟩
    · refine jm_go.sw 3 (x := x2) (u := 152) (ts := [(0, 76), (1, 84), (2, 92), (3, 100), (4, 111), (5, 119), (6, 127), (7, 145)]) (q := 76) (ls' := [some (.ref 1), some (.int x0), some (.int x1), some (.int x2), some (.ref (45 + 10 * x0.toNatClampNeg))]) (st' := []) (t' := (jm_S0 L, q4, J)) (fun _ _ => rfl) (by simp only [jm_tgt, h8, cond_true, cond_false]) ?_
      refine jm_go.gfr 2 (b := jm_is (jm_S0 L) (45 + 10 * x0.toNatClampNeg) 3) (o := (jm_S0 L).2.2.2.2 (45 + 10 * x0.toNatClampNeg) 1) (q := 45 + 10 * x0.toNatClampNeg + 1) (pc' := 81) (ls' := [none, none, some (.int x1), none, some (.ref (45 + 10 * x0.toNatClampNeg))]) (st' := []) (t' := (jm_S0 L, q4, J)) (fun _ _ => rfl) (jm_fH L (jm_aH h6)) (jm_rH1 L (jm_aH h6)) ?_
      obtain ⟨h7, H⟩ := jm_gdo H
      refine jm_go.grd 2 (b := ((Nat.beq 0 1 && Nat.beq (45 + 10 * x0.toNatClampNeg + 1) 0) || (Nat.beq 0 0 && jm_is (jm_S0 L) (45 + 10 * x0.toNatClampNeg + 1) 9)) && jm_inb x1 ((jm_S0 L).2.2.2.1 (45 + 10 * x0.toNatClampNeg + 1))) (pc' := 83) (ls' := [none, none, some (.int x1), none, some (.ref (45 + 10 * x0.toNatClampNeg))]) (st' := [.int (q4 (45 + 10 * x0.toNatClampNeg + 1) x1.toNatClampNeg)]) (t' := (jm_S0 L, q4, J)) (fun _ _ => rfl) (jm_gia (jm_fH1 L (jm_aH h6)) h7) ?_
      have H := Option.some.inj H
      subst H
      exact jm_go.ret 1 (fun _ _ => rfl)
    · skip
      rcases jm_bro H with ⟨h10, H⟩ | ⟨h10, H⟩
      · refine jm_go.sw 3 (x := x2) (u := 152) (ts := [(0, 76), (1, 84), (2, 92), (3, 100), (4, 111), (5, 119), (6, 127), (7, 145)]) (q := 84) (ls' := [some (.ref 1), some (.int x0), some (.int x1), some (.int x2), some (.ref (45 + 10 * x0.toNatClampNeg))]) (st' := []) (t' := (jm_S0 L, q4, J)) (fun _ _ => rfl) (by simp only [jm_tgt, h8, h10, cond_true, cond_false]) ?_
        refine jm_go.gfr 2 (b := jm_is (jm_S0 L) (45 + 10 * x0.toNatClampNeg) 3) (o := (jm_S0 L).2.2.2.2 (45 + 10 * x0.toNatClampNeg) 2) (q := 45 + 10 * x0.toNatClampNeg + 2) (pc' := 89) (ls' := [none, none, some (.int x1), none, some (.ref (45 + 10 * x0.toNatClampNeg))]) (st' := []) (t' := (jm_S0 L, q4, J)) (fun _ _ => rfl) (jm_fH L (jm_aH h6)) (jm_rH2 L (jm_aH h6)) ?_
        obtain ⟨h9, H⟩ := jm_gdo H
        refine jm_go.grd 2 (b := ((Nat.beq 0 1 && Nat.beq (45 + 10 * x0.toNatClampNeg + 2) 0) || (Nat.beq 0 0 && jm_is (jm_S0 L) (45 + 10 * x0.toNatClampNeg + 2) 9)) && jm_inb x1 ((jm_S0 L).2.2.2.1 (45 + 10 * x0.toNatClampNeg + 2))) (pc' := 91) (ls' := [none, none, some (.int x1), none, some (.ref (45 + 10 * x0.toNatClampNeg))]) (st' := [.int (q4 (45 + 10 * x0.toNatClampNeg + 2) x1.toNatClampNeg)]) (t' := (jm_S0 L, q4, J)) (fun _ _ => rfl) (jm_gia (jm_fH2 L (jm_aH h6)) h9) ?_
        have H := Option.some.inj H
        subst H
        exact jm_go.ret 1 (fun _ _ => rfl)
      · skip
        rcases jm_bro H with ⟨h12, H⟩ | ⟨h12, H⟩
        · refine jm_go.sw 3 (x := x2) (u := 152) (ts := [(0, 76), (1, 84), (2, 92), (3, 100), (4, 111), (5, 119), (6, 127), (7, 145)]) (q := 92) (ls' := [some (.ref 1), some (.int x0), some (.int x1), some (.int x2), some (.ref (45 + 10 * x0.toNatClampNeg))]) (st' := []) (t' := (jm_S0 L, q4, J)) (fun _ _ => rfl) (by simp only [jm_tgt, h8, h10, h12, cond_true, cond_false]) ?_
          refine jm_go.gfr 2 (b := jm_is (jm_S0 L) (45 + 10 * x0.toNatClampNeg) 3) (o := (jm_S0 L).2.2.2.2 (45 + 10 * x0.toNatClampNeg) 3) (q := 45 + 10 * x0.toNatClampNeg + 3) (pc' := 97) (ls' := [none, none, some (.int x1), none, some (.ref (45 + 10 * x0.toNatClampNeg))]) (st' := []) (t' := (jm_S0 L, q4, J)) (fun _ _ => rfl) (jm_fH L (jm_aH h6)) (jm_rH3 L (jm_aH h6)) ?_
          obtain ⟨h11, H⟩ := jm_gdo H
          refine jm_go.grd 2 (b := ((Nat.beq 0 1 && Nat.beq (45 + 10 * x0.toNatClampNeg + 3) 0) || (Nat.beq 0 0 && jm_is (jm_S0 L) (45 + 10 * x0.toNatClampNeg + 3) 9)) && jm_inb x1 ((jm_S0 L).2.2.2.1 (45 + 10 * x0.toNatClampNeg + 3))) (pc' := 99) (ls' := [none, none, some (.int x1), none, some (.ref (45 + 10 * x0.toNatClampNeg))]) (st' := [.int (q4 (45 + 10 * x0.toNatClampNeg + 3) x1.toNatClampNeg)]) (t' := (jm_S0 L, q4, J)) (fun _ _ => rfl) (jm_gia (jm_fH3 L (jm_aH h6)) h11) ?_
          have H := Option.some.inj H
          subst H
          exact jm_go.ret 1 (fun _ _ => rfl)
        · skip
          rcases jm_bro H with ⟨h16, H⟩ | ⟨h16, H⟩
          · refine jm_go.sw 3 (x := x2) (u := 152) (ts := [(0, 76), (1, 84), (2, 92), (3, 100), (4, 111), (5, 119), (6, 127), (7, 145)]) (q := 100) (ls' := [some (.ref 1), some (.int x0), some (.int x1), some (.int x2), some (.ref (45 + 10 * x0.toNatClampNeg))]) (st' := []) (t' := (jm_S0 L, q4, J)) (fun _ _ => rfl) (by simp only [jm_tgt, h8, h10, h12, h16, cond_true, cond_false]) ?_
            refine jm_go.gfr 2 (b := jm_is (jm_S0 L) (45 + 10 * x0.toNatClampNeg) 3) (o := (jm_S0 L).2.2.2.2 (45 + 10 * x0.toNatClampNeg) 4) (q := 45 + 10 * x0.toNatClampNeg + 4) (pc' := 105) (ls' := [none, none, some (.int x1), none, some (.ref (45 + 10 * x0.toNatClampNeg))]) (st' := []) (t' := (jm_S0 L, q4, J)) (fun _ _ => rfl) (jm_fH L (jm_aH h6)) (jm_rH4 L (jm_aH h6)) ?_
            obtain ⟨h13, H⟩ := jm_gdo H
            refine jm_go.grd 2 (b := ((Nat.beq 0 1 && Nat.beq (45 + 10 * x0.toNatClampNeg + 4) 0) || (Nat.beq 0 0 && jm_is (jm_S0 L) (45 + 10 * x0.toNatClampNeg + 4) 9)) && jm_inb x1 ((jm_S0 L).2.2.2.1 (45 + 10 * x0.toNatClampNeg + 4))) (pc' := 107) (ls' := [none, none, some (.int x1), none, some (.ref (45 + 10 * x0.toNatClampNeg))]) (st' := [.int (q4 (45 + 10 * x0.toNatClampNeg + 4) x1.toNatClampNeg)]) (t' := (jm_S0 L, q4, J)) (fun _ _ => rfl) (jm_gia (jm_fH4 L (jm_aH h6)) h13) ?_
            obtain ⟨q14, h15, H⟩ := jm_bdo H
            refine jm_go.call 1 (d := d + 5) (b := true) (u := 164) (as := [.int (q4 (45 + 10 * x0.toNatClampNeg + 4) x1.toNatClampNeg)]) (pc' := 110) (ls' := [none, none, some (.int x1), none, some (.ref (45 + 10 * x0.toNatClampNeg))]) (st' := []) (t' := (jm_S0 L, q4, J)) (fun _ _ => rfl) rfl rfl (g164 L (d + 5) q4 J (q4 (45 + 10 * x0.toNatClampNeg + 4) x1.toNatClampNeg) _ h15) ?_
            have H := Option.some.inj H
            subst H
            exact jm_go.ret 1 (fun _ _ => rfl)
          · skip
            rcases jm_bro H with ⟨h18, H⟩ | ⟨h18, H⟩
            · refine jm_go.sw 3 (x := x2) (u := 152) (ts := [(0, 76), (1, 84), (2, 92), (3, 100), (4, 111), (5, 119), (6, 127), (7, 145)]) (q := 111) (ls' := [some (.ref 1), some (.int x0), some (.int x1), some (.int x2), some (.ref (45 + 10 * x0.toNatClampNeg))]) (st' := []) (t' := (jm_S0 L, q4, J)) (fun _ _ => rfl) (by simp only [jm_tgt, h8, h10, h12, h16, h18, cond_true, cond_false]) ?_
              refine jm_go.gfr 2 (b := jm_is (jm_S0 L) (45 + 10 * x0.toNatClampNeg) 3) (o := (jm_S0 L).2.2.2.2 (45 + 10 * x0.toNatClampNeg) 5) (q := 45 + 10 * x0.toNatClampNeg + 5) (pc' := 116) (ls' := [none, none, some (.int x1), none, some (.ref (45 + 10 * x0.toNatClampNeg))]) (st' := []) (t' := (jm_S0 L, q4, J)) (fun _ _ => rfl) (jm_fH L (jm_aH h6)) (jm_rH5 L (jm_aH h6)) ?_
              obtain ⟨h17, H⟩ := jm_gdo H
              refine jm_go.grd 2 (b := ((Nat.beq 0 1 && Nat.beq (45 + 10 * x0.toNatClampNeg + 5) 0) || (Nat.beq 0 0 && jm_is (jm_S0 L) (45 + 10 * x0.toNatClampNeg + 5) 9)) && jm_inb x1 ((jm_S0 L).2.2.2.1 (45 + 10 * x0.toNatClampNeg + 5))) (pc' := 118) (ls' := [none, none, some (.int x1), none, some (.ref (45 + 10 * x0.toNatClampNeg))]) (st' := [.int (q4 (45 + 10 * x0.toNatClampNeg + 5) x1.toNatClampNeg)]) (t' := (jm_S0 L, q4, J)) (fun _ _ => rfl) (jm_gia (jm_fH5 L (jm_aH h6)) h17) ?_
              have H := Option.some.inj H
              subst H
              exact jm_go.ret 1 (fun _ _ => rfl)
            · skip
              rcases jm_bro H with ⟨h20, H⟩ | ⟨h20, H⟩
              · refine jm_go.sw 3 (x := x2) (u := 152) (ts := [(0, 76), (1, 84), (2, 92), (3, 100), (4, 111), (5, 119), (6, 127), (7, 145)]) (q := 119) (ls' := [some (.ref 1), some (.int x0), some (.int x1), some (.int x2), some (.ref (45 + 10 * x0.toNatClampNeg))]) (st' := []) (t' := (jm_S0 L, q4, J)) (fun _ _ => rfl) (by simp only [jm_tgt, h8, h10, h12, h16, h18, h20, cond_true, cond_false]) ?_
                refine jm_go.gfr 2 (b := jm_is (jm_S0 L) (45 + 10 * x0.toNatClampNeg) 3) (o := (jm_S0 L).2.2.2.2 (45 + 10 * x0.toNatClampNeg) 6) (q := 45 + 10 * x0.toNatClampNeg + 6) (pc' := 124) (ls' := [none, none, some (.int x1), none, some (.ref (45 + 10 * x0.toNatClampNeg))]) (st' := []) (t' := (jm_S0 L, q4, J)) (fun _ _ => rfl) (jm_fH L (jm_aH h6)) (jm_rH6 L (jm_aH h6)) ?_
                obtain ⟨h19, H⟩ := jm_gdo H
                refine jm_go.grd 2 (b := ((Nat.beq 0 1 && Nat.beq (45 + 10 * x0.toNatClampNeg + 6) 0) || (Nat.beq 0 0 && jm_is (jm_S0 L) (45 + 10 * x0.toNatClampNeg + 6) 9)) && jm_inb x1 ((jm_S0 L).2.2.2.1 (45 + 10 * x0.toNatClampNeg + 6))) (pc' := 126) (ls' := [none, none, some (.int x1), none, some (.ref (45 + 10 * x0.toNatClampNeg))]) (st' := [.int (q4 (45 + 10 * x0.toNatClampNeg + 6) x1.toNatClampNeg)]) (t' := (jm_S0 L, q4, J)) (fun _ _ => rfl) (jm_gia (jm_fH6 L (jm_aH h6)) h19) ?_
                have H := Option.some.inj H
                subst H
                exact jm_go.ret 1 (fun _ _ => rfl)
              · skip
                rcases jm_bro H with ⟨h24, H⟩ | ⟨h24, H⟩
                · refine jm_go.sw 3 (x := x2) (u := 152) (ts := [(0, 76), (1, 84), (2, 92), (3, 100), (4, 111), (5, 119), (6, 127), (7, 145)]) (q := 127) (ls' := [some (.ref 1), some (.int x0), some (.int x1), some (.int x2), some (.ref (45 + 10 * x0.toNatClampNeg))]) (st' := []) (t' := (jm_S0 L, q4, J)) (fun _ _ => rfl) (by simp only [jm_tgt, h8, h10, h12, h16, h18, h20, h24, cond_true, cond_false]) ?_
                  refine jm_go.gfr 2 (b := jm_is (jm_S0 L) (45 + 10 * x0.toNatClampNeg) 3) (o := (jm_S0 L).2.2.2.2 (45 + 10 * x0.toNatClampNeg) 2) (q := 45 + 10 * x0.toNatClampNeg + 2) (pc' := 132) (ls' := [some (.ref 1), some (.int x0), some (.int x1), none, some (.ref (45 + 10 * x0.toNatClampNeg))]) (st' := []) (t' := (jm_S0 L, q4, J)) (fun _ _ => rfl) (jm_fH L (jm_aH h6)) (jm_rH2 L (jm_aH h6)) ?_
                  obtain ⟨h21, H⟩ := jm_gdo H
                  refine jm_go.grd 2 (b := ((Nat.beq 0 1 && Nat.beq (45 + 10 * x0.toNatClampNeg + 2) 0) || (Nat.beq 0 0 && jm_is (jm_S0 L) (45 + 10 * x0.toNatClampNeg + 2) 9)) && jm_inb x1 ((jm_S0 L).2.2.2.1 (45 + 10 * x0.toNatClampNeg + 2))) (pc' := 134) (ls' := [some (.ref 1), some (.int x0), some (.int x1), none, some (.ref (45 + 10 * x0.toNatClampNeg))]) (st' := [.int (q4 (45 + 10 * x0.toNatClampNeg + 2) x1.toNatClampNeg)]) (t' := (jm_S0 L, q4, J)) (fun _ _ => rfl) (jm_gia (jm_fH2 L (jm_aH h6)) h21) ?_
                  obtain ⟨q22, h23, H⟩ := jm_bdo H
                  refine jm_go.call 5 (d := d + 5) (b := true) (u := 24) (as := [.ref 39, .int x0, .int x1]) (pc' := 143) (ls' := [some (.ref 1), some (.int x0), some (.int x1), none, some (.ref (45 + 10 * x0.toNatClampNeg))]) (st' := [.int (q4 (45 + 10 * x0.toNatClampNeg + 2) x1.toNatClampNeg)]) (t' := (jm_S0 L, q4, J)) (fun _ _ => rfl) rfl rfl (g24 L (d + 5) q4 J x0 x1 _ h23) ?_
                  have H := Option.some.inj H
                  subst H
                  exact jm_go.ret 2 (fun _ _ => rfl)
                · skip
                  rcases jm_bro H with ⟨h27, H⟩ | ⟨h27, H⟩
                  · refine jm_go.sw 3 (x := x2) (u := 152) (ts := [(0, 76), (1, 84), (2, 92), (3, 100), (4, 111), (5, 119), (6, 127), (7, 145)]) (q := 145) (ls' := [some (.ref 1), some (.int x0), some (.int x1), some (.int x2), some (.ref (45 + 10 * x0.toNatClampNeg))]) (st' := []) (t' := (jm_S0 L, q4, J)) (fun _ _ => rfl) (by simp only [jm_tgt, h8, h10, h12, h16, h18, h20, h24, h27, cond_true, cond_false]) ?_
                    obtain ⟨q25, h26, H⟩ := jm_bdo H
                    refine jm_go.call 4 (d := d + 5) (b := true) (u := 91) (as := [.ref 1, .int x0, .int x1]) (pc' := 151) (ls' := [some (.ref 1), some (.int x0), some (.int x1), none, none]) (st' := []) (t' := (jm_S0 L, q4, J)) (fun _ _ => rfl) rfl rfl (g91 L d q4 J x0 x1 _ h26) ?_
                    have H := Option.some.inj H
                    subst H
                    exact jm_go.ret 1 (fun _ _ => rfl)
                  · skip
                    refine jm_go.sw 3 (x := x2) (u := 152) (ts := [(0, 76), (1, 84), (2, 92), (3, 100), (4, 111), (5, 119), (6, 127), (7, 145)]) (q := 152) (ls' := [some (.ref 1), some (.int x0), some (.int x1), some (.int x2), some (.ref (45 + 10 * x0.toNatClampNeg))]) (st' := []) (t' := (jm_S0 L, q4, J)) (fun _ _ => rfl) (by simp only [jm_tgt, h8, h10, h12, h16, h18, h20, h24, h27, cond_true, cond_false]) ?_
                    have H := Option.some.inj H
                    subst H
                    exact jm_go.ret 2 (fun _ _ => rfl)
  · refine jm_go.brf 1 (b := !decide (q1.1 = 0)) (p1 := 12) (l1 := [some (.ref 1), some (.int x0), some (.int x1), some (.int x2), none]) (s1 := []) (t1 := (jm_S0 L, q1.2, J)) (p2 := 9) (l2 := [some (.ref 1), some (.int x0), some (.int x1), some (.int x2), none]) (s2 := []) (t2 := (jm_S0 L, q1.2, J)) (fun _ _ => rfl) h3 ?_
    have H := Option.some.inj H
    subst H
    exact jm_go.ret 2 (fun _ _ => rfl)


/-- X7_from -/
def f69 (M : jm_MM) (x0 : Int32) (x1 : Int32) : Option (Int32 × jm_MM) := jm_bd (f82 M x0 x1) (fun q1 => bif !decide (q1.1 = 0) then (jm_bd (f22 q1.2) (fun q4 => jm_gd (jm_inb x0 6) (jm_gd (jm_inb x1 24) (some (q4 (45 + 10 * x0.toNatClampNeg + 4) x1.toNatClampNeg, q4))))) else (some ((-1000000001), q1.2)))
set_option maxRecDepth 100000 in
theorem g69 (L : Nat) (d : Nat) (M : jm_MM) (J : jm_JJ) (x0 : Int32) (x1 : Int32) (r : Int32 × jm_MM) (H : f69 M x0 x1 = some r) : jm_go (d + 6) (jm_G 69) 0 (jm_en 3 [.ref 1, .int x0, .int x1]) [] (jm_S0 L, M, J) (some (.int r.1), (jm_S0 L, r.2, J)) := by
  unfold f69 at H
  obtain ⟨q1, h2, H⟩ := jm_bdo H
  refine jm_go.call 4 (d := d + 5) (b := true) (u := 82) (as := [.ref 1, .int x0, .int x1]) (pc' := 6) (ls' := [some (.ref 1), some (.int x0), some (.int x1)]) (st' := []) (t' := (jm_S0 L, M, J)) (fun _ _ => rfl) rfl rfl (g82 L d M J x0 x1 _ h2) ?_
  rcases jm_bro H with ⟨h3, H⟩ | ⟨h3, H⟩
  · refine jm_go.brt 1 (b := !decide (q1.1 = 0)) (p1 := 12) (l1 := [some (.ref 1), some (.int x0), some (.int x1)]) (s1 := []) (t1 := (jm_S0 L, q1.2, J)) (p2 := 9) (l2 := [some (.ref 1), some (.int x0), some (.int x1)]) (s2 := []) (t2 := (jm_S0 L, q1.2, J)) (fun _ _ => rfl) h3 ?_
    obtain ⟨q4, h5, H⟩ := jm_bdo H
    refine jm_go.call 5 (d := d + 5) (b := true) (u := 22) (as := [.ref 39, .ref 2]) (pc' := 23) (ls' := [some (.ref 1), some (.int x0), some (.int x1)]) (st' := []) (t' := (jm_S0 L, q1.2, J)) (fun _ _ => rfl) rfl rfl (g22 L (d + 1) q1.2 J _ h5) ?_
    obtain ⟨h6, H⟩ := jm_gdo H
    refine jm_go.gfr 3 (b := jm_inb x0 6) (o := (jm_S0 L).2.2.2.2 41 x0.toNatClampNeg) (q := 45 + 10 * x0.toNatClampNeg) (pc' := 28) (ls' := [some (.ref 1), some (.int x0), some (.int x1)]) (st' := []) (t' := (jm_S0 L, q4, J)) (fun _ _ => rfl) h6 (jm_aHr L h6) ?_
    refine jm_go.gfr 1 (b := jm_is (jm_S0 L) (45 + 10 * x0.toNatClampNeg) 3) (o := (jm_S0 L).2.2.2.2 (45 + 10 * x0.toNatClampNeg) 4) (q := 45 + 10 * x0.toNatClampNeg + 4) (pc' := 31) (ls' := [some (.ref 1), some (.int x0), some (.int x1)]) (st' := []) (t' := (jm_S0 L, q4, J)) (fun _ _ => rfl) (jm_fH L (jm_aH h6)) (jm_rH4 L (jm_aH h6)) ?_
    obtain ⟨h7, H⟩ := jm_gdo H
    refine jm_go.grd 2 (b := ((Nat.beq 0 1 && Nat.beq (45 + 10 * x0.toNatClampNeg + 4) 0) || (Nat.beq 0 0 && jm_is (jm_S0 L) (45 + 10 * x0.toNatClampNeg + 4) 9)) && jm_inb x1 ((jm_S0 L).2.2.2.1 (45 + 10 * x0.toNatClampNeg + 4))) (pc' := 33) (ls' := [some (.ref 1), some (.int x0), some (.int x1)]) (st' := [.int (q4 (45 + 10 * x0.toNatClampNeg + 4) x1.toNatClampNeg)]) (t' := (jm_S0 L, q4, J)) (fun _ _ => rfl) (jm_gia (jm_fH4 L (jm_aH h6)) h7) ?_
    have H := Option.some.inj H
    subst H
    exact jm_go.ret 1 (fun _ _ => rfl)
  · refine jm_go.brf 1 (b := !decide (q1.1 = 0)) (p1 := 12) (l1 := [some (.ref 1), some (.int x0), some (.int x1)]) (s1 := []) (t1 := (jm_S0 L, q1.2, J)) (p2 := 9) (l2 := [some (.ref 1), some (.int x0), some (.int x1)]) (s2 := []) (t2 := (jm_S0 L, q1.2, J)) (fun _ _ => rfl) h3 ?_
    have H := Option.some.inj H
    subst H
    exact jm_go.ret 2 (fun _ _ => rfl)


/-- X7_branch -/
def f70 (M : jm_MM) (x0 : Int32) (x1 : Int32) (x2 : Int32) : Option (Int32 × jm_MM) := jm_bd (f82 M x0 x1) (fun q1 => bif !decide (q1.1 = 0) then (bif decide (0 ≤ x2) then (jm_bd (f22 q1.2) (fun q5 => jm_bd (f23 q5 x0 x1 x2) (fun q7 => some (q7, q5)))) else (some ((-1000000002), q1.2))) else (some ((-1000000001), q1.2)))
set_option maxRecDepth 100000 in
theorem g70 (L : Nat) (d : Nat) (M : jm_MM) (J : jm_JJ) (x0 : Int32) (x1 : Int32) (x2 : Int32) (r : Int32 × jm_MM) (H : f70 M x0 x1 x2 = some r) : jm_go (d + 6) (jm_G 70) 0 (jm_en 4 [.ref 1, .int x0, .int x1, .int x2]) [] (jm_S0 L, M, J) (some (.int r.1), (jm_S0 L, r.2, J)) := by
  unfold f70 at H
  obtain ⟨q1, h2, H⟩ := jm_bdo H
  refine jm_go.call 4 (d := d + 5) (b := true) (u := 82) (as := [.ref 1, .int x0, .int x1]) (pc' := 6) (ls' := [some (.ref 1), some (.int x0), some (.int x1), some (.int x2)]) (st' := []) (t' := (jm_S0 L, M, J)) (fun _ _ => rfl) rfl rfl (g82 L d M J x0 x1 _ h2) ?_
  rcases jm_bro H with ⟨h3, H⟩ | ⟨h3, H⟩
  · refine jm_go.brt 1 (b := !decide (q1.1 = 0)) (p1 := 12) (l1 := [some (.ref 1), some (.int x0), some (.int x1), some (.int x2)]) (s1 := []) (t1 := (jm_S0 L, q1.2, J)) (p2 := 9) (l2 := [some (.ref 1), some (.int x0), some (.int x1), some (.int x2)]) (s2 := []) (t2 := (jm_S0 L, q1.2, J)) (fun _ _ => rfl) h3 ?_
    rcases jm_bro H with ⟨h4, H⟩ | ⟨h4, H⟩
    · refine jm_go.brt 2 (b := decide (0 ≤ x2)) (p1 := 19) (l1 := [some (.ref 1), some (.int x0), some (.int x1), some (.int x2)]) (s1 := []) (t1 := (jm_S0 L, q1.2, J)) (p2 := 16) (l2 := [some (.ref 1), some (.int x0), some (.int x1), some (.int x2)]) (s2 := []) (t2 := (jm_S0 L, q1.2, J)) (fun _ _ => rfl) h4 ?_
      obtain ⟨q5, h6, H⟩ := jm_bdo H
      refine jm_go.call 5 (d := d + 5) (b := true) (u := 22) (as := [.ref 39, .ref 2]) (pc' := 30) (ls' := [some (.ref 1), some (.int x0), some (.int x1), some (.int x2)]) (st' := []) (t' := (jm_S0 L, q1.2, J)) (fun _ _ => rfl) rfl rfl (g22 L (d + 1) q1.2 J _ h6) ?_
      obtain ⟨q7, h8, H⟩ := jm_bdo H
      refine jm_go.call 4 (d := d + 5) (b := true) (u := 23) (as := [.ref 39, .int x0, .int x1, .int x2]) (pc' := 36) (ls' := [some (.ref 1), some (.int x0), some (.int x1), some (.int x2)]) (st' := []) (t' := (jm_S0 L, q5, J)) (fun _ _ => rfl) rfl rfl (g23 L (d + 5) q5 J x0 x1 x2 _ h8) ?_
      have H := Option.some.inj H
      subst H
      exact jm_go.ret 1 (fun _ _ => rfl)
    · refine jm_go.brf 2 (b := decide (0 ≤ x2)) (p1 := 19) (l1 := [some (.ref 1), some (.int x0), some (.int x1), some (.int x2)]) (s1 := []) (t1 := (jm_S0 L, q1.2, J)) (p2 := 16) (l2 := [some (.ref 1), some (.int x0), some (.int x1), some (.int x2)]) (s2 := []) (t2 := (jm_S0 L, q1.2, J)) (fun _ _ => rfl) h4 ?_
      have H := Option.some.inj H
      subst H
      exact jm_go.ret 2 (fun _ _ => rfl)
  · refine jm_go.brf 1 (b := !decide (q1.1 = 0)) (p1 := 12) (l1 := [some (.ref 1), some (.int x0), some (.int x1), some (.int x2)]) (s1 := []) (t1 := (jm_S0 L, q1.2, J)) (p2 := 9) (l2 := [some (.ref 1), some (.int x0), some (.int x1), some (.int x2)]) (s2 := []) (t2 := (jm_S0 L, q1.2, J)) (fun _ _ => rfl) h3 ?_
    have H := Option.some.inj H
    subst H
    exact jm_go.ret 2 (fun _ _ => rfl)


/-- X7_common -/
def f71 (M : jm_MM) (x0 : Int32) (x1 : Int32) (x2 : Int32) : Option (Int32 × jm_MM) := jm_bd (f82 M x0 x1) (fun q1 => bif decide (q1.1 = 0) then (some ((-1000000001), q1.2)) else (jm_bd (f82 q1.2 (x0 + 1) x2) (fun q4 => bif !decide (q4.1 = 0) then (jm_bd (f22 q4.2) (fun q7 => jm_gd (jm_inb x0 6) (jm_gd (jm_inb x1 24) (jm_gd (jm_inb (x0 + 1) 6) (jm_gd (jm_inb x2 24) (jm_bd (f20 q7 ((q7 (45 + 10 * x0.toNatClampNeg + 1) x1.toNatClampNeg) &&& (q7 (45 + 10 * (x0 + 1).toNatClampNeg + 1) x2.toNatClampNeg))) (fun q13 => some (q13, q7)))))))) else (some ((-1000000001), q4.2)))))
set_option maxRecDepth 100000 in
theorem g71 (L : Nat) (d : Nat) (M : jm_MM) (J : jm_JJ) (x0 : Int32) (x1 : Int32) (x2 : Int32) (r : Int32 × jm_MM) (H : f71 M x0 x1 x2 = some r) : jm_go (d + 6) (jm_G 71) 0 (jm_en 5 [.ref 1, .int x0, .int x1, .int x2]) [] (jm_S0 L, M, J) (some (.int r.1), (jm_S0 L, r.2, J)) := by
  unfold f71 at H
  obtain ⟨q1, h2, H⟩ := jm_bdo H
  refine jm_go.call 4 (d := d + 5) (b := true) (u := 82) (as := [.ref 1, .int x0, .int x1]) (pc' := 6) (ls' := [some (.ref 1), some (.int x0), some (.int x1), some (.int x2), none]) (st' := []) (t' := (jm_S0 L, M, J)) (fun _ _ => rfl) rfl rfl (g82 L d M J x0 x1 _ h2) ?_
  rcases jm_bro H with ⟨h3, H⟩ | ⟨h3, H⟩
  · refine jm_go.brt 1 (b := decide (q1.1 = 0)) (p1 := 20) (l1 := [some (.ref 1), some (.int x0), some (.int x1), some (.int x2), none]) (s1 := []) (t1 := (jm_S0 L, q1.2, J)) (p2 := 9) (l2 := [some (.ref 1), some (.int x0), some (.int x1), some (.int x2), none]) (s2 := []) (t2 := (jm_S0 L, q1.2, J)) (fun _ _ => rfl) h3 ?_
    have H := Option.some.inj H
    subst H
    exact jm_go.ret 2 (fun _ _ => rfl)
  · refine jm_go.brf 1 (b := decide (q1.1 = 0)) (p1 := 20) (l1 := [some (.ref 1), some (.int x0), some (.int x1), some (.int x2), none]) (s1 := []) (t1 := (jm_S0 L, q1.2, J)) (p2 := 9) (l2 := [some (.ref 1), some (.int x0), some (.int x1), some (.int x2), none]) (s2 := []) (t2 := (jm_S0 L, q1.2, J)) (fun _ _ => rfl) h3 ?_
    obtain ⟨q4, h5, H⟩ := jm_bdo H
    refine jm_go.call 6 (d := d + 5) (b := true) (u := 82) (as := [.ref 1, .int (x0 + 1), .int x2]) (pc' := 17) (ls' := [some (.ref 1), some (.int x0), some (.int x1), some (.int x2), none]) (st' := []) (t' := (jm_S0 L, q1.2, J)) (fun _ _ => rfl) rfl rfl (g82 L d q1.2 J (x0 + 1) x2 _ h5) ?_
    rcases jm_bro H with ⟨h6, H⟩ | ⟨h6, H⟩
    · refine jm_go.brt 1 (b := !decide (q4.1 = 0)) (p1 := 23) (l1 := [some (.ref 1), some (.int x0), some (.int x1), some (.int x2), none]) (s1 := []) (t1 := (jm_S0 L, q4.2, J)) (p2 := 20) (l2 := [some (.ref 1), some (.int x0), some (.int x1), some (.int x2), none]) (s2 := []) (t2 := (jm_S0 L, q4.2, J)) (fun _ _ => rfl) h6 ?_
      obtain ⟨q7, h8, H⟩ := jm_bdo H
      refine jm_go.call 5 (d := d + 5) (b := true) (u := 22) (as := [.ref 39, .ref 2]) (pc' := 34) (ls' := [some (.ref 1), some (.int x0), some (.int x1), some (.int x2), none]) (st' := []) (t' := (jm_S0 L, q4.2, J)) (fun _ _ => rfl) rfl rfl (g22 L (d + 1) q4.2 J _ h8) ?_
      obtain ⟨h9, H⟩ := jm_gdo H
      refine jm_go.gfr 7 (b := jm_inb x0 6) (o := (jm_S0 L).2.2.2.2 41 x0.toNatClampNeg) (q := 45 + 10 * x0.toNatClampNeg) (pc' := 47) (ls' := [some (.ref 1), some (.int x0), some (.int x1), some (.int x2), some (.ref 41)]) (st' := [.ref 2]) (t' := (jm_S0 L, q7, J)) (fun _ _ => rfl) h9 (jm_aHr L h9) ?_
      refine jm_go.gfr 1 (b := jm_is (jm_S0 L) (45 + 10 * x0.toNatClampNeg) 3) (o := (jm_S0 L).2.2.2.2 (45 + 10 * x0.toNatClampNeg) 1) (q := 45 + 10 * x0.toNatClampNeg + 1) (pc' := 50) (ls' := [some (.ref 1), some (.int x0), some (.int x1), some (.int x2), some (.ref 41)]) (st' := [.ref 2]) (t' := (jm_S0 L, q7, J)) (fun _ _ => rfl) (jm_fH L (jm_aH h9)) (jm_rH1 L (jm_aH h9)) ?_
      obtain ⟨h10, H⟩ := jm_gdo H
      refine jm_go.grd 2 (b := ((Nat.beq 0 1 && Nat.beq (45 + 10 * x0.toNatClampNeg + 1) 0) || (Nat.beq 0 0 && jm_is (jm_S0 L) (45 + 10 * x0.toNatClampNeg + 1) 9)) && jm_inb x1 ((jm_S0 L).2.2.2.1 (45 + 10 * x0.toNatClampNeg + 1))) (pc' := 52) (ls' := [some (.ref 1), some (.int x0), some (.int x1), some (.int x2), some (.ref 41)]) (st' := [.int (q7 (45 + 10 * x0.toNatClampNeg + 1) x1.toNatClampNeg), .ref 2]) (t' := (jm_S0 L, q7, J)) (fun _ _ => rfl) (jm_gia (jm_fH1 L (jm_aH h9)) h10) ?_
      obtain ⟨h11, H⟩ := jm_gdo H
      refine jm_go.gfr 5 (b := jm_inb (x0 + 1) 6) (o := (jm_S0 L).2.2.2.2 41 (x0 + 1).toNatClampNeg) (q := 45 + 10 * (x0 + 1).toNatClampNeg) (pc' := 58) (ls' := [some (.ref 1), some (.int x0), some (.int x1), some (.int x2), some (.ref 41)]) (st' := [.int (q7 (45 + 10 * x0.toNatClampNeg + 1) x1.toNatClampNeg), .ref 2]) (t' := (jm_S0 L, q7, J)) (fun _ _ => rfl) h11 (jm_aHr L h11) ?_
      refine jm_go.gfr 1 (b := jm_is (jm_S0 L) (45 + 10 * (x0 + 1).toNatClampNeg) 3) (o := (jm_S0 L).2.2.2.2 (45 + 10 * (x0 + 1).toNatClampNeg) 1) (q := 45 + 10 * (x0 + 1).toNatClampNeg + 1) (pc' := 61) (ls' := [some (.ref 1), some (.int x0), some (.int x1), some (.int x2), some (.ref 41)]) (st' := [.int (q7 (45 + 10 * x0.toNatClampNeg + 1) x1.toNatClampNeg), .ref 2]) (t' := (jm_S0 L, q7, J)) (fun _ _ => rfl) (jm_fH L (jm_aH h11)) (jm_rH1 L (jm_aH h11)) ?_
      obtain ⟨h12, H⟩ := jm_gdo H
      refine jm_go.grd 2 (b := ((Nat.beq 0 1 && Nat.beq (45 + 10 * (x0 + 1).toNatClampNeg + 1) 0) || (Nat.beq 0 0 && jm_is (jm_S0 L) (45 + 10 * (x0 + 1).toNatClampNeg + 1) 9)) && jm_inb x2 ((jm_S0 L).2.2.2.1 (45 + 10 * (x0 + 1).toNatClampNeg + 1))) (pc' := 63) (ls' := [some (.ref 1), some (.int x0), some (.int x1), some (.int x2), some (.ref 41)]) (st' := [.int (q7 (45 + 10 * (x0 + 1).toNatClampNeg + 1) x2.toNatClampNeg), .int (q7 (45 + 10 * x0.toNatClampNeg + 1) x1.toNatClampNeg), .ref 2]) (t' := (jm_S0 L, q7, J)) (fun _ _ => rfl) (jm_gia (jm_fH1 L (jm_aH h11)) h12) ?_
      obtain ⟨q13, h14, H⟩ := jm_bdo H
      refine jm_go.call 2 (d := d + 5) (b := true) (u := 20) (as := [.ref 2, .int ((q7 (45 + 10 * x0.toNatClampNeg + 1) x1.toNatClampNeg) &&& (q7 (45 + 10 * (x0 + 1).toNatClampNeg + 1) x2.toNatClampNeg))]) (pc' := 67) (ls' := [some (.ref 1), some (.int x0), some (.int x1), some (.int x2), some (.ref 41)]) (st' := []) (t' := (jm_S0 L, q7, J)) (fun _ _ => rfl) rfl rfl (g20 L (d + 4) q7 J ((q7 (45 + 10 * x0.toNatClampNeg + 1) x1.toNatClampNeg) &&& (q7 (45 + 10 * (x0 + 1).toNatClampNeg + 1) x2.toNatClampNeg)) _ h14) ?_
      have H := Option.some.inj H
      subst H
      exact jm_go.ret 1 (fun _ _ => rfl)
    · refine jm_go.brf 1 (b := !decide (q4.1 = 0)) (p1 := 23) (l1 := [some (.ref 1), some (.int x0), some (.int x1), some (.int x2), none]) (s1 := []) (t1 := (jm_S0 L, q4.2, J)) (p2 := 20) (l2 := [some (.ref 1), some (.int x0), some (.int x1), some (.int x2), none]) (s2 := []) (t2 := (jm_S0 L, q4.2, J)) (fun _ _ => rfl) h6 ?_
      have H := Option.some.inj H
      subst H
      exact jm_go.ret 2 (fun _ _ => rfl)


/-- X7_within -/
def f72 (M : jm_MM) (x0 : Int32) (x1 : Int32) (x2 : Int32) (x3 : Int32) (x4 : Int32) : Option (Int32 × jm_MM) := jm_bd (f80 M x0) (fun q1 => bif !decide (q1 = 0) then (jm_bd (f85 M x1 x2) (fun q4 => bif decide (q4 = 0) then (some ((-1000000002), M)) else (jm_bd (f86 M x3 0 9999) (fun q7 => bif !decide (q7 = 0) then (bif decide (x4 = 0) then (jm_bd (f19 M x0 x1 x2 x3) (fun q10 => jm_bd (f164 M q10) (fun q12 => some (q12, M)))) else (bif decide (x4 = 1) then (jm_bd (f19 M x0 x1 x2 x3) (fun q15 => some (q15, M))) else (bif decide (x4 = 2) then (jm_bd (f19 M x0 x1 x2 x3) (fun q18 => jm_bd (f20 M q18) (fun q20 => some (q20, M)))) else (bif decide (x4 = 3) then (jm_bd (f90 M x0) (fun q23 => jm_bd (f54 q23 x1 x2 x3) (fun q25 => some (q25, q23)))) else (some ((-1000000002), M)))))) else (some ((-1000000002), M)))))) else (some ((-1000000001), M)))
set_option maxRecDepth 100000 in
theorem g72 (L : Nat) (d : Nat) (M : jm_MM) (J : jm_JJ) (x0 : Int32) (x1 : Int32) (x2 : Int32) (x3 : Int32) (x4 : Int32) (r : Int32 × jm_MM) (H : f72 M x0 x1 x2 x3 x4 = some r) : jm_go (d + 35) (jm_G 72) 0 (jm_en 6 [.ref 1, .int x0, .int x1, .int x2, .int x3, .int x4]) [] (jm_S0 L, M, J) (some (.int r.1), (jm_S0 L, r.2, J)) := by
  unfold f72 at H
  obtain ⟨q1, h2, H⟩ := jm_bdo H
  refine jm_go.call 3 (d := d + 34) (b := true) (u := 80) (as := [.ref 1, .int x0]) (pc' := 5) (ls' := [some (.ref 1), some (.int x0), some (.int x1), some (.int x2), some (.int x3), some (.int x4)]) (st' := []) (t' := (jm_S0 L, M, J)) (fun _ _ => rfl) rfl rfl (g80 L (d + 34) M J x0 _ h2) ?_
  rcases jm_bro H with ⟨h3, H⟩ | ⟨h3, H⟩
  · refine jm_go.brt 1 (b := !decide (q1 = 0)) (p1 := 11) (l1 := [some (.ref 1), some (.int x0), some (.int x1), some (.int x2), some (.int x3), some (.int x4)]) (s1 := []) (t1 := (jm_S0 L, M, J)) (p2 := 8) (l2 := [some (.ref 1), some (.int x0), some (.int x1), some (.int x2), some (.int x3), some (.int x4)]) (s2 := []) (t2 := (jm_S0 L, M, J)) (fun _ _ => rfl) h3 ?_
    obtain ⟨q4, h5, H⟩ := jm_bdo H
    refine jm_go.call 3 (d := d + 34) (b := true) (u := 85) (as := [.int x1, .int x2]) (pc' := 16) (ls' := [some (.ref 1), some (.int x0), some (.int x1), some (.int x2), some (.int x3), some (.int x4)]) (st' := []) (t' := (jm_S0 L, M, J)) (fun _ _ => rfl) rfl rfl (g85 L (d + 33) M J x1 x2 _ h5) ?_
    rcases jm_bro H with ⟨h6, H⟩ | ⟨h6, H⟩
    · refine jm_go.brt 1 (b := decide (q4 = 0)) (p1 := 31) (l1 := [some (.ref 1), some (.int x0), some (.int x1), some (.int x2), some (.int x3), some (.int x4)]) (s1 := []) (t1 := (jm_S0 L, M, J)) (p2 := 19) (l2 := [some (.ref 1), some (.int x0), some (.int x1), some (.int x2), some (.int x3), some (.int x4)]) (s2 := []) (t2 := (jm_S0 L, M, J)) (fun _ _ => rfl) h6 ?_
      have H := Option.some.inj H
      subst H
      exact jm_go.ret 2 (fun _ _ => rfl)
    · refine jm_go.brf 1 (b := decide (q4 = 0)) (p1 := 31) (l1 := [some (.ref 1), some (.int x0), some (.int x1), some (.int x2), some (.int x3), some (.int x4)]) (s1 := []) (t1 := (jm_S0 L, M, J)) (p2 := 19) (l2 := [some (.ref 1), some (.int x0), some (.int x1), some (.int x2), some (.int x3), some (.int x4)]) (s2 := []) (t2 := (jm_S0 L, M, J)) (fun _ _ => rfl) h6 ?_
      obtain ⟨q7, h8, H⟩ := jm_bdo H
      refine jm_go.call 4 (d := d + 34) (b := true) (u := 86) (as := [.int x3, .int 0, .int 9999]) (pc' := 28) (ls' := [some (.ref 1), some (.int x0), some (.int x1), some (.int x2), some (.int x3), some (.int x4)]) (st' := []) (t' := (jm_S0 L, M, J)) (fun _ _ => rfl) rfl rfl (g86 L (d + 34) M J x3 0 9999 _ h8) ?_
      rcases jm_bro H with ⟨h9, H⟩ | ⟨h9, H⟩
      · refine jm_go.brt 1 (b := !decide (q7 = 0)) (p1 := 34) (l1 := [some (.ref 1), some (.int x0), some (.int x1), some (.int x2), some (.int x3), some (.int x4)]) (s1 := []) (t1 := (jm_S0 L, M, J)) (p2 := 31) (l2 := [some (.ref 1), some (.int x0), some (.int x1), some (.int x2), some (.int x3), some (.int x4)]) (s2 := []) (t2 := (jm_S0 L, M, J)) (fun _ _ => rfl) h9 ?_
        rcases jm_bro H with ⟨h14, H⟩ | ⟨h14, H⟩
        · refine jm_go.sw 2 (x := x4) (u := 130) (ts := [(0, 68), (1, 84), (2, 97), (3, 117)]) (q := 68) (ls' := [some (.ref 1), some (.int x0), some (.int x1), some (.int x2), some (.int x3), some (.int x4)]) (st' := []) (t' := (jm_S0 L, M, J)) (fun _ _ => rfl) (by simp only [jm_tgt, h14, cond_true, cond_false]) ?_
          obtain ⟨q10, h11, H⟩ := jm_bdo H
          refine jm_go.call 7 (d := d + 34) (b := true) (u := 19) (as := [.ref 2, .int x0, .int x1, .int x2, .int x3]) (pc' := 80) (ls' := [some (.ref 1), some (.int x0), some (.int x1), some (.int x2), some (.int x3), none]) (st' := []) (t' := (jm_S0 L, M, J)) (fun _ _ => rfl) rfl rfl (g19 L (d + 32) M J x0 x1 x2 x3 _ h11) ?_
          obtain ⟨q12, h13, H⟩ := jm_bdo H
          refine jm_go.call 1 (d := d + 34) (b := true) (u := 164) (as := [.int q10]) (pc' := 83) (ls' := [some (.ref 1), some (.int x0), some (.int x1), some (.int x2), some (.int x3), none]) (st' := []) (t' := (jm_S0 L, M, J)) (fun _ _ => rfl) rfl rfl (g164 L (d + 34) M J q10 _ h13) ?_
          have H := Option.some.inj H
          subst H
          exact jm_go.ret 1 (fun _ _ => rfl)
        · skip
          rcases jm_bro H with ⟨h17, H⟩ | ⟨h17, H⟩
          · refine jm_go.sw 2 (x := x4) (u := 130) (ts := [(0, 68), (1, 84), (2, 97), (3, 117)]) (q := 84) (ls' := [some (.ref 1), some (.int x0), some (.int x1), some (.int x2), some (.int x3), some (.int x4)]) (st' := []) (t' := (jm_S0 L, M, J)) (fun _ _ => rfl) (by simp only [jm_tgt, h14, h17, cond_true, cond_false]) ?_
            obtain ⟨q15, h16, H⟩ := jm_bdo H
            refine jm_go.call 7 (d := d + 34) (b := true) (u := 19) (as := [.ref 2, .int x0, .int x1, .int x2, .int x3]) (pc' := 96) (ls' := [some (.ref 1), some (.int x0), some (.int x1), some (.int x2), some (.int x3), none]) (st' := []) (t' := (jm_S0 L, M, J)) (fun _ _ => rfl) rfl rfl (g19 L (d + 32) M J x0 x1 x2 x3 _ h16) ?_
            have H := Option.some.inj H
            subst H
            exact jm_go.ret 1 (fun _ _ => rfl)
          · skip
            rcases jm_bro H with ⟨h22, H⟩ | ⟨h22, H⟩
            · refine jm_go.sw 2 (x := x4) (u := 130) (ts := [(0, 68), (1, 84), (2, 97), (3, 117)]) (q := 97) (ls' := [some (.ref 1), some (.int x0), some (.int x1), some (.int x2), some (.int x3), some (.int x4)]) (st' := []) (t' := (jm_S0 L, M, J)) (fun _ _ => rfl) (by simp only [jm_tgt, h14, h17, h22, cond_true, cond_false]) ?_
              obtain ⟨q18, h19, H⟩ := jm_bdo H
              refine jm_go.call 9 (d := d + 34) (b := true) (u := 19) (as := [.ref 2, .int x0, .int x1, .int x2, .int x3]) (pc' := 113) (ls' := [some (.ref 1), some (.int x0), some (.int x1), some (.int x2), some (.int x3), none]) (st' := [.ref 2]) (t' := (jm_S0 L, M, J)) (fun _ _ => rfl) rfl rfl (g19 L (d + 32) M J x0 x1 x2 x3 _ h19) ?_
              obtain ⟨q20, h21, H⟩ := jm_bdo H
              refine jm_go.call 1 (d := d + 34) (b := true) (u := 20) (as := [.ref 2, .int q18]) (pc' := 116) (ls' := [some (.ref 1), some (.int x0), some (.int x1), some (.int x2), some (.int x3), none]) (st' := []) (t' := (jm_S0 L, M, J)) (fun _ _ => rfl) rfl rfl (g20 L (d + 33) M J q18 _ h21) ?_
              have H := Option.some.inj H
              subst H
              exact jm_go.ret 1 (fun _ _ => rfl)
            · skip
              rcases jm_bro H with ⟨h27, H⟩ | ⟨h27, H⟩
              · refine jm_go.sw 2 (x := x4) (u := 130) (ts := [(0, 68), (1, 84), (2, 97), (3, 117)]) (q := 117) (ls' := [some (.ref 1), some (.int x0), some (.int x1), some (.int x2), some (.int x3), some (.int x4)]) (st' := []) (t' := (jm_S0 L, M, J)) (fun _ _ => rfl) (by simp only [jm_tgt, h14, h17, h22, h27, cond_true, cond_false]) ?_
                obtain ⟨q23, h24, H⟩ := jm_bdo H
                refine jm_go.call 3 (d := d + 34) (b := true) (u := 90) (as := [.ref 1, .int x0]) (pc' := 122) (ls' := [some (.ref 1), some (.int x0), some (.int x1), some (.int x2), some (.int x3), none]) (st' := []) (t' := (jm_S0 L, M, J)) (fun _ _ => rfl) rfl rfl (g90 L d M J x0 _ h24) ?_
                obtain ⟨q25, h26, H⟩ := jm_bdo H
                refine jm_go.call 4 (d := d + 34) (b := true) (u := 54) (as := [.ref 105, .int x1, .int x2, .int x3]) (pc' := 129) (ls' := [some (.ref 1), some (.int x0), some (.int x1), some (.int x2), some (.int x3), none]) (st' := []) (t' := (jm_S0 L, q23, J)) (fun _ _ => rfl) rfl rfl (g54 L (d + 3) q23 J x1 x2 x3 _ h26) ?_
                have H := Option.some.inj H
                subst H
                exact jm_go.ret 1 (fun _ _ => rfl)
              · skip
                refine jm_go.sw 2 (x := x4) (u := 130) (ts := [(0, 68), (1, 84), (2, 97), (3, 117)]) (q := 130) (ls' := [some (.ref 1), some (.int x0), some (.int x1), some (.int x2), some (.int x3), some (.int x4)]) (st' := []) (t' := (jm_S0 L, M, J)) (fun _ _ => rfl) (by simp only [jm_tgt, h14, h17, h22, h27, cond_true, cond_false]) ?_
                have H := Option.some.inj H
                subst H
                exact jm_go.ret 2 (fun _ _ => rfl)
      · refine jm_go.brf 1 (b := !decide (q7 = 0)) (p1 := 34) (l1 := [some (.ref 1), some (.int x0), some (.int x1), some (.int x2), some (.int x3), some (.int x4)]) (s1 := []) (t1 := (jm_S0 L, M, J)) (p2 := 31) (l2 := [some (.ref 1), some (.int x0), some (.int x1), some (.int x2), some (.int x3), some (.int x4)]) (s2 := []) (t2 := (jm_S0 L, M, J)) (fun _ _ => rfl) h9 ?_
        have H := Option.some.inj H
        subst H
        exact jm_go.ret 2 (fun _ _ => rfl)
  · refine jm_go.brf 1 (b := !decide (q1 = 0)) (p1 := 11) (l1 := [some (.ref 1), some (.int x0), some (.int x1), some (.int x2), some (.int x3), some (.int x4)]) (s1 := []) (t1 := (jm_S0 L, M, J)) (p2 := 8) (l2 := [some (.ref 1), some (.int x0), some (.int x1), some (.int x2), some (.int x3), some (.int x4)]) (s2 := []) (t2 := (jm_S0 L, M, J)) (fun _ _ => rfl) h3 ?_
    have H := Option.some.inj H
    subst H
    exact jm_go.ret 2 (fun _ _ => rfl)

def f73_31 (M : jm_MM) (ke0 : Int32 → Option (Int32)) : Nat → Int32 → Int32 → Int32 → Int32 → Int32 → Int32 → Option (Int32)
  | 0, _, _, _, _, _, _ => none
  | n0 + 1, v1, v2, v3, v4, v5, v6 => bif decide (24 ≤ v6) then (ke0 v4) else (jm_bd (f14 M v1 v6) (fun q8 => bif decide (q8 = 0) then ((f73_31 M ke0 n0) v1 v2 v3 v4 v5 (v6 + 1)) else (jm_bd (f17 M v1 v6 v2 v3) (fun q11 => bif decide (v4 = (-1)) then ((f73_31 M ke0 n0) v1 v2 v3 v6 q11 (v6 + 1)) else (bif decide (v5 ≤ q11) then ((f73_31 M ke0 n0) v1 v2 v3 v4 v5 (v6 + 1)) else ((f73_31 M ke0 n0) v1 v2 v3 v6 q11 (v6 + 1)))))))
set_option maxRecDepth 100000 in
theorem g73_31 (L : Nat) (d : Nat) (M : jm_MM) (J : jm_JJ) (ke0 : Int32 → Option (Int32)) (hke0 : ∀  (v4 : Int32) (r : Int32), ke0 v4 = some r → jm_go (d + 2) (jm_G 73) 92 [none, none, none, none, some (.int v4), none, none, none] [] (jm_S0 L, M, J) (some (.int r), (jm_S0 L, M, J))) : ∀ (n0 : Nat) (v1 : Int32) (v2 : Int32) (v3 : Int32) (v4 : Int32) (v5 : Int32) (v6 : Int32) (r : Int32), f73_31 M ke0 n0 v1 v2 v3 v4 v5 v6 = some r → jm_go (d + 2) (jm_G 73) 31 [some (.ref 1), some (.int v1), some (.int v2), some (.int v3), some (.int v4), some (.int v5), some (.int v6), none] [] (jm_S0 L, M, J) (some (.int r), (jm_S0 L, M, J)) := by
  intro n0
  induction n0 with
  | zero => intro v1 v2 v3 v4 v5 v6 r H; cases H
  | succ n0 ih =>
    intro v1 v2 v3 v4 v5 v6 r H
    have hkb := ih
    unfold f73_31 at H
    rcases jm_bro H with ⟨h7, H⟩ | ⟨h7, H⟩
    · refine jm_go.brt 3 (b := decide (24 ≤ v6)) (p1 := 92) (l1 := [some (.ref 1), some (.int v1), some (.int v2), some (.int v3), some (.int v4), some (.int v5), some (.int v6), none]) (s1 := []) (t1 := (jm_S0 L, M, J)) (p2 := 38) (l2 := [some (.ref 1), some (.int v1), some (.int v2), some (.int v3), some (.int v4), some (.int v5), some (.int v6), none]) (s2 := []) (t2 := (jm_S0 L, M, J)) (fun _ _ => rfl) h7 ?_
      refine jm_go.lab (ls' := [none, none, none, none, some (.int v4), none, none, none]) (fun i hi => by cases hi; rfl) ?_
      exact hke0 v4 _ H
    · refine jm_go.brf 3 (b := decide (24 ≤ v6)) (p1 := 92) (l1 := [some (.ref 1), some (.int v1), some (.int v2), some (.int v3), some (.int v4), some (.int v5), some (.int v6), none]) (s1 := []) (t1 := (jm_S0 L, M, J)) (p2 := 38) (l2 := [some (.ref 1), some (.int v1), some (.int v2), some (.int v3), some (.int v4), some (.int v5), some (.int v6), none]) (s2 := []) (t2 := (jm_S0 L, M, J)) (fun _ _ => rfl) h7 ?_
      obtain ⟨q8, h9, H⟩ := jm_bdo H
      refine jm_go.call 5 (d := d + 1) (b := true) (u := 14) (as := [.ref 2, .int v1, .int v6]) (pc' := 48) (ls' := [some (.ref 1), some (.int v1), some (.int v2), some (.int v3), some (.int v4), some (.int v5), some (.int v6), none]) (st' := []) (t' := (jm_S0 L, M, J)) (fun _ _ => rfl) rfl rfl (g14 L (d + 1) M J v1 v6 _ h9) ?_
      rcases jm_bro H with ⟨h10, H⟩ | ⟨h10, H⟩
      · refine jm_go.brt 1 (b := decide (q8 = 0)) (p1 := 86) (l1 := [some (.ref 1), some (.int v1), some (.int v2), some (.int v3), some (.int v4), some (.int v5), some (.int v6), none]) (s1 := []) (t1 := (jm_S0 L, M, J)) (p2 := 51) (l2 := [some (.ref 1), some (.int v1), some (.int v2), some (.int v3), some (.int v4), some (.int v5), some (.int v6), none]) (s2 := []) (t2 := (jm_S0 L, M, J)) (fun _ _ => rfl) h10 ?_
        refine jm_go.blk 2 (pc' := 31) (ls' := [some (.ref 1), some (.int v1), some (.int v2), some (.int v3), some (.int v4), some (.int v5), some (.int (v6 + 1)), none]) (st' := []) (t' := (jm_S0 L, M, J)) (fun _ _ => rfl) ?_
        exact hkb v1 v2 v3 v4 v5 (v6 + 1) _ H
      · refine jm_go.brf 1 (b := decide (q8 = 0)) (p1 := 86) (l1 := [some (.ref 1), some (.int v1), some (.int v2), some (.int v3), some (.int v4), some (.int v5), some (.int v6), none]) (s1 := []) (t1 := (jm_S0 L, M, J)) (p2 := 51) (l2 := [some (.ref 1), some (.int v1), some (.int v2), some (.int v3), some (.int v4), some (.int v5), some (.int v6), none]) (s2 := []) (t2 := (jm_S0 L, M, J)) (fun _ _ => rfl) h10 ?_
        obtain ⟨q11, h12, H⟩ := jm_bdo H
        refine jm_go.call 7 (d := d + 1) (b := true) (u := 17) (as := [.ref 2, .int v1, .int v6, .int v2, .int v3]) (pc' := 63) (ls' := [some (.ref 1), some (.int v1), some (.int v2), some (.int v3), some (.int v4), some (.int v5), some (.int v6), none]) (st' := []) (t' := (jm_S0 L, M, J)) (fun _ _ => rfl) rfl rfl (g17 L d M J v1 v6 v2 v3 _ h12) ?_
        rcases jm_bro H with ⟨h13, H⟩ | ⟨h13, H⟩
        · refine jm_go.brt 4 (b := decide (v4 = (-1))) (p1 := 78) (l1 := [some (.ref 1), some (.int v1), some (.int v2), some (.int v3), some (.int v4), some (.int v5), some (.int v6), some (.int q11)]) (s1 := []) (t1 := (jm_S0 L, M, J)) (p2 := 71) (l2 := [some (.ref 1), some (.int v1), some (.int v2), some (.int v3), some (.int v4), some (.int v5), some (.int v6), some (.int q11)]) (s2 := []) (t2 := (jm_S0 L, M, J)) (fun _ _ => rfl) h13 ?_
          refine jm_go.blk 6 (pc' := 31) (ls' := [some (.ref 1), some (.int v1), some (.int v2), some (.int v3), some (.int v6), some (.int q11), some (.int (v6 + 1)), none]) (st' := []) (t' := (jm_S0 L, M, J)) (fun _ _ => rfl) ?_
          exact hkb v1 v2 v3 v6 q11 (v6 + 1) _ H
        · refine jm_go.brf 4 (b := decide (v4 = (-1))) (p1 := 78) (l1 := [some (.ref 1), some (.int v1), some (.int v2), some (.int v3), some (.int v4), some (.int v5), some (.int v6), some (.int q11)]) (s1 := []) (t1 := (jm_S0 L, M, J)) (p2 := 71) (l2 := [some (.ref 1), some (.int v1), some (.int v2), some (.int v3), some (.int v4), some (.int v5), some (.int v6), some (.int q11)]) (s2 := []) (t2 := (jm_S0 L, M, J)) (fun _ _ => rfl) h13 ?_
          rcases jm_bro H with ⟨h14, H⟩ | ⟨h14, H⟩
          · refine jm_go.brt 3 (b := decide (v5 ≤ q11)) (p1 := 86) (l1 := [some (.ref 1), some (.int v1), some (.int v2), some (.int v3), some (.int v4), some (.int v5), some (.int v6), some (.int q11)]) (s1 := []) (t1 := (jm_S0 L, M, J)) (p2 := 78) (l2 := [some (.ref 1), some (.int v1), some (.int v2), some (.int v3), some (.int v4), some (.int v5), some (.int v6), some (.int q11)]) (s2 := []) (t2 := (jm_S0 L, M, J)) (fun _ _ => rfl) h14 ?_
            refine jm_go.blk 2 (pc' := 31) (ls' := [some (.ref 1), some (.int v1), some (.int v2), some (.int v3), some (.int v4), some (.int v5), some (.int (v6 + 1)), none]) (st' := []) (t' := (jm_S0 L, M, J)) (fun _ _ => rfl) ?_
            exact hkb v1 v2 v3 v4 v5 (v6 + 1) _ H
          · refine jm_go.brf 3 (b := decide (v5 ≤ q11)) (p1 := 86) (l1 := [some (.ref 1), some (.int v1), some (.int v2), some (.int v3), some (.int v4), some (.int v5), some (.int v6), some (.int q11)]) (s1 := []) (t1 := (jm_S0 L, M, J)) (p2 := 78) (l2 := [some (.ref 1), some (.int v1), some (.int v2), some (.int v3), some (.int v4), some (.int v5), some (.int v6), some (.int q11)]) (s2 := []) (t2 := (jm_S0 L, M, J)) (fun _ _ => rfl) h14 ?_
            refine jm_go.blk 6 (pc' := 31) (ls' := [some (.ref 1), some (.int v1), some (.int v2), some (.int v3), some (.int v6), some (.int q11), some (.int (v6 + 1)), none]) (st' := []) (t' := (jm_S0 L, M, J)) (fun _ _ => rfl) ?_
            exact hkb v1 v2 v3 v6 q11 (v6 + 1) _ H

/-- X7_nearest -/
def f73 (M : jm_MM) (x0 : Int32) (x1 : Int32) (x2 : Int32) : Option (Int32) := jm_bd (f80 M x0) (fun q1 => bif !decide (q1 = 0) then (jm_bd (f85 M x1 x2) (fun q4 => bif !decide (q4 = 0) then (f73_31 M (fun ve15 => some ve15) jm_F x0 x1 x2 (-1) 0 0) else (some (-1000000002)))) else (some (-1000000001)))
set_option maxRecDepth 100000 in
theorem g73 (L : Nat) (d : Nat) (M : jm_MM) (J : jm_JJ) (x0 : Int32) (x1 : Int32) (x2 : Int32) (r : Int32) (H : f73 M x0 x1 x2 = some r) : jm_go (d + 2) (jm_G 73) 0 (jm_en 8 [.ref 1, .int x0, .int x1, .int x2]) [] (jm_S0 L, M, J) (some (.int r), (jm_S0 L, M, J)) := by
  unfold f73 at H
  obtain ⟨q1, h2, H⟩ := jm_bdo H
  refine jm_go.call 3 (d := d + 1) (b := true) (u := 80) (as := [.ref 1, .int x0]) (pc' := 5) (ls' := [some (.ref 1), some (.int x0), some (.int x1), some (.int x2), none, none, none, none]) (st' := []) (t' := (jm_S0 L, M, J)) (fun _ _ => rfl) rfl rfl (g80 L (d + 1) M J x0 _ h2) ?_
  rcases jm_bro H with ⟨h3, H⟩ | ⟨h3, H⟩
  · refine jm_go.brt 1 (b := !decide (q1 = 0)) (p1 := 11) (l1 := [some (.ref 1), some (.int x0), some (.int x1), some (.int x2), none, none, none, none]) (s1 := []) (t1 := (jm_S0 L, M, J)) (p2 := 8) (l2 := [some (.ref 1), some (.int x0), some (.int x1), some (.int x2), none, none, none, none]) (s2 := []) (t2 := (jm_S0 L, M, J)) (fun _ _ => rfl) h3 ?_
    obtain ⟨q4, h5, H⟩ := jm_bdo H
    refine jm_go.call 3 (d := d + 1) (b := true) (u := 85) (as := [.int x1, .int x2]) (pc' := 16) (ls' := [some (.ref 1), some (.int x0), some (.int x1), some (.int x2), none, none, none, none]) (st' := []) (t' := (jm_S0 L, M, J)) (fun _ _ => rfl) rfl rfl (g85 L d M J x1 x2 _ h5) ?_
    rcases jm_bro H with ⟨h6, H⟩ | ⟨h6, H⟩
    · refine jm_go.brt 1 (b := !decide (q4 = 0)) (p1 := 22) (l1 := [some (.ref 1), some (.int x0), some (.int x1), some (.int x2), none, none, none, none]) (s1 := []) (t1 := (jm_S0 L, M, J)) (p2 := 19) (l2 := [some (.ref 1), some (.int x0), some (.int x1), some (.int x2), none, none, none, none]) (s2 := []) (t2 := (jm_S0 L, M, J)) (fun _ _ => rfl) h6 ?_
      refine jm_go.blk 6 (pc' := 31) (ls' := [some (.ref 1), some (.int x0), some (.int x1), some (.int x2), some (.int (-1)), some (.int 0), some (.int 0), none]) (st' := []) (t' := (jm_S0 L, M, J)) (fun _ _ => rfl) ?_
      exact g73_31 L d M J
        _ (fun ve15 r H => by
          have H := Option.some.inj H
          subst H
          exact jm_go.ret 2 (fun _ _ => rfl)
          )
        _ x0 x1 x2 (-1) 0 0 _ H
    · refine jm_go.brf 1 (b := !decide (q4 = 0)) (p1 := 22) (l1 := [some (.ref 1), some (.int x0), some (.int x1), some (.int x2), none, none, none, none]) (s1 := []) (t1 := (jm_S0 L, M, J)) (p2 := 19) (l2 := [some (.ref 1), some (.int x0), some (.int x1), some (.int x2), none, none, none, none]) (s2 := []) (t2 := (jm_S0 L, M, J)) (fun _ _ => rfl) h6 ?_
      have H := Option.some.inj H
      subst H
      exact jm_go.ret 2 (fun _ _ => rfl)
  · refine jm_go.brf 1 (b := !decide (q1 = 0)) (p1 := 11) (l1 := [some (.ref 1), some (.int x0), some (.int x1), some (.int x2), none, none, none, none]) (s1 := []) (t1 := (jm_S0 L, M, J)) (p2 := 8) (l2 := [some (.ref 1), some (.int x0), some (.int x1), some (.int x2), none, none, none, none]) (s2 := []) (t2 := (jm_S0 L, M, J)) (fun _ _ => rfl) h3 ?_
    have H := Option.some.inj H
    subst H
    exact jm_go.ret 2 (fun _ _ => rfl)


/-- X7_below -/
def f74 (M : jm_MM) (x0 : Int32) (x1 : Int32) (x2 : Int32) : Option (Int32 × jm_MM) := jm_bd (f81 M x0 x1) (fun q1 => bif !decide (q1 = 0) then (bif decide (x2 = 0) then (jm_bd (f90 M x0) (fun q4 => jm_gd (jm_inb x1 24) (some (q4 106 x1.toNatClampNeg, q4)))) else (bif decide (x2 = 1) then (jm_bd (f90 M x0) (fun q8 => jm_gd (jm_inb x1 24) (some (q8 107 x1.toNatClampNeg, q8)))) else (some ((-1000000002), M)))) else (some ((-1000000001), M)))
set_option maxRecDepth 100000 in
theorem g74 (L : Nat) (d : Nat) (M : jm_MM) (J : jm_JJ) (x0 : Int32) (x1 : Int32) (x2 : Int32) (r : Int32 × jm_MM) (H : f74 M x0 x1 x2 = some r) : jm_go (d + 35) (jm_G 74) 0 (jm_en 4 [.ref 1, .int x0, .int x1, .int x2]) [] (jm_S0 L, M, J) (some (.int r.1), (jm_S0 L, r.2, J)) := by
  unfold f74 at H
  obtain ⟨q1, h2, H⟩ := jm_bdo H
  refine jm_go.call 4 (d := d + 34) (b := true) (u := 81) (as := [.ref 1, .int x0, .int x1]) (pc' := 6) (ls' := [some (.ref 1), some (.int x0), some (.int x1), some (.int x2)]) (st' := []) (t' := (jm_S0 L, M, J)) (fun _ _ => rfl) rfl rfl (g81 L (d + 32) M J x0 x1 _ h2) ?_
  rcases jm_bro H with ⟨h3, H⟩ | ⟨h3, H⟩
  · refine jm_go.brt 1 (b := !decide (q1 = 0)) (p1 := 12) (l1 := [some (.ref 1), some (.int x0), some (.int x1), some (.int x2)]) (s1 := []) (t1 := (jm_S0 L, M, J)) (p2 := 9) (l2 := [some (.ref 1), some (.int x0), some (.int x1), some (.int x2)]) (s2 := []) (t2 := (jm_S0 L, M, J)) (fun _ _ => rfl) h3 ?_
    rcases jm_bro H with ⟨h7, H⟩ | ⟨h7, H⟩
    · refine jm_go.sw 2 (x := x2) (u := 62) (ts := [(0, 40), (1, 51)]) (q := 40) (ls' := [some (.ref 1), some (.int x0), some (.int x1), some (.int x2)]) (st' := []) (t' := (jm_S0 L, M, J)) (fun _ _ => rfl) (by simp only [jm_tgt, h7, cond_true, cond_false]) ?_
      obtain ⟨q4, h5, H⟩ := jm_bdo H
      refine jm_go.call 3 (d := d + 34) (b := true) (u := 90) (as := [.ref 1, .int x0]) (pc' := 45) (ls' := [some (.ref 1), some (.int x0), some (.int x1), none]) (st' := []) (t' := (jm_S0 L, M, J)) (fun _ _ => rfl) rfl rfl (g90 L d M J x0 _ h5) ?_
      obtain ⟨h6, H⟩ := jm_gdo H
      refine jm_go.grd 3 (b := jm_inb x1 24) (pc' := 50) (ls' := [some (.ref 1), some (.int x0), some (.int x1), none]) (st' := [.int (q4 106 x1.toNatClampNeg)]) (t' := (jm_S0 L, q4, J)) (fun _ _ => rfl) h6 ?_
      have H := Option.some.inj H
      subst H
      exact jm_go.ret 1 (fun _ _ => rfl)
    · skip
      rcases jm_bro H with ⟨h11, H⟩ | ⟨h11, H⟩
      · refine jm_go.sw 2 (x := x2) (u := 62) (ts := [(0, 40), (1, 51)]) (q := 51) (ls' := [some (.ref 1), some (.int x0), some (.int x1), some (.int x2)]) (st' := []) (t' := (jm_S0 L, M, J)) (fun _ _ => rfl) (by simp only [jm_tgt, h7, h11, cond_true, cond_false]) ?_
        obtain ⟨q8, h9, H⟩ := jm_bdo H
        refine jm_go.call 3 (d := d + 34) (b := true) (u := 90) (as := [.ref 1, .int x0]) (pc' := 56) (ls' := [some (.ref 1), some (.int x0), some (.int x1), none]) (st' := []) (t' := (jm_S0 L, M, J)) (fun _ _ => rfl) rfl rfl (g90 L d M J x0 _ h9) ?_
        obtain ⟨h10, H⟩ := jm_gdo H
        refine jm_go.grd 3 (b := jm_inb x1 24) (pc' := 61) (ls' := [some (.ref 1), some (.int x0), some (.int x1), none]) (st' := [.int (q8 107 x1.toNatClampNeg)]) (t' := (jm_S0 L, q8, J)) (fun _ _ => rfl) h10 ?_
        have H := Option.some.inj H
        subst H
        exact jm_go.ret 1 (fun _ _ => rfl)
      · skip
        refine jm_go.sw 2 (x := x2) (u := 62) (ts := [(0, 40), (1, 51)]) (q := 62) (ls' := [some (.ref 1), some (.int x0), some (.int x1), some (.int x2)]) (st' := []) (t' := (jm_S0 L, M, J)) (fun _ _ => rfl) (by simp only [jm_tgt, h7, h11, cond_true, cond_false]) ?_
        have H := Option.some.inj H
        subst H
        exact jm_go.ret 2 (fun _ _ => rfl)
  · refine jm_go.brf 1 (b := !decide (q1 = 0)) (p1 := 12) (l1 := [some (.ref 1), some (.int x0), some (.int x1), some (.int x2)]) (s1 := []) (t1 := (jm_S0 L, M, J)) (p2 := 9) (l2 := [some (.ref 1), some (.int x0), some (.int x1), some (.int x2)]) (s2 := []) (t2 := (jm_S0 L, M, J)) (fun _ _ => rfl) h3 ?_
    have H := Option.some.inj H
    subst H
    exact jm_go.ret 2 (fun _ _ => rfl)


/-- X7_steps -/
def f75 (M : jm_MM) (x0 : Int32) (x1 : Int32) (x2 : Int32) : Option (Int32 × jm_MM) := jm_bd (f81 M x0 x1) (fun q1 => bif decide (q1 = 0) then (some ((-1000000001), M)) else (jm_bd (f83 M x2) (fun q4 => bif !decide (q4 = 0) then (jm_bd (f22 M) (fun q7 => jm_gd (jm_inb x0 6) (jm_bd (f7 q7 (42 + 10 * x0.toNatClampNeg) x1 x2) (fun q10 => some (q10, q7))))) else (some ((-1000000001), M)))))
set_option maxRecDepth 100000 in
theorem g75 (L : Nat) (d : Nat) (M : jm_MM) (J : jm_JJ) (x0 : Int32) (x1 : Int32) (x2 : Int32) (r : Int32 × jm_MM) (H : f75 M x0 x1 x2 = some r) : jm_go (d + 5) (jm_G 75) 0 (jm_en 4 [.ref 1, .int x0, .int x1, .int x2]) [] (jm_S0 L, M, J) (some (.int r.1), (jm_S0 L, r.2, J)) := by
  unfold f75 at H
  obtain ⟨q1, h2, H⟩ := jm_bdo H
  refine jm_go.call 4 (d := d + 4) (b := true) (u := 81) (as := [.ref 1, .int x0, .int x1]) (pc' := 6) (ls' := [some (.ref 1), some (.int x0), some (.int x1), some (.int x2)]) (st' := []) (t' := (jm_S0 L, M, J)) (fun _ _ => rfl) rfl rfl (g81 L (d + 2) M J x0 x1 _ h2) ?_
  rcases jm_bro H with ⟨h3, H⟩ | ⟨h3, H⟩
  · refine jm_go.brt 1 (b := decide (q1 = 0)) (p1 := 16) (l1 := [some (.ref 1), some (.int x0), some (.int x1), some (.int x2)]) (s1 := []) (t1 := (jm_S0 L, M, J)) (p2 := 9) (l2 := [some (.ref 1), some (.int x0), some (.int x1), some (.int x2)]) (s2 := []) (t2 := (jm_S0 L, M, J)) (fun _ _ => rfl) h3 ?_
    have H := Option.some.inj H
    subst H
    exact jm_go.ret 2 (fun _ _ => rfl)
  · refine jm_go.brf 1 (b := decide (q1 = 0)) (p1 := 16) (l1 := [some (.ref 1), some (.int x0), some (.int x1), some (.int x2)]) (s1 := []) (t1 := (jm_S0 L, M, J)) (p2 := 9) (l2 := [some (.ref 1), some (.int x0), some (.int x1), some (.int x2)]) (s2 := []) (t2 := (jm_S0 L, M, J)) (fun _ _ => rfl) h3 ?_
    obtain ⟨q4, h5, H⟩ := jm_bdo H
    refine jm_go.call 2 (d := d + 4) (b := true) (u := 83) (as := [.int x2]) (pc' := 13) (ls' := [some (.ref 1), some (.int x0), some (.int x1), some (.int x2)]) (st' := []) (t' := (jm_S0 L, M, J)) (fun _ _ => rfl) rfl rfl (g83 L (d + 3) M J x2 _ h5) ?_
    rcases jm_bro H with ⟨h6, H⟩ | ⟨h6, H⟩
    · refine jm_go.brt 1 (b := !decide (q4 = 0)) (p1 := 19) (l1 := [some (.ref 1), some (.int x0), some (.int x1), some (.int x2)]) (s1 := []) (t1 := (jm_S0 L, M, J)) (p2 := 16) (l2 := [some (.ref 1), some (.int x0), some (.int x1), some (.int x2)]) (s2 := []) (t2 := (jm_S0 L, M, J)) (fun _ _ => rfl) h6 ?_
      obtain ⟨q7, h8, H⟩ := jm_bdo H
      refine jm_go.call 5 (d := d + 4) (b := true) (u := 22) (as := [.ref 39, .ref 2]) (pc' := 30) (ls' := [some (.ref 1), some (.int x0), some (.int x1), some (.int x2)]) (st' := []) (t' := (jm_S0 L, M, J)) (fun _ _ => rfl) rfl rfl (g22 L d M J _ h8) ?_
      obtain ⟨h9, H⟩ := jm_gdo H
      refine jm_go.gfr 3 (b := jm_inb x0 6) (o := (jm_S0 L).2.2.2.2 40 x0.toNatClampNeg) (q := 42 + 10 * x0.toNatClampNeg) (pc' := 35) (ls' := [some (.ref 1), some (.int x0), some (.int x1), some (.int x2)]) (st' := []) (t' := (jm_S0 L, q7, J)) (fun _ _ => rfl) h9 (jm_aCr L h9) ?_
      obtain ⟨q10, h11, H⟩ := jm_bdo H
      refine jm_go.call 3 (d := d + 4) (b := jm_is (jm_S0 L) (42 + 10 * x0.toNatClampNeg) 0) (u := 7) (as := [.ref (42 + 10 * x0.toNatClampNeg), .int x1, .int x2]) (pc' := 40) (ls' := [some (.ref 1), some (.int x0), some (.int x1), some (.int x2)]) (st' := []) (t' := (jm_S0 L, q7, J)) (fun _ _ => rfl) (jm_fC L (jm_aC h9)) rfl (g7 L (d + 2) q7 J (42 + 10 * x0.toNatClampNeg) (jm_aC h9) x1 x2 _ h11) ?_
      have H := Option.some.inj H
      subst H
      exact jm_go.ret 1 (fun _ _ => rfl)
    · refine jm_go.brf 1 (b := !decide (q4 = 0)) (p1 := 19) (l1 := [some (.ref 1), some (.int x0), some (.int x1), some (.int x2)]) (s1 := []) (t1 := (jm_S0 L, M, J)) (p2 := 16) (l2 := [some (.ref 1), some (.int x0), some (.int x1), some (.int x2)]) (s2 := []) (t2 := (jm_S0 L, M, J)) (fun _ _ => rfl) h6 ?_
      have H := Option.some.inj H
      subst H
      exact jm_go.ret 2 (fun _ _ => rfl)


/-- X7_clumpedBy -/
def f89 (M : jm_MM) (x0 : Int32) (x1 : Int32) : Option (jm_MM) := jm_bd (f1 M 102 x0 x1) (fun q1 => jm_bd (f18 q1 x0) (fun q3 => jm_bd (f3 q1 102 q3) (fun q5 => some q5)))
set_option maxRecDepth 100000 in
theorem g89 (L : Nat) (d : Nat) (M : jm_MM) (J : jm_JJ) (x0 : Int32) (x1 : Int32) (r : jm_MM) (H : f89 M x0 x1 = some r) : jm_go (d + 4) (jm_G 89) 0 (jm_en 3 [.ref 1, .int x0, .int x1]) [] (jm_S0 L, M, J) (some (.ref 102), (jm_S0 L, r, J)) := by
  unfold f89 at H
  obtain ⟨q1, h2, H⟩ := jm_bdo H
  refine jm_go.call 7 (d := d + 3) (b := true) (u := 1) (as := [.ref 102, .ref 2, .int x0, .int x1]) (pc' := 13) (ls' := [some (.ref 1), some (.int x0), some (.int x1)]) (st' := []) (t' := (jm_S0 L, M, J)) (fun _ _ => rfl) rfl rfl (g1 L d M J 102 (by unfold jm_isC; decide) x0 x1 _ h2) ?_
  obtain ⟨q3, h4, H⟩ := jm_bdo H
  refine jm_go.call 6 (d := d + 3) (b := true) (u := 18) (as := [.ref 2, .int x0]) (pc' := 25) (ls' := [some (.ref 1), some (.int x0), some (.int x1)]) (st' := [.ref 102]) (t' := (jm_S0 L, q1, J)) (fun _ _ => rfl) rfl rfl (g18 L (d + 2) q1 J x0 _ h4) ?_
  obtain ⟨q5, h6, H⟩ := jm_bdo H
  refine jm_go.call 1 (d := d + 3) (b := true) (u := 3) (as := [.ref 102, .int q3]) (pc' := 28) (ls' := [some (.ref 1), some (.int x0), some (.int x1)]) (st' := []) (t' := (jm_S0 L, q1, J)) (fun _ _ => rfl) rfl rfl (g3 L d q1 J 102 (by unfold jm_isC; decide) q3 _ h6) ?_
  have H := Option.some.inj H
  subst H
  exact jm_go.ret 3 (fun _ _ => rfl)


/-- X7_clumps -/
def f76 (M : jm_MM) (x0 : Int32) (x1 : Int32) : Option (Int32 × jm_MM) := jm_bd (f80 M x0) (fun q1 => bif !decide (q1 = 0) then (jm_bd (f86 M x1 0 90) (fun q4 => bif !decide (q4 = 0) then (jm_bd (f89 M x0 x1) (fun q7 => some (q7 102 1, q7))) else (some ((-1000000002), M)))) else (some ((-1000000001), M)))
set_option maxRecDepth 100000 in
theorem g76 (L : Nat) (d : Nat) (M : jm_MM) (J : jm_JJ) (x0 : Int32) (x1 : Int32) (r : Int32 × jm_MM) (H : f76 M x0 x1 = some r) : jm_go (d + 5) (jm_G 76) 0 (jm_en 3 [.ref 1, .int x0, .int x1]) [] (jm_S0 L, M, J) (some (.int r.1), (jm_S0 L, r.2, J)) := by
  unfold f76 at H
  obtain ⟨q1, h2, H⟩ := jm_bdo H
  refine jm_go.call 3 (d := d + 4) (b := true) (u := 80) (as := [.ref 1, .int x0]) (pc' := 5) (ls' := [some (.ref 1), some (.int x0), some (.int x1)]) (st' := []) (t' := (jm_S0 L, M, J)) (fun _ _ => rfl) rfl rfl (g80 L (d + 4) M J x0 _ h2) ?_
  rcases jm_bro H with ⟨h3, H⟩ | ⟨h3, H⟩
  · refine jm_go.brt 1 (b := !decide (q1 = 0)) (p1 := 11) (l1 := [some (.ref 1), some (.int x0), some (.int x1)]) (s1 := []) (t1 := (jm_S0 L, M, J)) (p2 := 8) (l2 := [some (.ref 1), some (.int x0), some (.int x1)]) (s2 := []) (t2 := (jm_S0 L, M, J)) (fun _ _ => rfl) h3 ?_
    obtain ⟨q4, h5, H⟩ := jm_bdo H
    refine jm_go.call 4 (d := d + 4) (b := true) (u := 86) (as := [.int x1, .int 0, .int 90]) (pc' := 18) (ls' := [some (.ref 1), some (.int x0), some (.int x1)]) (st' := []) (t' := (jm_S0 L, M, J)) (fun _ _ => rfl) rfl rfl (g86 L (d + 4) M J x1 0 90 _ h5) ?_
    rcases jm_bro H with ⟨h6, H⟩ | ⟨h6, H⟩
    · refine jm_go.brt 1 (b := !decide (q4 = 0)) (p1 := 24) (l1 := [some (.ref 1), some (.int x0), some (.int x1)]) (s1 := []) (t1 := (jm_S0 L, M, J)) (p2 := 21) (l2 := [some (.ref 1), some (.int x0), some (.int x1)]) (s2 := []) (t2 := (jm_S0 L, M, J)) (fun _ _ => rfl) h6 ?_
      obtain ⟨q7, h8, H⟩ := jm_bdo H
      refine jm_go.call 4 (d := d + 4) (b := true) (u := 89) (as := [.ref 1, .int x0, .int x1]) (pc' := 30) (ls' := [some (.ref 1), some (.int x0), some (.int x1)]) (st' := []) (t' := (jm_S0 L, M, J)) (fun _ _ => rfl) rfl rfl (g89 L d M J x0 x1 _ h8) ?_
      have H := Option.some.inj H
      subst H
      exact jm_go.ret 2 (fun _ _ => rfl)
    · refine jm_go.brf 1 (b := !decide (q4 = 0)) (p1 := 24) (l1 := [some (.ref 1), some (.int x0), some (.int x1)]) (s1 := []) (t1 := (jm_S0 L, M, J)) (p2 := 21) (l2 := [some (.ref 1), some (.int x0), some (.int x1)]) (s2 := []) (t2 := (jm_S0 L, M, J)) (fun _ _ => rfl) h6 ?_
      have H := Option.some.inj H
      subst H
      exact jm_go.ret 2 (fun _ _ => rfl)
  · refine jm_go.brf 1 (b := !decide (q1 = 0)) (p1 := 11) (l1 := [some (.ref 1), some (.int x0), some (.int x1)]) (s1 := []) (t1 := (jm_S0 L, M, J)) (p2 := 8) (l2 := [some (.ref 1), some (.int x0), some (.int x1)]) (s2 := []) (t2 := (jm_S0 L, M, J)) (fun _ _ => rfl) h3 ?_
    have H := Option.some.inj H
    subst H
    exact jm_go.ret 2 (fun _ _ => rfl)
