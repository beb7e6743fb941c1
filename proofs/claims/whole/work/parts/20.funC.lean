/-! methods as functions: printed by wip/whole/gen/lay.py (funs.py) -/
def f23_23 (M : jm_MM) (ke0 : Int32 → Option (Int32)) : Nat → Int32 → Int32 → Int32 → Int32 → Option (Int32)
  | 0, _, _, _, _ => none
  | n0 + 1, v1, v3, v4, v5 => bif decide (v3 ≤ v5) then (ke0 v4) else (bif decide (v1 ≤ v5) then (ke0 v4) else (bif decide (v4 = (-1)) then (ke0 v4) else (jm_gd (jm_inb (v1 - v5) 6) (jm_gd (jm_inb v4 24) ((f23_23 M ke0 n0) v1 v3 (M (45 + 10 * (v1 - v5).toNatClampNeg + 5) v4.toNatClampNeg) (v5 + 1))))))
set_option maxRecDepth 100000 in
theorem g23_23 (L : Nat) (d : Nat) (M : jm_MM) (J : jm_JJ) (ke0 : Int32 → Option (Int32)) (hke0 : ∀  (v4 : Int32) (r : Int32), ke0 v4 = some r → jm_go d (jm_G 23) 64 [none, none, none, none, some (.int v4), none] [] (jm_S0 L, M, J) (some (.int r), (jm_S0 L, M, J))) : ∀ (n0 : Nat) (v1 : Int32) (v3 : Int32) (v4 : Int32) (v5 : Int32) (r : Int32), f23_23 M ke0 n0 v1 v3 v4 v5 = some r → jm_go d (jm_G 23) 23 [some (.ref 39), some (.int v1), none, some (.int v3), some (.int v4), some (.int v5)] [] (jm_S0 L, M, J) (some (.int r), (jm_S0 L, M, J)) := by
  intro n0
  induction n0 with
  | zero => intro v1 v3 v4 v5 r H; cases H
  | succ n0 ih =>
    intro v1 v3 v4 v5 r H
    have hkb := ih
    unfold f23_23 at H
    rcases jm_bro H with ⟨h4, H⟩ | ⟨h4, H⟩
    · refine jm_go.brt 3 (b := decide (v3 ≤ v5)) (p1 := 64) (l1 := [some (.ref 39), some (.int v1), none, some (.int v3), some (.int v4), some (.int v5)]) (s1 := []) (t1 := (jm_S0 L, M, J)) (p2 := 29) (l2 := [some (.ref 39), some (.int v1), none, some (.int v3), some (.int v4), some (.int v5)]) (s2 := []) (t2 := (jm_S0 L, M, J)) (fun _ _ => rfl) h4 ?_
      refine jm_go.lab (ls' := [none, none, none, none, some (.int v4), none]) (fun i hi => by cases hi; rfl) ?_
      exact hke0 v4 _ H
    · refine jm_go.brf 3 (b := decide (v3 ≤ v5)) (p1 := 64) (l1 := [some (.ref 39), some (.int v1), none, some (.int v3), some (.int v4), some (.int v5)]) (s1 := []) (t1 := (jm_S0 L, M, J)) (p2 := 29) (l2 := [some (.ref 39), some (.int v1), none, some (.int v3), some (.int v4), some (.int v5)]) (s2 := []) (t2 := (jm_S0 L, M, J)) (fun _ _ => rfl) h4 ?_
      rcases jm_bro H with ⟨h5, H⟩ | ⟨h5, H⟩
      · refine jm_go.brt 3 (b := decide (v1 ≤ v5)) (p1 := 64) (l1 := [some (.ref 39), some (.int v1), none, some (.int v3), some (.int v4), some (.int v5)]) (s1 := []) (t1 := (jm_S0 L, M, J)) (p2 := 35) (l2 := [some (.ref 39), some (.int v1), none, some (.int v3), some (.int v4), some (.int v5)]) (s2 := []) (t2 := (jm_S0 L, M, J)) (fun _ _ => rfl) h5 ?_
        refine jm_go.lab (ls' := [none, none, none, none, some (.int v4), none]) (fun i hi => by cases hi; rfl) ?_
        exact hke0 v4 _ H
      · refine jm_go.brf 3 (b := decide (v1 ≤ v5)) (p1 := 64) (l1 := [some (.ref 39), some (.int v1), none, some (.int v3), some (.int v4), some (.int v5)]) (s1 := []) (t1 := (jm_S0 L, M, J)) (p2 := 35) (l2 := [some (.ref 39), some (.int v1), none, some (.int v3), some (.int v4), some (.int v5)]) (s2 := []) (t2 := (jm_S0 L, M, J)) (fun _ _ => rfl) h5 ?_
        rcases jm_bro H with ⟨h6, H⟩ | ⟨h6, H⟩
        · refine jm_go.brt 3 (b := decide (v4 = (-1))) (p1 := 64) (l1 := [some (.ref 39), some (.int v1), none, some (.int v3), some (.int v4), some (.int v5)]) (s1 := []) (t1 := (jm_S0 L, M, J)) (p2 := 41) (l2 := [some (.ref 39), some (.int v1), none, some (.int v3), some (.int v4), some (.int v5)]) (s2 := []) (t2 := (jm_S0 L, M, J)) (fun _ _ => rfl) h6 ?_
          refine jm_go.lab (ls' := [none, none, none, none, some (.int v4), none]) (fun i hi => by cases hi; rfl) ?_
          exact hke0 v4 _ H
        · refine jm_go.brf 3 (b := decide (v4 = (-1))) (p1 := 64) (l1 := [some (.ref 39), some (.int v1), none, some (.int v3), some (.int v4), some (.int v5)]) (s1 := []) (t1 := (jm_S0 L, M, J)) (p2 := 41) (l2 := [some (.ref 39), some (.int v1), none, some (.int v3), some (.int v4), some (.int v5)]) (s2 := []) (t2 := (jm_S0 L, M, J)) (fun _ _ => rfl) h6 ?_
          obtain ⟨h7, H⟩ := jm_gdo H
          refine jm_go.gfr 6 (b := jm_inb (v1 - v5) 6) (o := (jm_S0 L).2.2.2.2 41 (v1 - v5).toNatClampNeg) (q := 45 + 10 * (v1 - v5).toNatClampNeg) (pc' := 50) (ls' := [some (.ref 39), some (.int v1), none, some (.int v3), some (.int v4), some (.int v5)]) (st' := []) (t' := (jm_S0 L, M, J)) (fun _ _ => rfl) h7 (jm_aHr L h7) ?_
          refine jm_go.gfr 1 (b := jm_is (jm_S0 L) (45 + 10 * (v1 - v5).toNatClampNeg) 3) (o := (jm_S0 L).2.2.2.2 (45 + 10 * (v1 - v5).toNatClampNeg) 5) (q := 45 + 10 * (v1 - v5).toNatClampNeg + 5) (pc' := 53) (ls' := [some (.ref 39), some (.int v1), none, some (.int v3), some (.int v4), some (.int v5)]) (st' := []) (t' := (jm_S0 L, M, J)) (fun _ _ => rfl) (jm_fH L (jm_aH h7)) (jm_rH5 L (jm_aH h7)) ?_
          obtain ⟨h8, H⟩ := jm_gdo H
          refine jm_go.grd 2 (b := ((Nat.beq 0 1 && Nat.beq (45 + 10 * (v1 - v5).toNatClampNeg + 5) 0) || (Nat.beq 0 0 && jm_is (jm_S0 L) (45 + 10 * (v1 - v5).toNatClampNeg + 5) 9)) && jm_inb v4 ((jm_S0 L).2.2.2.1 (45 + 10 * (v1 - v5).toNatClampNeg + 5))) (pc' := 56) (ls' := [some (.ref 39), some (.int v1), none, some (.int v3), some (.int v4), some (.int v5)]) (st' := [.int (M (45 + 10 * (v1 - v5).toNatClampNeg + 5) v4.toNatClampNeg)]) (t' := (jm_S0 L, M, J)) (fun _ _ => rfl) (jm_gia (jm_fH5 L (jm_aH h7)) h8) ?_
          refine jm_go.blk 3 (pc' := 23) (ls' := [some (.ref 39), some (.int v1), none, some (.int v3), some (.int (M (45 + 10 * (v1 - v5).toNatClampNeg + 5) v4.toNatClampNeg)), some (.int (v5 + 1))]) (st' := []) (t' := (jm_S0 L, M, J)) (fun _ _ => rfl) ?_
          exact hkb v1 v3 (M (45 + 10 * (v1 - v5).toNatClampNeg + 5) v4.toNatClampNeg) (v5 + 1) _ H

/-- X2_branchBack -/
def f23 (M : jm_MM) (x0 : Int32) (x1 : Int32) (x2 : Int32) : Option (Int32) := jm_gd (jm_inb x0 6) (jm_gd (jm_inb x1 24) (bif decide (x2 < (M (45 + 10 * x0.toNatClampNeg + 6) x1.toNatClampNeg)) then (f23_23 M (fun ve9 => some ve9) jm_F x0 x2 x1 0) else (some (-1))))
set_option maxRecDepth 100000 in
theorem g23 (L : Nat) (d : Nat) (M : jm_MM) (J : jm_JJ) (x0 : Int32) (x1 : Int32) (x2 : Int32) (r : Int32) (H : f23 M x0 x1 x2 = some r) : jm_go d (jm_G 23) 0 (jm_en 6 [.ref 39, .int x0, .int x1, .int x2]) [] (jm_S0 L, M, J) (some (.int r), (jm_S0 L, M, J)) := by
  unfold f23 at H
  obtain ⟨h1, H⟩ := jm_gdo H
  refine jm_go.gfr 5 (b := jm_inb x0 6) (o := (jm_S0 L).2.2.2.2 41 x0.toNatClampNeg) (q := 45 + 10 * x0.toNatClampNeg) (pc' := 7) (ls' := [some (.ref 39), some (.int x0), some (.int x1), some (.int x2), none, none]) (st' := [.int x2]) (t' := (jm_S0 L, M, J)) (fun _ _ => rfl) h1 (jm_aHr L h1) ?_
  refine jm_go.gfr 1 (b := jm_is (jm_S0 L) (45 + 10 * x0.toNatClampNeg) 3) (o := (jm_S0 L).2.2.2.2 (45 + 10 * x0.toNatClampNeg) 6) (q := 45 + 10 * x0.toNatClampNeg + 6) (pc' := 10) (ls' := [some (.ref 39), some (.int x0), some (.int x1), some (.int x2), none, none]) (st' := [.int x2]) (t' := (jm_S0 L, M, J)) (fun _ _ => rfl) (jm_fH L (jm_aH h1)) (jm_rH6 L (jm_aH h1)) ?_
  obtain ⟨h2, H⟩ := jm_gdo H
  refine jm_go.grd 2 (b := ((Nat.beq 0 1 && Nat.beq (45 + 10 * x0.toNatClampNeg + 6) 0) || (Nat.beq 0 0 && jm_is (jm_S0 L) (45 + 10 * x0.toNatClampNeg + 6) 9)) && jm_inb x1 ((jm_S0 L).2.2.2.1 (45 + 10 * x0.toNatClampNeg + 6))) (pc' := 12) (ls' := [some (.ref 39), some (.int x0), some (.int x1), some (.int x2), none, none]) (st' := [.int (M (45 + 10 * x0.toNatClampNeg + 6) x1.toNatClampNeg), .int x2]) (t' := (jm_S0 L, M, J)) (fun _ _ => rfl) (jm_gia (jm_fH6 L (jm_aH h1)) h2) ?_
  rcases jm_bro H with ⟨h3, H⟩ | ⟨h3, H⟩
  · refine jm_go.brt 1 (b := decide (x2 < (M (45 + 10 * x0.toNatClampNeg + 6) x1.toNatClampNeg))) (p1 := 17) (l1 := [some (.ref 39), some (.int x0), some (.int x1), some (.int x2), none, none]) (s1 := []) (t1 := (jm_S0 L, M, J)) (p2 := 15) (l2 := [some (.ref 39), some (.int x0), some (.int x1), some (.int x2), none, none]) (s2 := []) (t2 := (jm_S0 L, M, J)) (fun _ _ => rfl) h3 ?_
    refine jm_go.blk 4 (pc' := 23) (ls' := [some (.ref 39), some (.int x0), some (.int x1), some (.int x2), some (.int x1), some (.int 0)]) (st' := []) (t' := (jm_S0 L, M, J)) (fun _ _ => rfl) ?_
    refine jm_go.lab (ls' := [some (.ref 39), some (.int x0), none, some (.int x2), some (.int x1), some (.int 0)]) (fun i hi => by cases hi; rfl) ?_
    exact g23_23 L d M J
      _ (fun ve9 r H => by
        have H := Option.some.inj H
        subst H
        exact jm_go.ret 2 (fun _ _ => rfl)
        )
      _ x0 x2 x1 0 _ H
  · refine jm_go.brf 1 (b := decide (x2 < (M (45 + 10 * x0.toNatClampNeg + 6) x1.toNatClampNeg))) (p1 := 17) (l1 := [some (.ref 39), some (.int x0), some (.int x1), some (.int x2), none, none]) (s1 := []) (t1 := (jm_S0 L, M, J)) (p2 := 15) (l2 := [some (.ref 39), some (.int x0), some (.int x1), some (.int x2), none, none]) (s2 := []) (t2 := (jm_S0 L, M, J)) (fun _ _ => rfl) h3 ?_
    have H := Option.some.inj H
    subst H
    exact jm_go.ret 2 (fun _ _ => rfl)


/-- X2_weightOfMain -/
def f24 (M : jm_MM) (x0 : Int32) (x1 : Int32) : Option (Int32) := jm_gd (jm_inb x0 6) (jm_gd (jm_inb x1 24) (bif decide ((M (45 + 10 * x0.toNatClampNeg + 5) x1.toNatClampNeg) = (-1)) then (some 0) else (bif decide (1 ≤ x0) then (jm_gd (jm_inb (x0 - 1) 6) (jm_gd (jm_inb (M (45 + 10 * x0.toNatClampNeg + 5) x1.toNatClampNeg) 24) (some (M (45 + 10 * (x0 - 1).toNatClampNeg + 2) ((M (45 + 10 * x0.toNatClampNeg + 5) x1.toNatClampNeg).toNatClampNeg))))) else (some 0))))
set_option maxRecDepth 100000 in
theorem g24 (L : Nat) (d : Nat) (M : jm_MM) (J : jm_JJ) (x0 : Int32) (x1 : Int32) (r : Int32) (H : f24 M x0 x1 = some r) : jm_go d (jm_G 24) 0 (jm_en 4 [.ref 39, .int x0, .int x1]) [] (jm_S0 L, M, J) (some (.int r), (jm_S0 L, M, J)) := by
  unfold f24 at H
  obtain ⟨h1, H⟩ := jm_gdo H
  refine jm_go.gfr 4 (b := jm_inb x0 6) (o := (jm_S0 L).2.2.2.2 41 x0.toNatClampNeg) (q := 45 + 10 * x0.toNatClampNeg) (pc' := 6) (ls' := [some (.ref 39), some (.int x0), some (.int x1), none]) (st' := []) (t' := (jm_S0 L, M, J)) (fun _ _ => rfl) h1 (jm_aHr L h1) ?_
  refine jm_go.gfr 1 (b := jm_is (jm_S0 L) (45 + 10 * x0.toNatClampNeg) 3) (o := (jm_S0 L).2.2.2.2 (45 + 10 * x0.toNatClampNeg) 5) (q := 45 + 10 * x0.toNatClampNeg + 5) (pc' := 9) (ls' := [some (.ref 39), some (.int x0), some (.int x1), none]) (st' := []) (t' := (jm_S0 L, M, J)) (fun _ _ => rfl) (jm_fH L (jm_aH h1)) (jm_rH5 L (jm_aH h1)) ?_
  obtain ⟨h2, H⟩ := jm_gdo H
  refine jm_go.grd 2 (b := ((Nat.beq 0 1 && Nat.beq (45 + 10 * x0.toNatClampNeg + 5) 0) || (Nat.beq 0 0 && jm_is (jm_S0 L) (45 + 10 * x0.toNatClampNeg + 5) 9)) && jm_inb x1 ((jm_S0 L).2.2.2.1 (45 + 10 * x0.toNatClampNeg + 5))) (pc' := 11) (ls' := [some (.ref 39), some (.int x0), some (.int x1), none]) (st' := [.int (M (45 + 10 * x0.toNatClampNeg + 5) x1.toNatClampNeg)]) (t' := (jm_S0 L, M, J)) (fun _ _ => rfl) (jm_gia (jm_fH5 L (jm_aH h1)) h2) ?_
  rcases jm_bro H with ⟨h3, H⟩ | ⟨h3, H⟩
  · refine jm_go.brt 4 (b := decide ((M (45 + 10 * x0.toNatClampNeg + 5) x1.toNatClampNeg) = (-1))) (p1 := 22) (l1 := [some (.ref 39), some (.int x0), some (.int x1), some (.int (M (45 + 10 * x0.toNatClampNeg + 5) x1.toNatClampNeg))]) (s1 := []) (t1 := (jm_S0 L, M, J)) (p2 := 17) (l2 := [some (.ref 39), some (.int x0), some (.int x1), some (.int (M (45 + 10 * x0.toNatClampNeg + 5) x1.toNatClampNeg))]) (s2 := []) (t2 := (jm_S0 L, M, J)) (fun _ _ => rfl) h3 ?_
    have H := Option.some.inj H
    subst H
    exact jm_go.ret 3 (fun _ _ => rfl)
  · refine jm_go.brf 4 (b := decide ((M (45 + 10 * x0.toNatClampNeg + 5) x1.toNatClampNeg) = (-1))) (p1 := 22) (l1 := [some (.ref 39), some (.int x0), some (.int x1), some (.int (M (45 + 10 * x0.toNatClampNeg + 5) x1.toNatClampNeg))]) (s1 := []) (t1 := (jm_S0 L, M, J)) (p2 := 17) (l2 := [some (.ref 39), some (.int x0), some (.int x1), some (.int (M (45 + 10 * x0.toNatClampNeg + 5) x1.toNatClampNeg))]) (s2 := []) (t2 := (jm_S0 L, M, J)) (fun _ _ => rfl) h3 ?_
    rcases jm_bro H with ⟨h4, H⟩ | ⟨h4, H⟩
    · refine jm_go.brt 3 (b := decide (1 ≤ x0)) (p1 := 26) (l1 := [some (.ref 39), some (.int x0), some (.int x1), some (.int (M (45 + 10 * x0.toNatClampNeg + 5) x1.toNatClampNeg))]) (s1 := []) (t1 := (jm_S0 L, M, J)) (p2 := 22) (l2 := [some (.ref 39), some (.int x0), some (.int x1), some (.int (M (45 + 10 * x0.toNatClampNeg + 5) x1.toNatClampNeg))]) (s2 := []) (t2 := (jm_S0 L, M, J)) (fun _ _ => rfl) h4 ?_
      obtain ⟨h5, H⟩ := jm_gdo H
      refine jm_go.gfr 6 (b := jm_inb (x0 - 1) 6) (o := (jm_S0 L).2.2.2.2 41 (x0 - 1).toNatClampNeg) (q := 45 + 10 * (x0 - 1).toNatClampNeg) (pc' := 34) (ls' := [some (.ref 39), some (.int x0), none, some (.int (M (45 + 10 * x0.toNatClampNeg + 5) x1.toNatClampNeg))]) (st' := []) (t' := (jm_S0 L, M, J)) (fun _ _ => rfl) h5 (jm_aHr L h5) ?_
      refine jm_go.gfr 1 (b := jm_is (jm_S0 L) (45 + 10 * (x0 - 1).toNatClampNeg) 3) (o := (jm_S0 L).2.2.2.2 (45 + 10 * (x0 - 1).toNatClampNeg) 2) (q := 45 + 10 * (x0 - 1).toNatClampNeg + 2) (pc' := 37) (ls' := [some (.ref 39), some (.int x0), none, some (.int (M (45 + 10 * x0.toNatClampNeg + 5) x1.toNatClampNeg))]) (st' := []) (t' := (jm_S0 L, M, J)) (fun _ _ => rfl) (jm_fH L (jm_aH h5)) (jm_rH2 L (jm_aH h5)) ?_
      obtain ⟨h6, H⟩ := jm_gdo H
      refine jm_go.grd 2 (b := ((Nat.beq 0 1 && Nat.beq (45 + 10 * (x0 - 1).toNatClampNeg + 2) 0) || (Nat.beq 0 0 && jm_is (jm_S0 L) (45 + 10 * (x0 - 1).toNatClampNeg + 2) 9)) && jm_inb (M (45 + 10 * x0.toNatClampNeg + 5) x1.toNatClampNeg) ((jm_S0 L).2.2.2.1 (45 + 10 * (x0 - 1).toNatClampNeg + 2))) (pc' := 39) (ls' := [some (.ref 39), some (.int x0), none, some (.int (M (45 + 10 * x0.toNatClampNeg + 5) x1.toNatClampNeg))]) (st' := [.int (M (45 + 10 * (x0 - 1).toNatClampNeg + 2) ((M (45 + 10 * x0.toNatClampNeg + 5) x1.toNatClampNeg).toNatClampNeg))]) (t' := (jm_S0 L, M, J)) (fun _ _ => rfl) (jm_gia (jm_fH2 L (jm_aH h5)) h6) ?_
      have H := Option.some.inj H
      subst H
      exact jm_go.ret 1 (fun _ _ => rfl)
    · refine jm_go.brf 3 (b := decide (1 ≤ x0)) (p1 := 26) (l1 := [some (.ref 39), some (.int x0), some (.int x1), some (.int (M (45 + 10 * x0.toNatClampNeg + 5) x1.toNatClampNeg))]) (s1 := []) (t1 := (jm_S0 L, M, J)) (p2 := 22) (l2 := [some (.ref 39), some (.int x0), some (.int x1), some (.int (M (45 + 10 * x0.toNatClampNeg + 5) x1.toNatClampNeg))]) (s2 := []) (t2 := (jm_S0 L, M, J)) (fun _ _ => rfl) h4 ?_
      have H := Option.some.inj H
      subst H
      exact jm_go.ret 3 (fun _ _ => rfl)

def f25_4 (M : jm_MM) (ke0 : Int32 → Option (Int32)) : Nat → Int32 → Int32 → Option (Int32)
  | 0, _, _ => none
  | n0 + 1, v1, v2 => bif decide ((M 39 1) ≤ v2) then (ke0 v1) else (jm_gd (jm_inb v2 6) ((f25_4 M ke0 n0) (v1 + (M (45 + 10 * v2.toNatClampNeg) 0)) (v2 + 1)))
set_option maxRecDepth 100000 in
theorem g25_4 (L : Nat) (d : Nat) (M : jm_MM) (J : jm_JJ) (ke0 : Int32 → Option (Int32)) (hke0 : ∀  (v1 : Int32) (r : Int32), ke0 v1 = some r → jm_go d (jm_G 25) 30 [none, some (.int v1), none] [] (jm_S0 L, M, J) (some (.int r), (jm_S0 L, M, J))) : ∀ (n0 : Nat) (v1 : Int32) (v2 : Int32) (r : Int32), f25_4 M ke0 n0 v1 v2 = some r → jm_go d (jm_G 25) 4 [some (.ref 39), some (.int v1), some (.int v2)] [] (jm_S0 L, M, J) (some (.int r), (jm_S0 L, M, J)) := by
  intro n0
  induction n0 with
  | zero => intro v1 v2 r H; cases H
  | succ n0 ih =>
    intro v1 v2 r H
    have hkb := ih
    unfold f25_4 at H
    rcases jm_bro H with ⟨h1, H⟩ | ⟨h1, H⟩
    · refine jm_go.brt 4 (b := decide ((M 39 1) ≤ v2)) (p1 := 30) (l1 := [some (.ref 39), some (.int v1), some (.int v2)]) (s1 := []) (t1 := (jm_S0 L, M, J)) (p2 := 12) (l2 := [some (.ref 39), some (.int v1), some (.int v2)]) (s2 := []) (t2 := (jm_S0 L, M, J)) (fun _ _ => rfl) h1 ?_
      refine jm_go.lab (ls' := [none, some (.int v1), none]) (fun i hi => by cases hi; rfl) ?_
      exact hke0 v1 _ H
    · refine jm_go.brf 4 (b := decide ((M 39 1) ≤ v2)) (p1 := 30) (l1 := [some (.ref 39), some (.int v1), some (.int v2)]) (s1 := []) (t1 := (jm_S0 L, M, J)) (p2 := 12) (l2 := [some (.ref 39), some (.int v1), some (.int v2)]) (s2 := []) (t2 := (jm_S0 L, M, J)) (fun _ _ => rfl) h1 ?_
      obtain ⟨h2, H⟩ := jm_gdo H
      refine jm_go.gfr 5 (b := jm_inb v2 6) (o := (jm_S0 L).2.2.2.2 41 v2.toNatClampNeg) (q := 45 + 10 * v2.toNatClampNeg) (pc' := 19) (ls' := [some (.ref 39), some (.int v1), some (.int v2)]) (st' := [.int v1]) (t' := (jm_S0 L, M, J)) (fun _ _ => rfl) h2 (jm_aHr L h2) ?_
      refine jm_go.grd 1 (b := jm_is (jm_S0 L) (45 + 10 * v2.toNatClampNeg) 3) (pc' := 22) (ls' := [some (.ref 39), some (.int v1), some (.int v2)]) (st' := [.int (M (45 + 10 * v2.toNatClampNeg) 0), .int v1]) (t' := (jm_S0 L, M, J)) (fun _ _ => rfl) (jm_fH L (jm_aH h2)) ?_
      refine jm_go.blk 4 (pc' := 4) (ls' := [some (.ref 39), some (.int (v1 + (M (45 + 10 * v2.toNatClampNeg) 0))), some (.int (v2 + 1))]) (st' := []) (t' := (jm_S0 L, M, J)) (fun _ _ => rfl) ?_
      exact hkb (v1 + (M (45 + 10 * v2.toNatClampNeg) 0)) (v2 + 1) _ H

/-- X2_countHalos -/
def f25 (M : jm_MM)  : Option (Int32) := f25_4 M (fun ve3 => some ve3) jm_F 0 0
set_option maxRecDepth 100000 in
theorem g25 (L : Nat) (d : Nat) (M : jm_MM) (J : jm_JJ)  (r : Int32) (H : f25 M  = some r) : jm_go d (jm_G 25) 0 (jm_en 3 [.ref 39]) [] (jm_S0 L, M, J) (some (.int r), (jm_S0 L, M, J)) := by
  unfold f25 at H
  refine jm_go.blk 4 (pc' := 4) (ls' := [some (.ref 39), some (.int 0), some (.int 0)]) (st' := []) (t' := (jm_S0 L, M, J)) (fun _ _ => rfl) ?_
  exact g25_4 L d M J
    _ (fun ve3 r H => by
      have H := Option.some.inj H
      subst H
      exact jm_go.ret 2 (fun _ _ => rfl)
      )
    _ 0 0 _ H

def f26_16 (M : jm_MM) (ke0 : Int32 → Int32 → Option (Int32)) : Nat → Int32 → Int32 → Int32 → Option (Int32)
  | 0, _, _, _ => none
  | n0 + 1, v1, v2, v3 => jm_gd (jm_inb v2 6) (bif decide ((M (45 + 10 * v2.toNatClampNeg) 0) ≤ v3) then (ke0 v1 v2) else (jm_gd (jm_inb v2 6) (jm_gd (jm_inb v3 24) (bif !decide ((M (45 + 10 * v2.toNatClampNeg + 3) v3.toNatClampNeg) = (-1)) then ((f26_16 M ke0 n0) (v1 + 0) v2 (v3 + 1)) else ((f26_16 M ke0 n0) (v1 + 1) v2 (v3 + 1))))))
set_option maxRecDepth 100000 in
theorem g26_16 (L : Nat) (d : Nat) (M : jm_MM) (J : jm_JJ) (ke0 : Int32 → Int32 → Option (Int32)) (hke0 : ∀  (v1 : Int32) (v2 : Int32) (r : Int32), ke0 v1 v2 = some r → jm_go d (jm_G 26) 58 [some (.ref 39), some (.int v1), some (.int v2), none] [] (jm_S0 L, M, J) (some (.int r), (jm_S0 L, M, J))) : ∀ (n0 : Nat) (v1 : Int32) (v2 : Int32) (v3 : Int32) (r : Int32), f26_16 M ke0 n0 v1 v2 v3 = some r → jm_go d (jm_G 26) 16 [some (.ref 39), some (.int v1), some (.int v2), some (.int v3)] [] (jm_S0 L, M, J) (some (.int r), (jm_S0 L, M, J)) := by
  intro n0
  induction n0 with
  | zero => intro v1 v2 v3 r H; cases H
  | succ n0 ih =>
    intro v1 v2 v3 r H
    have hkb := ih
    unfold f26_16 at H
    obtain ⟨h2, H⟩ := jm_gdo H
    refine jm_go.gfr 5 (b := jm_inb v2 6) (o := (jm_S0 L).2.2.2.2 41 v2.toNatClampNeg) (q := 45 + 10 * v2.toNatClampNeg) (pc' := 23) (ls' := [some (.ref 39), some (.int v1), some (.int v2), some (.int v3)]) (st' := [.int v3]) (t' := (jm_S0 L, M, J)) (fun _ _ => rfl) h2 (jm_aHr L h2) ?_
    refine jm_go.grd 1 (b := jm_is (jm_S0 L) (45 + 10 * v2.toNatClampNeg) 3) (pc' := 26) (ls' := [some (.ref 39), some (.int v1), some (.int v2), some (.int v3)]) (st' := [.int (M (45 + 10 * v2.toNatClampNeg) 0), .int v3]) (t' := (jm_S0 L, M, J)) (fun _ _ => rfl) (jm_fH L (jm_aH h2)) ?_
    rcases jm_bro H with ⟨h3, H⟩ | ⟨h3, H⟩
    · refine jm_go.brt 1 (b := decide ((M (45 + 10 * v2.toNatClampNeg) 0) ≤ v3)) (p1 := 58) (l1 := [some (.ref 39), some (.int v1), some (.int v2), some (.int v3)]) (s1 := []) (t1 := (jm_S0 L, M, J)) (p2 := 29) (l2 := [some (.ref 39), some (.int v1), some (.int v2), some (.int v3)]) (s2 := []) (t2 := (jm_S0 L, M, J)) (fun _ _ => rfl) h3 ?_
      refine jm_go.lab (ls' := [some (.ref 39), some (.int v1), some (.int v2), none]) (fun i hi => by cases hi; rfl) ?_
      exact hke0 v1 v2 _ H
    · refine jm_go.brf 1 (b := decide ((M (45 + 10 * v2.toNatClampNeg) 0) ≤ v3)) (p1 := 58) (l1 := [some (.ref 39), some (.int v1), some (.int v2), some (.int v3)]) (s1 := []) (t1 := (jm_S0 L, M, J)) (p2 := 29) (l2 := [some (.ref 39), some (.int v1), some (.int v2), some (.int v3)]) (s2 := []) (t2 := (jm_S0 L, M, J)) (fun _ _ => rfl) h3 ?_
      obtain ⟨h4, H⟩ := jm_gdo H
      refine jm_go.gfr 5 (b := jm_inb v2 6) (o := (jm_S0 L).2.2.2.2 41 v2.toNatClampNeg) (q := 45 + 10 * v2.toNatClampNeg) (pc' := 36) (ls' := [some (.ref 39), some (.int v1), some (.int v2), some (.int v3)]) (st' := [.int v1]) (t' := (jm_S0 L, M, J)) (fun _ _ => rfl) h4 (jm_aHr L h4) ?_
      refine jm_go.gfr 1 (b := jm_is (jm_S0 L) (45 + 10 * v2.toNatClampNeg) 3) (o := (jm_S0 L).2.2.2.2 (45 + 10 * v2.toNatClampNeg) 3) (q := 45 + 10 * v2.toNatClampNeg + 3) (pc' := 39) (ls' := [some (.ref 39), some (.int v1), some (.int v2), some (.int v3)]) (st' := [.int v1]) (t' := (jm_S0 L, M, J)) (fun _ _ => rfl) (jm_fH L (jm_aH h4)) (jm_rH3 L (jm_aH h4)) ?_
      obtain ⟨h5, H⟩ := jm_gdo H
      refine jm_go.grd 2 (b := ((Nat.beq 0 1 && Nat.beq (45 + 10 * v2.toNatClampNeg + 3) 0) || (Nat.beq 0 0 && jm_is (jm_S0 L) (45 + 10 * v2.toNatClampNeg + 3) 9)) && jm_inb v3 ((jm_S0 L).2.2.2.1 (45 + 10 * v2.toNatClampNeg + 3))) (pc' := 41) (ls' := [some (.ref 39), some (.int v1), some (.int v2), some (.int v3)]) (st' := [.int (M (45 + 10 * v2.toNatClampNeg + 3) v3.toNatClampNeg), .int v1]) (t' := (jm_S0 L, M, J)) (fun _ _ => rfl) (jm_gia (jm_fH3 L (jm_aH h4)) h5) ?_
      rcases jm_bro H with ⟨h6, H⟩ | ⟨h6, H⟩
      · refine jm_go.brt 2 (b := !decide ((M (45 + 10 * v2.toNatClampNeg + 3) v3.toNatClampNeg) = (-1))) (p1 := 49) (l1 := [some (.ref 39), some (.int v1), some (.int v2), some (.int v3)]) (s1 := [.int v1]) (t1 := (jm_S0 L, M, J)) (p2 := 45) (l2 := [some (.ref 39), some (.int v1), some (.int v2), some (.int v3)]) (s2 := [.int v1]) (t2 := (jm_S0 L, M, J)) (fun _ _ => rfl) h6 ?_
        refine jm_go.blk 5 (pc' := 16) (ls' := [some (.ref 39), some (.int (v1 + 0)), some (.int v2), some (.int (v3 + 1))]) (st' := []) (t' := (jm_S0 L, M, J)) (fun _ _ => rfl) ?_
        exact hkb (v1 + 0) v2 (v3 + 1) _ H
      · refine jm_go.brf 2 (b := !decide ((M (45 + 10 * v2.toNatClampNeg + 3) v3.toNatClampNeg) = (-1))) (p1 := 49) (l1 := [some (.ref 39), some (.int v1), some (.int v2), some (.int v3)]) (s1 := [.int v1]) (t1 := (jm_S0 L, M, J)) (p2 := 45) (l2 := [some (.ref 39), some (.int v1), some (.int v2), some (.int v3)]) (s2 := [.int v1]) (t2 := (jm_S0 L, M, J)) (fun _ _ => rfl) h6 ?_
        refine jm_go.blk 6 (pc' := 16) (ls' := [some (.ref 39), some (.int (v1 + 1)), some (.int v2), some (.int (v3 + 1))]) (st' := []) (t' := (jm_S0 L, M, J)) (fun _ _ => rfl) ?_
        exact hkb (v1 + 1) v2 (v3 + 1) _ H

def f26_4 (M : jm_MM) (ke0 : Int32 → Option (Int32)) : Nat → Int32 → Int32 → Option (Int32)
  | 0, _, _ => none
  | n0 + 1, v1, v2 => bif decide (((M 39 1) - 1) ≤ v2) then (ke0 v1) else (f26_16 M (fun ve7 ve8 => (f26_4 M ke0 n0) ve7 (ve8 + 1)) jm_F v1 v2 0)
set_option maxRecDepth 100000 in
theorem g26_4 (L : Nat) (d : Nat) (M : jm_MM) (J : jm_JJ) (ke0 : Int32 → Option (Int32)) (hke0 : ∀  (v1 : Int32) (r : Int32), ke0 v1 = some r → jm_go d (jm_G 26) 64 [none, some (.int v1), none, none] [] (jm_S0 L, M, J) (some (.int r), (jm_S0 L, M, J))) : ∀ (n0 : Nat) (v1 : Int32) (v2 : Int32) (r : Int32), f26_4 M ke0 n0 v1 v2 = some r → jm_go d (jm_G 26) 4 [some (.ref 39), some (.int v1), some (.int v2), none] [] (jm_S0 L, M, J) (some (.int r), (jm_S0 L, M, J)) := by
  intro n0
  induction n0 with
  | zero => intro v1 v2 r H; cases H
  | succ n0 ih =>
    intro v1 v2 r H
    have hkb := ih
    unfold f26_4 at H
    rcases jm_bro H with ⟨h1, H⟩ | ⟨h1, H⟩
    · refine jm_go.brt 6 (b := decide (((M 39 1) - 1) ≤ v2)) (p1 := 64) (l1 := [some (.ref 39), some (.int v1), some (.int v2), none]) (s1 := []) (t1 := (jm_S0 L, M, J)) (p2 := 14) (l2 := [some (.ref 39), some (.int v1), some (.int v2), none]) (s2 := []) (t2 := (jm_S0 L, M, J)) (fun _ _ => rfl) h1 ?_
      refine jm_go.lab (ls' := [none, some (.int v1), none, none]) (fun i hi => by cases hi; rfl) ?_
      exact hke0 v1 _ H
    · refine jm_go.brf 6 (b := decide (((M 39 1) - 1) ≤ v2)) (p1 := 64) (l1 := [some (.ref 39), some (.int v1), some (.int v2), none]) (s1 := []) (t1 := (jm_S0 L, M, J)) (p2 := 14) (l2 := [some (.ref 39), some (.int v1), some (.int v2), none]) (s2 := []) (t2 := (jm_S0 L, M, J)) (fun _ _ => rfl) h1 ?_
      refine jm_go.blk 2 (pc' := 16) (ls' := [some (.ref 39), some (.int v1), some (.int v2), some (.int 0)]) (st' := []) (t' := (jm_S0 L, M, J)) (fun _ _ => rfl) ?_
      exact g26_16 L d M J
        _ (fun ve7 ve8 r H => by
          refine jm_go.blk 2 (pc' := 4) (ls' := [some (.ref 39), some (.int ve7), some (.int (ve8 + 1)), none]) (st' := []) (t' := (jm_S0 L, M, J)) (fun _ _ => rfl) ?_
          exact hkb ve7 (ve8 + 1) _ H
          )
        _ v1 v2 0 _ H

/-- X2_countEnding -/
def f26 (M : jm_MM)  : Option (Int32) := f26_4 M (fun ve9 => some ve9) jm_F 0 0
set_option maxRecDepth 100000 in
theorem g26 (L : Nat) (d : Nat) (M : jm_MM) (J : jm_JJ)  (r : Int32) (H : f26 M  = some r) : jm_go d (jm_G 26) 0 (jm_en 4 [.ref 39]) [] (jm_S0 L, M, J) (some (.int r), (jm_S0 L, M, J)) := by
  unfold f26 at H
  refine jm_go.blk 4 (pc' := 4) (ls' := [some (.ref 39), some (.int 0), some (.int 0), none]) (st' := []) (t' := (jm_S0 L, M, J)) (fun _ _ => rfl) ?_
  exact g26_4 L d M J
    _ (fun ve9 r H => by
      have H := Option.some.inj H
      subst H
      exact jm_go.ret 2 (fun _ _ => rfl)
      )
    _ 0 0 _ H

def f27_14 (M : jm_MM) (ke0 : Int32 → Int32 → Option (Int32)) : Nat → Int32 → Int32 → Int32 → Option (Int32)
  | 0, _, _, _ => none
  | n0 + 1, v1, v2, v3 => jm_gd (jm_inb v2 6) (bif decide ((M (45 + 10 * v2.toNatClampNeg) 0) ≤ v3) then (ke0 v1 v2) else (jm_gd (jm_inb v2 6) (jm_gd (jm_inb v3 24) (bif !decide ((M (45 + 10 * v2.toNatClampNeg + 4) v3.toNatClampNeg) = 0) then ((f27_14 M ke0 n0) (v1 + 0) v2 (v3 + 1)) else ((f27_14 M ke0 n0) (v1 + 1) v2 (v3 + 1))))))
set_option maxRecDepth 100000 in
theorem g27_14 (L : Nat) (d : Nat) (M : jm_MM) (J : jm_JJ) (ke0 : Int32 → Int32 → Option (Int32)) (hke0 : ∀  (v1 : Int32) (v2 : Int32) (r : Int32), ke0 v1 v2 = some r → jm_go d (jm_G 27) 55 [some (.ref 39), some (.int v1), some (.int v2), none] [] (jm_S0 L, M, J) (some (.int r), (jm_S0 L, M, J))) : ∀ (n0 : Nat) (v1 : Int32) (v2 : Int32) (v3 : Int32) (r : Int32), f27_14 M ke0 n0 v1 v2 v3 = some r → jm_go d (jm_G 27) 14 [some (.ref 39), some (.int v1), some (.int v2), some (.int v3)] [] (jm_S0 L, M, J) (some (.int r), (jm_S0 L, M, J)) := by
  intro n0
  induction n0 with
  | zero => intro v1 v2 v3 r H; cases H
  | succ n0 ih =>
    intro v1 v2 v3 r H
    have hkb := ih
    unfold f27_14 at H
    obtain ⟨h2, H⟩ := jm_gdo H
    refine jm_go.gfr 5 (b := jm_inb v2 6) (o := (jm_S0 L).2.2.2.2 41 v2.toNatClampNeg) (q := 45 + 10 * v2.toNatClampNeg) (pc' := 21) (ls' := [some (.ref 39), some (.int v1), some (.int v2), some (.int v3)]) (st' := [.int v3]) (t' := (jm_S0 L, M, J)) (fun _ _ => rfl) h2 (jm_aHr L h2) ?_
    refine jm_go.grd 1 (b := jm_is (jm_S0 L) (45 + 10 * v2.toNatClampNeg) 3) (pc' := 24) (ls' := [some (.ref 39), some (.int v1), some (.int v2), some (.int v3)]) (st' := [.int (M (45 + 10 * v2.toNatClampNeg) 0), .int v3]) (t' := (jm_S0 L, M, J)) (fun _ _ => rfl) (jm_fH L (jm_aH h2)) ?_
    rcases jm_bro H with ⟨h3, H⟩ | ⟨h3, H⟩
    · refine jm_go.brt 1 (b := decide ((M (45 + 10 * v2.toNatClampNeg) 0) ≤ v3)) (p1 := 55) (l1 := [some (.ref 39), some (.int v1), some (.int v2), some (.int v3)]) (s1 := []) (t1 := (jm_S0 L, M, J)) (p2 := 27) (l2 := [some (.ref 39), some (.int v1), some (.int v2), some (.int v3)]) (s2 := []) (t2 := (jm_S0 L, M, J)) (fun _ _ => rfl) h3 ?_
      refine jm_go.lab (ls' := [some (.ref 39), some (.int v1), some (.int v2), none]) (fun i hi => by cases hi; rfl) ?_
      exact hke0 v1 v2 _ H
    · refine jm_go.brf 1 (b := decide ((M (45 + 10 * v2.toNatClampNeg) 0) ≤ v3)) (p1 := 55) (l1 := [some (.ref 39), some (.int v1), some (.int v2), some (.int v3)]) (s1 := []) (t1 := (jm_S0 L, M, J)) (p2 := 27) (l2 := [some (.ref 39), some (.int v1), some (.int v2), some (.int v3)]) (s2 := []) (t2 := (jm_S0 L, M, J)) (fun _ _ => rfl) h3 ?_
      obtain ⟨h4, H⟩ := jm_gdo H
      refine jm_go.gfr 5 (b := jm_inb v2 6) (o := (jm_S0 L).2.2.2.2 41 v2.toNatClampNeg) (q := 45 + 10 * v2.toNatClampNeg) (pc' := 34) (ls' := [some (.ref 39), some (.int v1), some (.int v2), some (.int v3)]) (st' := [.int v1]) (t' := (jm_S0 L, M, J)) (fun _ _ => rfl) h4 (jm_aHr L h4) ?_
      refine jm_go.gfr 1 (b := jm_is (jm_S0 L) (45 + 10 * v2.toNatClampNeg) 3) (o := (jm_S0 L).2.2.2.2 (45 + 10 * v2.toNatClampNeg) 4) (q := 45 + 10 * v2.toNatClampNeg + 4) (pc' := 37) (ls' := [some (.ref 39), some (.int v1), some (.int v2), some (.int v3)]) (st' := [.int v1]) (t' := (jm_S0 L, M, J)) (fun _ _ => rfl) (jm_fH L (jm_aH h4)) (jm_rH4 L (jm_aH h4)) ?_
      obtain ⟨h5, H⟩ := jm_gdo H
      refine jm_go.grd 2 (b := ((Nat.beq 0 1 && Nat.beq (45 + 10 * v2.toNatClampNeg + 4) 0) || (Nat.beq 0 0 && jm_is (jm_S0 L) (45 + 10 * v2.toNatClampNeg + 4) 9)) && jm_inb v3 ((jm_S0 L).2.2.2.1 (45 + 10 * v2.toNatClampNeg + 4))) (pc' := 39) (ls' := [some (.ref 39), some (.int v1), some (.int v2), some (.int v3)]) (st' := [.int (M (45 + 10 * v2.toNatClampNeg + 4) v3.toNatClampNeg), .int v1]) (t' := (jm_S0 L, M, J)) (fun _ _ => rfl) (jm_gia (jm_fH4 L (jm_aH h4)) h5) ?_
      rcases jm_bro H with ⟨h6, H⟩ | ⟨h6, H⟩
      · refine jm_go.brt 1 (b := !decide ((M (45 + 10 * v2.toNatClampNeg + 4) v3.toNatClampNeg) = 0)) (p1 := 46) (l1 := [some (.ref 39), some (.int v1), some (.int v2), some (.int v3)]) (s1 := [.int v1]) (t1 := (jm_S0 L, M, J)) (p2 := 42) (l2 := [some (.ref 39), some (.int v1), some (.int v2), some (.int v3)]) (s2 := [.int v1]) (t2 := (jm_S0 L, M, J)) (fun _ _ => rfl) h6 ?_
        refine jm_go.blk 5 (pc' := 14) (ls' := [some (.ref 39), some (.int (v1 + 0)), some (.int v2), some (.int (v3 + 1))]) (st' := []) (t' := (jm_S0 L, M, J)) (fun _ _ => rfl) ?_
        exact hkb (v1 + 0) v2 (v3 + 1) _ H
      · refine jm_go.brf 1 (b := !decide ((M (45 + 10 * v2.toNatClampNeg + 4) v3.toNatClampNeg) = 0)) (p1 := 46) (l1 := [some (.ref 39), some (.int v1), some (.int v2), some (.int v3)]) (s1 := [.int v1]) (t1 := (jm_S0 L, M, J)) (p2 := 42) (l2 := [some (.ref 39), some (.int v1), some (.int v2), some (.int v3)]) (s2 := [.int v1]) (t2 := (jm_S0 L, M, J)) (fun _ _ => rfl) h6 ?_
        refine jm_go.blk 6 (pc' := 14) (ls' := [some (.ref 39), some (.int (v1 + 1)), some (.int v2), some (.int (v3 + 1))]) (st' := []) (t' := (jm_S0 L, M, J)) (fun _ _ => rfl) ?_
        exact hkb (v1 + 1) v2 (v3 + 1) _ H

def f27_4 (M : jm_MM) (ke0 : Int32 → Option (Int32)) : Nat → Int32 → Int32 → Option (Int32)
  | 0, _, _ => none
  | n0 + 1, v1, v2 => bif decide ((M 39 1) ≤ v2) then (ke0 v1) else (f27_14 M (fun ve7 ve8 => (f27_4 M ke0 n0) ve7 (ve8 + 1)) jm_F v1 v2 0)
set_option maxRecDepth 100000 in
theorem g27_4 (L : Nat) (d : Nat) (M : jm_MM) (J : jm_JJ) (ke0 : Int32 → Option (Int32)) (hke0 : ∀  (v1 : Int32) (r : Int32), ke0 v1 = some r → jm_go d (jm_G 27) 61 [none, some (.int v1), none, none] [] (jm_S0 L, M, J) (some (.int r), (jm_S0 L, M, J))) : ∀ (n0 : Nat) (v1 : Int32) (v2 : Int32) (r : Int32), f27_4 M ke0 n0 v1 v2 = some r → jm_go d (jm_G 27) 4 [some (.ref 39), some (.int v1), some (.int v2), none] [] (jm_S0 L, M, J) (some (.int r), (jm_S0 L, M, J)) := by
  intro n0
  induction n0 with
  | zero => intro v1 v2 r H; cases H
  | succ n0 ih =>
    intro v1 v2 r H
    have hkb := ih
    unfold f27_4 at H
    rcases jm_bro H with ⟨h1, H⟩ | ⟨h1, H⟩
    · refine jm_go.brt 4 (b := decide ((M 39 1) ≤ v2)) (p1 := 61) (l1 := [some (.ref 39), some (.int v1), some (.int v2), none]) (s1 := []) (t1 := (jm_S0 L, M, J)) (p2 := 12) (l2 := [some (.ref 39), some (.int v1), some (.int v2), none]) (s2 := []) (t2 := (jm_S0 L, M, J)) (fun _ _ => rfl) h1 ?_
      refine jm_go.lab (ls' := [none, some (.int v1), none, none]) (fun i hi => by cases hi; rfl) ?_
      exact hke0 v1 _ H
    · refine jm_go.brf 4 (b := decide ((M 39 1) ≤ v2)) (p1 := 61) (l1 := [some (.ref 39), some (.int v1), some (.int v2), none]) (s1 := []) (t1 := (jm_S0 L, M, J)) (p2 := 12) (l2 := [some (.ref 39), some (.int v1), some (.int v2), none]) (s2 := []) (t2 := (jm_S0 L, M, J)) (fun _ _ => rfl) h1 ?_
      refine jm_go.blk 2 (pc' := 14) (ls' := [some (.ref 39), some (.int v1), some (.int v2), some (.int 0)]) (st' := []) (t' := (jm_S0 L, M, J)) (fun _ _ => rfl) ?_
      exact g27_14 L d M J
        _ (fun ve7 ve8 r H => by
          refine jm_go.blk 2 (pc' := 4) (ls' := [some (.ref 39), some (.int ve7), some (.int (ve8 + 1)), none]) (st' := []) (t' := (jm_S0 L, M, J)) (fun _ _ => rfl) ?_
          exact hkb ve7 (ve8 + 1) _ H
          )
        _ v1 v2 0 _ H

/-- X2_countBeginning -/
def f27 (M : jm_MM)  : Option (Int32) := f27_4 M (fun ve9 => some ve9) jm_F 0 1
set_option maxRecDepth 100000 in
theorem g27 (L : Nat) (d : Nat) (M : jm_MM) (J : jm_JJ)  (r : Int32) (H : f27 M  = some r) : jm_go d (jm_G 27) 0 (jm_en 4 [.ref 39]) [] (jm_S0 L, M, J) (some (.int r), (jm_S0 L, M, J)) := by
  unfold f27 at H
  refine jm_go.blk 4 (pc' := 4) (ls' := [some (.ref 39), some (.int 0), some (.int 1), none]) (st' := []) (t' := (jm_S0 L, M, J)) (fun _ _ => rfl) ?_
  exact g27_4 L d M J
    _ (fun ve9 r H => by
      have H := Option.some.inj H
      subst H
      exact jm_go.ret 2 (fun _ _ => rfl)
      )
    _ 0 1 _ H

def f28_14 (M : jm_MM) (ke0 : Int32 → Int32 → Option (Int32)) : Nat → Int32 → Int32 → Int32 → Option (Int32)
  | 0, _, _, _ => none
  | n0 + 1, v1, v2, v3 => jm_gd (jm_inb v2 6) (bif decide ((M (45 + 10 * v2.toNatClampNeg) 0) ≤ v3) then (ke0 v1 v2) else (jm_gd (jm_inb v2 6) (jm_gd (jm_inb v3 24) ((f28_14 M ke0 n0) (if v1 < M (45 + 10 * v2.toNatClampNeg + 6) v3.toNatClampNeg then M (45 + 10 * v2.toNatClampNeg + 6) v3.toNatClampNeg else v1) v2 (v3 + 1)))))
set_option maxRecDepth 100000 in
theorem g28_14 (L : Nat) (d : Nat) (M : jm_MM) (J : jm_JJ) (ke0 : Int32 → Int32 → Option (Int32)) (hke0 : ∀  (v1 : Int32) (v2 : Int32) (r : Int32), ke0 v1 v2 = some r → jm_go (d + 1) (jm_G 28) 49 [some (.ref 39), some (.int v1), some (.int v2), none] [] (jm_S0 L, M, J) (some (.int r), (jm_S0 L, M, J))) : ∀ (n0 : Nat) (v1 : Int32) (v2 : Int32) (v3 : Int32) (r : Int32), f28_14 M ke0 n0 v1 v2 v3 = some r → jm_go (d + 1) (jm_G 28) 14 [some (.ref 39), some (.int v1), some (.int v2), some (.int v3)] [] (jm_S0 L, M, J) (some (.int r), (jm_S0 L, M, J)) := by
  intro n0
  induction n0 with
  | zero => intro v1 v2 v3 r H; cases H
  | succ n0 ih =>
    intro v1 v2 v3 r H
    have hkb := ih
    unfold f28_14 at H
    obtain ⟨h2, H⟩ := jm_gdo H
    refine jm_go.gfr 5 (b := jm_inb v2 6) (o := (jm_S0 L).2.2.2.2 41 v2.toNatClampNeg) (q := 45 + 10 * v2.toNatClampNeg) (pc' := 21) (ls' := [some (.ref 39), some (.int v1), some (.int v2), some (.int v3)]) (st' := [.int v3]) (t' := (jm_S0 L, M, J)) (fun _ _ => rfl) h2 (jm_aHr L h2) ?_
    refine jm_go.grd 1 (b := jm_is (jm_S0 L) (45 + 10 * v2.toNatClampNeg) 3) (pc' := 24) (ls' := [some (.ref 39), some (.int v1), some (.int v2), some (.int v3)]) (st' := [.int (M (45 + 10 * v2.toNatClampNeg) 0), .int v3]) (t' := (jm_S0 L, M, J)) (fun _ _ => rfl) (jm_fH L (jm_aH h2)) ?_
    rcases jm_bro H with ⟨h3, H⟩ | ⟨h3, H⟩
    · refine jm_go.brt 1 (b := decide ((M (45 + 10 * v2.toNatClampNeg) 0) ≤ v3)) (p1 := 49) (l1 := [some (.ref 39), some (.int v1), some (.int v2), some (.int v3)]) (s1 := []) (t1 := (jm_S0 L, M, J)) (p2 := 27) (l2 := [some (.ref 39), some (.int v1), some (.int v2), some (.int v3)]) (s2 := []) (t2 := (jm_S0 L, M, J)) (fun _ _ => rfl) h3 ?_
      refine jm_go.lab (ls' := [some (.ref 39), some (.int v1), some (.int v2), none]) (fun i hi => by cases hi; rfl) ?_
      exact hke0 v1 v2 _ H
    · refine jm_go.brf 1 (b := decide ((M (45 + 10 * v2.toNatClampNeg) 0) ≤ v3)) (p1 := 49) (l1 := [some (.ref 39), some (.int v1), some (.int v2), some (.int v3)]) (s1 := []) (t1 := (jm_S0 L, M, J)) (p2 := 27) (l2 := [some (.ref 39), some (.int v1), some (.int v2), some (.int v3)]) (s2 := []) (t2 := (jm_S0 L, M, J)) (fun _ _ => rfl) h3 ?_
      obtain ⟨h4, H⟩ := jm_gdo H
      refine jm_go.gfr 5 (b := jm_inb v2 6) (o := (jm_S0 L).2.2.2.2 41 v2.toNatClampNeg) (q := 45 + 10 * v2.toNatClampNeg) (pc' := 34) (ls' := [some (.ref 39), some (.int v1), some (.int v2), some (.int v3)]) (st' := [.int v1]) (t' := (jm_S0 L, M, J)) (fun _ _ => rfl) h4 (jm_aHr L h4) ?_
      refine jm_go.gfr 1 (b := jm_is (jm_S0 L) (45 + 10 * v2.toNatClampNeg) 3) (o := (jm_S0 L).2.2.2.2 (45 + 10 * v2.toNatClampNeg) 6) (q := 45 + 10 * v2.toNatClampNeg + 6) (pc' := 37) (ls' := [some (.ref 39), some (.int v1), some (.int v2), some (.int v3)]) (st' := [.int v1]) (t' := (jm_S0 L, M, J)) (fun _ _ => rfl) (jm_fH L (jm_aH h4)) (jm_rH6 L (jm_aH h4)) ?_
      obtain ⟨h5, H⟩ := jm_gdo H
      refine jm_go.grd 2 (b := ((Nat.beq 0 1 && Nat.beq (45 + 10 * v2.toNatClampNeg + 6) 0) || (Nat.beq 0 0 && jm_is (jm_S0 L) (45 + 10 * v2.toNatClampNeg + 6) 9)) && jm_inb v3 ((jm_S0 L).2.2.2.1 (45 + 10 * v2.toNatClampNeg + 6))) (pc' := 39) (ls' := [some (.ref 39), some (.int v1), some (.int v2), some (.int v3)]) (st' := [.int (M (45 + 10 * v2.toNatClampNeg + 6) v3.toNatClampNeg), .int v1]) (t' := (jm_S0 L, M, J)) (fun _ _ => rfl) (jm_gia (jm_fH6 L (jm_aH h4)) h5) ?_
      refine jm_go.blk 4 (pc' := 14) (ls' := [some (.ref 39), some (.int (if v1 < M (45 + 10 * v2.toNatClampNeg + 6) v3.toNatClampNeg then M (45 + 10 * v2.toNatClampNeg + 6) v3.toNatClampNeg else v1)), some (.int v2), some (.int (v3 + 1))]) (st' := []) (t' := (jm_S0 L, M, J)) (fun _ _ => rfl) ?_
      exact hkb (if v1 < M (45 + 10 * v2.toNatClampNeg + 6) v3.toNatClampNeg then M (45 + 10 * v2.toNatClampNeg + 6) v3.toNatClampNeg else v1) v2 (v3 + 1) _ H

def f28_4 (M : jm_MM) (ke0 : Int32 → Option (Int32)) : Nat → Int32 → Int32 → Option (Int32)
  | 0, _, _ => none
  | n0 + 1, v1, v2 => bif decide ((M 39 1) ≤ v2) then (ke0 v1) else (f28_14 M (fun ve6 ve7 => (f28_4 M ke0 n0) ve6 (ve7 + 1)) jm_F v1 v2 0)
set_option maxRecDepth 100000 in
theorem g28_4 (L : Nat) (d : Nat) (M : jm_MM) (J : jm_JJ) (ke0 : Int32 → Option (Int32)) (hke0 : ∀  (v1 : Int32) (r : Int32), ke0 v1 = some r → jm_go (d + 1) (jm_G 28) 55 [none, some (.int v1), none, none] [] (jm_S0 L, M, J) (some (.int r), (jm_S0 L, M, J))) : ∀ (n0 : Nat) (v1 : Int32) (v2 : Int32) (r : Int32), f28_4 M ke0 n0 v1 v2 = some r → jm_go (d + 1) (jm_G 28) 4 [some (.ref 39), some (.int v1), some (.int v2), none] [] (jm_S0 L, M, J) (some (.int r), (jm_S0 L, M, J)) := by
  intro n0
  induction n0 with
  | zero => intro v1 v2 r H; cases H
  | succ n0 ih =>
    intro v1 v2 r H
    have hkb := ih
    unfold f28_4 at H
    rcases jm_bro H with ⟨h1, H⟩ | ⟨h1, H⟩
    · refine jm_go.brt 4 (b := decide ((M 39 1) ≤ v2)) (p1 := 55) (l1 := [some (.ref 39), some (.int v1), some (.int v2), none]) (s1 := []) (t1 := (jm_S0 L, M, J)) (p2 := 12) (l2 := [some (.ref 39), some (.int v1), some (.int v2), none]) (s2 := []) (t2 := (jm_S0 L, M, J)) (fun _ _ => rfl) h1 ?_
      refine jm_go.lab (ls' := [none, some (.int v1), none, none]) (fun i hi => by cases hi; rfl) ?_
      exact hke0 v1 _ H
    · refine jm_go.brf 4 (b := decide ((M 39 1) ≤ v2)) (p1 := 55) (l1 := [some (.ref 39), some (.int v1), some (.int v2), none]) (s1 := []) (t1 := (jm_S0 L, M, J)) (p2 := 12) (l2 := [some (.ref 39), some (.int v1), some (.int v2), none]) (s2 := []) (t2 := (jm_S0 L, M, J)) (fun _ _ => rfl) h1 ?_
      refine jm_go.blk 2 (pc' := 14) (ls' := [some (.ref 39), some (.int v1), some (.int v2), some (.int 0)]) (st' := []) (t' := (jm_S0 L, M, J)) (fun _ _ => rfl) ?_
      exact g28_14 L d M J
        _ (fun ve6 ve7 r H => by
          refine jm_go.blk 2 (pc' := 4) (ls' := [some (.ref 39), some (.int ve6), some (.int (ve7 + 1)), none]) (st' := []) (t' := (jm_S0 L, M, J)) (fun _ _ => rfl) ?_
          exact hkb ve6 (ve7 + 1) _ H
          )
        _ v1 v2 0 _ H

/-- X2_longestBranch -/
def f28 (M : jm_MM)  : Option (Int32) := f28_4 M (fun ve8 => some ve8) jm_F 0 0
set_option maxRecDepth 100000 in
theorem g28 (L : Nat) (d : Nat) (M : jm_MM) (J : jm_JJ)  (r : Int32) (H : f28 M  = some r) : jm_go (d + 1) (jm_G 28) 0 (jm_en 4 [.ref 39]) [] (jm_S0 L, M, J) (some (.int r), (jm_S0 L, M, J)) := by
  unfold f28 at H
  refine jm_go.blk 4 (pc' := 4) (ls' := [some (.ref 39), some (.int 0), some (.int 0), none]) (st' := []) (t' := (jm_S0 L, M, J)) (fun _ _ => rfl) ?_
  exact g28_4 L d M J
    _ (fun ve8 r H => by
      have H := Option.some.inj H
      subst H
      exact jm_go.ret 2 (fun _ _ => rfl)
      )
    _ 0 0 _ H

def f32_2 (M : jm_MM) (a0 : Nat) (ke0 : Option (Int32)) (ke1 : Int32 → Int32 → Option (Int32)) : Nat → Int32 → Int32 → Option (Int32)
  | 0, _, _ => none
  | n0 + 1, v1, v2 => bif decide ((M a0 0) ≤ v2) then (ke0 ) else (jm_gd (jm_inb v2 24) (jm_bd (f87 M (M (a0 + 1) v2.toNatClampNeg) v1) (fun q3 => bif decide (q3 = 0) then ((f32_2 M a0 ke0 ke1 n0) v1 (v2 + 1)) else (ke1 v1 v2))))
set_option maxRecDepth 100000 in
theorem g32_2 (L : Nat) (d : Nat) (M : jm_MM) (J : jm_JJ) (a0 : Nat) (ha0 : jm_isH a0) (ke0 : Option (Int32)) (hke0 : ∀  (r : Int32), ke0  = some r → jm_go (d + 1) (jm_G 32) 31 [none, none, none] [] (jm_S0 L, M, J) (some (.int r), (jm_S0 L, M, J))) (ke1 : Int32 → Int32 → Option (Int32)) (hke1 : ∀  (v1 : Int32) (v2 : Int32) (r : Int32), ke1 v1 v2 = some r → jm_go (d + 1) (jm_G 32) 23 [some (.ref a0), some (.int v1), some (.int v2)] [] (jm_S0 L, M, J) (some (.int r), (jm_S0 L, M, J))) : ∀ (n0 : Nat) (v1 : Int32) (v2 : Int32) (r : Int32), f32_2 M a0 ke0 ke1 n0 v1 v2 = some r → jm_go (d + 1) (jm_G 32) 2 [some (.ref a0), some (.int v1), some (.int v2)] [] (jm_S0 L, M, J) (some (.int r), (jm_S0 L, M, J)) := by
  intro n0
  induction n0 with
  | zero => intro v1 v2 r H; cases H
  | succ n0 ih =>
    intro v1 v2 r H
    have hkb := ih
    unfold f32_2 at H
    refine jm_go.grd 3 (b := jm_is (jm_S0 L) a0 3) (pc' := 7) (ls' := [some (.ref a0), some (.int v1), some (.int v2)]) (st' := [.int (M a0 0), .int v2]) (t' := (jm_S0 L, M, J)) (fun _ _ => rfl) (jm_fH L ha0) ?_
    rcases jm_bro H with ⟨h1, H⟩ | ⟨h1, H⟩
    · refine jm_go.brt 1 (b := decide ((M a0 0) ≤ v2)) (p1 := 31) (l1 := [some (.ref a0), some (.int v1), some (.int v2)]) (s1 := []) (t1 := (jm_S0 L, M, J)) (p2 := 10) (l2 := [some (.ref a0), some (.int v1), some (.int v2)]) (s2 := []) (t2 := (jm_S0 L, M, J)) (fun _ _ => rfl) h1 ?_
      refine jm_go.lab (ls' := [none, none, none]) (fun i hi => by cases hi; rfl) ?_
      exact hke0  _ H
    · refine jm_go.brf 1 (b := decide ((M a0 0) ≤ v2)) (p1 := 31) (l1 := [some (.ref a0), some (.int v1), some (.int v2)]) (s1 := []) (t1 := (jm_S0 L, M, J)) (p2 := 10) (l2 := [some (.ref a0), some (.int v1), some (.int v2)]) (s2 := []) (t2 := (jm_S0 L, M, J)) (fun _ _ => rfl) h1 ?_
      refine jm_go.gfr 2 (b := jm_is (jm_S0 L) a0 3) (o := (jm_S0 L).2.2.2.2 a0 1) (q := a0 + 1) (pc' := 14) (ls' := [some (.ref a0), some (.int v1), some (.int v2)]) (st' := []) (t' := (jm_S0 L, M, J)) (fun _ _ => rfl) (jm_fH L ha0) (jm_rH1 L ha0) ?_
      obtain ⟨h2, H⟩ := jm_gdo H
      refine jm_go.grd 2 (b := ((Nat.beq 0 1 && Nat.beq (a0 + 1) 0) || (Nat.beq 0 0 && jm_is (jm_S0 L) (a0 + 1) 9)) && jm_inb v2 ((jm_S0 L).2.2.2.1 (a0 + 1))) (pc' := 16) (ls' := [some (.ref a0), some (.int v1), some (.int v2)]) (st' := [.int (M (a0 + 1) v2.toNatClampNeg)]) (t' := (jm_S0 L, M, J)) (fun _ _ => rfl) (jm_gia (jm_fH1 L ha0) h2) ?_
      obtain ⟨q3, h4, H⟩ := jm_bdo H
      refine jm_go.call 2 (d := d) (b := true) (u := 87) (as := [.int (M (a0 + 1) v2.toNatClampNeg), .int v1]) (pc' := 20) (ls' := [some (.ref a0), some (.int v1), some (.int v2)]) (st' := []) (t' := (jm_S0 L, M, J)) (fun _ _ => rfl) rfl rfl (g87 L d M J (M (a0 + 1) v2.toNatClampNeg) v1 _ h4) ?_
      rcases jm_bro H with ⟨h5, H⟩ | ⟨h5, H⟩
      · refine jm_go.brt 1 (b := decide (q3 = 0)) (p1 := 25) (l1 := [some (.ref a0), some (.int v1), some (.int v2)]) (s1 := []) (t1 := (jm_S0 L, M, J)) (p2 := 23) (l2 := [some (.ref a0), some (.int v1), some (.int v2)]) (s2 := []) (t2 := (jm_S0 L, M, J)) (fun _ _ => rfl) h5 ?_
        refine jm_go.blk 2 (pc' := 2) (ls' := [some (.ref a0), some (.int v1), some (.int (v2 + 1))]) (st' := []) (t' := (jm_S0 L, M, J)) (fun _ _ => rfl) ?_
        exact hkb v1 (v2 + 1) _ H
      · refine jm_go.brf 1 (b := decide (q3 = 0)) (p1 := 25) (l1 := [some (.ref a0), some (.int v1), some (.int v2)]) (s1 := []) (t1 := (jm_S0 L, M, J)) (p2 := 23) (l2 := [some (.ref a0), some (.int v1), some (.int v2)]) (s2 := []) (t2 := (jm_S0 L, M, J)) (fun _ _ => rfl) h5 ?_
        exact hke1 v1 v2 _ H

/-- X3_numberOf -/
def f32 (M : jm_MM) (a0 : Nat) (x0 : Int32) : Option (Int32) := f32_2 M a0 (some (-1)) (fun ve6 ve7 => some ve7) jm_F x0 0
set_option maxRecDepth 100000 in
theorem g32 (L : Nat) (d : Nat) (M : jm_MM) (J : jm_JJ) (a0 : Nat) (ha0 : jm_isH a0) (x0 : Int32) (r : Int32) (H : f32 M a0 x0 = some r) : jm_go (d + 1) (jm_G 32) 0 (jm_en 3 [.ref a0, .int x0]) [] (jm_S0 L, M, J) (some (.int r), (jm_S0 L, M, J)) := by
  unfold f32 at H
  refine jm_go.blk 2 (pc' := 2) (ls' := [some (.ref a0), some (.int x0), some (.int 0)]) (st' := []) (t' := (jm_S0 L, M, J)) (fun _ _ => rfl) ?_
  exact g32_2 L d M J a0 ha0
    _ (fun  r H => by
      have H := Option.some.inj H
      subst H
      exact jm_go.ret 2 (fun _ _ => rfl)
      )
    _ (fun ve6 ve7 r H => by
      have H := Option.some.inj H
      subst H
      exact jm_go.ret 2 (fun _ _ => rfl)
      )
    _ x0 0 _ H


/-- X4_begin -/
def f39 (M : jm_MM) (J : jm_JJ) (x0 : Int32) : Option (jm_JJ) := some (jm_upL J 112 0 (Int32.toInt64 x0))
set_option maxRecDepth 100000 in
theorem g39 (L : Nat) (d : Nat) (M : jm_MM) (J : jm_JJ) (x0 : Int32) (r : jm_JJ) (H : f39 M J x0 = some r) : jm_go d (jm_G 39) 0 (jm_en 2 [.ref 112, .int x0]) [] (jm_S0 L, M, J) (none, (jm_S0 L, M, r)) := by
  unfold f39 at H
  have H := Option.some.inj H
  subst H
  exact jm_go.ret 5 (fun _ _ => rfl)


/-- X4_draw -/
def f40 (M : jm_MM) (J : jm_JJ)  : Option (Int32 × jm_JJ) := some (((jm_upL J 112 0 (((J 112 0) * 16807) - ((J 112 0) * 16807) / 2147483647 * 2147483647)) 112 0).toInt32, (jm_upL J 112 0 (((J 112 0) * 16807) - ((J 112 0) * 16807) / 2147483647 * 2147483647)))
set_option maxRecDepth 100000 in
theorem g40 (L : Nat) (d : Nat) (M : jm_MM) (J : jm_JJ)  (r : Int32 × jm_JJ) (H : f40 M J  = some r) : jm_go d (jm_G 40) 0 (jm_en 1 [.ref 112]) [] (jm_S0 L, M, J) (some (.int r.1), (jm_S0 L, M, r.2)) := by
  unfold f40 at H
  have H := Option.some.inj H
  subst H
  exact jm_go.ret 12 (fun _ _ => rfl)


/-- X4_layAnywhere -/
def f43 (M : jm_MM) (J : jm_JJ) (x1 : Int32) (x2 : Int32) : Option (jm_MM × jm_JJ) := jm_bd (f40 M J) (fun q1 => jm_bd (f40 M q1.2) (fun q3 => jm_bd (f12 M x1 x2 (q1.1 - q1.1 / 64 * 64) (q3.1 - q3.1 / 64 * 64)) (fun q5 => some (q5, q3.2))))
set_option maxRecDepth 100000 in
theorem g43 (L : Nat) (d : Nat) (M : jm_MM) (J : jm_JJ) (x1 : Int32) (x2 : Int32) (r : jm_MM × jm_JJ) (H : f43 M J x1 x2 = some r) : jm_go (d + 1) (jm_G 43) 0 (jm_en 6 [.ref 112, .ref 2, .int x1, .int x2]) [] (jm_S0 L, M, J) (none, (jm_S0 L, r.1, r.2)) := by
  unfold f43 at H
  obtain ⟨q1, h2, H⟩ := jm_bdo H
  refine jm_go.call 2 (d := d) (b := true) (u := 40) (as := [.ref 112]) (pc' := 4) (ls' := [some (.ref 112), some (.ref 2), some (.int x1), some (.int x2), none, none]) (st' := []) (t' := (jm_S0 L, M, J)) (fun _ _ => rfl) rfl rfl (g40 L d M J _ h2) ?_
  obtain ⟨q3, h4, H⟩ := jm_bdo H
  refine jm_go.call 5 (d := d) (b := true) (u := 40) (as := [.ref 112]) (pc' := 13) (ls' := [some (.ref 112), some (.ref 2), some (.int x1), some (.int x2), some (.int (q1.1 - q1.1 / 64 * 64)), none]) (st' := []) (t' := (jm_S0 L, M, q1.2)) (fun _ _ => rfl) rfl rfl (g40 L d M q1.2 _ h4) ?_
  obtain ⟨q5, h6, H⟩ := jm_bdo H
  refine jm_go.call 9 (d := d) (b := true) (u := 12) (as := [.ref 2, .int x1, .int x2, .int (q1.1 - q1.1 / 64 * 64), .int (q3.1 - q3.1 / 64 * 64)]) (pc' := 28) (ls' := [some (.ref 112), some (.ref 2), some (.int x1), some (.int x2), some (.int (q1.1 - q1.1 / 64 * 64)), some (.int (q3.1 - q3.1 / 64 * 64))]) (st' := []) (t' := (jm_S0 L, M, q3.2)) (fun _ _ => rfl) rfl rfl (g12 L d M q3.2 x1 x2 (q1.1 - q1.1 / 64 * 64) (q3.1 - q3.1 / 64 * 64) _ h6) ?_
  have H := Option.some.inj H
  subst H
  exact jm_go.ret 1 (fun _ _ => rfl)


/-- X4_scatter -/
def f41 (M : jm_MM) (J : jm_JJ) (x1 : Int32) (x2 : Int32) : Option (jm_MM × jm_JJ) := jm_bd (f40 M J) (fun q1 => bif decide ((q1.1 - q1.1 / 4 * 4) = 0) then (some (M, q1.2)) else (jm_bd (f43 M q1.2 x1 x2) (fun q4 => some (q4.1, q4.2))))
set_option maxRecDepth 100000 in
theorem g41 (L : Nat) (d : Nat) (M : jm_MM) (J : jm_JJ) (x1 : Int32) (x2 : Int32) (r : jm_MM × jm_JJ) (H : f41 M J x1 x2 = some r) : jm_go (d + 2) (jm_G 41) 0 (jm_en 4 [.ref 112, .ref 2, .int x1, .int x2]) [] (jm_S0 L, M, J) (none, (jm_S0 L, r.1, r.2)) := by
  unfold f41 at H
  obtain ⟨q1, h2, H⟩ := jm_bdo H
  refine jm_go.call 2 (d := d + 1) (b := true) (u := 40) (as := [.ref 112]) (pc' := 4) (ls' := [some (.ref 112), some (.ref 2), some (.int x1), some (.int x2)]) (st' := []) (t' := (jm_S0 L, M, J)) (fun _ _ => rfl) rfl rfl (g40 L (d + 1) M J _ h2) ?_
  rcases jm_bro H with ⟨h3, H⟩ | ⟨h3, H⟩
  · refine jm_go.brt 3 (b := decide ((q1.1 - q1.1 / 4 * 4) = 0)) (p1 := 16) (l1 := [some (.ref 112), some (.ref 2), some (.int x1), some (.int x2)]) (s1 := []) (t1 := (jm_S0 L, M, q1.2)) (p2 := 9) (l2 := [some (.ref 112), some (.ref 2), some (.int x1), some (.int x2)]) (s2 := []) (t2 := (jm_S0 L, M, q1.2)) (fun _ _ => rfl) h3 ?_
    have H := Option.some.inj H
    subst H
    exact jm_go.ret 1 (fun _ _ => rfl)
  · refine jm_go.brf 3 (b := decide ((q1.1 - q1.1 / 4 * 4) = 0)) (p1 := 16) (l1 := [some (.ref 112), some (.ref 2), some (.int x1), some (.int x2)]) (s1 := []) (t1 := (jm_S0 L, M, q1.2)) (p2 := 9) (l2 := [some (.ref 112), some (.ref 2), some (.int x1), some (.int x2)]) (s2 := []) (t2 := (jm_S0 L, M, q1.2)) (fun _ _ => rfl) h3 ?_
    obtain ⟨q4, h5, H⟩ := jm_bdo H
    refine jm_go.call 5 (d := d + 1) (b := true) (u := 43) (as := [.ref 112, .ref 2, .int x1, .int x2]) (pc' := 16) (ls' := [some (.ref 112), some (.ref 2), some (.int x1), some (.int x2)]) (st' := []) (t' := (jm_S0 L, M, q1.2)) (fun _ _ => rfl) rfl rfl (g43 L d M q1.2 x1 x2 _ h5) ?_
    have H := Option.some.inj H
    subst H
    exact jm_go.ret 1 (fun _ _ => rfl)


/-- X4_shifted -/
def f44 (M : jm_MM) (J : jm_JJ) (x0 : Int32) : Option (Int32 × jm_JJ) := jm_bd (f40 M J) (fun q1 => some ((if 0 < (if (x0 + (q1.1 - q1.1 / 7 * 7)) - 3 < 63 then (x0 + (q1.1 - q1.1 / 7 * 7)) - 3 else 63) then (if (x0 + (q1.1 - q1.1 / 7 * 7)) - 3 < 63 then (x0 + (q1.1 - q1.1 / 7 * 7)) - 3 else 63) else 0), q1.2))
set_option maxRecDepth 100000 in
theorem g44 (L : Nat) (d : Nat) (M : jm_MM) (J : jm_JJ) (x0 : Int32) (r : Int32 × jm_JJ) (H : f44 M J x0 = some r) : jm_go (d + 1) (jm_G 44) 0 (jm_en 2 [.ref 112, .int x0]) [] (jm_S0 L, M, J) (some (.int r.1), (jm_S0 L, M, r.2)) := by
  unfold f44 at H
  obtain ⟨q1, h2, H⟩ := jm_bdo H
  refine jm_go.call 5 (d := d) (b := true) (u := 40) (as := [.ref 112]) (pc' := 8) (ls' := [some (.ref 112), some (.int x0)]) (st' := [.int x0, .int 63, .int 0]) (t' := (jm_S0 L, M, J)) (fun _ _ => rfl) rfl rfl (g40 L d M J _ h2) ?_
  have H := Option.some.inj H
  subst H
  exact jm_go.ret 8 (fun _ _ => rfl)

def f42_75  (M : jm_MM) (J : jm_JJ) (v2 : Int32) (v3 : Int32) (v4 : Int32) (v5 : Int32) : Option (jm_MM × jm_JJ) := bif !decide (v4 = 0) then (some (M, J)) else (bif decide (v5 = 0) then (some (M, J)) else (jm_bd (f43 M J v2 v3) (fun q9 => some (q9.1, q9.2))))
set_option maxRecDepth 100000 in
theorem g42_75 (L : Nat) (d : Nat) (_M : jm_MM) (_J : jm_JJ) (M : jm_MM) (J : jm_JJ) (v2 : Int32) (v3 : Int32) (v4 : Int32) (v5 : Int32) (r : jm_MM × jm_JJ) (H : f42_75  M J v2 v3 v4 v5 = some r) : jm_go (d + 2) (jm_G 42) 75 [some (.ref 112), some (.ref 2), some (.int v2), some (.int v3), some (.int v4), some (.int v5), none, none] [] (jm_S0 L, M, J) (none, (jm_S0 L, r.1, r.2)) := by
  unfold f42_75 at H
  rcases jm_bro H with ⟨h7, H⟩ | ⟨h7, H⟩
  · refine jm_go.brt 2 (b := !decide (v4 = 0)) (p1 := 92) (l1 := [some (.ref 112), some (.ref 2), some (.int v2), some (.int v3), some (.int v4), some (.int v5), none, none]) (s1 := []) (t1 := (jm_S0 L, M, J)) (p2 := 80) (l2 := [some (.ref 112), some (.ref 2), some (.int v2), some (.int v3), some (.int v4), some (.int v5), none, none]) (s2 := []) (t2 := (jm_S0 L, M, J)) (fun _ _ => rfl) h7 ?_
    have H := Option.some.inj H
    subst H
    exact jm_go.ret 1 (fun _ _ => rfl)
  · refine jm_go.brf 2 (b := !decide (v4 = 0)) (p1 := 92) (l1 := [some (.ref 112), some (.ref 2), some (.int v2), some (.int v3), some (.int v4), some (.int v5), none, none]) (s1 := []) (t1 := (jm_S0 L, M, J)) (p2 := 80) (l2 := [some (.ref 112), some (.ref 2), some (.int v2), some (.int v3), some (.int v4), some (.int v5), none, none]) (s2 := []) (t2 := (jm_S0 L, M, J)) (fun _ _ => rfl) h7 ?_
    rcases jm_bro H with ⟨h8, H⟩ | ⟨h8, H⟩
    · refine jm_go.brt 2 (b := decide (v5 = 0)) (p1 := 92) (l1 := [some (.ref 112), some (.ref 2), some (.int v2), some (.int v3), some (.int v4), some (.int v5), none, none]) (s1 := []) (t1 := (jm_S0 L, M, J)) (p2 := 85) (l2 := [some (.ref 112), some (.ref 2), some (.int v2), some (.int v3), some (.int v4), some (.int v5), none, none]) (s2 := []) (t2 := (jm_S0 L, M, J)) (fun _ _ => rfl) h8 ?_
      have H := Option.some.inj H
      subst H
      exact jm_go.ret 1 (fun _ _ => rfl)
    · refine jm_go.brf 2 (b := decide (v5 = 0)) (p1 := 92) (l1 := [some (.ref 112), some (.ref 2), some (.int v2), some (.int v3), some (.int v4), some (.int v5), none, none]) (s1 := []) (t1 := (jm_S0 L, M, J)) (p2 := 85) (l2 := [some (.ref 112), some (.ref 2), some (.int v2), some (.int v3), some (.int v4), some (.int v5), none, none]) (s2 := []) (t2 := (jm_S0 L, M, J)) (fun _ _ => rfl) h8 ?_
      obtain ⟨q9, h10, H⟩ := jm_bdo H
      refine jm_go.call 5 (d := d + 1) (b := true) (u := 43) (as := [.ref 112, .ref 2, .int v2, .int v3]) (pc' := 92) (ls' := [some (.ref 112), some (.ref 2), some (.int v2), some (.int v3), some (.int v4), some (.int v5), none, none]) (st' := []) (t' := (jm_S0 L, M, J)) (fun _ _ => rfl) rfl rfl (g43 L d M J v2 v3 _ h10) ?_
      have H := Option.some.inj H
      subst H
      exact jm_go.ret 1 (fun _ _ => rfl)

def f42_25  (M : jm_MM) (J : jm_JJ) (v2 : Int32) (v3 : Int32) (v4 : Int32) (s0 : Int32) : Option (jm_MM × jm_JJ) := bif decide (v4 = 0) then (f42_75   M J v2 v3 v4 s0) else (bif !decide (s0 = 0) then (f42_75   M J v2 v3 v4 s0) else (jm_bd (f15 M (v2 - 1) v3) (fun q12 => jm_bd (f44 M J q12) (fun q14 => jm_bd (f16 M (v2 - 1) v3) (fun q16 => jm_bd (f44 M q14.2 q16) (fun q18 => jm_bd (f12 M v2 v3 q14.1 q18.1) (fun q20 => f42_75   q20 q18.2 v2 v3 v4 s0)))))))
set_option maxRecDepth 100000 in
theorem g42_25 (L : Nat) (d : Nat) (_M : jm_MM) (_J : jm_JJ) (M : jm_MM) (J : jm_JJ) (v2 : Int32) (v3 : Int32) (v4 : Int32) (s0 : Int32) (r : jm_MM × jm_JJ) (H : f42_25  M J v2 v3 v4 s0 = some r) : jm_go (d + 2) (jm_G 42) 25 [some (.ref 112), some (.ref 2), some (.int v2), some (.int v3), some (.int v4), none, none, none] [.int s0] (jm_S0 L, M, J) (none, (jm_S0 L, r.1, r.2)) := by
  unfold f42_25 at H
  rcases jm_bro H with ⟨h6, H⟩ | ⟨h6, H⟩
  · refine jm_go.brt 3 (b := decide (v4 = 0)) (p1 := 75) (l1 := [some (.ref 112), some (.ref 2), some (.int v2), some (.int v3), some (.int v4), some (.int s0), none, none]) (s1 := []) (t1 := (jm_S0 L, M, J)) (p2 := 32) (l2 := [some (.ref 112), some (.ref 2), some (.int v2), some (.int v3), some (.int v4), some (.int s0), none, none]) (s2 := []) (t2 := (jm_S0 L, M, J)) (fun _ _ => rfl) h6 ?_
    exact g42_75 L d M J  M J v2 v3 v4 s0 _ H
  · refine jm_go.brf 3 (b := decide (v4 = 0)) (p1 := 75) (l1 := [some (.ref 112), some (.ref 2), some (.int v2), some (.int v3), some (.int v4), some (.int s0), none, none]) (s1 := []) (t1 := (jm_S0 L, M, J)) (p2 := 32) (l2 := [some (.ref 112), some (.ref 2), some (.int v2), some (.int v3), some (.int v4), some (.int s0), none, none]) (s2 := []) (t2 := (jm_S0 L, M, J)) (fun _ _ => rfl) h6 ?_
    rcases jm_bro H with ⟨h11, H⟩ | ⟨h11, H⟩
    · refine jm_go.brt 2 (b := !decide (s0 = 0)) (p1 := 75) (l1 := [some (.ref 112), some (.ref 2), some (.int v2), some (.int v3), some (.int v4), some (.int s0), none, none]) (s1 := []) (t1 := (jm_S0 L, M, J)) (p2 := 37) (l2 := [some (.ref 112), some (.ref 2), some (.int v2), some (.int v3), some (.int v4), some (.int s0), none, none]) (s2 := []) (t2 := (jm_S0 L, M, J)) (fun _ _ => rfl) h11 ?_
      exact g42_75 L d M J  M J v2 v3 v4 s0 _ H
    · refine jm_go.brf 2 (b := !decide (s0 = 0)) (p1 := 75) (l1 := [some (.ref 112), some (.ref 2), some (.int v2), some (.int v3), some (.int v4), some (.int s0), none, none]) (s1 := []) (t1 := (jm_S0 L, M, J)) (p2 := 37) (l2 := [some (.ref 112), some (.ref 2), some (.int v2), some (.int v3), some (.int v4), some (.int s0), none, none]) (s2 := []) (t2 := (jm_S0 L, M, J)) (fun _ _ => rfl) h11 ?_
      obtain ⟨q12, h13, H⟩ := jm_bdo H
      refine jm_go.call 7 (d := d + 1) (b := true) (u := 15) (as := [.ref 2, .int (v2 - 1), .int v3]) (pc' := 46) (ls' := [some (.ref 112), some (.ref 2), some (.int v2), some (.int v3), some (.int v4), some (.int s0), none, none]) (st' := [.ref 112]) (t' := (jm_S0 L, M, J)) (fun _ _ => rfl) rfl rfl (g15 L (d + 1) M J (v2 - 1) v3 _ h13) ?_
      obtain ⟨q14, h15, H⟩ := jm_bdo H
      refine jm_go.call 1 (d := d + 1) (b := true) (u := 44) (as := [.ref 112, .int q12]) (pc' := 49) (ls' := [some (.ref 112), some (.ref 2), some (.int v2), some (.int v3), some (.int v4), some (.int s0), none, none]) (st' := []) (t' := (jm_S0 L, M, J)) (fun _ _ => rfl) rfl rfl (g44 L d M J q12 _ h15) ?_
      obtain ⟨q16, h17, H⟩ := jm_bdo H
      refine jm_go.call 8 (d := d + 1) (b := true) (u := 16) (as := [.ref 2, .int (v2 - 1), .int v3]) (pc' := 60) (ls' := [some (.ref 112), some (.ref 2), some (.int v2), some (.int v3), some (.int v4), some (.int s0), some (.int q14.1), none]) (st' := [.ref 112]) (t' := (jm_S0 L, M, q14.2)) (fun _ _ => rfl) rfl rfl (g16 L (d + 1) M q14.2 (v2 - 1) v3 _ h17) ?_
      obtain ⟨q18, h19, H⟩ := jm_bdo H
      refine jm_go.call 1 (d := d + 1) (b := true) (u := 44) (as := [.ref 112, .int q16]) (pc' := 63) (ls' := [some (.ref 112), some (.ref 2), some (.int v2), some (.int v3), some (.int v4), some (.int s0), some (.int q14.1), none]) (st' := []) (t' := (jm_S0 L, M, q14.2)) (fun _ _ => rfl) rfl rfl (g44 L d M q14.2 q16 _ h19) ?_
      obtain ⟨q20, h21, H⟩ := jm_bdo H
      refine jm_go.call 7 (d := d + 1) (b := true) (u := 12) (as := [.ref 2, .int v2, .int v3, .int q14.1, .int q18.1]) (pc' := 75) (ls' := [some (.ref 112), some (.ref 2), some (.int v2), some (.int v3), some (.int v4), some (.int s0), some (.int q14.1), some (.int q18.1)]) (st' := []) (t' := (jm_S0 L, M, q18.2)) (fun _ _ => rfl) rfl rfl (g12 L (d + 1) M q18.2 v2 v3 q14.1 q18.1 _ h21) ?_
      refine jm_go.lab (ls' := [some (.ref 112), some (.ref 2), some (.int v2), some (.int v3), some (.int v4), some (.int s0), none, none]) (fun i hi => by cases hi; rfl) ?_
      exact g42_75 L d M J  q20 q18.2 v2 v3 v4 s0 _ H

/-- X4_carryOn -/
def f42 (M : jm_MM) (J : jm_JJ) (x1 : Int32) (x2 : Int32) : Option (jm_MM × jm_JJ) := jm_bd (f14 M (x1 - 1) x2) (fun q1 => jm_bd (f40 M J) (fun q3 => bif !decide ((q3.1 - q3.1 / 16 * 16) = 0) then (f42_25   M q3.2 x1 x2 q1 0) else (f42_25   M q3.2 x1 x2 q1 1)))
set_option maxRecDepth 100000 in
theorem g42 (L : Nat) (d : Nat) (M : jm_MM) (J : jm_JJ) (x1 : Int32) (x2 : Int32) (r : jm_MM × jm_JJ) (H : f42 M J x1 x2 = some r) : jm_go (d + 2) (jm_G 42) 0 (jm_en 8 [.ref 112, .ref 2, .int x1, .int x2]) [] (jm_S0 L, M, J) (none, (jm_S0 L, r.1, r.2)) := by
  unfold f42 at H
  obtain ⟨q1, h2, H⟩ := jm_bdo H
  refine jm_go.call 6 (d := d + 1) (b := true) (u := 14) (as := [.ref 2, .int (x1 - 1), .int x2]) (pc' := 8) (ls' := [some (.ref 112), some (.ref 2), some (.int x1), some (.int x2), none, none, none, none]) (st' := []) (t' := (jm_S0 L, M, J)) (fun _ _ => rfl) rfl rfl (g14 L (d + 1) M J (x1 - 1) x2 _ h2) ?_
  obtain ⟨q3, h4, H⟩ := jm_bdo H
  refine jm_go.call 3 (d := d + 1) (b := true) (u := 40) (as := [.ref 112]) (pc' := 14) (ls' := [some (.ref 112), some (.ref 2), some (.int x1), some (.int x2), some (.int q1), none, none, none]) (st' := []) (t' := (jm_S0 L, M, J)) (fun _ _ => rfl) rfl rfl (g40 L (d + 1) M J _ h4) ?_
  rcases jm_bro H with ⟨h5, H⟩ | ⟨h5, H⟩
  · refine jm_go.brt 3 (b := !decide ((q3.1 - q3.1 / 16 * 16) = 0)) (p1 := 24) (l1 := [some (.ref 112), some (.ref 2), some (.int x1), some (.int x2), some (.int q1), none, none, none]) (s1 := []) (t1 := (jm_S0 L, M, q3.2)) (p2 := 20) (l2 := [some (.ref 112), some (.ref 2), some (.int x1), some (.int x2), some (.int q1), none, none, none]) (s2 := []) (t2 := (jm_S0 L, M, q3.2)) (fun _ _ => rfl) h5 ?_
    refine jm_go.blk 1 (pc' := 25) (ls' := [some (.ref 112), some (.ref 2), some (.int x1), some (.int x2), some (.int q1), none, none, none]) (st' := [.int 0]) (t' := (jm_S0 L, M, q3.2)) (fun _ _ => rfl) ?_
    exact g42_25 L d M J  M q3.2 x1 x2 q1 0 _ H
  · refine jm_go.brf 3 (b := !decide ((q3.1 - q3.1 / 16 * 16) = 0)) (p1 := 24) (l1 := [some (.ref 112), some (.ref 2), some (.int x1), some (.int x2), some (.int q1), none, none, none]) (s1 := []) (t1 := (jm_S0 L, M, q3.2)) (p2 := 20) (l2 := [some (.ref 112), some (.ref 2), some (.int x1), some (.int x2), some (.int q1), none, none, none]) (s2 := []) (t2 := (jm_S0 L, M, q3.2)) (fun _ _ => rfl) h5 ?_
    refine jm_go.blk 2 (pc' := 25) (ls' := [some (.ref 112), some (.ref 2), some (.int x1), some (.int x2), some (.int q1), none, none, none]) (st' := [.int 1]) (t' := (jm_S0 L, M, q3.2)) (fun _ _ => rfl) ?_
    exact g42_25 L d M J  M q3.2 x1 x2 q1 1 _ H

def f46_32  (M : jm_MM) : Option (jm_MM) := jm_gd (jm_inb (((M 5 1) + (M 5 2)) - ((M 5 1) + (M 5 2)) / 8 * 8) 8) (jm_bd (f10 M (7 + 3 * (((M 5 1) + (M 5 2)) - ((M 5 1) + (M 5 2)) / 8 * 8).toNatClampNeg) 2) (fun q3 => some (jm_up q3 5 2 ((q3 5 2) + 1))))
set_option maxRecDepth 100000 in
theorem g46_32 (L : Nat) (d : Nat) (_M : jm_MM) (J : jm_JJ) (M : jm_MM) (r : jm_MM) (H : f46_32  M = some r) : jm_go (d + 2) (jm_G 46) 32 [some (.ref 5), some (.ref 2)] [] (jm_S0 L, M, J) (none, (jm_S0 L, r, J)) := by
  unfold f46_32 at H
  obtain ⟨h2, H⟩ := jm_gdo H
  refine jm_go.gfr 10 (b := jm_inb (((M 5 1) + (M 5 2)) - ((M 5 1) + (M 5 2)) / 8 * 8) 8) (o := (jm_S0 L).2.2.2.2 6 (((M 5 1) + (M 5 2)) - ((M 5 1) + (M 5 2)) / 8 * 8).toNatClampNeg) (q := 7 + 3 * (((M 5 1) + (M 5 2)) - ((M 5 1) + (M 5 2)) / 8 * 8).toNatClampNeg) (pc' := 49) (ls' := [some (.ref 5), some (.ref 2)]) (st' := []) (t' := (jm_S0 L, M, J)) (fun _ _ => rfl) h2 (jm_aF1r L h2) ?_
  obtain ⟨q3, h4, H⟩ := jm_bdo H
  refine jm_go.call 2 (d := d + 1) (b := jm_is (jm_S0 L) (7 + 3 * (((M 5 1) + (M 5 2)) - ((M 5 1) + (M 5 2)) / 8 * 8).toNatClampNeg) 1) (u := 10) (as := [.ref (7 + 3 * (((M 5 1) + (M 5 2)) - ((M 5 1) + (M 5 2)) / 8 * 8).toNatClampNeg), .ref 2]) (pc' := 53) (ls' := [some (.ref 5), some (.ref 2)]) (st' := []) (t' := (jm_S0 L, M, J)) (fun _ _ => rfl) (jm_fF L (jm_aF1 h2)) rfl (g10 L d M J (7 + 3 * (((M 5 1) + (M 5 2)) - ((M 5 1) + (M 5 2)) / 8 * 8).toNatClampNeg) (jm_aF1 h2) 2 (by unfold jm_isF; decide) _ h4) ?_
  have H := Option.some.inj H
  subst H
  exact jm_go.ret 7 (fun _ _ => rfl)

/-- X5_take -/
def f46 (M : jm_MM)  : Option (jm_MM) := bif !decide ((M 5 2) = 8) then (f46_32   M) else (f46_32   (jm_up (jm_up M 5 1 (((M 5 1) + 1) - ((M 5 1) + 1) / 8 * 8)) 5 2 (((jm_up M 5 1 (((M 5 1) + 1) - ((M 5 1) + 1) / 8 * 8)) 5 2) - 1)))
set_option maxRecDepth 100000 in
theorem g46 (L : Nat) (d : Nat) (M : jm_MM) (J : jm_JJ)  (r : jm_MM) (H : f46 M  = some r) : jm_go (d + 2) (jm_G 46) 0 (jm_en 2 [.ref 5, .ref 2]) [] (jm_S0 L, M, J) (none, (jm_S0 L, r, J)) := by
  unfold f46 at H
  rcases jm_bro H with ⟨h1, H⟩ | ⟨h1, H⟩
  · refine jm_go.brt 4 (b := !decide ((M 5 2) = 8)) (p1 := 32) (l1 := [some (.ref 5), some (.ref 2)]) (s1 := []) (t1 := (jm_S0 L, M, J)) (p2 := 9) (l2 := [some (.ref 5), some (.ref 2)]) (s2 := []) (t2 := (jm_S0 L, M, J)) (fun _ _ => rfl) h1 ?_
    exact g46_32 L d M J  M _ H
  · refine jm_go.brf 4 (b := !decide ((M 5 2) = 8)) (p1 := 32) (l1 := [some (.ref 5), some (.ref 2)]) (s1 := []) (t1 := (jm_S0 L, M, J)) (p2 := 9) (l2 := [some (.ref 5), some (.ref 2)]) (s2 := []) (t2 := (jm_S0 L, M, J)) (fun _ _ => rfl) h1 ?_
    refine jm_go.blk 14 (pc' := 32) (ls' := [some (.ref 5), some (.ref 2)]) (st' := []) (t' := (jm_S0 L, (jm_up (jm_up M 5 1 (((M 5 1) + 1) - ((M 5 1) + 1) / 8 * 8)) 5 2 (((jm_up M 5 1 (((M 5 1) + 1) - ((M 5 1) + 1) / 8 * 8)) 5 2) - 1)), J)) (fun _ _ => rfl) ?_
    exact g46_32 L d M J  (jm_up (jm_up M 5 1 (((M 5 1) + 1) - ((M 5 1) + 1) / 8 * 8)) 5 2 (((jm_up M 5 1 (((M 5 1) + 1) - ((M 5 1) + 1) / 8 * 8)) 5 2) - 1)) _ H


/-- X5_bringBack -/
def f47 (M : jm_MM)  : Option (jm_MM) := bif decide ((M 5 2) ≤ 0) then (some M) else (jm_gd (jm_inb ((((jm_up M 5 2 ((M 5 2) - 1)) 5 1) + ((jm_up M 5 2 ((M 5 2) - 1)) 5 2)) - (((jm_up M 5 2 ((M 5 2) - 1)) 5 1) + ((jm_up M 5 2 ((M 5 2) - 1)) 5 2)) / 8 * 8) 8) (jm_bd (f10 (jm_up M 5 2 ((M 5 2) - 1)) 2 (7 + 3 * ((((jm_up M 5 2 ((M 5 2) - 1)) 5 1) + ((jm_up M 5 2 ((M 5 2) - 1)) 5 2)) - (((jm_up M 5 2 ((M 5 2) - 1)) 5 1) + ((jm_up M 5 2 ((M 5 2) - 1)) 5 2)) / 8 * 8).toNatClampNeg)) (fun q3 => some q3)))
set_option maxRecDepth 100000 in
theorem g47 (L : Nat) (d : Nat) (M : jm_MM) (J : jm_JJ)  (r : jm_MM) (H : f47 M  = some r) : jm_go (d + 2) (jm_G 47) 0 (jm_en 2 [.ref 5, .ref 2]) [] (jm_S0 L, M, J) (none, (jm_S0 L, r, J)) := by
  unfold f47 at H
  rcases jm_bro H with ⟨h1, H⟩ | ⟨h1, H⟩
  · refine jm_go.brt 3 (b := decide ((M 5 2) ≤ 0)) (p1 := 38) (l1 := [some (.ref 5), some (.ref 2)]) (s1 := []) (t1 := (jm_S0 L, M, J)) (p2 := 7) (l2 := [some (.ref 5), some (.ref 2)]) (s2 := []) (t2 := (jm_S0 L, M, J)) (fun _ _ => rfl) h1 ?_
    have H := Option.some.inj H
    subst H
    exact jm_go.ret 1 (fun _ _ => rfl)
  · refine jm_go.brf 3 (b := decide ((M 5 2) ≤ 0)) (p1 := 38) (l1 := [some (.ref 5), some (.ref 2)]) (s1 := []) (t1 := (jm_S0 L, M, J)) (p2 := 7) (l2 := [some (.ref 5), some (.ref 2)]) (s2 := []) (t2 := (jm_S0 L, M, J)) (fun _ _ => rfl) h1 ?_
    obtain ⟨h2, H⟩ := jm_gdo H
    refine jm_go.gfr 17 (b := jm_inb ((((jm_up M 5 2 ((M 5 2) - 1)) 5 1) + ((jm_up M 5 2 ((M 5 2) - 1)) 5 2)) - (((jm_up M 5 2 ((M 5 2) - 1)) 5 1) + ((jm_up M 5 2 ((M 5 2) - 1)) 5 2)) / 8 * 8) 8) (o := (jm_S0 L).2.2.2.2 6 ((((jm_up M 5 2 ((M 5 2) - 1)) 5 1) + ((jm_up M 5 2 ((M 5 2) - 1)) 5 2)) - (((jm_up M 5 2 ((M 5 2) - 1)) 5 1) + ((jm_up M 5 2 ((M 5 2) - 1)) 5 2)) / 8 * 8).toNatClampNeg) (q := 7 + 3 * ((((jm_up M 5 2 ((M 5 2) - 1)) 5 1) + ((jm_up M 5 2 ((M 5 2) - 1)) 5 2)) - (((jm_up M 5 2 ((M 5 2) - 1)) 5 1) + ((jm_up M 5 2 ((M 5 2) - 1)) 5 2)) / 8 * 8).toNatClampNeg) (pc' := 35) (ls' := [some (.ref 5), some (.ref 2)]) (st' := [.ref 2]) (t' := (jm_S0 L, (jm_up M 5 2 ((M 5 2) - 1)), J)) (fun _ _ => rfl) h2 (jm_aF1r L h2) ?_
    obtain ⟨q3, h4, H⟩ := jm_bdo H
    refine jm_go.call 1 (d := d + 1) (b := true) (u := 10) (as := [.ref 2, .ref (7 + 3 * ((((jm_up M 5 2 ((M 5 2) - 1)) 5 1) + ((jm_up M 5 2 ((M 5 2) - 1)) 5 2)) - (((jm_up M 5 2 ((M 5 2) - 1)) 5 1) + ((jm_up M 5 2 ((M 5 2) - 1)) 5 2)) / 8 * 8).toNatClampNeg)]) (pc' := 38) (ls' := [some (.ref 5), some (.ref 2)]) (st' := []) (t' := (jm_S0 L, (jm_up M 5 2 ((M 5 2) - 1)), J)) (fun _ _ => rfl) rfl rfl (g10 L d (jm_up M 5 2 ((M 5 2) - 1)) J 2 (by unfold jm_isF; decide) (7 + 3 * ((((jm_up M 5 2 ((M 5 2) - 1)) 5 1) + ((jm_up M 5 2 ((M 5 2) - 1)) 5 2)) - (((jm_up M 5 2 ((M 5 2) - 1)) 5 1) + ((jm_up M 5 2 ((M 5 2) - 1)) 5 2)) / 8 * 8).toNatClampNeg) (jm_aF1 h2) _ h4) ?_
    have H := Option.some.inj H
    subst H
    exact jm_go.ret 1 (fun _ _ => rfl)


/-- X5_forget -/
def f48 (M : jm_MM)  : Option (jm_MM) := some (jm_up M 5 2 0)
set_option maxRecDepth 100000 in
theorem g48 (L : Nat) (d : Nat) (M : jm_MM) (J : jm_JJ)  (r : jm_MM) (H : f48 M  = some r) : jm_go d (jm_G 48) 0 (jm_en 1 [.ref 5]) [] (jm_S0 L, M, J) (none, (jm_S0 L, r, J)) := by
  unfold f48 at H
  have H := Option.some.inj H
  subst H
  exact jm_go.ret 4 (fun _ _ => rfl)

def f53_31 (M : jm_MM) (v1 : Int32) (v3 : Int32) (s0 : Int32) : Option (Int32) := bif decide (v3 = 0) then (jm_gd (jm_inb v1 24) (some ((((s0 * 64) + (M 110 v1.toNatClampNeg)) * 24) + v1))) else (jm_gd (jm_inb v1 24) (some ((((s0 * 64) + (M 111 v1.toNatClampNeg)) * 24) + v1)))
set_option maxRecDepth 100000 in
theorem g53_31 (L : Nat) (d : Nat) (M : jm_MM) (J : jm_JJ) (v1 : Int32) (v3 : Int32) (s0 : Int32) (r : Int32) (H : f53_31 M v1 v3 s0 = some r) : jm_go d (jm_G 53) 31 [some (.ref 105), some (.int v1), none, some (.int v3), none, none] [.int s0] (jm_S0 L, M, J) (some (.int r), (jm_S0 L, M, J)) := by
  unfold f53_31 at H
  rcases jm_bro H with ⟨h4, H⟩ | ⟨h4, H⟩
  · refine jm_go.brt 3 (b := decide (v3 = 0)) (p1 := 46) (l1 := [some (.ref 105), some (.int v1), none, some (.int v3), some (.int s0), none]) (s1 := []) (t1 := (jm_S0 L, M, J)) (p2 := 37) (l2 := [some (.ref 105), some (.int v1), none, some (.int v3), some (.int s0), none]) (s2 := []) (t2 := (jm_S0 L, M, J)) (fun _ _ => rfl) h4 ?_
    obtain ⟨h5, H⟩ := jm_gdo H
    refine jm_go.grd 4 (b := jm_inb v1 24) (pc' := 52) (ls' := [some (.ref 105), some (.int v1), none, none, some (.int s0), none]) (st' := [.int (M 110 v1.toNatClampNeg)]) (t' := (jm_S0 L, M, J)) (fun _ _ => rfl) h5 ?_
    have H := Option.some.inj H
    subst H
    exact jm_go.ret 11 (fun _ _ => rfl)
  · refine jm_go.brf 3 (b := decide (v3 = 0)) (p1 := 46) (l1 := [some (.ref 105), some (.int v1), none, some (.int v3), some (.int s0), none]) (s1 := []) (t1 := (jm_S0 L, M, J)) (p2 := 37) (l2 := [some (.ref 105), some (.int v1), none, some (.int v3), some (.int s0), none]) (s2 := []) (t2 := (jm_S0 L, M, J)) (fun _ _ => rfl) h4 ?_
    obtain ⟨h6, H⟩ := jm_gdo H
    refine jm_go.grd 4 (b := jm_inb v1 24) (pc' := 43) (ls' := [some (.ref 105), some (.int v1), none, some (.int v3), some (.int s0), none]) (st' := [.int (M 111 v1.toNatClampNeg)]) (t' := (jm_S0 L, M, J)) (fun _ _ => rfl) h6 ?_
    have H := Option.some.inj H
    subst H
    exact jm_go.ret 12 (fun _ _ => rfl)

def f53_11 (M : jm_MM) (v1 : Int32) (s0 : Int32) : Option (Int32) := bif decide (s0 = 0) then (jm_gd (jm_inb v1 24) (f53_31 M  v1 s0 (M 111 v1.toNatClampNeg))) else (jm_gd (jm_inb v1 24) (f53_31 M  v1 s0 (M 110 v1.toNatClampNeg)))
set_option maxRecDepth 100000 in
theorem g53_11 (L : Nat) (d : Nat) (M : jm_MM) (J : jm_JJ) (v1 : Int32) (s0 : Int32) (r : Int32) (H : f53_11 M v1 s0 = some r) : jm_go d (jm_G 53) 11 [some (.ref 105), some (.int v1), none, none, none, none] [.int s0] (jm_S0 L, M, J) (some (.int r), (jm_S0 L, M, J)) := by
  unfold f53_11 at H
  rcases jm_bro H with ⟨h2, H⟩ | ⟨h2, H⟩
  · refine jm_go.brt 3 (b := decide (s0 = 0)) (p1 := 25) (l1 := [some (.ref 105), some (.int v1), none, some (.int s0), none, none]) (s1 := []) (t1 := (jm_S0 L, M, J)) (p2 := 16) (l2 := [some (.ref 105), some (.int v1), none, some (.int s0), none, none]) (s2 := []) (t2 := (jm_S0 L, M, J)) (fun _ _ => rfl) h2 ?_
    obtain ⟨h3, H⟩ := jm_gdo H
    refine jm_go.grd 4 (b := jm_inb v1 24) (pc' := 31) (ls' := [some (.ref 105), some (.int v1), none, some (.int s0), none, none]) (st' := [.int (M 111 v1.toNatClampNeg)]) (t' := (jm_S0 L, M, J)) (fun _ _ => rfl) h3 ?_
    exact g53_31 L d M J  v1 s0 (M 111 v1.toNatClampNeg) _ H
  · refine jm_go.brf 3 (b := decide (s0 = 0)) (p1 := 25) (l1 := [some (.ref 105), some (.int v1), none, some (.int s0), none, none]) (s1 := []) (t1 := (jm_S0 L, M, J)) (p2 := 16) (l2 := [some (.ref 105), some (.int v1), none, some (.int s0), none, none]) (s2 := []) (t2 := (jm_S0 L, M, J)) (fun _ _ => rfl) h2 ?_
    obtain ⟨h7, H⟩ := jm_gdo H
    refine jm_go.grd 4 (b := jm_inb v1 24) (pc' := 22) (ls' := [some (.ref 105), some (.int v1), none, some (.int s0), none, none]) (st' := [.int (M 110 v1.toNatClampNeg)]) (t' := (jm_S0 L, M, J)) (fun _ _ => rfl) h7 ?_
    refine jm_go.blk 1 (pc' := 31) (ls' := [some (.ref 105), some (.int v1), none, some (.int s0), none, none]) (st' := [.int (M 110 v1.toNatClampNeg)]) (t' := (jm_S0 L, M, J)) (fun _ _ => rfl) ?_
    exact g53_31 L d M J  v1 s0 (M 110 v1.toNatClampNeg) _ H

/-- X6_rankOf -/
def f53 (M : jm_MM) (x0 : Int32) (x1 : Int32) : Option (Int32) := bif !decide ((x1 - x1 / 2 * 2) = 0) then (f53_11 M  x0 0) else (f53_11 M  x0 1)
set_option maxRecDepth 100000 in
theorem g53 (L : Nat) (d : Nat) (M : jm_MM) (J : jm_JJ) (x0 : Int32) (x1 : Int32) (r : Int32) (H : f53 M x0 x1 = some r) : jm_go d (jm_G 53) 0 (jm_en 6 [.ref 105, .int x0, .int x1]) [] (jm_S0 L, M, J) (some (.int r), (jm_S0 L, M, J)) := by
  unfold f53 at H
  rcases jm_bro H with ⟨h1, H⟩ | ⟨h1, H⟩
  · refine jm_go.brt 4 (b := !decide ((x1 - x1 / 2 * 2) = 0)) (p1 := 10) (l1 := [some (.ref 105), some (.int x0), some (.int x1), none, none, none]) (s1 := []) (t1 := (jm_S0 L, M, J)) (p2 := 6) (l2 := [some (.ref 105), some (.int x0), some (.int x1), none, none, none]) (s2 := []) (t2 := (jm_S0 L, M, J)) (fun _ _ => rfl) h1 ?_
    refine jm_go.blk 1 (pc' := 11) (ls' := [some (.ref 105), some (.int x0), none, none, none, none]) (st' := [.int 0]) (t' := (jm_S0 L, M, J)) (fun _ _ => rfl) ?_
    exact g53_11 L d M J  x0 0 _ H
  · refine jm_go.brf 4 (b := !decide ((x1 - x1 / 2 * 2) = 0)) (p1 := 10) (l1 := [some (.ref 105), some (.int x0), some (.int x1), none, none, none]) (s1 := []) (t1 := (jm_S0 L, M, J)) (p2 := 6) (l2 := [some (.ref 105), some (.int x0), some (.int x1), none, none, none]) (s2 := []) (t2 := (jm_S0 L, M, J)) (fun _ _ => rfl) h1 ?_
    refine jm_go.blk 2 (pc' := 11) (ls' := [some (.ref 105), some (.int x0), some (.int x1), none, none, none]) (st' := [.int 1]) (t' := (jm_S0 L, M, J)) (fun _ _ => rfl) ?_
    refine jm_go.lab (ls' := [some (.ref 105), some (.int x0), none, none, none, none]) (fun i hi => by cases hi; rfl) ?_
    exact g53_11 L d M J  x0 1 _ H

def f52_33  (ke0 : jm_MM → Int32 → Int32 → Int32 → Int32 → Int32 → Int32 → Option (jm_MM)) : Nat → jm_MM → Int32 → Int32 → Int32 → Int32 → Int32 → Int32 → Int32 → Option (jm_MM)
  | 0, _, _, _, _, _, _, _, _ => none
  | n0 + 1, M, v1, v2, v3, v4, v5, v6, v7 => bif decide (v7 ≤ v1) then (ke0 M v1 v2 v3 v4 v5 v7) else (jm_gd (jm_inb (v7 - 1) 24) (jm_bd (f53 M (M 109 ((v7 - 1).toNatClampNeg)) v3) (fun q7 => bif decide (q7 ≤ v6) then (ke0 M v1 v2 v3 v4 v5 v7) else (jm_gd (jm_inb (v7 - 1) 24) (jm_gd (jm_inb v7 24) ((f52_33  ke0 n0) (jm_up M 109 v7.toNatClampNeg (M 109 ((v7 - 1).toNatClampNeg))) v1 v2 v3 v4 v5 v6 (v7 + (-1))))))))
set_option maxRecDepth 100000 in
theorem g52_33 (L : Nat) (d : Nat) (_M : jm_MM) (J : jm_JJ) (ke0 : jm_MM → Int32 → Int32 → Int32 → Int32 → Int32 → Int32 → Option (jm_MM)) (hke0 : ∀ (M : jm_MM) (v1 : Int32) (v2 : Int32) (v3 : Int32) (v4 : Int32) (v5 : Int32) (v7 : Int32) (r : jm_MM), ke0 M v1 v2 v3 v4 v5 v7 = some r → jm_go (d + 1) (jm_G 52) 80 [some (.ref 105), some (.int v1), some (.int v2), some (.int v3), some (.int v4), some (.int v5), none, some (.int v7)] [] (jm_S0 L, M, J) (none, (jm_S0 L, r, J))) : ∀ (n0 : Nat) (M : jm_MM) (v1 : Int32) (v2 : Int32) (v3 : Int32) (v4 : Int32) (v5 : Int32) (v6 : Int32) (v7 : Int32) (r : jm_MM), f52_33  ke0 n0 M v1 v2 v3 v4 v5 v6 v7 = some r → jm_go (d + 1) (jm_G 52) 33 [some (.ref 105), some (.int v1), some (.int v2), some (.int v3), some (.int v4), some (.int v5), some (.int v6), some (.int v7)] [] (jm_S0 L, M, J) (none, (jm_S0 L, r, J)) := by
  intro n0
  induction n0 with
  | zero => intro M v1 v2 v3 v4 v5 v6 v7 r H; cases H
  | succ n0 ih =>
    intro M v1 v2 v3 v4 v5 v6 v7 r H
    have hkb := ih
    unfold f52_33 at H
    rcases jm_bro H with ⟨h5, H⟩ | ⟨h5, H⟩
    · refine jm_go.brt 3 (b := decide (v7 ≤ v1)) (p1 := 80) (l1 := [some (.ref 105), some (.int v1), some (.int v2), some (.int v3), some (.int v4), some (.int v5), some (.int v6), some (.int v7)]) (s1 := []) (t1 := (jm_S0 L, M, J)) (p2 := 39) (l2 := [some (.ref 105), some (.int v1), some (.int v2), some (.int v3), some (.int v4), some (.int v5), some (.int v6), some (.int v7)]) (s2 := []) (t2 := (jm_S0 L, M, J)) (fun _ _ => rfl) h5 ?_
      refine jm_go.lab (ls' := [some (.ref 105), some (.int v1), some (.int v2), some (.int v3), some (.int v4), some (.int v5), none, some (.int v7)]) (fun i hi => by cases hi; rfl) ?_
      exact hke0 M v1 v2 v3 v4 v5 v7 _ H
    · refine jm_go.brf 3 (b := decide (v7 ≤ v1)) (p1 := 80) (l1 := [some (.ref 105), some (.int v1), some (.int v2), some (.int v3), some (.int v4), some (.int v5), some (.int v6), some (.int v7)]) (s1 := []) (t1 := (jm_S0 L, M, J)) (p2 := 39) (l2 := [some (.ref 105), some (.int v1), some (.int v2), some (.int v3), some (.int v4), some (.int v5), some (.int v6), some (.int v7)]) (s2 := []) (t2 := (jm_S0 L, M, J)) (fun _ _ => rfl) h5 ?_
      obtain ⟨h6, H⟩ := jm_gdo H
      refine jm_go.grd 7 (b := jm_inb (v7 - 1) 24) (pc' := 49) (ls' := [some (.ref 105), some (.int v1), some (.int v2), some (.int v3), some (.int v4), some (.int v5), some (.int v6), some (.int v7)]) (st' := [.int (M 109 ((v7 - 1).toNatClampNeg)), .ref 105]) (t' := (jm_S0 L, M, J)) (fun _ _ => rfl) h6 ?_
      obtain ⟨q7, h8, H⟩ := jm_bdo H
      refine jm_go.call 2 (d := d) (b := true) (u := 53) (as := [.ref 105, .int (M 109 ((v7 - 1).toNatClampNeg)), .int v3]) (pc' := 53) (ls' := [some (.ref 105), some (.int v1), some (.int v2), some (.int v3), some (.int v4), some (.int v5), some (.int v6), some (.int v7)]) (st' := []) (t' := (jm_S0 L, M, J)) (fun _ _ => rfl) rfl rfl (g53 L d M J (M 109 ((v7 - 1).toNatClampNeg)) v3 _ h8) ?_
      rcases jm_bro H with ⟨h9, H⟩ | ⟨h9, H⟩
      · refine jm_go.brt 2 (b := decide (q7 ≤ v6)) (p1 := 80) (l1 := [some (.ref 105), some (.int v1), some (.int v2), some (.int v3), some (.int v4), some (.int v5), some (.int v6), some (.int v7)]) (s1 := []) (t1 := (jm_S0 L, M, J)) (p2 := 58) (l2 := [some (.ref 105), some (.int v1), some (.int v2), some (.int v3), some (.int v4), some (.int v5), some (.int v6), some (.int v7)]) (s2 := []) (t2 := (jm_S0 L, M, J)) (fun _ _ => rfl) h9 ?_
        refine jm_go.lab (ls' := [some (.ref 105), some (.int v1), some (.int v2), some (.int v3), some (.int v4), some (.int v5), none, some (.int v7)]) (fun i hi => by cases hi; rfl) ?_
        exact hke0 M v1 v2 v3 v4 v5 v7 _ H
      · refine jm_go.brf 2 (b := decide (q7 ≤ v6)) (p1 := 80) (l1 := [some (.ref 105), some (.int v1), some (.int v2), some (.int v3), some (.int v4), some (.int v5), some (.int v6), some (.int v7)]) (s1 := []) (t1 := (jm_S0 L, M, J)) (p2 := 58) (l2 := [some (.ref 105), some (.int v1), some (.int v2), some (.int v3), some (.int v4), some (.int v5), some (.int v6), some (.int v7)]) (s2 := []) (t2 := (jm_S0 L, M, J)) (fun _ _ => rfl) h9 ?_
        obtain ⟨h10, H⟩ := jm_gdo H
        refine jm_go.grd 9 (b := jm_inb (v7 - 1) 24) (pc' := 73) (ls' := [some (.ref 105), some (.int v1), some (.int v2), some (.int v3), some (.int v4), some (.int v5), some (.int v6), some (.int v7)]) (st' := [.int (M 109 ((v7 - 1).toNatClampNeg)), .int v7, .ref 109]) (t' := (jm_S0 L, M, J)) (fun _ _ => rfl) h10 ?_
        obtain ⟨h11, H⟩ := jm_gdo H
        refine jm_go.grd 1 (b := jm_inb v7 24) (pc' := 74) (ls' := [some (.ref 105), some (.int v1), some (.int v2), some (.int v3), some (.int v4), some (.int v5), some (.int v6), some (.int v7)]) (st' := []) (t' := (jm_S0 L, (jm_up M 109 v7.toNatClampNeg (M 109 ((v7 - 1).toNatClampNeg))), J)) (fun _ _ => rfl) h11 ?_
        refine jm_go.blk 2 (pc' := 33) (ls' := [some (.ref 105), some (.int v1), some (.int v2), some (.int v3), some (.int v4), some (.int v5), some (.int v6), some (.int (v7 + (-1)))]) (st' := []) (t' := (jm_S0 L, (jm_up M 109 v7.toNatClampNeg (M 109 ((v7 - 1).toNatClampNeg))), J)) (fun _ _ => rfl) ?_
        exact hkb (jm_up M 109 v7.toNatClampNeg (M 109 ((v7 - 1).toNatClampNeg))) v1 v2 v3 v4 v5 v6 (v7 + (-1)) _ H

def f52_5  (ke0 : jm_MM → Option (jm_MM)) : Nat → jm_MM → Int32 → Int32 → Int32 → Int32 → Option (jm_MM)
  | 0, _, _, _, _, _ => none
  | n0 + 1, M, v1, v2, v3, v4 => bif decide (v2 ≤ v4) then (ke0 M) else (jm_gd (jm_inb v4 24) (jm_bd (f53 M (M 109 v4.toNatClampNeg) v3) (fun q3 => f52_33  (fun Me12 ve13 ve14 ve15 ve16 ve17 ve18 => jm_gd (jm_inb ve18 24) ((f52_5  ke0 n0) (jm_up Me12 109 ve18.toNatClampNeg ve17) ve13 ve14 ve15 (ve16 + 1))) jm_F M v1 v2 v3 v4 (M 109 v4.toNatClampNeg) q3 v4)))
set_option maxRecDepth 100000 in
theorem g52_5 (L : Nat) (d : Nat) (_M : jm_MM) (J : jm_JJ) (ke0 : jm_MM → Option (jm_MM)) (hke0 : ∀ (M : jm_MM) (r : jm_MM), ke0 M = some r → jm_go (d + 1) (jm_G 52) 95 [none, none, none, none, none, none, none, none] [] (jm_S0 L, M, J) (none, (jm_S0 L, r, J))) : ∀ (n0 : Nat) (M : jm_MM) (v1 : Int32) (v2 : Int32) (v3 : Int32) (v4 : Int32) (r : jm_MM), f52_5  ke0 n0 M v1 v2 v3 v4 = some r → jm_go (d + 1) (jm_G 52) 5 [some (.ref 105), some (.int v1), some (.int v2), some (.int v3), some (.int v4), none, none, none] [] (jm_S0 L, M, J) (none, (jm_S0 L, r, J)) := by
  intro n0
  induction n0 with
  | zero => intro M v1 v2 v3 v4 r H; cases H
  | succ n0 ih =>
    intro M v1 v2 v3 v4 r H
    have hkb := ih
    unfold f52_5 at H
    rcases jm_bro H with ⟨h1, H⟩ | ⟨h1, H⟩
    · refine jm_go.brt 3 (b := decide (v2 ≤ v4)) (p1 := 95) (l1 := [some (.ref 105), some (.int v1), some (.int v2), some (.int v3), some (.int v4), none, none, none]) (s1 := []) (t1 := (jm_S0 L, M, J)) (p2 := 11) (l2 := [some (.ref 105), some (.int v1), some (.int v2), some (.int v3), some (.int v4), none, none, none]) (s2 := []) (t2 := (jm_S0 L, M, J)) (fun _ _ => rfl) h1 ?_
      refine jm_go.lab (ls' := [none, none, none, none, none, none, none, none]) (fun i hi => by cases hi; rfl) ?_
      exact hke0 M _ H
    · refine jm_go.brf 3 (b := decide (v2 ≤ v4)) (p1 := 95) (l1 := [some (.ref 105), some (.int v1), some (.int v2), some (.int v3), some (.int v4), none, none, none]) (s1 := []) (t1 := (jm_S0 L, M, J)) (p2 := 11) (l2 := [some (.ref 105), some (.int v1), some (.int v2), some (.int v3), some (.int v4), none, none, none]) (s2 := []) (t2 := (jm_S0 L, M, J)) (fun _ _ => rfl) h1 ?_
      obtain ⟨h2, H⟩ := jm_gdo H
      refine jm_go.grd 4 (b := jm_inb v4 24) (pc' := 18) (ls' := [some (.ref 105), some (.int v1), some (.int v2), some (.int v3), some (.int v4), none, none, none]) (st' := [.int (M 109 v4.toNatClampNeg)]) (t' := (jm_S0 L, M, J)) (fun _ _ => rfl) h2 ?_
      obtain ⟨q3, h4, H⟩ := jm_bdo H
      refine jm_go.call 5 (d := d) (b := true) (u := 53) (as := [.ref 105, .int (M 109 v4.toNatClampNeg), .int v3]) (pc' := 27) (ls' := [some (.ref 105), some (.int v1), some (.int v2), some (.int v3), some (.int v4), some (.int (M 109 v4.toNatClampNeg)), none, none]) (st' := []) (t' := (jm_S0 L, M, J)) (fun _ _ => rfl) rfl rfl (g53 L d M J (M 109 v4.toNatClampNeg) v3 _ h4) ?_
      refine jm_go.blk 3 (pc' := 33) (ls' := [some (.ref 105), some (.int v1), some (.int v2), some (.int v3), some (.int v4), some (.int (M 109 v4.toNatClampNeg)), some (.int q3), some (.int v4)]) (st' := []) (t' := (jm_S0 L, M, J)) (fun _ _ => rfl) ?_
      exact g52_33 L d M J
        _ (fun Me12 ve13 ve14 ve15 ve16 ve17 ve18 r H => by
          obtain ⟨h19, H⟩ := jm_gdo H
          refine jm_go.grd 5 (b := jm_inb ve18 24) (pc' := 89) (ls' := [some (.ref 105), some (.int ve13), some (.int ve14), some (.int ve15), some (.int ve16), some (.int ve17), none, some (.int ve18)]) (st' := []) (t' := (jm_S0 L, (jm_up Me12 109 ve18.toNatClampNeg ve17), J)) (fun _ _ => rfl) h19 ?_
          refine jm_go.blk 2 (pc' := 5) (ls' := [some (.ref 105), some (.int ve13), some (.int ve14), some (.int ve15), some (.int (ve16 + 1)), some (.int ve17), none, some (.int ve18)]) (st' := []) (t' := (jm_S0 L, (jm_up Me12 109 ve18.toNatClampNeg ve17), J)) (fun _ _ => rfl) ?_
          refine jm_go.lab (ls' := [some (.ref 105), some (.int ve13), some (.int ve14), some (.int ve15), some (.int (ve16 + 1)), none, none, none]) (fun i hi => by cases hi; rfl) ?_
          exact hkb (jm_up Me12 109 ve18.toNatClampNeg ve17) ve13 ve14 ve15 (ve16 + 1) _ H
          )
        _ M v1 v2 v3 v4 (M 109 v4.toNatClampNeg) q3 v4 _ H

/-- X6_sort -/
def f52 (M : jm_MM) (x0 : Int32) (x1 : Int32) (x2 : Int32) : Option (jm_MM) := f52_5  (fun Me20 => some Me20) jm_F M x0 x1 x2 (x0 + 1)
set_option maxRecDepth 100000 in
theorem g52 (L : Nat) (d : Nat) (M : jm_MM) (J : jm_JJ) (x0 : Int32) (x1 : Int32) (x2 : Int32) (r : jm_MM) (H : f52 M x0 x1 x2 = some r) : jm_go (d + 1) (jm_G 52) 0 (jm_en 8 [.ref 105, .int x0, .int x1, .int x2]) [] (jm_S0 L, M, J) (none, (jm_S0 L, r, J)) := by
  unfold f52 at H
  refine jm_go.blk 4 (pc' := 5) (ls' := [some (.ref 105), some (.int x0), some (.int x1), some (.int x2), some (.int (x0 + 1)), none, none, none]) (st' := []) (t' := (jm_S0 L, M, J)) (fun _ _ => rfl) ?_
  exact g52_5 L d M J
    _ (fun Me20 r H => by
      have H := Option.some.inj H
      subst H
      exact jm_go.ret 1 (fun _ _ => rfl)
      )
    _ M x0 x1 x2 (x0 + 1) _ H
