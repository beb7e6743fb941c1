/-! methods as functions: printed by wip/whole/gen/lay.py (funs.py) -/
def f19_6 (M : jm_MM) (ke0 : Int32 → Option (Int32)) : Nat → Int32 → Int32 → Int32 → Int32 → Int32 → Int32 → Option (Int32)
  | 0, _, _, _, _, _, _ => none
  | n0 + 1, v1, v2, v3, v4, v5, v6 => bif decide (24 ≤ v6) then (ke0 v5) else (jm_bd (f14 M v1 v6) (fun q2 => bif decide (q2 = 0) then ((f19_6 M ke0 n0) v1 v2 v3 v4 v5 (v6 + 1)) else (jm_bd (f17 M v1 v6 v2 v3) (fun q5 => bif decide (v4 < q5) then ((f19_6 M ke0 n0) v1 v2 v3 v4 v5 (v6 + 1)) else ((f19_6 M ke0 n0) v1 v2 v3 v4 (v5 ||| (1 <<< (v6 &&& 31))) (v6 + 1))))))
set_option maxRecDepth 100000 in
theorem g19_6 (L : Nat) (d : Nat) (M : jm_MM) (J : jm_JJ) (ke0 : Int32 → Option (Int32)) (hke0 : ∀  (v5 : Int32) (r : Int32), ke0 v5 = some r → jm_go (d + 2) (jm_G 19) 52 [none, none, none, none, none, some (.int v5), none] [] (jm_S0 L, M, J) (some (.int r), (jm_S0 L, M, J))) : ∀ (n0 : Nat) (v1 : Int32) (v2 : Int32) (v3 : Int32) (v4 : Int32) (v5 : Int32) (v6 : Int32) (r : Int32), f19_6 M ke0 n0 v1 v2 v3 v4 v5 v6 = some r → jm_go (d + 2) (jm_G 19) 6 [some (.ref 2), some (.int v1), some (.int v2), some (.int v3), some (.int v4), some (.int v5), some (.int v6)] [] (jm_S0 L, M, J) (some (.int r), (jm_S0 L, M, J)) := by
  intro n0
  induction n0 with
  | zero => intro v1 v2 v3 v4 v5 v6 r H; cases H
  | succ n0 ih =>
    intro v1 v2 v3 v4 v5 v6 r H
    have hkb := ih
    unfold f19_6 at H
    rcases jm_bro H with ⟨h1, H⟩ | ⟨h1, H⟩
    · refine jm_go.brt 3 (b := decide (24 ≤ v6)) (p1 := 52) (l1 := [some (.ref 2), some (.int v1), some (.int v2), some (.int v3), some (.int v4), some (.int v5), some (.int v6)]) (s1 := []) (t1 := (jm_S0 L, M, J)) (p2 := 13) (l2 := [some (.ref 2), some (.int v1), some (.int v2), some (.int v3), some (.int v4), some (.int v5), some (.int v6)]) (s2 := []) (t2 := (jm_S0 L, M, J)) (fun _ _ => rfl) h1 ?_
      refine jm_go.lab (ls' := [none, none, none, none, none, some (.int v5), none]) (fun i hi => by cases hi; rfl) ?_
      exact hke0 v5 _ H
    · refine jm_go.brf 3 (b := decide (24 ≤ v6)) (p1 := 52) (l1 := [some (.ref 2), some (.int v1), some (.int v2), some (.int v3), some (.int v4), some (.int v5), some (.int v6)]) (s1 := []) (t1 := (jm_S0 L, M, J)) (p2 := 13) (l2 := [some (.ref 2), some (.int v1), some (.int v2), some (.int v3), some (.int v4), some (.int v5), some (.int v6)]) (s2 := []) (t2 := (jm_S0 L, M, J)) (fun _ _ => rfl) h1 ?_
      obtain ⟨q2, h3, H⟩ := jm_bdo H
      refine jm_go.call 4 (d := d + 1) (b := true) (u := 14) (as := [.ref 2, .int v1, .int v6]) (pc' := 20) (ls' := [some (.ref 2), some (.int v1), some (.int v2), some (.int v3), some (.int v4), some (.int v5), some (.int v6)]) (st' := []) (t' := (jm_S0 L, M, J)) (fun _ _ => rfl) rfl rfl (g14 L (d + 1) M J v1 v6 _ h3) ?_
      rcases jm_bro H with ⟨h4, H⟩ | ⟨h4, H⟩
      · refine jm_go.brt 1 (b := decide (q2 = 0)) (p1 := 46) (l1 := [some (.ref 2), some (.int v1), some (.int v2), some (.int v3), some (.int v4), some (.int v5), some (.int v6)]) (s1 := []) (t1 := (jm_S0 L, M, J)) (p2 := 23) (l2 := [some (.ref 2), some (.int v1), some (.int v2), some (.int v3), some (.int v4), some (.int v5), some (.int v6)]) (s2 := []) (t2 := (jm_S0 L, M, J)) (fun _ _ => rfl) h4 ?_
        refine jm_go.blk 2 (pc' := 6) (ls' := [some (.ref 2), some (.int v1), some (.int v2), some (.int v3), some (.int v4), some (.int v5), some (.int (v6 + 1))]) (st' := []) (t' := (jm_S0 L, M, J)) (fun _ _ => rfl) ?_
        exact hkb v1 v2 v3 v4 v5 (v6 + 1) _ H
      · refine jm_go.brf 1 (b := decide (q2 = 0)) (p1 := 46) (l1 := [some (.ref 2), some (.int v1), some (.int v2), some (.int v3), some (.int v4), some (.int v5), some (.int v6)]) (s1 := []) (t1 := (jm_S0 L, M, J)) (p2 := 23) (l2 := [some (.ref 2), some (.int v1), some (.int v2), some (.int v3), some (.int v4), some (.int v5), some (.int v6)]) (s2 := []) (t2 := (jm_S0 L, M, J)) (fun _ _ => rfl) h4 ?_
        obtain ⟨q5, h6, H⟩ := jm_bdo H
        refine jm_go.call 6 (d := d + 1) (b := true) (u := 17) (as := [.ref 2, .int v1, .int v6, .int v2, .int v3]) (pc' := 32) (ls' := [some (.ref 2), some (.int v1), some (.int v2), some (.int v3), some (.int v4), some (.int v5), some (.int v6)]) (st' := []) (t' := (jm_S0 L, M, J)) (fun _ _ => rfl) rfl rfl (g17 L d M J v1 v6 v2 v3 _ h6) ?_
        rcases jm_bro H with ⟨h7, H⟩ | ⟨h7, H⟩
        · refine jm_go.brt 2 (b := decide (v4 < q5)) (p1 := 46) (l1 := [some (.ref 2), some (.int v1), some (.int v2), some (.int v3), some (.int v4), some (.int v5), some (.int v6)]) (s1 := []) (t1 := (jm_S0 L, M, J)) (p2 := 37) (l2 := [some (.ref 2), some (.int v1), some (.int v2), some (.int v3), some (.int v4), some (.int v5), some (.int v6)]) (s2 := []) (t2 := (jm_S0 L, M, J)) (fun _ _ => rfl) h7 ?_
          refine jm_go.blk 2 (pc' := 6) (ls' := [some (.ref 2), some (.int v1), some (.int v2), some (.int v3), some (.int v4), some (.int v5), some (.int (v6 + 1))]) (st' := []) (t' := (jm_S0 L, M, J)) (fun _ _ => rfl) ?_
          exact hkb v1 v2 v3 v4 v5 (v6 + 1) _ H
        · refine jm_go.brf 2 (b := decide (v4 < q5)) (p1 := 46) (l1 := [some (.ref 2), some (.int v1), some (.int v2), some (.int v3), some (.int v4), some (.int v5), some (.int v6)]) (s1 := []) (t1 := (jm_S0 L, M, J)) (p2 := 37) (l2 := [some (.ref 2), some (.int v1), some (.int v2), some (.int v3), some (.int v4), some (.int v5), some (.int v6)]) (s2 := []) (t2 := (jm_S0 L, M, J)) (fun _ _ => rfl) h7 ?_
          refine jm_go.blk 8 (pc' := 6) (ls' := [some (.ref 2), some (.int v1), some (.int v2), some (.int v3), some (.int v4), some (.int (v5 ||| (1 <<< (v6 &&& 31)))), some (.int (v6 + 1))]) (st' := []) (t' := (jm_S0 L, M, J)) (fun _ _ => rfl) ?_
          exact hkb v1 v2 v3 v4 (v5 ||| (1 <<< (v6 &&& 31))) (v6 + 1) _ H

/-- X1_near -/
def f19 (M : jm_MM) (x0 : Int32) (x1 : Int32) (x2 : Int32) (x3 : Int32) : Option (Int32) := f19_6 M (fun ve8 => some ve8) jm_F x0 x1 x2 x3 0 0
set_option maxRecDepth 100000 in
theorem g19 (L : Nat) (d : Nat) (M : jm_MM) (J : jm_JJ) (x0 : Int32) (x1 : Int32) (x2 : Int32) (x3 : Int32) (r : Int32) (H : f19 M x0 x1 x2 x3 = some r) : jm_go (d + 2) (jm_G 19) 0 (jm_en 7 [.ref 2, .int x0, .int x1, .int x2, .int x3]) [] (jm_S0 L, M, J) (some (.int r), (jm_S0 L, M, J)) := by
  unfold f19 at H
  refine jm_go.blk 4 (pc' := 6) (ls' := [some (.ref 2), some (.int x0), some (.int x1), some (.int x2), some (.int x3), some (.int 0), some (.int 0)]) (st' := []) (t' := (jm_S0 L, M, J)) (fun _ _ => rfl) ?_
  exact g19_6 L d M J
    _ (fun ve8 r H => by
      have H := Option.some.inj H
      subst H
      exact jm_go.ret 2 (fun _ _ => rfl)
      )
    _ x0 x1 x2 x3 0 0 _ H

def f20_4 (M : jm_MM) (ke0 : Int32 → Option (Int32)) : Nat → Int32 → Int32 → Int32 → Option (Int32)
  | 0, _, _, _ => none
  | n0 + 1, v1, v2, v3 => bif decide (24 ≤ v3) then (ke0 v2) else (jm_bd (f87 M v1 v3) (fun q2 => bif decide (q2 = 0) then ((f20_4 M ke0 n0) v1 v2 (v3 + 1)) else (jm_gd (jm_inb v3 24) ((f20_4 M ke0 n0) v1 (v2 + (M 3 v3.toNatClampNeg)) (v3 + 1)))))
set_option maxRecDepth 100000 in
theorem g20_4 (L : Nat) (d : Nat) (M : jm_MM) (J : jm_JJ) (ke0 : Int32 → Option (Int32)) (hke0 : ∀  (v2 : Int32) (r : Int32), ke0 v2 = some r → jm_go (d + 1) (jm_G 20) 33 [none, none, some (.int v2), none] [] (jm_S0 L, M, J) (some (.int r), (jm_S0 L, M, J))) : ∀ (n0 : Nat) (v1 : Int32) (v2 : Int32) (v3 : Int32) (r : Int32), f20_4 M ke0 n0 v1 v2 v3 = some r → jm_go (d + 1) (jm_G 20) 4 [some (.ref 2), some (.int v1), some (.int v2), some (.int v3)] [] (jm_S0 L, M, J) (some (.int r), (jm_S0 L, M, J)) := by
  intro n0
  induction n0 with
  | zero => intro v1 v2 v3 r H; cases H
  | succ n0 ih =>
    intro v1 v2 v3 r H
    have hkb := ih
    unfold f20_4 at H
    rcases jm_bro H with ⟨h1, H⟩ | ⟨h1, H⟩
    · refine jm_go.brt 3 (b := decide (24 ≤ v3)) (p1 := 33) (l1 := [some (.ref 2), some (.int v1), some (.int v2), some (.int v3)]) (s1 := []) (t1 := (jm_S0 L, M, J)) (p2 := 10) (l2 := [some (.ref 2), some (.int v1), some (.int v2), some (.int v3)]) (s2 := []) (t2 := (jm_S0 L, M, J)) (fun _ _ => rfl) h1 ?_
      refine jm_go.lab (ls' := [none, none, some (.int v2), none]) (fun i hi => by cases hi; rfl) ?_
      exact hke0 v2 _ H
    · refine jm_go.brf 3 (b := decide (24 ≤ v3)) (p1 := 33) (l1 := [some (.ref 2), some (.int v1), some (.int v2), some (.int v3)]) (s1 := []) (t1 := (jm_S0 L, M, J)) (p2 := 10) (l2 := [some (.ref 2), some (.int v1), some (.int v2), some (.int v3)]) (s2 := []) (t2 := (jm_S0 L, M, J)) (fun _ _ => rfl) h1 ?_
      obtain ⟨q2, h3, H⟩ := jm_bdo H
      refine jm_go.call 3 (d := d) (b := true) (u := 87) (as := [.int v1, .int v3]) (pc' := 15) (ls' := [some (.ref 2), some (.int v1), some (.int v2), some (.int v3)]) (st' := []) (t' := (jm_S0 L, M, J)) (fun _ _ => rfl) rfl rfl (g87 L d M J v1 v3 _ h3) ?_
      rcases jm_bro H with ⟨h4, H⟩ | ⟨h4, H⟩
      · refine jm_go.brt 1 (b := decide (q2 = 0)) (p1 := 27) (l1 := [some (.ref 2), some (.int v1), some (.int v2), some (.int v3)]) (s1 := []) (t1 := (jm_S0 L, M, J)) (p2 := 18) (l2 := [some (.ref 2), some (.int v1), some (.int v2), some (.int v3)]) (s2 := []) (t2 := (jm_S0 L, M, J)) (fun _ _ => rfl) h4 ?_
        refine jm_go.blk 2 (pc' := 4) (ls' := [some (.ref 2), some (.int v1), some (.int v2), some (.int (v3 + 1))]) (st' := []) (t' := (jm_S0 L, M, J)) (fun _ _ => rfl) ?_
        exact hkb v1 v2 (v3 + 1) _ H
      · refine jm_go.brf 1 (b := decide (q2 = 0)) (p1 := 27) (l1 := [some (.ref 2), some (.int v1), some (.int v2), some (.int v3)]) (s1 := []) (t1 := (jm_S0 L, M, J)) (p2 := 18) (l2 := [some (.ref 2), some (.int v1), some (.int v2), some (.int v3)]) (s2 := []) (t2 := (jm_S0 L, M, J)) (fun _ _ => rfl) h4 ?_
        obtain ⟨h5, H⟩ := jm_gdo H
        refine jm_go.grd 5 (b := jm_inb v3 24) (pc' := 25) (ls' := [some (.ref 2), some (.int v1), some (.int v2), some (.int v3)]) (st' := [.int (M 3 v3.toNatClampNeg), .int v2]) (t' := (jm_S0 L, M, J)) (fun _ _ => rfl) h5 ?_
        refine jm_go.blk 4 (pc' := 4) (ls' := [some (.ref 2), some (.int v1), some (.int (v2 + (M 3 v3.toNatClampNeg))), some (.int (v3 + 1))]) (st' := []) (t' := (jm_S0 L, M, J)) (fun _ _ => rfl) ?_
        exact hkb v1 (v2 + (M 3 v3.toNatClampNeg)) (v3 + 1) _ H

/-- X1_weightOf -/
def f20 (M : jm_MM) (x0 : Int32) : Option (Int32) := f20_4 M (fun ve6 => some ve6) jm_F x0 0 0
set_option maxRecDepth 100000 in
theorem g20 (L : Nat) (d : Nat) (M : jm_MM) (J : jm_JJ) (x0 : Int32) (r : Int32) (H : f20 M x0 = some r) : jm_go (d + 1) (jm_G 20) 0 (jm_en 4 [.ref 2, .int x0]) [] (jm_S0 L, M, J) (some (.int r), (jm_S0 L, M, J)) := by
  unfold f20 at H
  refine jm_go.blk 4 (pc' := 4) (ls' := [some (.ref 2), some (.int x0), some (.int 0), some (.int 0)]) (st' := []) (t' := (jm_S0 L, M, J)) (fun _ _ => rfl) ?_
  exact g20_4 L d M J
    _ (fun ve6 r H => by
      have H := Option.some.inj H
      subst H
      exact jm_go.ret 2 (fun _ _ => rfl)
      )
    _ x0 0 0 _ H

def f31_15 (a0 : Nat) (ke0 : jm_MM → Int32 → Int32 → Int32 → Option (jm_MM)) : Nat → jm_MM → Int32 → Int32 → Int32 → Option (jm_MM)
  | 0, _, _, _, _ => none
  | n0 + 1, M, v1, v2, v3 => bif decide (v3 ≤ 0) then (ke0 M v1 v2 v3) else (jm_gd (jm_inb (v3 - 1) 24) (bif decide (v2 ≤ (M (a0 + 2) ((v3 - 1).toNatClampNeg))) then (ke0 M v1 v2 v3) else (jm_gd (jm_inb (v3 - 1) 24) (jm_gd (jm_inb v3 24) (jm_gd (jm_inb (v3 - 1) 24) (jm_gd (jm_inb v3 24) ((f31_15 a0 ke0 n0) (jm_up (jm_up M (a0 + 1) v3.toNatClampNeg (M (a0 + 1) ((v3 - 1).toNatClampNeg))) (a0 + 2) v3.toNatClampNeg ((jm_up M (a0 + 1) v3.toNatClampNeg (M (a0 + 1) ((v3 - 1).toNatClampNeg))) (a0 + 2) ((v3 - 1).toNatClampNeg))) v1 v2 (v3 + (-1)))))))))
set_option maxRecDepth 100000 in
theorem g31_15 (L : Nat) (d : Nat) (_M : jm_MM) (J : jm_JJ) (a0 : Nat) (ha0 : jm_isH a0) (ke0 : jm_MM → Int32 → Int32 → Int32 → Option (jm_MM)) (hke0 : ∀ (M : jm_MM) (v1 : Int32) (v2 : Int32) (v3 : Int32) (r : jm_MM), ke0 M v1 v2 v3 = some r → jm_go d (jm_G 31) 65 [some (.ref a0), some (.int v1), some (.int v2), some (.int v3)] [] (jm_S0 L, M, J) (none, (jm_S0 L, r, J))) : ∀ (n0 : Nat) (M : jm_MM) (v1 : Int32) (v2 : Int32) (v3 : Int32) (r : jm_MM), f31_15 a0 ke0 n0 M v1 v2 v3 = some r → jm_go d (jm_G 31) 15 [some (.ref a0), some (.int v1), some (.int v2), some (.int v3)] [] (jm_S0 L, M, J) (none, (jm_S0 L, r, J)) := by
  intro n0
  induction n0 with
  | zero => intro M v1 v2 v3 r H; cases H
  | succ n0 ih =>
    intro M v1 v2 v3 r H
    have hkb := ih
    unfold f31_15 at H
    rcases jm_bro H with ⟨h2, H⟩ | ⟨h2, H⟩
    · refine jm_go.brt 2 (b := decide (v3 ≤ 0)) (p1 := 65) (l1 := [some (.ref a0), some (.int v1), some (.int v2), some (.int v3)]) (s1 := []) (t1 := (jm_S0 L, M, J)) (p2 := 19) (l2 := [some (.ref a0), some (.int v1), some (.int v2), some (.int v3)]) (s2 := []) (t2 := (jm_S0 L, M, J)) (fun _ _ => rfl) h2 ?_
      exact hke0 M v1 v2 v3 _ H
    · refine jm_go.brf 2 (b := decide (v3 ≤ 0)) (p1 := 65) (l1 := [some (.ref a0), some (.int v1), some (.int v2), some (.int v3)]) (s1 := []) (t1 := (jm_S0 L, M, J)) (p2 := 19) (l2 := [some (.ref a0), some (.int v1), some (.int v2), some (.int v3)]) (s2 := []) (t2 := (jm_S0 L, M, J)) (fun _ _ => rfl) h2 ?_
      refine jm_go.gfr 2 (b := jm_is (jm_S0 L) a0 3) (o := (jm_S0 L).2.2.2.2 a0 2) (q := a0 + 2) (pc' := 23) (ls' := [some (.ref a0), some (.int v1), some (.int v2), some (.int v3)]) (st' := []) (t' := (jm_S0 L, M, J)) (fun _ _ => rfl) (jm_fH L ha0) (jm_rH2 L ha0) ?_
      obtain ⟨h3, H⟩ := jm_gdo H
      refine jm_go.grd 4 (b := ((Nat.beq 0 1 && Nat.beq (a0 + 2) 0) || (Nat.beq 0 0 && jm_is (jm_S0 L) (a0 + 2) 9)) && jm_inb (v3 - 1) ((jm_S0 L).2.2.2.1 (a0 + 2))) (pc' := 27) (ls' := [some (.ref a0), some (.int v1), some (.int v2), some (.int v3)]) (st' := [.int (M (a0 + 2) ((v3 - 1).toNatClampNeg))]) (t' := (jm_S0 L, M, J)) (fun _ _ => rfl) (jm_gia (jm_fH2 L ha0) h3) ?_
      rcases jm_bro H with ⟨h4, H⟩ | ⟨h4, H⟩
      · refine jm_go.brt 2 (b := decide (v2 ≤ (M (a0 + 2) ((v3 - 1).toNatClampNeg)))) (p1 := 65) (l1 := [some (.ref a0), some (.int v1), some (.int v2), some (.int v3)]) (s1 := []) (t1 := (jm_S0 L, M, J)) (p2 := 31) (l2 := [some (.ref a0), some (.int v1), some (.int v2), some (.int v3)]) (s2 := []) (t2 := (jm_S0 L, M, J)) (fun _ _ => rfl) h4 ?_
        exact hke0 M v1 v2 v3 _ H
      · refine jm_go.brf 2 (b := decide (v2 ≤ (M (a0 + 2) ((v3 - 1).toNatClampNeg)))) (p1 := 65) (l1 := [some (.ref a0), some (.int v1), some (.int v2), some (.int v3)]) (s1 := []) (t1 := (jm_S0 L, M, J)) (p2 := 31) (l2 := [some (.ref a0), some (.int v1), some (.int v2), some (.int v3)]) (s2 := []) (t2 := (jm_S0 L, M, J)) (fun _ _ => rfl) h4 ?_
        refine jm_go.gfr 2 (b := jm_is (jm_S0 L) a0 3) (o := (jm_S0 L).2.2.2.2 a0 1) (q := a0 + 1) (pc' := 35) (ls' := [some (.ref a0), some (.int v1), some (.int v2), some (.int v3)]) (st' := []) (t' := (jm_S0 L, M, J)) (fun _ _ => rfl) (jm_fH L ha0) (jm_rH1 L ha0) ?_
        refine jm_go.gfr 3 (b := jm_is (jm_S0 L) a0 3) (o := (jm_S0 L).2.2.2.2 a0 1) (q := a0 + 1) (pc' := 40) (ls' := [some (.ref a0), some (.int v1), some (.int v2), some (.int v3)]) (st' := [.int v3, .ref (a0 + 1)]) (t' := (jm_S0 L, M, J)) (fun _ _ => rfl) (jm_fH L ha0) (jm_rH1 L ha0) ?_
        obtain ⟨h5, H⟩ := jm_gdo H
        refine jm_go.grd 4 (b := ((Nat.beq 0 1 && Nat.beq (a0 + 1) 0) || (Nat.beq 0 0 && jm_is (jm_S0 L) (a0 + 1) 9)) && jm_inb (v3 - 1) ((jm_S0 L).2.2.2.1 (a0 + 1))) (pc' := 44) (ls' := [some (.ref a0), some (.int v1), some (.int v2), some (.int v3)]) (st' := [.int (M (a0 + 1) ((v3 - 1).toNatClampNeg)), .int v3, .ref (a0 + 1)]) (t' := (jm_S0 L, M, J)) (fun _ _ => rfl) (jm_gia (jm_fH1 L ha0) h5) ?_
        obtain ⟨h6, H⟩ := jm_gdo H
        refine jm_go.grd 1 (b := jm_is (jm_S0 L) (a0 + 1) 9 && jm_inb v3 ((jm_S0 L).2.2.2.1 (a0 + 1))) (pc' := 45) (ls' := [some (.ref a0), some (.int v1), some (.int v2), some (.int v3)]) (st' := []) (t' := (jm_S0 L, (jm_up M (a0 + 1) v3.toNatClampNeg (M (a0 + 1) ((v3 - 1).toNatClampNeg))), J)) (fun _ _ => rfl) (jm_gis (jm_fH1 L ha0) h6) ?_
        refine jm_go.gfr 2 (b := jm_is (jm_S0 L) a0 3) (o := (jm_S0 L).2.2.2.2 a0 2) (q := a0 + 2) (pc' := 49) (ls' := [some (.ref a0), some (.int v1), some (.int v2), some (.int v3)]) (st' := []) (t' := (jm_S0 L, (jm_up M (a0 + 1) v3.toNatClampNeg (M (a0 + 1) ((v3 - 1).toNatClampNeg))), J)) (fun _ _ => rfl) (jm_fH L ha0) (jm_rH2 L ha0) ?_
        refine jm_go.gfr 3 (b := jm_is (jm_S0 L) a0 3) (o := (jm_S0 L).2.2.2.2 a0 2) (q := a0 + 2) (pc' := 54) (ls' := [some (.ref a0), some (.int v1), some (.int v2), some (.int v3)]) (st' := [.int v3, .ref (a0 + 2)]) (t' := (jm_S0 L, (jm_up M (a0 + 1) v3.toNatClampNeg (M (a0 + 1) ((v3 - 1).toNatClampNeg))), J)) (fun _ _ => rfl) (jm_fH L ha0) (jm_rH2 L ha0) ?_
        obtain ⟨h7, H⟩ := jm_gdo H
        refine jm_go.grd 4 (b := ((Nat.beq 0 1 && Nat.beq (a0 + 2) 0) || (Nat.beq 0 0 && jm_is (jm_S0 L) (a0 + 2) 9)) && jm_inb (v3 - 1) ((jm_S0 L).2.2.2.1 (a0 + 2))) (pc' := 58) (ls' := [some (.ref a0), some (.int v1), some (.int v2), some (.int v3)]) (st' := [.int ((jm_up M (a0 + 1) v3.toNatClampNeg (M (a0 + 1) ((v3 - 1).toNatClampNeg))) (a0 + 2) ((v3 - 1).toNatClampNeg)), .int v3, .ref (a0 + 2)]) (t' := (jm_S0 L, (jm_up M (a0 + 1) v3.toNatClampNeg (M (a0 + 1) ((v3 - 1).toNatClampNeg))), J)) (fun _ _ => rfl) (jm_gia (jm_fH2 L ha0) h7) ?_
        obtain ⟨h8, H⟩ := jm_gdo H
        refine jm_go.grd 1 (b := jm_is (jm_S0 L) (a0 + 2) 9 && jm_inb v3 ((jm_S0 L).2.2.2.1 (a0 + 2))) (pc' := 59) (ls' := [some (.ref a0), some (.int v1), some (.int v2), some (.int v3)]) (st' := []) (t' := (jm_S0 L, (jm_up (jm_up M (a0 + 1) v3.toNatClampNeg (M (a0 + 1) ((v3 - 1).toNatClampNeg))) (a0 + 2) v3.toNatClampNeg ((jm_up M (a0 + 1) v3.toNatClampNeg (M (a0 + 1) ((v3 - 1).toNatClampNeg))) (a0 + 2) ((v3 - 1).toNatClampNeg))), J)) (fun _ _ => rfl) (jm_gis (jm_fH2 L ha0) h8) ?_
        refine jm_go.blk 2 (pc' := 15) (ls' := [some (.ref a0), some (.int v1), some (.int v2), some (.int (v3 + (-1)))]) (st' := []) (t' := (jm_S0 L, (jm_up (jm_up M (a0 + 1) v3.toNatClampNeg (M (a0 + 1) ((v3 - 1).toNatClampNeg))) (a0 + 2) v3.toNatClampNeg ((jm_up M (a0 + 1) v3.toNatClampNeg (M (a0 + 1) ((v3 - 1).toNatClampNeg))) (a0 + 2) ((v3 - 1).toNatClampNeg))), J)) (fun _ _ => rfl) ?_
        exact hkb (jm_up (jm_up M (a0 + 1) v3.toNatClampNeg (M (a0 + 1) ((v3 - 1).toNatClampNeg))) (a0 + 2) v3.toNatClampNeg ((jm_up M (a0 + 1) v3.toNatClampNeg (M (a0 + 1) ((v3 - 1).toNatClampNeg))) (a0 + 2) ((v3 - 1).toNatClampNeg))) v1 v2 (v3 + (-1)) _ H

def f31_65 (a0 : Nat) (M : jm_MM) (v1 : Int32) (v2 : Int32) (v3 : Int32) : Option (jm_MM) := jm_gd (jm_inb v3 24) (jm_gd (jm_inb v3 24) (some (jm_up (jm_up (jm_up M (a0 + 1) v3.toNatClampNeg v1) (a0 + 2) v3.toNatClampNeg v2) a0 0 (((jm_up (jm_up M (a0 + 1) v3.toNatClampNeg v1) (a0 + 2) v3.toNatClampNeg v2) a0 0) + 1))))
set_option maxRecDepth 100000 in
theorem g31_65 (L : Nat) (d : Nat) (_M : jm_MM) (J : jm_JJ) (a0 : Nat) (ha0 : jm_isH a0) (M : jm_MM) (v1 : Int32) (v2 : Int32) (v3 : Int32) (r : jm_MM) (H : f31_65 a0 M v1 v2 v3 = some r) : jm_go d (jm_G 31) 65 [some (.ref a0), some (.int v1), some (.int v2), some (.int v3)] [] (jm_S0 L, M, J) (none, (jm_S0 L, r, J)) := by
  unfold f31_65 at H
  refine jm_go.gfr 2 (b := jm_is (jm_S0 L) a0 3) (o := (jm_S0 L).2.2.2.2 a0 1) (q := a0 + 1) (pc' := 69) (ls' := [some (.ref a0), some (.int v1), some (.int v2), some (.int v3)]) (st' := []) (t' := (jm_S0 L, M, J)) (fun _ _ => rfl) (jm_fH L ha0) (jm_rH1 L ha0) ?_
  obtain ⟨h13, H⟩ := jm_gdo H
  refine jm_go.grd 3 (b := jm_is (jm_S0 L) (a0 + 1) 9 && jm_inb v3 ((jm_S0 L).2.2.2.1 (a0 + 1))) (pc' := 72) (ls' := [some (.ref a0), some (.int v1), some (.int v2), some (.int v3)]) (st' := []) (t' := (jm_S0 L, (jm_up M (a0 + 1) v3.toNatClampNeg v1), J)) (fun _ _ => rfl) (jm_gis (jm_fH1 L ha0) h13) ?_
  refine jm_go.gfr 2 (b := jm_is (jm_S0 L) a0 3) (o := (jm_S0 L).2.2.2.2 a0 2) (q := a0 + 2) (pc' := 76) (ls' := [some (.ref a0), some (.int v1), some (.int v2), some (.int v3)]) (st' := []) (t' := (jm_S0 L, (jm_up M (a0 + 1) v3.toNatClampNeg v1), J)) (fun _ _ => rfl) (jm_fH L ha0) (jm_rH2 L ha0) ?_
  obtain ⟨h14, H⟩ := jm_gdo H
  refine jm_go.grd 3 (b := jm_is (jm_S0 L) (a0 + 2) 9 && jm_inb v3 ((jm_S0 L).2.2.2.1 (a0 + 2))) (pc' := 79) (ls' := [some (.ref a0), some (.int v1), some (.int v2), some (.int v3)]) (st' := []) (t' := (jm_S0 L, (jm_up (jm_up M (a0 + 1) v3.toNatClampNeg v1) (a0 + 2) v3.toNatClampNeg v2), J)) (fun _ _ => rfl) (jm_gis (jm_fH2 L ha0) h14) ?_
  refine jm_go.grd 3 (b := jm_is (jm_S0 L) a0 3) (pc' := 84) (ls' := [some (.ref a0), some (.int v1), some (.int v2), some (.int v3)]) (st' := [.int ((jm_up (jm_up M (a0 + 1) v3.toNatClampNeg v1) (a0 + 2) v3.toNatClampNeg v2) a0 0), .ref a0]) (t' := (jm_S0 L, (jm_up (jm_up M (a0 + 1) v3.toNatClampNeg v1) (a0 + 2) v3.toNatClampNeg v2), J)) (fun _ _ => rfl) (jm_fH L ha0) ?_
  refine jm_go.grd 3 (b := jm_is (jm_S0 L) a0 3) (pc' := 89) (ls' := [some (.ref a0), some (.int v1), some (.int v2), some (.int v3)]) (st' := []) (t' := (jm_S0 L, (jm_up (jm_up (jm_up M (a0 + 1) v3.toNatClampNeg v1) (a0 + 2) v3.toNatClampNeg v2) a0 0 (((jm_up (jm_up M (a0 + 1) v3.toNatClampNeg v1) (a0 + 2) v3.toNatClampNeg v2) a0 0) + 1)), J)) (fun _ _ => rfl) (jm_fH L ha0) ?_
  have H := Option.some.inj H
  subst H
  exact jm_go.ret 1 (fun _ _ => rfl)

/-- X3_insert -/
def f31 (M : jm_MM) (a0 : Nat) (x0 : Int32) (x1 : Int32) : Option (jm_MM) := bif decide ((M a0 0) < 24) then (f31_15 a0 (fun Me9 ve10 ve11 ve12 => f31_65 a0  Me9 ve10 ve11 ve12) jm_F M x0 x1 (M a0 0)) else (some M)
set_option maxRecDepth 100000 in
theorem g31 (L : Nat) (d : Nat) (M : jm_MM) (J : jm_JJ) (a0 : Nat) (ha0 : jm_isH a0) (x0 : Int32) (x1 : Int32) (r : jm_MM) (H : f31 M a0 x0 x1 = some r) : jm_go d (jm_G 31) 0 (jm_en 4 [.ref a0, .int x0, .int x1]) [] (jm_S0 L, M, J) (none, (jm_S0 L, r, J)) := by
  unfold f31 at H
  refine jm_go.grd 2 (b := jm_is (jm_S0 L) a0 3) (pc' := 4) (ls' := [some (.ref a0), some (.int x0), some (.int x1), none]) (st' := [.int (M a0 0)]) (t' := (jm_S0 L, M, J)) (fun _ _ => rfl) (jm_fH L ha0) ?_
  rcases jm_bro H with ⟨h1, H⟩ | ⟨h1, H⟩
  · refine jm_go.brt 2 (b := decide ((M a0 0) < 24)) (p1 := 10) (l1 := [some (.ref a0), some (.int x0), some (.int x1), none]) (s1 := []) (t1 := (jm_S0 L, M, J)) (p2 := 9) (l2 := [some (.ref a0), some (.int x0), some (.int x1), none]) (s2 := []) (t2 := (jm_S0 L, M, J)) (fun _ _ => rfl) h1 ?_
    refine jm_go.grd 2 (b := jm_is (jm_S0 L) a0 3) (pc' := 14) (ls' := [some (.ref a0), some (.int x0), some (.int x1), none]) (st' := [.int (M a0 0)]) (t' := (jm_S0 L, M, J)) (fun _ _ => rfl) (jm_fH L ha0) ?_
    refine jm_go.blk 1 (pc' := 15) (ls' := [some (.ref a0), some (.int x0), some (.int x1), some (.int (M a0 0))]) (st' := []) (t' := (jm_S0 L, M, J)) (fun _ _ => rfl) ?_
    exact g31_15 L d M J a0 ha0
      _ (fun Me9 ve10 ve11 ve12 r H => by
        exact g31_65 L d M J a0 ha0  Me9 ve10 ve11 ve12 _ H
        )
      _ M x0 x1 (M a0 0) _ H
  · refine jm_go.brf 2 (b := decide ((M a0 0) < 24)) (p1 := 10) (l1 := [some (.ref a0), some (.int x0), some (.int x1), none]) (s1 := []) (t1 := (jm_S0 L, M, J)) (p2 := 9) (l2 := [some (.ref a0), some (.int x0), some (.int x1), none]) (s2 := []) (t2 := (jm_S0 L, M, J)) (fun _ _ => rfl) h1 ?_
    have H := Option.some.inj H
    subst H
    exact jm_go.ret 1 (fun _ _ => rfl)

def f30_46 (a0 : Nat) (b0 : Nat) (kb : jm_MM → Int32 → Option (jm_MM)) (ke0 : jm_MM → Option (jm_MM)) (M : jm_MM) (v3 : Int32) (v4 : Int32) (s0 : Int32) : Option (jm_MM) := bif decide (s0 = 0) then (kb M (v3 + 1)) else (jm_bd (f20 M v4) (fun q7 => bif decide (q7 < (M 2 2)) then (kb M (v3 + 1)) else (jm_bd (f31 M a0 v4 q7) (fun q10 => kb q10 (v3 + 1)))))
set_option maxRecDepth 100000 in
theorem g30_46 (L : Nat) (d : Nat) (_M : jm_MM) (J : jm_JJ) (a0 : Nat) (ha0 : jm_isH a0) (b0 : Nat) (hb0 : jm_isC b0) (kb : jm_MM → Int32 → Option (jm_MM)) (hkb : ∀ (M : jm_MM) (v3 : Int32) (r : jm_MM), kb M v3 = some r → jm_go (d + 2) (jm_G 30) 7 [some (.ref a0), some (.ref 2), some (.ref b0), some (.int v3), none, none, none] [] (jm_S0 L, M, J) (none, (jm_S0 L, r, J))) (ke0 : jm_MM → Option (jm_MM)) (hke0 : ∀ (M : jm_MM) (r : jm_MM), ke0 M = some r → jm_go (d + 2) (jm_G 30) 84 [none, none, none, none, none, none, none] [] (jm_S0 L, M, J) (none, (jm_S0 L, r, J))) (M : jm_MM) (v3 : Int32) (v4 : Int32) (s0 : Int32) (r : jm_MM) (H : f30_46 a0 b0 kb ke0 M v3 v4 s0 = some r) : jm_go (d + 2) (jm_G 30) 46 [some (.ref a0), some (.ref 2), some (.ref b0), some (.int v3), some (.int v4), none, none] [.int s0] (jm_S0 L, M, J) (none, (jm_S0 L, r, J)) := by
  unfold f30_46 at H
  rcases jm_bro H with ⟨h6, H⟩ | ⟨h6, H⟩
  · refine jm_go.brt 3 (b := decide (s0 = 0)) (p1 := 78) (l1 := [some (.ref a0), some (.ref 2), some (.ref b0), some (.int v3), some (.int v4), some (.int s0), none]) (s1 := []) (t1 := (jm_S0 L, M, J)) (p2 := 53) (l2 := [some (.ref a0), some (.ref 2), some (.ref b0), some (.int v3), some (.int v4), some (.int s0), none]) (s2 := []) (t2 := (jm_S0 L, M, J)) (fun _ _ => rfl) h6 ?_
    refine jm_go.blk 2 (pc' := 7) (ls' := [some (.ref a0), some (.ref 2), some (.ref b0), some (.int (v3 + 1)), none, none, none]) (st' := []) (t' := (jm_S0 L, M, J)) (fun _ _ => rfl) ?_
    exact hkb M (v3 + 1) _ H
  · refine jm_go.brf 3 (b := decide (s0 = 0)) (p1 := 78) (l1 := [some (.ref a0), some (.ref 2), some (.ref b0), some (.int v3), some (.int v4), some (.int s0), none]) (s1 := []) (t1 := (jm_S0 L, M, J)) (p2 := 53) (l2 := [some (.ref a0), some (.ref 2), some (.ref b0), some (.int v3), some (.int v4), some (.int s0), none]) (s2 := []) (t2 := (jm_S0 L, M, J)) (fun _ _ => rfl) h6 ?_
    obtain ⟨q7, h8, H⟩ := jm_bdo H
    refine jm_go.call 3 (d := d + 1) (b := true) (u := 20) (as := [.ref 2, .int v4]) (pc' := 59) (ls' := [some (.ref a0), some (.ref 2), some (.ref b0), some (.int v3), some (.int v4), some (.int s0), none]) (st' := []) (t' := (jm_S0 L, M, J)) (fun _ _ => rfl) rfl rfl (g20 L d M J v4 _ h8) ?_
    rcases jm_bro H with ⟨h9, H⟩ | ⟨h9, H⟩
    · refine jm_go.brt 5 (b := decide (q7 < (M 2 2))) (p1 := 78) (l1 := [some (.ref a0), some (.ref 2), some (.ref b0), some (.int v3), some (.int v4), some (.int s0), some (.int q7)]) (s1 := []) (t1 := (jm_S0 L, M, J)) (p2 := 70) (l2 := [some (.ref a0), some (.ref 2), some (.ref b0), some (.int v3), some (.int v4), some (.int s0), some (.int q7)]) (s2 := []) (t2 := (jm_S0 L, M, J)) (fun _ _ => rfl) h9 ?_
      refine jm_go.blk 2 (pc' := 7) (ls' := [some (.ref a0), some (.ref 2), some (.ref b0), some (.int (v3 + 1)), none, none, none]) (st' := []) (t' := (jm_S0 L, M, J)) (fun _ _ => rfl) ?_
      exact hkb M (v3 + 1) _ H
    · refine jm_go.brf 5 (b := decide (q7 < (M 2 2))) (p1 := 78) (l1 := [some (.ref a0), some (.ref 2), some (.ref b0), some (.int v3), some (.int v4), some (.int s0), some (.int q7)]) (s1 := []) (t1 := (jm_S0 L, M, J)) (p2 := 70) (l2 := [some (.ref a0), some (.ref 2), some (.ref b0), some (.int v3), some (.int v4), some (.int s0), some (.int q7)]) (s2 := []) (t2 := (jm_S0 L, M, J)) (fun _ _ => rfl) h9 ?_
      obtain ⟨q10, h11, H⟩ := jm_bdo H
      refine jm_go.call 4 (d := d + 1) (b := jm_is (jm_S0 L) a0 3) (u := 31) (as := [.ref a0, .int v4, .int q7]) (pc' := 78) (ls' := [some (.ref a0), some (.ref 2), some (.ref b0), some (.int v3), some (.int v4), some (.int s0), some (.int q7)]) (st' := []) (t' := (jm_S0 L, M, J)) (fun _ _ => rfl) (jm_fH L ha0) rfl (g31 L (d + 1) M J a0 ha0 v4 q7 _ h11) ?_
      refine jm_go.blk 2 (pc' := 7) (ls' := [some (.ref a0), some (.ref 2), some (.ref b0), some (.int (v3 + 1)), none, none, none]) (st' := []) (t' := (jm_S0 L, q10, J)) (fun _ _ => rfl) ?_
      exact hkb q10 (v3 + 1) _ H

def f30_45 (a0 : Nat) (b0 : Nat) (kb : jm_MM → Int32 → Option (jm_MM)) (ke0 : jm_MM → Option (jm_MM)) (M : jm_MM) (v3 : Int32) (v4 : Int32) : Option (jm_MM) := f30_46 a0 b0 kb ke0 M v3 v4 0
set_option maxRecDepth 100000 in
theorem g30_45 (L : Nat) (d : Nat) (_M : jm_MM) (J : jm_JJ) (a0 : Nat) (ha0 : jm_isH a0) (b0 : Nat) (hb0 : jm_isC b0) (kb : jm_MM → Int32 → Option (jm_MM)) (hkb : ∀ (M : jm_MM) (v3 : Int32) (r : jm_MM), kb M v3 = some r → jm_go (d + 2) (jm_G 30) 7 [some (.ref a0), some (.ref 2), some (.ref b0), some (.int v3), none, none, none] [] (jm_S0 L, M, J) (none, (jm_S0 L, r, J))) (ke0 : jm_MM → Option (jm_MM)) (hke0 : ∀ (M : jm_MM) (r : jm_MM), ke0 M = some r → jm_go (d + 2) (jm_G 30) 84 [none, none, none, none, none, none, none] [] (jm_S0 L, M, J) (none, (jm_S0 L, r, J))) (M : jm_MM) (v3 : Int32) (v4 : Int32) (r : jm_MM) (H : f30_45 a0 b0 kb ke0 M v3 v4 = some r) : jm_go (d + 2) (jm_G 30) 45 [some (.ref a0), some (.ref 2), some (.ref b0), some (.int v3), some (.int v4), none, none] [] (jm_S0 L, M, J) (none, (jm_S0 L, r, J)) := by
  unfold f30_45 at H
  refine jm_go.blk 1 (pc' := 46) (ls' := [some (.ref a0), some (.ref 2), some (.ref b0), some (.int v3), some (.int v4), none, none]) (st' := [.int 0]) (t' := (jm_S0 L, M, J)) (fun _ _ => rfl) ?_
  exact g30_46 L d M J a0 ha0 b0 hb0 _ hkb _ hke0 M v3 v4 0 _ H

def f30_7 (a0 : Nat) (b0 : Nat) (ke0 : jm_MM → Option (jm_MM)) : Nat → jm_MM → Int32 → Option (jm_MM)
  | 0, _, _ => none
  | n0 + 1, M, v3 => bif decide (24 ≤ v3) then (ke0 M) else (jm_gd (jm_inb v3 24) (jm_bd (f87 M (M (b0 + 2) v3.toNatClampNeg) v3) (fun q3 => bif decide (q3 = 0) then (f30_45 a0 b0 (f30_7 a0 b0 ke0 n0) ke0 M v3 (M (b0 + 2) v3.toNatClampNeg)) else (bif !decide (((M (b0 + 2) v3.toNatClampNeg) &&& ((1 <<< (v3 &&& 31)) - 1)) = 0) then (f30_45 a0 b0 (f30_7 a0 b0 ke0 n0) ke0 M v3 (M (b0 + 2) v3.toNatClampNeg)) else (f30_46 a0 b0 (f30_7 a0 b0 ke0 n0) ke0 M v3 (M (b0 + 2) v3.toNatClampNeg) 1)))))
set_option maxRecDepth 100000 in
theorem g30_7 (L : Nat) (d : Nat) (_M : jm_MM) (J : jm_JJ) (a0 : Nat) (ha0 : jm_isH a0) (b0 : Nat) (hb0 : jm_isC b0) (ke0 : jm_MM → Option (jm_MM)) (hke0 : ∀ (M : jm_MM) (r : jm_MM), ke0 M = some r → jm_go (d + 2) (jm_G 30) 84 [none, none, none, none, none, none, none] [] (jm_S0 L, M, J) (none, (jm_S0 L, r, J))) : ∀ (n0 : Nat) (M : jm_MM) (v3 : Int32) (r : jm_MM), f30_7 a0 b0 ke0 n0 M v3 = some r → jm_go (d + 2) (jm_G 30) 7 [some (.ref a0), some (.ref 2), some (.ref b0), some (.int v3), none, none, none] [] (jm_S0 L, M, J) (none, (jm_S0 L, r, J)) := by
  intro n0
  induction n0 with
  | zero => intro M v3 r H; cases H
  | succ n0 ih =>
    intro M v3 r H
    have hkb := ih
    unfold f30_7 at H
    rcases jm_bro H with ⟨h1, H⟩ | ⟨h1, H⟩
    · refine jm_go.brt 3 (b := decide (24 ≤ v3)) (p1 := 84) (l1 := [some (.ref a0), some (.ref 2), some (.ref b0), some (.int v3), none, none, none]) (s1 := []) (t1 := (jm_S0 L, M, J)) (p2 := 13) (l2 := [some (.ref a0), some (.ref 2), some (.ref b0), some (.int v3), none, none, none]) (s2 := []) (t2 := (jm_S0 L, M, J)) (fun _ _ => rfl) h1 ?_
      refine jm_go.lab (ls' := [none, none, none, none, none, none, none]) (fun i hi => by cases hi; rfl) ?_
      exact hke0 M _ H
    · refine jm_go.brf 3 (b := decide (24 ≤ v3)) (p1 := 84) (l1 := [some (.ref a0), some (.ref 2), some (.ref b0), some (.int v3), none, none, none]) (s1 := []) (t1 := (jm_S0 L, M, J)) (p2 := 13) (l2 := [some (.ref a0), some (.ref 2), some (.ref b0), some (.int v3), none, none, none]) (s2 := []) (t2 := (jm_S0 L, M, J)) (fun _ _ => rfl) h1 ?_
      refine jm_go.gfr 2 (b := jm_is (jm_S0 L) b0 0) (o := (jm_S0 L).2.2.2.2 b0 3) (q := b0 + 2) (pc' := 17) (ls' := [some (.ref a0), some (.ref 2), some (.ref b0), some (.int v3), none, none, none]) (st' := []) (t' := (jm_S0 L, M, J)) (fun _ _ => rfl) (jm_fC L hb0) (jm_rC2 L hb0) ?_
      obtain ⟨h2, H⟩ := jm_gdo H
      refine jm_go.grd 2 (b := ((Nat.beq 0 1 && Nat.beq (b0 + 2) 0) || (Nat.beq 0 0 && jm_is (jm_S0 L) (b0 + 2) 9)) && jm_inb v3 ((jm_S0 L).2.2.2.1 (b0 + 2))) (pc' := 19) (ls' := [some (.ref a0), some (.ref 2), some (.ref b0), some (.int v3), none, none, none]) (st' := [.int (M (b0 + 2) v3.toNatClampNeg)]) (t' := (jm_S0 L, M, J)) (fun _ _ => rfl) (jm_gia (jm_fC2 L hb0) h2) ?_
      obtain ⟨q3, h4, H⟩ := jm_bdo H
      refine jm_go.call 4 (d := d + 1) (b := true) (u := 87) (as := [.int (M (b0 + 2) v3.toNatClampNeg), .int v3]) (pc' := 27) (ls' := [some (.ref a0), some (.ref 2), some (.ref b0), some (.int v3), some (.int (M (b0 + 2) v3.toNatClampNeg)), none, none]) (st' := []) (t' := (jm_S0 L, M, J)) (fun _ _ => rfl) rfl rfl (g87 L (d + 1) M J (M (b0 + 2) v3.toNatClampNeg) v3 _ h4) ?_
      rcases jm_bro H with ⟨h5, H⟩ | ⟨h5, H⟩
      · refine jm_go.brt 1 (b := decide (q3 = 0)) (p1 := 45) (l1 := [some (.ref a0), some (.ref 2), some (.ref b0), some (.int v3), some (.int (M (b0 + 2) v3.toNatClampNeg)), none, none]) (s1 := []) (t1 := (jm_S0 L, M, J)) (p2 := 30) (l2 := [some (.ref a0), some (.ref 2), some (.ref b0), some (.int v3), some (.int (M (b0 + 2) v3.toNatClampNeg)), none, none]) (s2 := []) (t2 := (jm_S0 L, M, J)) (fun _ _ => rfl) h5 ?_
        exact g30_45 L d M J a0 ha0 b0 hb0 _ hkb _ hke0 M v3 (M (b0 + 2) v3.toNatClampNeg) _ H
      · refine jm_go.brf 1 (b := decide (q3 = 0)) (p1 := 45) (l1 := [some (.ref a0), some (.ref 2), some (.ref b0), some (.int v3), some (.int (M (b0 + 2) v3.toNatClampNeg)), none, none]) (s1 := []) (t1 := (jm_S0 L, M, J)) (p2 := 30) (l2 := [some (.ref a0), some (.ref 2), some (.ref b0), some (.int v3), some (.int (M (b0 + 2) v3.toNatClampNeg)), none, none]) (s2 := []) (t2 := (jm_S0 L, M, J)) (fun _ _ => rfl) h5 ?_
        rcases jm_bro H with ⟨h12, H⟩ | ⟨h12, H⟩
        · refine jm_go.brt 8 (b := !decide (((M (b0 + 2) v3.toNatClampNeg) &&& ((1 <<< (v3 &&& 31)) - 1)) = 0)) (p1 := 45) (l1 := [some (.ref a0), some (.ref 2), some (.ref b0), some (.int v3), some (.int (M (b0 + 2) v3.toNatClampNeg)), none, none]) (s1 := []) (t1 := (jm_S0 L, M, J)) (p2 := 41) (l2 := [some (.ref a0), some (.ref 2), some (.ref b0), some (.int v3), some (.int (M (b0 + 2) v3.toNatClampNeg)), none, none]) (s2 := []) (t2 := (jm_S0 L, M, J)) (fun _ _ => rfl) h12 ?_
          exact g30_45 L d M J a0 ha0 b0 hb0 _ hkb _ hke0 M v3 (M (b0 + 2) v3.toNatClampNeg) _ H
        · refine jm_go.brf 8 (b := !decide (((M (b0 + 2) v3.toNatClampNeg) &&& ((1 <<< (v3 &&& 31)) - 1)) = 0)) (p1 := 45) (l1 := [some (.ref a0), some (.ref 2), some (.ref b0), some (.int v3), some (.int (M (b0 + 2) v3.toNatClampNeg)), none, none]) (s1 := []) (t1 := (jm_S0 L, M, J)) (p2 := 41) (l2 := [some (.ref a0), some (.ref 2), some (.ref b0), some (.int v3), some (.int (M (b0 + 2) v3.toNatClampNeg)), none, none]) (s2 := []) (t2 := (jm_S0 L, M, J)) (fun _ _ => rfl) h12 ?_
          refine jm_go.blk 2 (pc' := 46) (ls' := [some (.ref a0), some (.ref 2), some (.ref b0), some (.int v3), some (.int (M (b0 + 2) v3.toNatClampNeg)), none, none]) (st' := [.int 1]) (t' := (jm_S0 L, M, J)) (fun _ _ => rfl) ?_
          exact g30_46 L d M J a0 ha0 b0 hb0 _ hkb _ hke0 M v3 (M (b0 + 2) v3.toNatClampNeg) 1 _ H

/-- X3_gather -/
def f30 (M : jm_MM) (a0 : Nat) (b0 : Nat) : Option (jm_MM) := f30_7 a0 b0 (fun Me13 => some Me13) jm_F (jm_up M a0 0 0) 0
set_option maxRecDepth 100000 in
theorem g30 (L : Nat) (d : Nat) (M : jm_MM) (J : jm_JJ) (a0 : Nat) (ha0 : jm_isH a0) (b0 : Nat) (hb0 : jm_isC b0)  (r : jm_MM) (H : f30 M a0 b0 = some r) : jm_go (d + 2) (jm_G 30) 0 (jm_en 7 [.ref a0, .ref 2, .ref b0]) [] (jm_S0 L, M, J) (none, (jm_S0 L, r, J)) := by
  unfold f30 at H
  refine jm_go.grd 3 (b := jm_is (jm_S0 L) a0 3) (pc' := 5) (ls' := [some (.ref a0), some (.ref 2), some (.ref b0), none, none, none, none]) (st' := []) (t' := (jm_S0 L, (jm_up M a0 0 0), J)) (fun _ _ => rfl) (jm_fH L ha0) ?_
  refine jm_go.blk 2 (pc' := 7) (ls' := [some (.ref a0), some (.ref 2), some (.ref b0), some (.int 0), none, none, none]) (st' := []) (t' := (jm_S0 L, (jm_up M a0 0 0), J)) (fun _ _ => rfl) ?_
  exact g30_7 L d M J a0 ha0 b0 hb0
    _ (fun Me13 r H => by
      have H := Option.some.inj H
      subst H
      exact jm_go.ret 1 (fun _ _ => rfl)
      )
    _ (jm_up M a0 0 0) 0 _ H


/-- X3_goOnNowhere -/
def f33 (M : jm_MM) (a0 : Nat) : Option (jm_MM) := jm_bd (f165 M (a0 + 3) 24 (-1)) (fun q1 => some q1)
set_option maxRecDepth 100000 in
theorem g33 (L : Nat) (d : Nat) (M : jm_MM) (J : jm_JJ) (a0 : Nat) (ha0 : jm_isH a0)  (r : jm_MM) (H : f33 M a0 = some r) : jm_go (d + 1) (jm_G 33) 0 (jm_en 1 [.ref a0]) [] (jm_S0 L, M, J) (none, (jm_S0 L, r, J)) := by
  unfold f33 at H
  refine jm_go.gfr 2 (b := jm_is (jm_S0 L) a0 3) (o := (jm_S0 L).2.2.2.2 a0 3) (q := a0 + 3) (pc' := 4) (ls' := [some (.ref a0)]) (st' := []) (t' := (jm_S0 L, M, J)) (fun _ _ => rfl) (jm_fH L ha0) (jm_rH3 L ha0) ?_
  obtain ⟨q1, h2, H⟩ := jm_bdo H
  refine jm_go.call 2 (d := d) (b := true) (u := 165) (as := [.ref (a0 + 3), .int (-1)]) (pc' := 8) (ls' := [some (.ref a0)]) (st' := []) (t' := (jm_S0 L, M, J)) (fun _ _ => rfl) rfl rfl (g165 L d M J (a0 + 3) (-1) (jm_fH3 L ha0) h2) ?_
  have H := Option.some.inj H
  subst H
  exact jm_go.ret 1 (fun _ _ => rfl)


/-- X3_comeFromNowhere -/
def f36 (M : jm_MM) (a0 : Nat) : Option (jm_MM) := jm_bd (f165 M (a0 + 4) 24 0) (fun q1 => jm_bd (f165 q1 (a0 + 5) 24 (-1)) (fun q3 => jm_bd (f165 q3 (a0 + 6) 24 1) (fun q5 => some q5)))
set_option maxRecDepth 100000 in
theorem g36 (L : Nat) (d : Nat) (M : jm_MM) (J : jm_JJ) (a0 : Nat) (ha0 : jm_isH a0)  (r : jm_MM) (H : f36 M a0 = some r) : jm_go (d + 1) (jm_G 36) 0 (jm_en 1 [.ref a0]) [] (jm_S0 L, M, J) (none, (jm_S0 L, r, J)) := by
  unfold f36 at H
  refine jm_go.gfr 2 (b := jm_is (jm_S0 L) a0 3) (o := (jm_S0 L).2.2.2.2 a0 4) (q := a0 + 4) (pc' := 4) (ls' := [some (.ref a0)]) (st' := []) (t' := (jm_S0 L, M, J)) (fun _ _ => rfl) (jm_fH L ha0) (jm_rH4 L ha0) ?_
  obtain ⟨q1, h2, H⟩ := jm_bdo H
  refine jm_go.call 2 (d := d) (b := true) (u := 165) (as := [.ref (a0 + 4), .int 0]) (pc' := 8) (ls' := [some (.ref a0)]) (st' := []) (t' := (jm_S0 L, M, J)) (fun _ _ => rfl) rfl rfl (g165 L d M J (a0 + 4) 0 (jm_fH4 L ha0) h2) ?_
  refine jm_go.gfr 2 (b := jm_is (jm_S0 L) a0 3) (o := (jm_S0 L).2.2.2.2 a0 5) (q := a0 + 5) (pc' := 12) (ls' := [some (.ref a0)]) (st' := []) (t' := (jm_S0 L, q1, J)) (fun _ _ => rfl) (jm_fH L ha0) (jm_rH5 L ha0) ?_
  obtain ⟨q3, h4, H⟩ := jm_bdo H
  refine jm_go.call 2 (d := d) (b := true) (u := 165) (as := [.ref (a0 + 5), .int (-1)]) (pc' := 16) (ls' := [some (.ref a0)]) (st' := []) (t' := (jm_S0 L, q1, J)) (fun _ _ => rfl) rfl rfl (g165 L d q1 J (a0 + 5) (-1) (jm_fH5 L ha0) h4) ?_
  refine jm_go.gfr 2 (b := jm_is (jm_S0 L) a0 3) (o := (jm_S0 L).2.2.2.2 a0 6) (q := a0 + 6) (pc' := 20) (ls' := [some (.ref a0)]) (st' := []) (t' := (jm_S0 L, q3, J)) (fun _ _ => rfl) (jm_fH L ha0) (jm_rH6 L ha0) ?_
  obtain ⟨q5, h6, H⟩ := jm_bdo H
  refine jm_go.call 2 (d := d) (b := true) (u := 165) (as := [.ref (a0 + 6), .int 1]) (pc' := 24) (ls' := [some (.ref a0)]) (st' := []) (t' := (jm_S0 L, q3, J)) (fun _ _ => rfl) rfl rfl (g165 L d q3 J (a0 + 6) 1 (jm_fH6 L ha0) h6) ?_
  have H := Option.some.inj H
  subst H
  exact jm_go.ret 1 (fun _ _ => rfl)

def f35_43 (M : jm_MM) (a0 : Nat) (kb : Int32 → Int32 → Int32 → Int32 → Option (Int32)) (ke0 : Int32 → Option (Int32)) (v2 : Int32) (v3 : Int32) (v4 : Int32) (v5 : Int32) (s0 : Int32) : Option (Int32) := bif decide (s0 ≤ v4) then (kb v2 v3 v4 (v5 + 1)) else (kb v2 v5 s0 (v5 + 1))
set_option maxRecDepth 100000 in
theorem g35_43 (L : Nat) (d : Nat) (M : jm_MM) (J : jm_JJ) (a0 : Nat) (ha0 : jm_isH a0) (kb : Int32 → Int32 → Int32 → Int32 → Option (Int32)) (hkb : ∀  (v2 : Int32) (v3 : Int32) (v4 : Int32) (v5 : Int32) (r : Int32), kb v2 v3 v4 v5 = some r → jm_go (d + 2) (jm_G 35) 8 [some (.ref a0), some (.ref 2), some (.int v2), some (.int v3), some (.int v4), some (.int v5), none, none] [] (jm_S0 L, M, J) (some (.int r), (jm_S0 L, M, J))) (ke0 : Int32 → Option (Int32)) (hke0 : ∀  (v3 : Int32) (r : Int32), ke0 v3 = some r → jm_go (d + 2) (jm_G 35) 65 [none, none, none, some (.int v3), none, none, none, none] [] (jm_S0 L, M, J) (some (.int r), (jm_S0 L, M, J))) (v2 : Int32) (v3 : Int32) (v4 : Int32) (v5 : Int32) (s0 : Int32) (r : Int32) (H : f35_43 M a0 kb ke0 v2 v3 v4 v5 s0 = some r) : jm_go (d + 2) (jm_G 35) 43 [some (.ref a0), some (.ref 2), some (.int v2), some (.int v3), some (.int v4), some (.int v5), none, none] [.int s0] (jm_S0 L, M, J) (some (.int r), (jm_S0 L, M, J)) := by
  unfold f35_43 at H
  rcases jm_bro H with ⟨h6, H⟩ | ⟨h6, H⟩
  · refine jm_go.brt 4 (b := decide (s0 ≤ v4)) (p1 := 59) (l1 := [some (.ref a0), some (.ref 2), some (.int v2), some (.int v3), some (.int v4), some (.int v5), none, some (.int s0)]) (s1 := []) (t1 := (jm_S0 L, M, J)) (p2 := 52) (l2 := [some (.ref a0), some (.ref 2), some (.int v2), some (.int v3), some (.int v4), some (.int v5), none, some (.int s0)]) (s2 := []) (t2 := (jm_S0 L, M, J)) (fun _ _ => rfl) h6 ?_
    refine jm_go.blk 2 (pc' := 8) (ls' := [some (.ref a0), some (.ref 2), some (.int v2), some (.int v3), some (.int v4), some (.int (v5 + 1)), none, none]) (st' := []) (t' := (jm_S0 L, M, J)) (fun _ _ => rfl) ?_
    exact hkb v2 v3 v4 (v5 + 1) _ H
  · refine jm_go.brf 4 (b := decide (s0 ≤ v4)) (p1 := 59) (l1 := [some (.ref a0), some (.ref 2), some (.int v2), some (.int v3), some (.int v4), some (.int v5), none, some (.int s0)]) (s1 := []) (t1 := (jm_S0 L, M, J)) (p2 := 52) (l2 := [some (.ref a0), some (.ref 2), some (.int v2), some (.int v3), some (.int v4), some (.int v5), none, some (.int s0)]) (s2 := []) (t2 := (jm_S0 L, M, J)) (fun _ _ => rfl) h6 ?_
    refine jm_go.blk 6 (pc' := 8) (ls' := [some (.ref a0), some (.ref 2), some (.int v2), some (.int v5), some (.int s0), some (.int (v5 + 1)), none, none]) (st' := []) (t' := (jm_S0 L, M, J)) (fun _ _ => rfl) ?_
    exact hkb v2 v5 s0 (v5 + 1) _ H

def f35_8 (M : jm_MM) (a0 : Nat) (ke0 : Int32 → Option (Int32)) : Nat → Int32 → Int32 → Int32 → Int32 → Option (Int32)
  | 0, _, _, _, _ => none
  | n0 + 1, v2, v3, v4, v5 => bif decide ((M a0 0) ≤ v5) then (ke0 v3) else (jm_gd (jm_inb v5 24) (bif !decide (((M (a0 + 1) v5.toNatClampNeg) &&& v2) = 0) then (jm_bd (f20 M ((M (a0 + 1) v5.toNatClampNeg) &&& v2)) (fun q4 => f35_43 M a0 (f35_8 M a0 ke0 n0) ke0 v2 v3 v4 v5 q4)) else (f35_43 M a0 (f35_8 M a0 ke0 n0) ke0 v2 v3 v4 v5 0)))
set_option maxRecDepth 100000 in
theorem g35_8 (L : Nat) (d : Nat) (M : jm_MM) (J : jm_JJ) (a0 : Nat) (ha0 : jm_isH a0) (ke0 : Int32 → Option (Int32)) (hke0 : ∀  (v3 : Int32) (r : Int32), ke0 v3 = some r → jm_go (d + 2) (jm_G 35) 65 [none, none, none, some (.int v3), none, none, none, none] [] (jm_S0 L, M, J) (some (.int r), (jm_S0 L, M, J))) : ∀ (n0 : Nat) (v2 : Int32) (v3 : Int32) (v4 : Int32) (v5 : Int32) (r : Int32), f35_8 M a0 ke0 n0 v2 v3 v4 v5 = some r → jm_go (d + 2) (jm_G 35) 8 [some (.ref a0), some (.ref 2), some (.int v2), some (.int v3), some (.int v4), some (.int v5), none, none] [] (jm_S0 L, M, J) (some (.int r), (jm_S0 L, M, J)) := by
  intro n0
  induction n0 with
  | zero => intro v2 v3 v4 v5 r H; cases H
  | succ n0 ih =>
    intro v2 v3 v4 v5 r H
    have hkb := ih
    unfold f35_8 at H
    refine jm_go.grd 3 (b := jm_is (jm_S0 L) a0 3) (pc' := 14) (ls' := [some (.ref a0), some (.ref 2), some (.int v2), some (.int v3), some (.int v4), some (.int v5), none, none]) (st' := [.int (M a0 0), .int v5]) (t' := (jm_S0 L, M, J)) (fun _ _ => rfl) (jm_fH L ha0) ?_
    rcases jm_bro H with ⟨h1, H⟩ | ⟨h1, H⟩
    · refine jm_go.brt 1 (b := decide ((M a0 0) ≤ v5)) (p1 := 65) (l1 := [some (.ref a0), some (.ref 2), some (.int v2), some (.int v3), some (.int v4), some (.int v5), none, none]) (s1 := []) (t1 := (jm_S0 L, M, J)) (p2 := 17) (l2 := [some (.ref a0), some (.ref 2), some (.int v2), some (.int v3), some (.int v4), some (.int v5), none, none]) (s2 := []) (t2 := (jm_S0 L, M, J)) (fun _ _ => rfl) h1 ?_
      refine jm_go.lab (ls' := [none, none, none, some (.int v3), none, none, none, none]) (fun i hi => by cases hi; rfl) ?_
      exact hke0 v3 _ H
    · refine jm_go.brf 1 (b := decide ((M a0 0) ≤ v5)) (p1 := 65) (l1 := [some (.ref a0), some (.ref 2), some (.int v2), some (.int v3), some (.int v4), some (.int v5), none, none]) (s1 := []) (t1 := (jm_S0 L, M, J)) (p2 := 17) (l2 := [some (.ref a0), some (.ref 2), some (.int v2), some (.int v3), some (.int v4), some (.int v5), none, none]) (s2 := []) (t2 := (jm_S0 L, M, J)) (fun _ _ => rfl) h1 ?_
      refine jm_go.gfr 2 (b := jm_is (jm_S0 L) a0 3) (o := (jm_S0 L).2.2.2.2 a0 1) (q := a0 + 1) (pc' := 21) (ls' := [some (.ref a0), some (.ref 2), some (.int v2), some (.int v3), some (.int v4), some (.int v5), none, none]) (st' := []) (t' := (jm_S0 L, M, J)) (fun _ _ => rfl) (jm_fH L ha0) (jm_rH1 L ha0) ?_
      obtain ⟨h2, H⟩ := jm_gdo H
      refine jm_go.grd 2 (b := ((Nat.beq 0 1 && Nat.beq (a0 + 1) 0) || (Nat.beq 0 0 && jm_is (jm_S0 L) (a0 + 1) 9)) && jm_inb v5 ((jm_S0 L).2.2.2.1 (a0 + 1))) (pc' := 24) (ls' := [some (.ref a0), some (.ref 2), some (.int v2), some (.int v3), some (.int v4), some (.int v5), none, none]) (st' := [.int (M (a0 + 1) v5.toNatClampNeg)]) (t' := (jm_S0 L, M, J)) (fun _ _ => rfl) (jm_gia (jm_fH1 L ha0) h2) ?_
      rcases jm_bro H with ⟨h3, H⟩ | ⟨h3, H⟩
      · refine jm_go.brt 5 (b := !decide (((M (a0 + 1) v5.toNatClampNeg) &&& v2) = 0)) (p1 := 37) (l1 := [some (.ref a0), some (.ref 2), some (.int v2), some (.int v3), some (.int v4), some (.int v5), some (.int ((M (a0 + 1) v5.toNatClampNeg) &&& v2)), none]) (s1 := []) (t1 := (jm_S0 L, M, J)) (p2 := 33) (l2 := [some (.ref a0), some (.ref 2), some (.int v2), some (.int v3), some (.int v4), some (.int v5), some (.int ((M (a0 + 1) v5.toNatClampNeg) &&& v2)), none]) (s2 := []) (t2 := (jm_S0 L, M, J)) (fun _ _ => rfl) h3 ?_
        obtain ⟨q4, h5, H⟩ := jm_bdo H
        refine jm_go.call 3 (d := d + 1) (b := true) (u := 20) (as := [.ref 2, .int ((M (a0 + 1) v5.toNatClampNeg) &&& v2)]) (pc' := 43) (ls' := [some (.ref a0), some (.ref 2), some (.int v2), some (.int v3), some (.int v4), some (.int v5), some (.int ((M (a0 + 1) v5.toNatClampNeg) &&& v2)), none]) (st' := []) (t' := (jm_S0 L, M, J)) (fun _ _ => rfl) rfl rfl (g20 L d M J ((M (a0 + 1) v5.toNatClampNeg) &&& v2) _ h5) ?_
        refine jm_go.lab (ls' := [some (.ref a0), some (.ref 2), some (.int v2), some (.int v3), some (.int v4), some (.int v5), none, none]) (fun i hi => by cases hi; rfl) ?_
        exact g35_43 L d M J a0 ha0 _ hkb _ hke0 v2 v3 v4 v5 q4 _ H
      · refine jm_go.brf 5 (b := !decide (((M (a0 + 1) v5.toNatClampNeg) &&& v2) = 0)) (p1 := 37) (l1 := [some (.ref a0), some (.ref 2), some (.int v2), some (.int v3), some (.int v4), some (.int v5), some (.int ((M (a0 + 1) v5.toNatClampNeg) &&& v2)), none]) (s1 := []) (t1 := (jm_S0 L, M, J)) (p2 := 33) (l2 := [some (.ref a0), some (.ref 2), some (.int v2), some (.int v3), some (.int v4), some (.int v5), some (.int ((M (a0 + 1) v5.toNatClampNeg) &&& v2)), none]) (s2 := []) (t2 := (jm_S0 L, M, J)) (fun _ _ => rfl) h3 ?_
        refine jm_go.blk 2 (pc' := 43) (ls' := [some (.ref a0), some (.ref 2), some (.int v2), some (.int v3), some (.int v4), some (.int v5), some (.int ((M (a0 + 1) v5.toNatClampNeg) &&& v2)), none]) (st' := [.int 0]) (t' := (jm_S0 L, M, J)) (fun _ _ => rfl) ?_
        refine jm_go.lab (ls' := [some (.ref a0), some (.ref 2), some (.int v2), some (.int v3), some (.int v4), some (.int v5), none, none]) (fun i hi => by cases hi; rfl) ?_
        exact g35_43 L d M J a0 ha0 _ hkb _ hke0 v2 v3 v4 v5 0 _ H

/-- X3_withMostOf -/
def f35 (M : jm_MM) (a0 : Nat) (x1 : Int32) : Option (Int32) := f35_8 M a0 (fun ve7 => some ve7) jm_F x1 (-1) 0 0
set_option maxRecDepth 100000 in
theorem g35 (L : Nat) (d : Nat) (M : jm_MM) (J : jm_JJ) (a0 : Nat) (ha0 : jm_isH a0) (x1 : Int32) (r : Int32) (H : f35 M a0 x1 = some r) : jm_go (d + 2) (jm_G 35) 0 (jm_en 8 [.ref a0, .ref 2, .int x1]) [] (jm_S0 L, M, J) (some (.int r), (jm_S0 L, M, J)) := by
  unfold f35 at H
  refine jm_go.blk 6 (pc' := 8) (ls' := [some (.ref a0), some (.ref 2), some (.int x1), some (.int (-1)), some (.int 0), some (.int 0), none, none]) (st' := []) (t' := (jm_S0 L, M, J)) (fun _ _ => rfl) ?_
  exact g35_8 L d M J a0 ha0
    _ (fun ve7 r H => by
      have H := Option.some.inj H
      subst H
      exact jm_go.ret 2 (fun _ _ => rfl)
      )
    _ x1 (-1) 0 0 _ H

def f34_2 (a0 : Nat) (b0 : Nat) (ke0 : jm_MM → Option (jm_MM)) : Nat → jm_MM → Int32 → Option (jm_MM)
  | 0, _, _ => none
  | n0 + 1, M, v3 => bif decide ((M a0 0) ≤ v3) then (ke0 M) else (jm_gd (jm_inb v3 24) (jm_bd (f35 M b0 (M (a0 + 1) v3.toNatClampNeg)) (fun q3 => jm_gd (jm_inb v3 24) ((f34_2 a0 b0 ke0 n0) (jm_up M (a0 + 3) v3.toNatClampNeg q3) (v3 + 1)))))
set_option maxRecDepth 100000 in
theorem g34_2 (L : Nat) (d : Nat) (_M : jm_MM) (J : jm_JJ) (a0 : Nat) (ha0 : jm_isH a0) (b0 : Nat) (hb0 : jm_isH b0) (ke0 : jm_MM → Option (jm_MM)) (hke0 : ∀ (M : jm_MM) (r : jm_MM), ke0 M = some r → jm_go (d + 3) (jm_G 34) 33 [none, none, none, none] [] (jm_S0 L, M, J) (none, (jm_S0 L, r, J))) : ∀ (n0 : Nat) (M : jm_MM) (v3 : Int32) (r : jm_MM), f34_2 a0 b0 ke0 n0 M v3 = some r → jm_go (d + 3) (jm_G 34) 2 [some (.ref a0), some (.ref 2), some (.ref b0), some (.int v3)] [] (jm_S0 L, M, J) (none, (jm_S0 L, r, J)) := by
  intro n0
  induction n0 with
  | zero => intro M v3 r H; cases H
  | succ n0 ih =>
    intro M v3 r H
    have hkb := ih
    unfold f34_2 at H
    refine jm_go.grd 3 (b := jm_is (jm_S0 L) a0 3) (pc' := 7) (ls' := [some (.ref a0), some (.ref 2), some (.ref b0), some (.int v3)]) (st' := [.int (M a0 0), .int v3]) (t' := (jm_S0 L, M, J)) (fun _ _ => rfl) (jm_fH L ha0) ?_
    rcases jm_bro H with ⟨h1, H⟩ | ⟨h1, H⟩
    · refine jm_go.brt 1 (b := decide ((M a0 0) ≤ v3)) (p1 := 33) (l1 := [some (.ref a0), some (.ref 2), some (.ref b0), some (.int v3)]) (s1 := []) (t1 := (jm_S0 L, M, J)) (p2 := 10) (l2 := [some (.ref a0), some (.ref 2), some (.ref b0), some (.int v3)]) (s2 := []) (t2 := (jm_S0 L, M, J)) (fun _ _ => rfl) h1 ?_
      refine jm_go.lab (ls' := [none, none, none, none]) (fun i hi => by cases hi; rfl) ?_
      exact hke0 M _ H
    · refine jm_go.brf 1 (b := decide ((M a0 0) ≤ v3)) (p1 := 33) (l1 := [some (.ref a0), some (.ref 2), some (.ref b0), some (.int v3)]) (s1 := []) (t1 := (jm_S0 L, M, J)) (p2 := 10) (l2 := [some (.ref a0), some (.ref 2), some (.ref b0), some (.int v3)]) (s2 := []) (t2 := (jm_S0 L, M, J)) (fun _ _ => rfl) h1 ?_
      refine jm_go.gfr 2 (b := jm_is (jm_S0 L) a0 3) (o := (jm_S0 L).2.2.2.2 a0 3) (q := a0 + 3) (pc' := 14) (ls' := [some (.ref a0), some (.ref 2), some (.ref b0), some (.int v3)]) (st' := []) (t' := (jm_S0 L, M, J)) (fun _ _ => rfl) (jm_fH L ha0) (jm_rH3 L ha0) ?_
      refine jm_go.gfr 5 (b := jm_is (jm_S0 L) a0 3) (o := (jm_S0 L).2.2.2.2 a0 1) (q := a0 + 1) (pc' := 21) (ls' := [some (.ref a0), some (.ref 2), some (.ref b0), some (.int v3)]) (st' := [.ref 2, .ref b0, .int v3, .ref (a0 + 3)]) (t' := (jm_S0 L, M, J)) (fun _ _ => rfl) (jm_fH L ha0) (jm_rH1 L ha0) ?_
      obtain ⟨h2, H⟩ := jm_gdo H
      refine jm_go.grd 2 (b := ((Nat.beq 0 1 && Nat.beq (a0 + 1) 0) || (Nat.beq 0 0 && jm_is (jm_S0 L) (a0 + 1) 9)) && jm_inb v3 ((jm_S0 L).2.2.2.1 (a0 + 1))) (pc' := 23) (ls' := [some (.ref a0), some (.ref 2), some (.ref b0), some (.int v3)]) (st' := [.int (M (a0 + 1) v3.toNatClampNeg), .ref 2, .ref b0, .int v3, .ref (a0 + 3)]) (t' := (jm_S0 L, M, J)) (fun _ _ => rfl) (jm_gia (jm_fH1 L ha0) h2) ?_
      obtain ⟨q3, h4, H⟩ := jm_bdo H
      refine jm_go.call 1 (d := d + 2) (b := jm_is (jm_S0 L) b0 3) (u := 35) (as := [.ref b0, .ref 2, .int (M (a0 + 1) v3.toNatClampNeg)]) (pc' := 26) (ls' := [some (.ref a0), some (.ref 2), some (.ref b0), some (.int v3)]) (st' := [.int v3, .ref (a0 + 3)]) (t' := (jm_S0 L, M, J)) (fun _ _ => rfl) (jm_fH L hb0) rfl (g35 L d M J b0 hb0 (M (a0 + 1) v3.toNatClampNeg) _ h4) ?_
      obtain ⟨h5, H⟩ := jm_gdo H
      refine jm_go.grd 1 (b := jm_is (jm_S0 L) (a0 + 3) 9 && jm_inb v3 ((jm_S0 L).2.2.2.1 (a0 + 3))) (pc' := 27) (ls' := [some (.ref a0), some (.ref 2), some (.ref b0), some (.int v3)]) (st' := []) (t' := (jm_S0 L, (jm_up M (a0 + 3) v3.toNatClampNeg q3), J)) (fun _ _ => rfl) (jm_gis (jm_fH3 L ha0) h5) ?_
      refine jm_go.blk 2 (pc' := 2) (ls' := [some (.ref a0), some (.ref 2), some (.ref b0), some (.int (v3 + 1))]) (st' := []) (t' := (jm_S0 L, (jm_up M (a0 + 3) v3.toNatClampNeg q3), J)) (fun _ _ => rfl) ?_
      exact hkb (jm_up M (a0 + 3) v3.toNatClampNeg q3) (v3 + 1) _ H

/-- X3_goOnIn -/
def f34 (M : jm_MM) (a0 : Nat) (b0 : Nat) : Option (jm_MM) := f34_2 a0 b0 (fun Me6 => some Me6) jm_F M 0
set_option maxRecDepth 100000 in
theorem g34 (L : Nat) (d : Nat) (M : jm_MM) (J : jm_JJ) (a0 : Nat) (ha0 : jm_isH a0) (b0 : Nat) (hb0 : jm_isH b0)  (r : jm_MM) (H : f34 M a0 b0 = some r) : jm_go (d + 3) (jm_G 34) 0 (jm_en 4 [.ref a0, .ref 2, .ref b0]) [] (jm_S0 L, M, J) (none, (jm_S0 L, r, J)) := by
  unfold f34 at H
  refine jm_go.blk 2 (pc' := 2) (ls' := [some (.ref a0), some (.ref 2), some (.ref b0), some (.int 0)]) (st' := []) (t' := (jm_S0 L, M, J)) (fun _ _ => rfl) ?_
  exact g34_2 L d M J a0 ha0 b0 hb0
    _ (fun Me6 r H => by
      have H := Option.some.inj H
      subst H
      exact jm_go.ret 1 (fun _ _ => rfl)
      )
    _ M 0 _ H

def f37_2 (a0 : Nat) (b0 : Nat) (ke0 : jm_MM → Option (jm_MM)) : Nat → jm_MM → Int32 → Option (jm_MM)
  | 0, _, _ => none
  | n0 + 1, M, v2 => bif decide ((M b0 0) ≤ v2) then (ke0 M) else (jm_gd (jm_inb v2 24) (bif decide ((M (b0 + 3) v2.toNatClampNeg) = (-1)) then ((f37_2 a0 b0 ke0 n0) M (v2 + 1)) else (jm_gd (jm_inb (M (b0 + 3) v2.toNatClampNeg) 24) (bif !decide ((M (a0 + 5) ((M (b0 + 3) v2.toNatClampNeg).toNatClampNeg)) = (-1)) then (jm_gd (jm_inb (M (b0 + 3) v2.toNatClampNeg) 24) (jm_gd (jm_inb (M (b0 + 3) v2.toNatClampNeg) 24) ((f37_2 a0 b0 ke0 n0) (jm_up M (a0 + 4) ((M (b0 + 3) v2.toNatClampNeg).toNatClampNeg) ((M (a0 + 4) ((M (b0 + 3) v2.toNatClampNeg).toNatClampNeg)) ||| (1 <<< (v2 &&& 31)))) (v2 + 1)))) else (jm_gd (jm_inb (M (b0 + 3) v2.toNatClampNeg) 24) (jm_gd (jm_inb v2 24) (jm_gd (jm_inb (M (b0 + 3) v2.toNatClampNeg) 24) (jm_gd (jm_inb (M (b0 + 3) v2.toNatClampNeg) 24) (jm_gd (jm_inb (M (b0 + 3) v2.toNatClampNeg) 24) ((f37_2 a0 b0 ke0 n0) (jm_up (jm_up (jm_up M (a0 + 5) ((M (b0 + 3) v2.toNatClampNeg).toNatClampNeg) v2) (a0 + 6) ((M (b0 + 3) v2.toNatClampNeg).toNatClampNeg) (((jm_up M (a0 + 5) ((M (b0 + 3) v2.toNatClampNeg).toNatClampNeg) v2) (b0 + 6) v2.toNatClampNeg) + 1)) (a0 + 4) ((M (b0 + 3) v2.toNatClampNeg).toNatClampNeg) (((jm_up (jm_up M (a0 + 5) ((M (b0 + 3) v2.toNatClampNeg).toNatClampNeg) v2) (a0 + 6) ((M (b0 + 3) v2.toNatClampNeg).toNatClampNeg) (((jm_up M (a0 + 5) ((M (b0 + 3) v2.toNatClampNeg).toNatClampNeg) v2) (b0 + 6) v2.toNatClampNeg) + 1)) (a0 + 4) ((M (b0 + 3) v2.toNatClampNeg).toNatClampNeg)) ||| (1 <<< (v2 &&& 31)))) (v2 + 1)))))))))))
set_option maxRecDepth 100000 in
theorem g37_2 (L : Nat) (d : Nat) (_M : jm_MM) (J : jm_JJ) (a0 : Nat) (ha0 : jm_isH a0) (b0 : Nat) (hb0 : jm_isH b0) (ke0 : jm_MM → Option (jm_MM)) (hke0 : ∀ (M : jm_MM) (r : jm_MM), ke0 M = some r → jm_go d (jm_G 37) 71 [none, none, none, none] [] (jm_S0 L, M, J) (none, (jm_S0 L, r, J))) : ∀ (n0 : Nat) (M : jm_MM) (v2 : Int32) (r : jm_MM), f37_2 a0 b0 ke0 n0 M v2 = some r → jm_go d (jm_G 37) 2 [some (.ref a0), some (.ref b0), some (.int v2), none] [] (jm_S0 L, M, J) (none, (jm_S0 L, r, J)) := by
  intro n0
  induction n0 with
  | zero => intro M v2 r H; cases H
  | succ n0 ih =>
    intro M v2 r H
    have hkb := ih
    unfold f37_2 at H
    refine jm_go.grd 3 (b := jm_is (jm_S0 L) b0 3) (pc' := 7) (ls' := [some (.ref a0), some (.ref b0), some (.int v2), none]) (st' := [.int (M b0 0), .int v2]) (t' := (jm_S0 L, M, J)) (fun _ _ => rfl) (jm_fH L hb0) ?_
    rcases jm_bro H with ⟨h1, H⟩ | ⟨h1, H⟩
    · refine jm_go.brt 1 (b := decide ((M b0 0) ≤ v2)) (p1 := 71) (l1 := [some (.ref a0), some (.ref b0), some (.int v2), none]) (s1 := []) (t1 := (jm_S0 L, M, J)) (p2 := 10) (l2 := [some (.ref a0), some (.ref b0), some (.int v2), none]) (s2 := []) (t2 := (jm_S0 L, M, J)) (fun _ _ => rfl) h1 ?_
      refine jm_go.lab (ls' := [none, none, none, none]) (fun i hi => by cases hi; rfl) ?_
      exact hke0 M _ H
    · refine jm_go.brf 1 (b := decide ((M b0 0) ≤ v2)) (p1 := 71) (l1 := [some (.ref a0), some (.ref b0), some (.int v2), none]) (s1 := []) (t1 := (jm_S0 L, M, J)) (p2 := 10) (l2 := [some (.ref a0), some (.ref b0), some (.int v2), none]) (s2 := []) (t2 := (jm_S0 L, M, J)) (fun _ _ => rfl) h1 ?_
      refine jm_go.gfr 2 (b := jm_is (jm_S0 L) b0 3) (o := (jm_S0 L).2.2.2.2 b0 3) (q := b0 + 3) (pc' := 14) (ls' := [some (.ref a0), some (.ref b0), some (.int v2), none]) (st' := []) (t' := (jm_S0 L, M, J)) (fun _ _ => rfl) (jm_fH L hb0) (jm_rH3 L hb0) ?_
      obtain ⟨h2, H⟩ := jm_gdo H
      refine jm_go.grd 2 (b := ((Nat.beq 0 1 && Nat.beq (b0 + 3) 0) || (Nat.beq 0 0 && jm_is (jm_S0 L) (b0 + 3) 9)) && jm_inb v2 ((jm_S0 L).2.2.2.1 (b0 + 3))) (pc' := 16) (ls' := [some (.ref a0), some (.ref b0), some (.int v2), none]) (st' := [.int (M (b0 + 3) v2.toNatClampNeg)]) (t' := (jm_S0 L, M, J)) (fun _ _ => rfl) (jm_gia (jm_fH3 L hb0) h2) ?_
      rcases jm_bro H with ⟨h3, H⟩ | ⟨h3, H⟩
      · refine jm_go.brt 4 (b := decide ((M (b0 + 3) v2.toNatClampNeg) = (-1))) (p1 := 65) (l1 := [some (.ref a0), some (.ref b0), some (.int v2), some (.int (M (b0 + 3) v2.toNatClampNeg))]) (s1 := []) (t1 := (jm_S0 L, M, J)) (p2 := 22) (l2 := [some (.ref a0), some (.ref b0), some (.int v2), some (.int (M (b0 + 3) v2.toNatClampNeg))]) (s2 := []) (t2 := (jm_S0 L, M, J)) (fun _ _ => rfl) h3 ?_
        refine jm_go.blk 2 (pc' := 2) (ls' := [some (.ref a0), some (.ref b0), some (.int (v2 + 1)), none]) (st' := []) (t' := (jm_S0 L, M, J)) (fun _ _ => rfl) ?_
        exact hkb M (v2 + 1) _ H
      · refine jm_go.brf 4 (b := decide ((M (b0 + 3) v2.toNatClampNeg) = (-1))) (p1 := 65) (l1 := [some (.ref a0), some (.ref b0), some (.int v2), some (.int (M (b0 + 3) v2.toNatClampNeg))]) (s1 := []) (t1 := (jm_S0 L, M, J)) (p2 := 22) (l2 := [some (.ref a0), some (.ref b0), some (.int v2), some (.int (M (b0 + 3) v2.toNatClampNeg))]) (s2 := []) (t2 := (jm_S0 L, M, J)) (fun _ _ => rfl) h3 ?_
        refine jm_go.gfr 2 (b := jm_is (jm_S0 L) a0 3) (o := (jm_S0 L).2.2.2.2 a0 5) (q := a0 + 5) (pc' := 26) (ls' := [some (.ref a0), some (.ref b0), some (.int v2), some (.int (M (b0 + 3) v2.toNatClampNeg))]) (st' := []) (t' := (jm_S0 L, M, J)) (fun _ _ => rfl) (jm_fH L ha0) (jm_rH5 L ha0) ?_
        obtain ⟨h4, H⟩ := jm_gdo H
        refine jm_go.grd 2 (b := ((Nat.beq 0 1 && Nat.beq (a0 + 5) 0) || (Nat.beq 0 0 && jm_is (jm_S0 L) (a0 + 5) 9)) && jm_inb (M (b0 + 3) v2.toNatClampNeg) ((jm_S0 L).2.2.2.1 (a0 + 5))) (pc' := 28) (ls' := [some (.ref a0), some (.ref b0), some (.int v2), some (.int (M (b0 + 3) v2.toNatClampNeg))]) (st' := [.int (M (a0 + 5) ((M (b0 + 3) v2.toNatClampNeg).toNatClampNeg))]) (t' := (jm_S0 L, M, J)) (fun _ _ => rfl) (jm_gia (jm_fH5 L ha0) h4) ?_
        rcases jm_bro H with ⟨h5, H⟩ | ⟨h5, H⟩
        · refine jm_go.brt 2 (b := !decide ((M (a0 + 5) ((M (b0 + 3) v2.toNatClampNeg).toNatClampNeg)) = (-1))) (p1 := 53) (l1 := [some (.ref a0), some (.ref b0), some (.int v2), some (.int (M (b0 + 3) v2.toNatClampNeg))]) (s1 := []) (t1 := (jm_S0 L, M, J)) (p2 := 32) (l2 := [some (.ref a0), some (.ref b0), some (.int v2), some (.int (M (b0 + 3) v2.toNatClampNeg))]) (s2 := []) (t2 := (jm_S0 L, M, J)) (fun _ _ => rfl) h5 ?_
          refine jm_go.gfr 2 (b := jm_is (jm_S0 L) a0 3) (o := (jm_S0 L).2.2.2.2 a0 4) (q := a0 + 4) (pc' := 57) (ls' := [some (.ref a0), some (.ref b0), some (.int v2), some (.int (M (b0 + 3) v2.toNatClampNeg))]) (st' := []) (t' := (jm_S0 L, M, J)) (fun _ _ => rfl) (jm_fH L ha0) (jm_rH4 L ha0) ?_
          obtain ⟨h6, H⟩ := jm_gdo H
          refine jm_go.grd 3 (b := ((Nat.beq 0 1 && Nat.beq (a0 + 4) 0) || (Nat.beq 0 0 && jm_is (jm_S0 L) (a0 + 4) 9)) && jm_inb (M (b0 + 3) v2.toNatClampNeg) ((jm_S0 L).2.2.2.1 (a0 + 4))) (pc' := 60) (ls' := [some (.ref a0), some (.ref b0), some (.int v2), some (.int (M (b0 + 3) v2.toNatClampNeg))]) (st' := [.int (M (a0 + 4) ((M (b0 + 3) v2.toNatClampNeg).toNatClampNeg)), .int (M (b0 + 3) v2.toNatClampNeg), .ref (a0 + 4)]) (t' := (jm_S0 L, M, J)) (fun _ _ => rfl) (jm_gia (jm_fH4 L ha0) h6) ?_
          obtain ⟨h7, H⟩ := jm_gdo H
          refine jm_go.grd 5 (b := jm_is (jm_S0 L) (a0 + 4) 9 && jm_inb (M (b0 + 3) v2.toNatClampNeg) ((jm_S0 L).2.2.2.1 (a0 + 4))) (pc' := 65) (ls' := [some (.ref a0), some (.ref b0), some (.int v2), some (.int (M (b0 + 3) v2.toNatClampNeg))]) (st' := []) (t' := (jm_S0 L, (jm_up M (a0 + 4) ((M (b0 + 3) v2.toNatClampNeg).toNatClampNeg) ((M (a0 + 4) ((M (b0 + 3) v2.toNatClampNeg).toNatClampNeg)) ||| (1 <<< (v2 &&& 31)))), J)) (fun _ _ => rfl) (jm_gis (jm_fH4 L ha0) h7) ?_
          refine jm_go.blk 2 (pc' := 2) (ls' := [some (.ref a0), some (.ref b0), some (.int (v2 + 1)), none]) (st' := []) (t' := (jm_S0 L, (jm_up M (a0 + 4) ((M (b0 + 3) v2.toNatClampNeg).toNatClampNeg) ((M (a0 + 4) ((M (b0 + 3) v2.toNatClampNeg).toNatClampNeg)) ||| (1 <<< (v2 &&& 31)))), J)) (fun _ _ => rfl) ?_
          exact hkb (jm_up M (a0 + 4) ((M (b0 + 3) v2.toNatClampNeg).toNatClampNeg) ((M (a0 + 4) ((M (b0 + 3) v2.toNatClampNeg).toNatClampNeg)) ||| (1 <<< (v2 &&& 31)))) (v2 + 1) _ H
        · refine jm_go.brf 2 (b := !decide ((M (a0 + 5) ((M (b0 + 3) v2.toNatClampNeg).toNatClampNeg)) = (-1))) (p1 := 53) (l1 := [some (.ref a0), some (.ref b0), some (.int v2), some (.int (M (b0 + 3) v2.toNatClampNeg))]) (s1 := []) (t1 := (jm_S0 L, M, J)) (p2 := 32) (l2 := [some (.ref a0), some (.ref b0), some (.int v2), some (.int (M (b0 + 3) v2.toNatClampNeg))]) (s2 := []) (t2 := (jm_S0 L, M, J)) (fun _ _ => rfl) h5 ?_
          refine jm_go.gfr 2 (b := jm_is (jm_S0 L) a0 3) (o := (jm_S0 L).2.2.2.2 a0 5) (q := a0 + 5) (pc' := 36) (ls' := [some (.ref a0), some (.ref b0), some (.int v2), some (.int (M (b0 + 3) v2.toNatClampNeg))]) (st' := []) (t' := (jm_S0 L, M, J)) (fun _ _ => rfl) (jm_fH L ha0) (jm_rH5 L ha0) ?_
          obtain ⟨h8, H⟩ := jm_gdo H
          refine jm_go.grd 3 (b := jm_is (jm_S0 L) (a0 + 5) 9 && jm_inb (M (b0 + 3) v2.toNatClampNeg) ((jm_S0 L).2.2.2.1 (a0 + 5))) (pc' := 39) (ls' := [some (.ref a0), some (.ref b0), some (.int v2), some (.int (M (b0 + 3) v2.toNatClampNeg))]) (st' := []) (t' := (jm_S0 L, (jm_up M (a0 + 5) ((M (b0 + 3) v2.toNatClampNeg).toNatClampNeg) v2), J)) (fun _ _ => rfl) (jm_gis (jm_fH5 L ha0) h8) ?_
          refine jm_go.gfr 2 (b := jm_is (jm_S0 L) a0 3) (o := (jm_S0 L).2.2.2.2 a0 6) (q := a0 + 6) (pc' := 43) (ls' := [some (.ref a0), some (.ref b0), some (.int v2), some (.int (M (b0 + 3) v2.toNatClampNeg))]) (st' := []) (t' := (jm_S0 L, (jm_up M (a0 + 5) ((M (b0 + 3) v2.toNatClampNeg).toNatClampNeg) v2), J)) (fun _ _ => rfl) (jm_fH L ha0) (jm_rH6 L ha0) ?_
          refine jm_go.gfr 3 (b := jm_is (jm_S0 L) b0 3) (o := (jm_S0 L).2.2.2.2 b0 6) (q := b0 + 6) (pc' := 48) (ls' := [some (.ref a0), some (.ref b0), some (.int v2), some (.int (M (b0 + 3) v2.toNatClampNeg))]) (st' := [.int (M (b0 + 3) v2.toNatClampNeg), .ref (a0 + 6)]) (t' := (jm_S0 L, (jm_up M (a0 + 5) ((M (b0 + 3) v2.toNatClampNeg).toNatClampNeg) v2), J)) (fun _ _ => rfl) (jm_fH L hb0) (jm_rH6 L hb0) ?_
          obtain ⟨h9, H⟩ := jm_gdo H
          refine jm_go.grd 2 (b := ((Nat.beq 0 1 && Nat.beq (b0 + 6) 0) || (Nat.beq 0 0 && jm_is (jm_S0 L) (b0 + 6) 9)) && jm_inb v2 ((jm_S0 L).2.2.2.1 (b0 + 6))) (pc' := 50) (ls' := [some (.ref a0), some (.ref b0), some (.int v2), some (.int (M (b0 + 3) v2.toNatClampNeg))]) (st' := [.int ((jm_up M (a0 + 5) ((M (b0 + 3) v2.toNatClampNeg).toNatClampNeg) v2) (b0 + 6) v2.toNatClampNeg), .int (M (b0 + 3) v2.toNatClampNeg), .ref (a0 + 6)]) (t' := (jm_S0 L, (jm_up M (a0 + 5) ((M (b0 + 3) v2.toNatClampNeg).toNatClampNeg) v2), J)) (fun _ _ => rfl) (jm_gia (jm_fH6 L hb0) h9) ?_
          obtain ⟨h10, H⟩ := jm_gdo H
          refine jm_go.grd 3 (b := jm_is (jm_S0 L) (a0 + 6) 9 && jm_inb (M (b0 + 3) v2.toNatClampNeg) ((jm_S0 L).2.2.2.1 (a0 + 6))) (pc' := 53) (ls' := [some (.ref a0), some (.ref b0), some (.int v2), some (.int (M (b0 + 3) v2.toNatClampNeg))]) (st' := []) (t' := (jm_S0 L, (jm_up (jm_up M (a0 + 5) ((M (b0 + 3) v2.toNatClampNeg).toNatClampNeg) v2) (a0 + 6) ((M (b0 + 3) v2.toNatClampNeg).toNatClampNeg) (((jm_up M (a0 + 5) ((M (b0 + 3) v2.toNatClampNeg).toNatClampNeg) v2) (b0 + 6) v2.toNatClampNeg) + 1)), J)) (fun _ _ => rfl) (jm_gis (jm_fH6 L ha0) h10) ?_
          refine jm_go.gfr 2 (b := jm_is (jm_S0 L) a0 3) (o := (jm_S0 L).2.2.2.2 a0 4) (q := a0 + 4) (pc' := 57) (ls' := [some (.ref a0), some (.ref b0), some (.int v2), some (.int (M (b0 + 3) v2.toNatClampNeg))]) (st' := []) (t' := (jm_S0 L, (jm_up (jm_up M (a0 + 5) ((M (b0 + 3) v2.toNatClampNeg).toNatClampNeg) v2) (a0 + 6) ((M (b0 + 3) v2.toNatClampNeg).toNatClampNeg) (((jm_up M (a0 + 5) ((M (b0 + 3) v2.toNatClampNeg).toNatClampNeg) v2) (b0 + 6) v2.toNatClampNeg) + 1)), J)) (fun _ _ => rfl) (jm_fH L ha0) (jm_rH4 L ha0) ?_
          obtain ⟨h11, H⟩ := jm_gdo H
          refine jm_go.grd 3 (b := ((Nat.beq 0 1 && Nat.beq (a0 + 4) 0) || (Nat.beq 0 0 && jm_is (jm_S0 L) (a0 + 4) 9)) && jm_inb (M (b0 + 3) v2.toNatClampNeg) ((jm_S0 L).2.2.2.1 (a0 + 4))) (pc' := 60) (ls' := [some (.ref a0), some (.ref b0), some (.int v2), some (.int (M (b0 + 3) v2.toNatClampNeg))]) (st' := [.int ((jm_up (jm_up M (a0 + 5) ((M (b0 + 3) v2.toNatClampNeg).toNatClampNeg) v2) (a0 + 6) ((M (b0 + 3) v2.toNatClampNeg).toNatClampNeg) (((jm_up M (a0 + 5) ((M (b0 + 3) v2.toNatClampNeg).toNatClampNeg) v2) (b0 + 6) v2.toNatClampNeg) + 1)) (a0 + 4) ((M (b0 + 3) v2.toNatClampNeg).toNatClampNeg)), .int (M (b0 + 3) v2.toNatClampNeg), .ref (a0 + 4)]) (t' := (jm_S0 L, (jm_up (jm_up M (a0 + 5) ((M (b0 + 3) v2.toNatClampNeg).toNatClampNeg) v2) (a0 + 6) ((M (b0 + 3) v2.toNatClampNeg).toNatClampNeg) (((jm_up M (a0 + 5) ((M (b0 + 3) v2.toNatClampNeg).toNatClampNeg) v2) (b0 + 6) v2.toNatClampNeg) + 1)), J)) (fun _ _ => rfl) (jm_gia (jm_fH4 L ha0) h11) ?_
          obtain ⟨h12, H⟩ := jm_gdo H
          refine jm_go.grd 5 (b := jm_is (jm_S0 L) (a0 + 4) 9 && jm_inb (M (b0 + 3) v2.toNatClampNeg) ((jm_S0 L).2.2.2.1 (a0 + 4))) (pc' := 65) (ls' := [some (.ref a0), some (.ref b0), some (.int v2), some (.int (M (b0 + 3) v2.toNatClampNeg))]) (st' := []) (t' := (jm_S0 L, (jm_up (jm_up (jm_up M (a0 + 5) ((M (b0 + 3) v2.toNatClampNeg).toNatClampNeg) v2) (a0 + 6) ((M (b0 + 3) v2.toNatClampNeg).toNatClampNeg) (((jm_up M (a0 + 5) ((M (b0 + 3) v2.toNatClampNeg).toNatClampNeg) v2) (b0 + 6) v2.toNatClampNeg) + 1)) (a0 + 4) ((M (b0 + 3) v2.toNatClampNeg).toNatClampNeg) (((jm_up (jm_up M (a0 + 5) ((M (b0 + 3) v2.toNatClampNeg).toNatClampNeg) v2) (a0 + 6) ((M (b0 + 3) v2.toNatClampNeg).toNatClampNeg) (((jm_up M (a0 + 5) ((M (b0 + 3) v2.toNatClampNeg).toNatClampNeg) v2) (b0 + 6) v2.toNatClampNeg) + 1)) (a0 + 4) ((M (b0 + 3) v2.toNatClampNeg).toNatClampNeg)) ||| (1 <<< (v2 &&& 31)))), J)) (fun _ _ => rfl) (jm_gis (jm_fH4 L ha0) h12) ?_
          refine jm_go.blk 2 (pc' := 2) (ls' := [some (.ref a0), some (.ref b0), some (.int (v2 + 1)), none]) (st' := []) (t' := (jm_S0 L, (jm_up (jm_up (jm_up M (a0 + 5) ((M (b0 + 3) v2.toNatClampNeg).toNatClampNeg) v2) (a0 + 6) ((M (b0 + 3) v2.toNatClampNeg).toNatClampNeg) (((jm_up M (a0 + 5) ((M (b0 + 3) v2.toNatClampNeg).toNatClampNeg) v2) (b0 + 6) v2.toNatClampNeg) + 1)) (a0 + 4) ((M (b0 + 3) v2.toNatClampNeg).toNatClampNeg) (((jm_up (jm_up M (a0 + 5) ((M (b0 + 3) v2.toNatClampNeg).toNatClampNeg) v2) (a0 + 6) ((M (b0 + 3) v2.toNatClampNeg).toNatClampNeg) (((jm_up M (a0 + 5) ((M (b0 + 3) v2.toNatClampNeg).toNatClampNeg) v2) (b0 + 6) v2.toNatClampNeg) + 1)) (a0 + 4) ((M (b0 + 3) v2.toNatClampNeg).toNatClampNeg)) ||| (1 <<< (v2 &&& 31)))), J)) (fun _ _ => rfl) ?_
          exact hkb (jm_up (jm_up (jm_up M (a0 + 5) ((M (b0 + 3) v2.toNatClampNeg).toNatClampNeg) v2) (a0 + 6) ((M (b0 + 3) v2.toNatClampNeg).toNatClampNeg) (((jm_up M (a0 + 5) ((M (b0 + 3) v2.toNatClampNeg).toNatClampNeg) v2) (b0 + 6) v2.toNatClampNeg) + 1)) (a0 + 4) ((M (b0 + 3) v2.toNatClampNeg).toNatClampNeg) (((jm_up (jm_up M (a0 + 5) ((M (b0 + 3) v2.toNatClampNeg).toNatClampNeg) v2) (a0 + 6) ((M (b0 + 3) v2.toNatClampNeg).toNatClampNeg) (((jm_up M (a0 + 5) ((M (b0 + 3) v2.toNatClampNeg).toNatClampNeg) v2) (b0 + 6) v2.toNatClampNeg) + 1)) (a0 + 4) ((M (b0 + 3) v2.toNatClampNeg).toNatClampNeg)) ||| (1 <<< (v2 &&& 31)))) (v2 + 1) _ H

/-- X3_comeFromThose -/
def f37 (M : jm_MM) (a0 : Nat) (b0 : Nat) : Option (jm_MM) := f37_2 a0 b0 (fun Me13 => some Me13) jm_F M 0
set_option maxRecDepth 100000 in
theorem g37 (L : Nat) (d : Nat) (M : jm_MM) (J : jm_JJ) (a0 : Nat) (ha0 : jm_isH a0) (b0 : Nat) (hb0 : jm_isH b0)  (r : jm_MM) (H : f37 M a0 b0 = some r) : jm_go d (jm_G 37) 0 (jm_en 4 [.ref a0, .ref b0]) [] (jm_S0 L, M, J) (none, (jm_S0 L, r, J)) := by
  unfold f37 at H
  refine jm_go.blk 2 (pc' := 2) (ls' := [some (.ref a0), some (.ref b0), some (.int 0), none]) (st' := []) (t' := (jm_S0 L, M, J)) (fun _ _ => rfl) ?_
  exact g37_2 L d M J a0 ha0 b0 hb0
    _ (fun Me13 r H => by
      have H := Option.some.inj H
      subst H
      exact jm_go.ret 1 (fun _ _ => rfl)
      )
    _ M 0 _ H

def f22_19  (ke0 : jm_MM → Option (jm_MM)) : Nat → jm_MM → Int32 → Option (jm_MM)
  | 0, _, _ => none
  | n0 + 1, M, v2 => bif decide ((M 39 1) ≤ v2) then (ke0 M) else (jm_gd (jm_inb v2 6) (jm_bd (f1 M (42 + 10 * v2.toNatClampNeg) v2 (M 2 1)) (fun q4 => jm_gd (jm_inb v2 6) (jm_bd (f18 q4 v2) (fun q7 => jm_bd (f3 q4 (42 + 10 * v2.toNatClampNeg) q7) (fun q9 => jm_gd (jm_inb v2 6) (jm_gd (jm_inb v2 6) (jm_bd (f30 q9 (45 + 10 * v2.toNatClampNeg) (42 + 10 * v2.toNatClampNeg)) (fun q13 => jm_gd (jm_inb v2 6) (jm_bd (f33 q13 (45 + 10 * v2.toNatClampNeg)) (fun q16 => jm_gd (jm_inb v2 6) (jm_bd (f36 q16 (45 + 10 * v2.toNatClampNeg)) (fun q19 => (f22_19  ke0 n0) q19 (v2 + 1))))))))))))))
set_option maxRecDepth 100000 in
theorem g22_19 (L : Nat) (d : Nat) (_M : jm_MM) (J : jm_JJ) (ke0 : jm_MM → Option (jm_MM)) (hke0 : ∀ (M : jm_MM) (r : jm_MM), ke0 M = some r → jm_go (d + 4) (jm_G 22) 96 [some (.ref 39), some (.ref 2), none] [] (jm_S0 L, M, J) (some (.ref 39), (jm_S0 L, r, J))) : ∀ (n0 : Nat) (M : jm_MM) (v2 : Int32) (r : jm_MM), f22_19  ke0 n0 M v2 = some r → jm_go (d + 4) (jm_G 22) 19 [some (.ref 39), some (.ref 2), some (.int v2)] [] (jm_S0 L, M, J) (some (.ref 39), (jm_S0 L, r, J)) := by
  intro n0
  induction n0 with
  | zero => intro M v2 r H; cases H
  | succ n0 ih =>
    intro M v2 r H
    have hkb := ih
    unfold f22_19 at H
    rcases jm_bro H with ⟨h2, H⟩ | ⟨h2, H⟩
    · refine jm_go.brt 4 (b := decide ((M 39 1) ≤ v2)) (p1 := 96) (l1 := [some (.ref 39), some (.ref 2), some (.int v2)]) (s1 := []) (t1 := (jm_S0 L, M, J)) (p2 := 27) (l2 := [some (.ref 39), some (.ref 2), some (.int v2)]) (s2 := []) (t2 := (jm_S0 L, M, J)) (fun _ _ => rfl) h2 ?_
      refine jm_go.lab (ls' := [some (.ref 39), some (.ref 2), none]) (fun i hi => by cases hi; rfl) ?_
      exact hke0 M _ H
    · refine jm_go.brf 4 (b := decide ((M 39 1) ≤ v2)) (p1 := 96) (l1 := [some (.ref 39), some (.ref 2), some (.int v2)]) (s1 := []) (t1 := (jm_S0 L, M, J)) (p2 := 27) (l2 := [some (.ref 39), some (.ref 2), some (.int v2)]) (s2 := []) (t2 := (jm_S0 L, M, J)) (fun _ _ => rfl) h2 ?_
      obtain ⟨h3, H⟩ := jm_gdo H
      refine jm_go.gfr 4 (b := jm_inb v2 6) (o := (jm_S0 L).2.2.2.2 40 v2.toNatClampNeg) (q := 42 + 10 * v2.toNatClampNeg) (pc' := 33) (ls' := [some (.ref 39), some (.ref 2), some (.int v2)]) (st' := []) (t' := (jm_S0 L, M, J)) (fun _ _ => rfl) h3 (jm_aCr L h3) ?_
      obtain ⟨q4, h5, H⟩ := jm_bdo H
      refine jm_go.call 5 (d := d + 3) (b := jm_is (jm_S0 L) (42 + 10 * v2.toNatClampNeg) 0) (u := 1) (as := [.ref (42 + 10 * v2.toNatClampNeg), .ref 2, .int v2, .int (M 2 1)]) (pc' := 42) (ls' := [some (.ref 39), some (.ref 2), some (.int v2)]) (st' := []) (t' := (jm_S0 L, M, J)) (fun _ _ => rfl) (jm_fC L (jm_aC h3)) rfl (g1 L d M J (42 + 10 * v2.toNatClampNeg) (jm_aC h3) v2 (M 2 1) _ h5) ?_
      obtain ⟨h6, H⟩ := jm_gdo H
      refine jm_go.gfr 4 (b := jm_inb v2 6) (o := (jm_S0 L).2.2.2.2 40 v2.toNatClampNeg) (q := 42 + 10 * v2.toNatClampNeg) (pc' := 48) (ls' := [some (.ref 39), some (.ref 2), some (.int v2)]) (st' := []) (t' := (jm_S0 L, q4, J)) (fun _ _ => rfl) h6 (jm_aCr L h6) ?_
      obtain ⟨q7, h8, H⟩ := jm_bdo H
      refine jm_go.call 3 (d := d + 3) (b := true) (u := 18) (as := [.ref 2, .int v2]) (pc' := 53) (ls' := [some (.ref 39), some (.ref 2), some (.int v2)]) (st' := [.ref (42 + 10 * v2.toNatClampNeg)]) (t' := (jm_S0 L, q4, J)) (fun _ _ => rfl) rfl rfl (g18 L (d + 2) q4 J v2 _ h8) ?_
      obtain ⟨q9, h10, H⟩ := jm_bdo H
      refine jm_go.call 1 (d := d + 3) (b := jm_is (jm_S0 L) (42 + 10 * v2.toNatClampNeg) 0) (u := 3) (as := [.ref (42 + 10 * v2.toNatClampNeg), .int q7]) (pc' := 56) (ls' := [some (.ref 39), some (.ref 2), some (.int v2)]) (st' := []) (t' := (jm_S0 L, q4, J)) (fun _ _ => rfl) (jm_fC L (jm_aC h6)) rfl (g3 L d q4 J (42 + 10 * v2.toNatClampNeg) (jm_aC h6) q7 _ h10) ?_
      obtain ⟨h11, H⟩ := jm_gdo H
      refine jm_go.gfr 4 (b := jm_inb v2 6) (o := (jm_S0 L).2.2.2.2 41 v2.toNatClampNeg) (q := 45 + 10 * v2.toNatClampNeg) (pc' := 62) (ls' := [some (.ref 39), some (.ref 2), some (.int v2)]) (st' := []) (t' := (jm_S0 L, q9, J)) (fun _ _ => rfl) h11 (jm_aHr L h11) ?_
      obtain ⟨h12, H⟩ := jm_gdo H
      refine jm_go.gfr 5 (b := jm_inb v2 6) (o := (jm_S0 L).2.2.2.2 40 v2.toNatClampNeg) (q := 42 + 10 * v2.toNatClampNeg) (pc' := 69) (ls' := [some (.ref 39), some (.ref 2), some (.int v2)]) (st' := [.ref 2, .ref (45 + 10 * v2.toNatClampNeg)]) (t' := (jm_S0 L, q9, J)) (fun _ _ => rfl) h12 (jm_aCr L h12) ?_
      obtain ⟨q13, h14, H⟩ := jm_bdo H
      refine jm_go.call 1 (d := d + 3) (b := jm_is (jm_S0 L) (45 + 10 * v2.toNatClampNeg) 3) (u := 30) (as := [.ref (45 + 10 * v2.toNatClampNeg), .ref 2, .ref (42 + 10 * v2.toNatClampNeg)]) (pc' := 72) (ls' := [some (.ref 39), some (.ref 2), some (.int v2)]) (st' := []) (t' := (jm_S0 L, q9, J)) (fun _ _ => rfl) (jm_fH L (jm_aH h11)) rfl (g30 L (d + 1) q9 J (45 + 10 * v2.toNatClampNeg) (jm_aH h11) (42 + 10 * v2.toNatClampNeg) (jm_aC h12) _ h14) ?_
      obtain ⟨h15, H⟩ := jm_gdo H
      refine jm_go.gfr 4 (b := jm_inb v2 6) (o := (jm_S0 L).2.2.2.2 41 v2.toNatClampNeg) (q := 45 + 10 * v2.toNatClampNeg) (pc' := 78) (ls' := [some (.ref 39), some (.ref 2), some (.int v2)]) (st' := []) (t' := (jm_S0 L, q13, J)) (fun _ _ => rfl) h15 (jm_aHr L h15) ?_
      obtain ⟨q16, h17, H⟩ := jm_bdo H
      refine jm_go.call 1 (d := d + 3) (b := jm_is (jm_S0 L) (45 + 10 * v2.toNatClampNeg) 3) (u := 33) (as := [.ref (45 + 10 * v2.toNatClampNeg)]) (pc' := 81) (ls' := [some (.ref 39), some (.ref 2), some (.int v2)]) (st' := []) (t' := (jm_S0 L, q13, J)) (fun _ _ => rfl) (jm_fH L (jm_aH h15)) rfl (g33 L (d + 2) q13 J (45 + 10 * v2.toNatClampNeg) (jm_aH h15) _ h17) ?_
      obtain ⟨h18, H⟩ := jm_gdo H
      refine jm_go.gfr 4 (b := jm_inb v2 6) (o := (jm_S0 L).2.2.2.2 41 v2.toNatClampNeg) (q := 45 + 10 * v2.toNatClampNeg) (pc' := 87) (ls' := [some (.ref 39), some (.ref 2), some (.int v2)]) (st' := []) (t' := (jm_S0 L, q16, J)) (fun _ _ => rfl) h18 (jm_aHr L h18) ?_
      obtain ⟨q19, h20, H⟩ := jm_bdo H
      refine jm_go.call 1 (d := d + 3) (b := jm_is (jm_S0 L) (45 + 10 * v2.toNatClampNeg) 3) (u := 36) (as := [.ref (45 + 10 * v2.toNatClampNeg)]) (pc' := 90) (ls' := [some (.ref 39), some (.ref 2), some (.int v2)]) (st' := []) (t' := (jm_S0 L, q16, J)) (fun _ _ => rfl) (jm_fH L (jm_aH h18)) rfl (g36 L (d + 2) q16 J (45 + 10 * v2.toNatClampNeg) (jm_aH h18) _ h20) ?_
      refine jm_go.blk 2 (pc' := 19) (ls' := [some (.ref 39), some (.ref 2), some (.int (v2 + 1))]) (st' := []) (t' := (jm_S0 L, q19, J)) (fun _ _ => rfl) ?_
      exact hkb q19 (v2 + 1) _ H

def f22_98  (ke0 : jm_MM → Option (jm_MM)) : Nat → jm_MM → Int32 → Option (jm_MM)
  | 0, _, _ => none
  | n0 + 1, M, v2 => bif decide ((M 39 1) ≤ v2) then (ke0 M) else (jm_gd (jm_inb (v2 - 1) 6) (jm_gd (jm_inb v2 6) (jm_bd (f34 M (45 + 10 * (v2 - 1).toNatClampNeg) (45 + 10 * v2.toNatClampNeg)) (fun q25 => jm_gd (jm_inb v2 6) (jm_gd (jm_inb (v2 - 1) 6) (jm_bd (f37 q25 (45 + 10 * v2.toNatClampNeg) (45 + 10 * (v2 - 1).toNatClampNeg)) (fun q29 => (f22_98  ke0 n0) q29 (v2 + 1))))))))
set_option maxRecDepth 100000 in
theorem g22_98 (L : Nat) (d : Nat) (_M : jm_MM) (J : jm_JJ) (ke0 : jm_MM → Option (jm_MM)) (hke0 : ∀ (M : jm_MM) (r : jm_MM), ke0 M = some r → jm_go (d + 4) (jm_G 22) 147 [some (.ref 39), none, none] [] (jm_S0 L, M, J) (some (.ref 39), (jm_S0 L, r, J))) : ∀ (n0 : Nat) (M : jm_MM) (v2 : Int32) (r : jm_MM), f22_98  ke0 n0 M v2 = some r → jm_go (d + 4) (jm_G 22) 98 [some (.ref 39), some (.ref 2), some (.int v2)] [] (jm_S0 L, M, J) (some (.ref 39), (jm_S0 L, r, J)) := by
  intro n0
  induction n0 with
  | zero => intro M v2 r H; cases H
  | succ n0 ih =>
    intro M v2 r H
    have hkb := ih
    unfold f22_98 at H
    rcases jm_bro H with ⟨h22, H⟩ | ⟨h22, H⟩
    · refine jm_go.brt 4 (b := decide ((M 39 1) ≤ v2)) (p1 := 147) (l1 := [some (.ref 39), some (.ref 2), some (.int v2)]) (s1 := []) (t1 := (jm_S0 L, M, J)) (p2 := 106) (l2 := [some (.ref 39), some (.ref 2), some (.int v2)]) (s2 := []) (t2 := (jm_S0 L, M, J)) (fun _ _ => rfl) h22 ?_
      refine jm_go.lab (ls' := [some (.ref 39), none, none]) (fun i hi => by cases hi; rfl) ?_
      exact hke0 M _ H
    · refine jm_go.brf 4 (b := decide ((M 39 1) ≤ v2)) (p1 := 147) (l1 := [some (.ref 39), some (.ref 2), some (.int v2)]) (s1 := []) (t1 := (jm_S0 L, M, J)) (p2 := 106) (l2 := [some (.ref 39), some (.ref 2), some (.int v2)]) (s2 := []) (t2 := (jm_S0 L, M, J)) (fun _ _ => rfl) h22 ?_
      obtain ⟨h23, H⟩ := jm_gdo H
      refine jm_go.gfr 6 (b := jm_inb (v2 - 1) 6) (o := (jm_S0 L).2.2.2.2 41 (v2 - 1).toNatClampNeg) (q := 45 + 10 * (v2 - 1).toNatClampNeg) (pc' := 114) (ls' := [some (.ref 39), some (.ref 2), some (.int v2)]) (st' := []) (t' := (jm_S0 L, M, J)) (fun _ _ => rfl) h23 (jm_aHr L h23) ?_
      obtain ⟨h24, H⟩ := jm_gdo H
      refine jm_go.gfr 5 (b := jm_inb v2 6) (o := (jm_S0 L).2.2.2.2 41 v2.toNatClampNeg) (q := 45 + 10 * v2.toNatClampNeg) (pc' := 121) (ls' := [some (.ref 39), some (.ref 2), some (.int v2)]) (st' := [.ref 2, .ref (45 + 10 * (v2 - 1).toNatClampNeg)]) (t' := (jm_S0 L, M, J)) (fun _ _ => rfl) h24 (jm_aHr L h24) ?_
      obtain ⟨q25, h26, H⟩ := jm_bdo H
      refine jm_go.call 1 (d := d + 3) (b := jm_is (jm_S0 L) (45 + 10 * (v2 - 1).toNatClampNeg) 3) (u := 34) (as := [.ref (45 + 10 * (v2 - 1).toNatClampNeg), .ref 2, .ref (45 + 10 * v2.toNatClampNeg)]) (pc' := 124) (ls' := [some (.ref 39), some (.ref 2), some (.int v2)]) (st' := []) (t' := (jm_S0 L, M, J)) (fun _ _ => rfl) (jm_fH L (jm_aH h23)) rfl (g34 L d M J (45 + 10 * (v2 - 1).toNatClampNeg) (jm_aH h23) (45 + 10 * v2.toNatClampNeg) (jm_aH h24) _ h26) ?_
      obtain ⟨h27, H⟩ := jm_gdo H
      refine jm_go.gfr 4 (b := jm_inb v2 6) (o := (jm_S0 L).2.2.2.2 41 v2.toNatClampNeg) (q := 45 + 10 * v2.toNatClampNeg) (pc' := 130) (ls' := [some (.ref 39), some (.ref 2), some (.int v2)]) (st' := []) (t' := (jm_S0 L, q25, J)) (fun _ _ => rfl) h27 (jm_aHr L h27) ?_
      obtain ⟨h28, H⟩ := jm_gdo H
      refine jm_go.gfr 6 (b := jm_inb (v2 - 1) 6) (o := (jm_S0 L).2.2.2.2 41 (v2 - 1).toNatClampNeg) (q := 45 + 10 * (v2 - 1).toNatClampNeg) (pc' := 138) (ls' := [some (.ref 39), some (.ref 2), some (.int v2)]) (st' := [.ref (45 + 10 * v2.toNatClampNeg)]) (t' := (jm_S0 L, q25, J)) (fun _ _ => rfl) h28 (jm_aHr L h28) ?_
      obtain ⟨q29, h30, H⟩ := jm_bdo H
      refine jm_go.call 1 (d := d + 3) (b := jm_is (jm_S0 L) (45 + 10 * v2.toNatClampNeg) 3) (u := 37) (as := [.ref (45 + 10 * v2.toNatClampNeg), .ref (45 + 10 * (v2 - 1).toNatClampNeg)]) (pc' := 141) (ls' := [some (.ref 39), some (.ref 2), some (.int v2)]) (st' := []) (t' := (jm_S0 L, q25, J)) (fun _ _ => rfl) (jm_fH L (jm_aH h27)) rfl (g37 L (d + 3) q25 J (45 + 10 * v2.toNatClampNeg) (jm_aH h27) (45 + 10 * (v2 - 1).toNatClampNeg) (jm_aH h28) _ h30) ?_
      refine jm_go.blk 2 (pc' := 98) (ls' := [some (.ref 39), some (.ref 2), some (.int (v2 + 1))]) (st' := []) (t' := (jm_S0 L, q29, J)) (fun _ _ => rfl) ?_
      exact hkb q29 (v2 + 1) _ H

/-- X2_surveyed -/
def f22 (M : jm_MM)  : Option (jm_MM) := bif decide ((M 39 0) = 0) then (f22_19  (fun Me21 => f22_98  (fun Me31 => some (jm_up Me31 39 0 1)) jm_F Me21 1) jm_F (jm_up M 39 1 (M 2 0)) 0) else (some M)
set_option maxRecDepth 100000 in
theorem g22 (L : Nat) (d : Nat) (M : jm_MM) (J : jm_JJ)  (r : jm_MM) (H : f22 M  = some r) : jm_go (d + 4) (jm_G 22) 0 (jm_en 3 [.ref 39, .ref 2]) [] (jm_S0 L, M, J) (some (.ref 39), (jm_S0 L, r, J)) := by
  unfold f22 at H
  rcases jm_bro H with ⟨h1, H⟩ | ⟨h1, H⟩
  · refine jm_go.brt 3 (b := decide ((M 39 0) = 0)) (p1 := 9) (l1 := [some (.ref 39), some (.ref 2), none]) (s1 := []) (t1 := (jm_S0 L, M, J)) (p2 := 7) (l2 := [some (.ref 39), some (.ref 2), none]) (s2 := []) (t2 := (jm_S0 L, M, J)) (fun _ _ => rfl) h1 ?_
    refine jm_go.blk 6 (pc' := 19) (ls' := [some (.ref 39), some (.ref 2), some (.int 0)]) (st' := []) (t' := (jm_S0 L, (jm_up M 39 1 (M 2 0)), J)) (fun _ _ => rfl) ?_
    exact g22_19 L d M J
      _ (fun Me21 r H => by
        refine jm_go.blk 2 (pc' := 98) (ls' := [some (.ref 39), some (.ref 2), some (.int 1)]) (st' := []) (t' := (jm_S0 L, Me21, J)) (fun _ _ => rfl) ?_
        exact g22_98 L d M J
          _ (fun Me31 r H => by
            have H := Option.some.inj H
            subst H
            exact jm_go.ret 5 (fun _ _ => rfl)
            )
          _ Me21 1 _ H
        )
      _ (jm_up M 39 1 (M 2 0)) 0 _ H
  · refine jm_go.brf 3 (b := decide ((M 39 0) = 0)) (p1 := 9) (l1 := [some (.ref 39), some (.ref 2), none]) (s1 := []) (t1 := (jm_S0 L, M, J)) (p2 := 7) (l2 := [some (.ref 39), some (.ref 2), none]) (s2 := []) (t2 := (jm_S0 L, M, J)) (fun _ _ => rfl) h1 ?_
    have H := Option.some.inj H
    subst H
    exact jm_go.ret 2 (fun _ _ => rfl)
