/-! methods as functions: printed by wip/whole/gen/lay.py (funs.py) -/

/-- X1_isIn -/
def f14 (M : jm_MM) (x0 : Int32) (x1 : Int32) : Option (Int32) := jm_gd (jm_inb ((x0 * 24) + x1) 144) (bif decide ((M 4 (((x0 * 24) + x1).toNatClampNeg)) = (-1)) then (some 0) else (some 1))
set_option maxRecDepth 100000 in
theorem g14 (L : Nat) (d : Nat) (M : jm_MM) (J : jm_JJ) (x0 : Int32) (x1 : Int32) (r : Int32) (H : f14 M x0 x1 = some r) : jm_go d (jm_G 14) 0 (jm_en 3 [.ref 2, .int x0, .int x1]) [] (jm_S0 L, M, J) (some (.int r), (jm_S0 L, M, J)) := by
  unfold f14 at H
  obtain ⟨h1, H⟩ := jm_gdo H
  refine jm_go.grd 8 (b := jm_inb ((x0 * 24) + x1) 144) (pc' := 11) (ls' := [some (.ref 2), some (.int x0), some (.int x1)]) (st' := [.int (M 4 (((x0 * 24) + x1).toNatClampNeg))]) (t' := (jm_S0 L, M, J)) (fun _ _ => rfl) h1 ?_
  rcases jm_bro H with ⟨h2, H⟩ | ⟨h2, H⟩
  · refine jm_go.brt 2 (b := decide ((M 4 (((x0 * 24) + x1).toNatClampNeg)) = (-1))) (p1 := 19) (l1 := [some (.ref 2), some (.int x0), some (.int x1)]) (s1 := []) (t1 := (jm_S0 L, M, J)) (p2 := 15) (l2 := [some (.ref 2), some (.int x0), some (.int x1)]) (s2 := []) (t2 := (jm_S0 L, M, J)) (fun _ _ => rfl) h2 ?_
    have H := Option.some.inj H
    subst H
    exact jm_go.retz 2 (b := jm_z1 0) (fun _ _ => rfl) rfl
  · refine jm_go.brf 2 (b := decide ((M 4 (((x0 * 24) + x1).toNatClampNeg)) = (-1))) (p1 := 19) (l1 := [some (.ref 2), some (.int x0), some (.int x1)]) (s1 := []) (t1 := (jm_S0 L, M, J)) (p2 := 15) (l2 := [some (.ref 2), some (.int x0), some (.int x1)]) (s2 := []) (t2 := (jm_S0 L, M, J)) (fun _ _ => rfl) h2 ?_
    have H := Option.some.inj H
    subst H
    exact jm_go.retz 3 (b := jm_z1 1) (fun _ _ => rfl) rfl


/-- X1_xOf -/
def f15 (M : jm_MM) (x0 : Int32) (x1 : Int32) : Option (Int32) := jm_gd (jm_inb ((x0 * 24) + x1) 144) (some ((M 4 (((x0 * 24) + x1).toNatClampNeg)) / 64))
set_option maxRecDepth 100000 in
theorem g15 (L : Nat) (d : Nat) (M : jm_MM) (J : jm_JJ) (x0 : Int32) (x1 : Int32) (r : Int32) (H : f15 M x0 x1 = some r) : jm_go d (jm_G 15) 0 (jm_en 3 [.ref 2, .int x0, .int x1]) [] (jm_S0 L, M, J) (some (.int r), (jm_S0 L, M, J)) := by
  unfold f15 at H
  obtain ⟨h1, H⟩ := jm_gdo H
  refine jm_go.grd 8 (b := jm_inb ((x0 * 24) + x1) 144) (pc' := 11) (ls' := [some (.ref 2), some (.int x0), some (.int x1)]) (st' := [.int (M 4 (((x0 * 24) + x1).toNatClampNeg))]) (t' := (jm_S0 L, M, J)) (fun _ _ => rfl) h1 ?_
  have H := Option.some.inj H
  subst H
  exact jm_go.ret 3 (fun _ _ => rfl)


/-- X1_yOf -/
def f16 (M : jm_MM) (x0 : Int32) (x1 : Int32) : Option (Int32) := jm_gd (jm_inb ((x0 * 24) + x1) 144) (some ((M 4 (((x0 * 24) + x1).toNatClampNeg)) - (M 4 (((x0 * 24) + x1).toNatClampNeg)) / 64 * 64))
set_option maxRecDepth 100000 in
theorem g16 (L : Nat) (d : Nat) (M : jm_MM) (J : jm_JJ) (x0 : Int32) (x1 : Int32) (r : Int32) (H : f16 M x0 x1 = some r) : jm_go d (jm_G 16) 0 (jm_en 3 [.ref 2, .int x0, .int x1]) [] (jm_S0 L, M, J) (some (.int r), (jm_S0 L, M, J)) := by
  unfold f16 at H
  obtain ⟨h1, H⟩ := jm_gdo H
  refine jm_go.grd 8 (b := jm_inb ((x0 * 24) + x1) 144) (pc' := 11) (ls' := [some (.ref 2), some (.int x0), some (.int x1)]) (st' := [.int (M 4 (((x0 * 24) + x1).toNatClampNeg))]) (t' := (jm_S0 L, M, J)) (fun _ _ => rfl) h1 ?_
  have H := Option.some.inj H
  subst H
  exact jm_go.ret 3 (fun _ _ => rfl)


/-- X1_way -/
def f17 (M : jm_MM) (x0 : Int32) (x1 : Int32) (x2 : Int32) (x3 : Int32) : Option (Int32) := jm_bd (f15 M x0 x1) (fun q1 => jm_bd (f16 M x0 x1) (fun q3 => some (((q1 - x2) * (q1 - x2)) + ((q3 - x3) * (q3 - x3)))))
set_option maxRecDepth 100000 in
theorem g17 (L : Nat) (d : Nat) (M : jm_MM) (J : jm_JJ) (x0 : Int32) (x1 : Int32) (x2 : Int32) (x3 : Int32) (r : Int32) (H : f17 M x0 x1 x2 x3 = some r) : jm_go (d + 1) (jm_G 17) 0 (jm_en 7 [.ref 2, .int x0, .int x1, .int x2, .int x3]) [] (jm_S0 L, M, J) (some (.int r), (jm_S0 L, M, J)) := by
  unfold f17 at H
  obtain ⟨q1, h2, H⟩ := jm_bdo H
  refine jm_go.call 4 (d := d) (b := true) (u := 15) (as := [.ref 2, .int x0, .int x1]) (pc' := 6) (ls' := [some (.ref 2), some (.int x0), some (.int x1), some (.int x2), some (.int x3), none, none]) (st' := []) (t' := (jm_S0 L, M, J)) (fun _ _ => rfl) rfl rfl (g15 L d M J x0 x1 _ h2) ?_
  obtain ⟨q3, h4, H⟩ := jm_bdo H
  refine jm_go.call 7 (d := d) (b := true) (u := 16) (as := [.ref 2, .int x0, .int x1]) (pc' := 16) (ls' := [some (.ref 2), some (.int x0), some (.int x1), some (.int x2), some (.int x3), some (.int (q1 - x2)), none]) (st' := []) (t' := (jm_S0 L, M, J)) (fun _ _ => rfl) rfl rfl (g16 L d M J x0 x1 _ h4) ?_
  have H := Option.some.inj H
  subst H
  exact jm_go.ret 11 (fun _ _ => rfl)

def f2_19 (a0 : Nat) (ke0 : jm_MM → Option (jm_MM)) : Nat → jm_MM → Int32 → Int32 → Int32 → Int32 → Int32 → Int32 → Option (jm_MM)
  | 0, _, _, _, _, _, _, _ => none
  | n0 + 1, M, v2, v3, v4, v5, v6, v7 => bif decide (v3 ≤ v7) then (ke0 M) else (jm_bd (f14 M v2 v7) (fun q6 => bif decide (q6 = 0) then ((f2_19 a0 ke0 n0) M v2 v3 v4 v5 v6 (v7 + 1)) else (jm_bd (f17 M v2 v7 v5 v6) (fun q9 => bif decide (v4 < q9) then ((f2_19 a0 ke0 n0) M v2 v3 v4 v5 v6 (v7 + 1)) else (jm_gd (jm_inb v3 24) (jm_gd (jm_inb v3 24) (jm_gd (jm_inb v7 24) (jm_gd (jm_inb v7 24) ((f2_19 a0 ke0 n0) (jm_up (jm_up (jm_up M (a0 + 1) v3.toNatClampNeg ((M (a0 + 1) v3.toNatClampNeg) ||| (1 <<< (v7 &&& 31)))) (a0 + 1) v7.toNatClampNeg (((jm_up M (a0 + 1) v3.toNatClampNeg ((M (a0 + 1) v3.toNatClampNeg) ||| (1 <<< (v7 &&& 31)))) (a0 + 1) v7.toNatClampNeg) ||| (1 <<< (v3 &&& 31)))) a0 0 (((jm_up (jm_up M (a0 + 1) v3.toNatClampNeg ((M (a0 + 1) v3.toNatClampNeg) ||| (1 <<< (v7 &&& 31)))) (a0 + 1) v7.toNatClampNeg (((jm_up M (a0 + 1) v3.toNatClampNeg ((M (a0 + 1) v3.toNatClampNeg) ||| (1 <<< (v7 &&& 31)))) (a0 + 1) v7.toNatClampNeg) ||| (1 <<< (v3 &&& 31)))) a0 0) + 1)) v2 v3 v4 v5 v6 (v7 + 1))))))))))
set_option maxRecDepth 100000 in
theorem g2_19 (L : Nat) (d : Nat) (_M : jm_MM) (J : jm_JJ) (a0 : Nat) (ha0 : jm_isC a0) (ke0 : jm_MM → Option (jm_MM)) (hke0 : ∀ (M : jm_MM) (r : jm_MM), ke0 M = some r → jm_go (d + 2) (jm_G 2) 93 [none, none, none, none, none, none, none, none] [] (jm_S0 L, M, J) (none, (jm_S0 L, r, J))) : ∀ (n0 : Nat) (M : jm_MM) (v2 : Int32) (v3 : Int32) (v4 : Int32) (v5 : Int32) (v6 : Int32) (v7 : Int32) (r : jm_MM), f2_19 a0 ke0 n0 M v2 v3 v4 v5 v6 v7 = some r → jm_go (d + 2) (jm_G 2) 19 [some (.ref a0), some (.ref 2), some (.int v2), some (.int v3), some (.int v4), some (.int v5), some (.int v6), some (.int v7)] [] (jm_S0 L, M, J) (none, (jm_S0 L, r, J)) := by
  intro n0
  induction n0 with
  | zero => intro M v2 v3 v4 v5 v6 v7 r H; cases H
  | succ n0 ih =>
    intro M v2 v3 v4 v5 v6 v7 r H
    have hkb := ih
    unfold f2_19 at H
    rcases jm_bro H with ⟨h5, H⟩ | ⟨h5, H⟩
    · refine jm_go.brt 3 (b := decide (v3 ≤ v7)) (p1 := 93) (l1 := [some (.ref a0), some (.ref 2), some (.int v2), some (.int v3), some (.int v4), some (.int v5), some (.int v6), some (.int v7)]) (s1 := []) (t1 := (jm_S0 L, M, J)) (p2 := 25) (l2 := [some (.ref a0), some (.ref 2), some (.int v2), some (.int v3), some (.int v4), some (.int v5), some (.int v6), some (.int v7)]) (s2 := []) (t2 := (jm_S0 L, M, J)) (fun _ _ => rfl) h5 ?_
      refine jm_go.lab (ls' := [none, none, none, none, none, none, none, none]) (fun i hi => by cases hi; rfl) ?_
      exact hke0 M _ H
    · refine jm_go.brf 3 (b := decide (v3 ≤ v7)) (p1 := 93) (l1 := [some (.ref a0), some (.ref 2), some (.int v2), some (.int v3), some (.int v4), some (.int v5), some (.int v6), some (.int v7)]) (s1 := []) (t1 := (jm_S0 L, M, J)) (p2 := 25) (l2 := [some (.ref a0), some (.ref 2), some (.int v2), some (.int v3), some (.int v4), some (.int v5), some (.int v6), some (.int v7)]) (s2 := []) (t2 := (jm_S0 L, M, J)) (fun _ _ => rfl) h5 ?_
      obtain ⟨q6, h7, H⟩ := jm_bdo H
      refine jm_go.call 4 (d := d + 1) (b := true) (u := 14) (as := [.ref 2, .int v2, .int v7]) (pc' := 32) (ls' := [some (.ref a0), some (.ref 2), some (.int v2), some (.int v3), some (.int v4), some (.int v5), some (.int v6), some (.int v7)]) (st' := []) (t' := (jm_S0 L, M, J)) (fun _ _ => rfl) rfl rfl (g14 L (d + 1) M J v2 v7 _ h7) ?_
      rcases jm_bro H with ⟨h8, H⟩ | ⟨h8, H⟩
      · refine jm_go.brt 1 (b := decide (q6 = 0)) (p1 := 87) (l1 := [some (.ref a0), some (.ref 2), some (.int v2), some (.int v3), some (.int v4), some (.int v5), some (.int v6), some (.int v7)]) (s1 := []) (t1 := (jm_S0 L, M, J)) (p2 := 35) (l2 := [some (.ref a0), some (.ref 2), some (.int v2), some (.int v3), some (.int v4), some (.int v5), some (.int v6), some (.int v7)]) (s2 := []) (t2 := (jm_S0 L, M, J)) (fun _ _ => rfl) h8 ?_
        refine jm_go.blk 2 (pc' := 19) (ls' := [some (.ref a0), some (.ref 2), some (.int v2), some (.int v3), some (.int v4), some (.int v5), some (.int v6), some (.int (v7 + 1))]) (st' := []) (t' := (jm_S0 L, M, J)) (fun _ _ => rfl) ?_
        exact hkb M v2 v3 v4 v5 v6 (v7 + 1) _ H
      · refine jm_go.brf 1 (b := decide (q6 = 0)) (p1 := 87) (l1 := [some (.ref a0), some (.ref 2), some (.int v2), some (.int v3), some (.int v4), some (.int v5), some (.int v6), some (.int v7)]) (s1 := []) (t1 := (jm_S0 L, M, J)) (p2 := 35) (l2 := [some (.ref a0), some (.ref 2), some (.int v2), some (.int v3), some (.int v4), some (.int v5), some (.int v6), some (.int v7)]) (s2 := []) (t2 := (jm_S0 L, M, J)) (fun _ _ => rfl) h8 ?_
        obtain ⟨q9, h10, H⟩ := jm_bdo H
        refine jm_go.call 6 (d := d + 1) (b := true) (u := 17) (as := [.ref 2, .int v2, .int v7, .int v5, .int v6]) (pc' := 46) (ls' := [some (.ref a0), some (.ref 2), some (.int v2), some (.int v3), some (.int v4), some (.int v5), some (.int v6), some (.int v7)]) (st' := []) (t' := (jm_S0 L, M, J)) (fun _ _ => rfl) rfl rfl (g17 L d M J v2 v7 v5 v6 _ h10) ?_
        rcases jm_bro H with ⟨h11, H⟩ | ⟨h11, H⟩
        · refine jm_go.brt 2 (b := decide (v4 < q9)) (p1 := 87) (l1 := [some (.ref a0), some (.ref 2), some (.int v2), some (.int v3), some (.int v4), some (.int v5), some (.int v6), some (.int v7)]) (s1 := []) (t1 := (jm_S0 L, M, J)) (p2 := 51) (l2 := [some (.ref a0), some (.ref 2), some (.int v2), some (.int v3), some (.int v4), some (.int v5), some (.int v6), some (.int v7)]) (s2 := []) (t2 := (jm_S0 L, M, J)) (fun _ _ => rfl) h11 ?_
          refine jm_go.blk 2 (pc' := 19) (ls' := [some (.ref a0), some (.ref 2), some (.int v2), some (.int v3), some (.int v4), some (.int v5), some (.int v6), some (.int (v7 + 1))]) (st' := []) (t' := (jm_S0 L, M, J)) (fun _ _ => rfl) ?_
          exact hkb M v2 v3 v4 v5 v6 (v7 + 1) _ H
        · refine jm_go.brf 2 (b := decide (v4 < q9)) (p1 := 87) (l1 := [some (.ref a0), some (.ref 2), some (.int v2), some (.int v3), some (.int v4), some (.int v5), some (.int v6), some (.int v7)]) (s1 := []) (t1 := (jm_S0 L, M, J)) (p2 := 51) (l2 := [some (.ref a0), some (.ref 2), some (.int v2), some (.int v3), some (.int v4), some (.int v5), some (.int v6), some (.int v7)]) (s2 := []) (t2 := (jm_S0 L, M, J)) (fun _ _ => rfl) h11 ?_
          refine jm_go.gfr 2 (b := jm_is (jm_S0 L) a0 0) (o := (jm_S0 L).2.2.2.2 a0 2) (q := a0 + 1) (pc' := 55) (ls' := [some (.ref a0), some (.ref 2), some (.int v2), some (.int v3), some (.int v4), some (.int v5), some (.int v6), some (.int v7)]) (st' := []) (t' := (jm_S0 L, M, J)) (fun _ _ => rfl) (jm_fC L ha0) (jm_rC1 L ha0) ?_
          obtain ⟨h12, H⟩ := jm_gdo H
          refine jm_go.grd 3 (b := ((Nat.beq 0 1 && Nat.beq (a0 + 1) 0) || (Nat.beq 0 0 && jm_is (jm_S0 L) (a0 + 1) 9)) && jm_inb v3 ((jm_S0 L).2.2.2.1 (a0 + 1))) (pc' := 58) (ls' := [some (.ref a0), some (.ref 2), some (.int v2), some (.int v3), some (.int v4), some (.int v5), some (.int v6), some (.int v7)]) (st' := [.int (M (a0 + 1) v3.toNatClampNeg), .int v3, .ref (a0 + 1)]) (t' := (jm_S0 L, M, J)) (fun _ _ => rfl) (jm_gia (jm_fC1 L ha0) h12) ?_
          obtain ⟨h13, H⟩ := jm_gdo H
          refine jm_go.grd 5 (b := jm_is (jm_S0 L) (a0 + 1) 9 && jm_inb v3 ((jm_S0 L).2.2.2.1 (a0 + 1))) (pc' := 64) (ls' := [some (.ref a0), some (.ref 2), some (.int v2), some (.int v3), some (.int v4), some (.int v5), some (.int v6), some (.int v7)]) (st' := []) (t' := (jm_S0 L, (jm_up M (a0 + 1) v3.toNatClampNeg ((M (a0 + 1) v3.toNatClampNeg) ||| (1 <<< (v7 &&& 31)))), J)) (fun _ _ => rfl) (jm_gis (jm_fC1 L ha0) h13) ?_
          refine jm_go.gfr 2 (b := jm_is (jm_S0 L) a0 0) (o := (jm_S0 L).2.2.2.2 a0 2) (q := a0 + 1) (pc' := 68) (ls' := [some (.ref a0), some (.ref 2), some (.int v2), some (.int v3), some (.int v4), some (.int v5), some (.int v6), some (.int v7)]) (st' := []) (t' := (jm_S0 L, (jm_up M (a0 + 1) v3.toNatClampNeg ((M (a0 + 1) v3.toNatClampNeg) ||| (1 <<< (v7 &&& 31)))), J)) (fun _ _ => rfl) (jm_fC L ha0) (jm_rC1 L ha0) ?_
          obtain ⟨h14, H⟩ := jm_gdo H
          refine jm_go.grd 3 (b := ((Nat.beq 0 1 && Nat.beq (a0 + 1) 0) || (Nat.beq 0 0 && jm_is (jm_S0 L) (a0 + 1) 9)) && jm_inb v7 ((jm_S0 L).2.2.2.1 (a0 + 1))) (pc' := 72) (ls' := [some (.ref a0), some (.ref 2), some (.int v2), some (.int v3), some (.int v4), some (.int v5), some (.int v6), some (.int v7)]) (st' := [.int ((jm_up M (a0 + 1) v3.toNatClampNeg ((M (a0 + 1) v3.toNatClampNeg) ||| (1 <<< (v7 &&& 31)))) (a0 + 1) v7.toNatClampNeg), .int v7, .ref (a0 + 1)]) (t' := (jm_S0 L, (jm_up M (a0 + 1) v3.toNatClampNeg ((M (a0 + 1) v3.toNatClampNeg) ||| (1 <<< (v7 &&& 31)))), J)) (fun _ _ => rfl) (jm_gia (jm_fC1 L ha0) h14) ?_
          obtain ⟨h15, H⟩ := jm_gdo H
          refine jm_go.grd 5 (b := jm_is (jm_S0 L) (a0 + 1) 9 && jm_inb v7 ((jm_S0 L).2.2.2.1 (a0 + 1))) (pc' := 77) (ls' := [some (.ref a0), some (.ref 2), some (.int v2), some (.int v3), some (.int v4), some (.int v5), some (.int v6), some (.int v7)]) (st' := []) (t' := (jm_S0 L, (jm_up (jm_up M (a0 + 1) v3.toNatClampNeg ((M (a0 + 1) v3.toNatClampNeg) ||| (1 <<< (v7 &&& 31)))) (a0 + 1) v7.toNatClampNeg (((jm_up M (a0 + 1) v3.toNatClampNeg ((M (a0 + 1) v3.toNatClampNeg) ||| (1 <<< (v7 &&& 31)))) (a0 + 1) v7.toNatClampNeg) ||| (1 <<< (v3 &&& 31)))), J)) (fun _ _ => rfl) (jm_gis (jm_fC1 L ha0) h15) ?_
          refine jm_go.grd 3 (b := jm_is (jm_S0 L) a0 0) (pc' := 82) (ls' := [some (.ref a0), some (.ref 2), some (.int v2), some (.int v3), some (.int v4), some (.int v5), some (.int v6), some (.int v7)]) (st' := [.int ((jm_up (jm_up M (a0 + 1) v3.toNatClampNeg ((M (a0 + 1) v3.toNatClampNeg) ||| (1 <<< (v7 &&& 31)))) (a0 + 1) v7.toNatClampNeg (((jm_up M (a0 + 1) v3.toNatClampNeg ((M (a0 + 1) v3.toNatClampNeg) ||| (1 <<< (v7 &&& 31)))) (a0 + 1) v7.toNatClampNeg) ||| (1 <<< (v3 &&& 31)))) a0 0), .ref a0]) (t' := (jm_S0 L, (jm_up (jm_up M (a0 + 1) v3.toNatClampNeg ((M (a0 + 1) v3.toNatClampNeg) ||| (1 <<< (v7 &&& 31)))) (a0 + 1) v7.toNatClampNeg (((jm_up M (a0 + 1) v3.toNatClampNeg ((M (a0 + 1) v3.toNatClampNeg) ||| (1 <<< (v7 &&& 31)))) (a0 + 1) v7.toNatClampNeg) ||| (1 <<< (v3 &&& 31)))), J)) (fun _ _ => rfl) (jm_fC L ha0) ?_
          refine jm_go.grd 3 (b := jm_is (jm_S0 L) a0 0) (pc' := 87) (ls' := [some (.ref a0), some (.ref 2), some (.int v2), some (.int v3), some (.int v4), some (.int v5), some (.int v6), some (.int v7)]) (st' := []) (t' := (jm_S0 L, (jm_up (jm_up (jm_up M (a0 + 1) v3.toNatClampNeg ((M (a0 + 1) v3.toNatClampNeg) ||| (1 <<< (v7 &&& 31)))) (a0 + 1) v7.toNatClampNeg (((jm_up M (a0 + 1) v3.toNatClampNeg ((M (a0 + 1) v3.toNatClampNeg) ||| (1 <<< (v7 &&& 31)))) (a0 + 1) v7.toNatClampNeg) ||| (1 <<< (v3 &&& 31)))) a0 0 (((jm_up (jm_up M (a0 + 1) v3.toNatClampNeg ((M (a0 + 1) v3.toNatClampNeg) ||| (1 <<< (v7 &&& 31)))) (a0 + 1) v7.toNatClampNeg (((jm_up M (a0 + 1) v3.toNatClampNeg ((M (a0 + 1) v3.toNatClampNeg) ||| (1 <<< (v7 &&& 31)))) (a0 + 1) v7.toNatClampNeg) ||| (1 <<< (v3 &&& 31)))) a0 0) + 1)), J)) (fun _ _ => rfl) (jm_fC L ha0) ?_
          refine jm_go.blk 2 (pc' := 19) (ls' := [some (.ref a0), some (.ref 2), some (.int v2), some (.int v3), some (.int v4), some (.int v5), some (.int v6), some (.int (v7 + 1))]) (st' := []) (t' := (jm_S0 L, (jm_up (jm_up (jm_up M (a0 + 1) v3.toNatClampNeg ((M (a0 + 1) v3.toNatClampNeg) ||| (1 <<< (v7 &&& 31)))) (a0 + 1) v7.toNatClampNeg (((jm_up M (a0 + 1) v3.toNatClampNeg ((M (a0 + 1) v3.toNatClampNeg) ||| (1 <<< (v7 &&& 31)))) (a0 + 1) v7.toNatClampNeg) ||| (1 <<< (v3 &&& 31)))) a0 0 (((jm_up (jm_up M (a0 + 1) v3.toNatClampNeg ((M (a0 + 1) v3.toNatClampNeg) ||| (1 <<< (v7 &&& 31)))) (a0 + 1) v7.toNatClampNeg (((jm_up M (a0 + 1) v3.toNatClampNeg ((M (a0 + 1) v3.toNatClampNeg) ||| (1 <<< (v7 &&& 31)))) (a0 + 1) v7.toNatClampNeg) ||| (1 <<< (v3 &&& 31)))) a0 0) + 1)), J)) (fun _ _ => rfl) ?_
          exact hkb (jm_up (jm_up (jm_up M (a0 + 1) v3.toNatClampNeg ((M (a0 + 1) v3.toNatClampNeg) ||| (1 <<< (v7 &&& 31)))) (a0 + 1) v7.toNatClampNeg (((jm_up M (a0 + 1) v3.toNatClampNeg ((M (a0 + 1) v3.toNatClampNeg) ||| (1 <<< (v7 &&& 31)))) (a0 + 1) v7.toNatClampNeg) ||| (1 <<< (v3 &&& 31)))) a0 0 (((jm_up (jm_up M (a0 + 1) v3.toNatClampNeg ((M (a0 + 1) v3.toNatClampNeg) ||| (1 <<< (v7 &&& 31)))) (a0 + 1) v7.toNatClampNeg (((jm_up M (a0 + 1) v3.toNatClampNeg ((M (a0 + 1) v3.toNatClampNeg) ||| (1 <<< (v7 &&& 31)))) (a0 + 1) v7.toNatClampNeg) ||| (1 <<< (v3 &&& 31)))) a0 0) + 1)) v2 v3 v4 v5 v6 (v7 + 1) _ H

/-- X0_linkToLesser -/
def f2 (M : jm_MM) (a0 : Nat) (x1 : Int32) (x2 : Int32) (x3 : Int32) : Option (jm_MM) := jm_bd (f15 M x1 x2) (fun q1 => jm_bd (f16 M x1 x2) (fun q3 => f2_19 a0 (fun Me16 => some Me16) jm_F M x1 x2 x3 q1 q3 0))
set_option maxRecDepth 100000 in
theorem g2 (L : Nat) (d : Nat) (M : jm_MM) (J : jm_JJ) (a0 : Nat) (ha0 : jm_isC a0) (x1 : Int32) (x2 : Int32) (x3 : Int32) (r : jm_MM) (H : f2 M a0 x1 x2 x3 = some r) : jm_go (d + 2) (jm_G 2) 0 (jm_en 8 [.ref a0, .ref 2, .int x1, .int x2, .int x3]) [] (jm_S0 L, M, J) (none, (jm_S0 L, r, J)) := by
  unfold f2 at H
  obtain ⟨q1, h2, H⟩ := jm_bdo H
  refine jm_go.call 4 (d := d + 1) (b := true) (u := 15) (as := [.ref 2, .int x1, .int x2]) (pc' := 6) (ls' := [some (.ref a0), some (.ref 2), some (.int x1), some (.int x2), some (.int x3), none, none, none]) (st' := []) (t' := (jm_S0 L, M, J)) (fun _ _ => rfl) rfl rfl (g15 L (d + 1) M J x1 x2 _ h2) ?_
  obtain ⟨q3, h4, H⟩ := jm_bdo H
  refine jm_go.call 5 (d := d + 1) (b := true) (u := 16) (as := [.ref 2, .int x1, .int x2]) (pc' := 14) (ls' := [some (.ref a0), some (.ref 2), some (.int x1), some (.int x2), some (.int x3), some (.int q1), none, none]) (st' := []) (t' := (jm_S0 L, M, J)) (fun _ _ => rfl) rfl rfl (g16 L (d + 1) M J x1 x2 _ h4) ?_
  refine jm_go.blk 3 (pc' := 19) (ls' := [some (.ref a0), some (.ref 2), some (.int x1), some (.int x2), some (.int x3), some (.int q1), some (.int q3), some (.int 0)]) (st' := []) (t' := (jm_S0 L, M, J)) (fun _ _ => rfl) ?_
  exact g2_19 L d M J a0 ha0
    _ (fun Me16 r H => by
      have H := Option.some.inj H
      subst H
      exact jm_go.ret 1 (fun _ _ => rfl)
      )
    _ M x1 x2 x3 q1 q3 0 _ H

def f1_16 (a0 : Nat) (ke0 : jm_MM → Option (jm_MM)) : Nat → jm_MM → Int32 → Int32 → Int32 → Option (jm_MM)
  | 0, _, _, _, _ => none
  | n0 + 1, M, v2, v3, v4 => bif decide (24 ≤ v4) then (ke0 M) else (jm_bd (f14 M v2 v4) (fun q4 => bif decide (q4 = 0) then ((f1_16 a0 ke0 n0) M v2 v3 (v4 + 1)) else (jm_bd (f2 M a0 v2 v4 (v3 * v3)) (fun q7 => (f1_16 a0 ke0 n0) q7 v2 v3 (v4 + 1)))))
set_option maxRecDepth 100000 in
theorem g1_16 (L : Nat) (d : Nat) (_M : jm_MM) (J : jm_JJ) (a0 : Nat) (ha0 : jm_isC a0) (ke0 : jm_MM → Option (jm_MM)) (hke0 : ∀ (M : jm_MM) (r : jm_MM), ke0 M = some r → jm_go (d + 3) (jm_G 1) 50 [none, none, none, none, none] [] (jm_S0 L, M, J) (none, (jm_S0 L, r, J))) : ∀ (n0 : Nat) (M : jm_MM) (v2 : Int32) (v3 : Int32) (v4 : Int32) (r : jm_MM), f1_16 a0 ke0 n0 M v2 v3 v4 = some r → jm_go (d + 3) (jm_G 1) 16 [some (.ref a0), some (.ref 2), some (.int v2), some (.int v3), some (.int v4)] [] (jm_S0 L, M, J) (none, (jm_S0 L, r, J)) := by
  intro n0
  induction n0 with
  | zero => intro M v2 v3 v4 r H; cases H
  | succ n0 ih =>
    intro M v2 v3 v4 r H
    have hkb := ih
    unfold f1_16 at H
    rcases jm_bro H with ⟨h3, H⟩ | ⟨h3, H⟩
    · refine jm_go.brt 3 (b := decide (24 ≤ v4)) (p1 := 50) (l1 := [some (.ref a0), some (.ref 2), some (.int v2), some (.int v3), some (.int v4)]) (s1 := []) (t1 := (jm_S0 L, M, J)) (p2 := 23) (l2 := [some (.ref a0), some (.ref 2), some (.int v2), some (.int v3), some (.int v4)]) (s2 := []) (t2 := (jm_S0 L, M, J)) (fun _ _ => rfl) h3 ?_
      refine jm_go.lab (ls' := [none, none, none, none, none]) (fun i hi => by cases hi; rfl) ?_
      exact hke0 M _ H
    · refine jm_go.brf 3 (b := decide (24 ≤ v4)) (p1 := 50) (l1 := [some (.ref a0), some (.ref 2), some (.int v2), some (.int v3), some (.int v4)]) (s1 := []) (t1 := (jm_S0 L, M, J)) (p2 := 23) (l2 := [some (.ref a0), some (.ref 2), some (.int v2), some (.int v3), some (.int v4)]) (s2 := []) (t2 := (jm_S0 L, M, J)) (fun _ _ => rfl) h3 ?_
      obtain ⟨q4, h5, H⟩ := jm_bdo H
      refine jm_go.call 4 (d := d + 2) (b := true) (u := 14) (as := [.ref 2, .int v2, .int v4]) (pc' := 30) (ls' := [some (.ref a0), some (.ref 2), some (.int v2), some (.int v3), some (.int v4)]) (st' := []) (t' := (jm_S0 L, M, J)) (fun _ _ => rfl) rfl rfl (g14 L (d + 2) M J v2 v4 _ h5) ?_
      rcases jm_bro H with ⟨h6, H⟩ | ⟨h6, H⟩
      · refine jm_go.brt 1 (b := decide (q4 = 0)) (p1 := 44) (l1 := [some (.ref a0), some (.ref 2), some (.int v2), some (.int v3), some (.int v4)]) (s1 := []) (t1 := (jm_S0 L, M, J)) (p2 := 33) (l2 := [some (.ref a0), some (.ref 2), some (.int v2), some (.int v3), some (.int v4)]) (s2 := []) (t2 := (jm_S0 L, M, J)) (fun _ _ => rfl) h6 ?_
        refine jm_go.blk 2 (pc' := 16) (ls' := [some (.ref a0), some (.ref 2), some (.int v2), some (.int v3), some (.int (v4 + 1))]) (st' := []) (t' := (jm_S0 L, M, J)) (fun _ _ => rfl) ?_
        exact hkb M v2 v3 (v4 + 1) _ H
      · refine jm_go.brf 1 (b := decide (q4 = 0)) (p1 := 44) (l1 := [some (.ref a0), some (.ref 2), some (.int v2), some (.int v3), some (.int v4)]) (s1 := []) (t1 := (jm_S0 L, M, J)) (p2 := 33) (l2 := [some (.ref a0), some (.ref 2), some (.int v2), some (.int v3), some (.int v4)]) (s2 := []) (t2 := (jm_S0 L, M, J)) (fun _ _ => rfl) h6 ?_
        obtain ⟨q7, h8, H⟩ := jm_bdo H
        refine jm_go.call 8 (d := d + 2) (b := jm_is (jm_S0 L) a0 0) (u := 2) (as := [.ref a0, .ref 2, .int v2, .int v4, .int (v3 * v3)]) (pc' := 44) (ls' := [some (.ref a0), some (.ref 2), some (.int v2), some (.int v3), some (.int v4)]) (st' := []) (t' := (jm_S0 L, M, J)) (fun _ _ => rfl) (jm_fC L ha0) rfl (g2 L d M J a0 ha0 v2 v4 (v3 * v3) _ h8) ?_
        refine jm_go.blk 2 (pc' := 16) (ls' := [some (.ref a0), some (.ref 2), some (.int v2), some (.int v3), some (.int (v4 + 1))]) (st' := []) (t' := (jm_S0 L, q7, J)) (fun _ _ => rfl) ?_
        exact hkb q7 v2 v3 (v4 + 1) _ H

/-- X0_link -/
def f1 (M : jm_MM) (a0 : Nat) (x1 : Int32) (x2 : Int32) : Option (jm_MM) := jm_bd (f165 (jm_up M a0 0 0) (a0 + 1) 24 0) (fun q1 => f1_16 a0 (fun Me9 => some Me9) jm_F q1 x1 x2 0)
set_option maxRecDepth 100000 in
theorem g1 (L : Nat) (d : Nat) (M : jm_MM) (J : jm_JJ) (a0 : Nat) (ha0 : jm_isC a0) (x1 : Int32) (x2 : Int32) (r : jm_MM) (H : f1 M a0 x1 x2 = some r) : jm_go (d + 3) (jm_G 1) 0 (jm_en 5 [.ref a0, .ref 2, .int x1, .int x2]) [] (jm_S0 L, M, J) (none, (jm_S0 L, r, J)) := by
  unfold f1 at H
  refine jm_go.grd 3 (b := jm_is (jm_S0 L) a0 0) (pc' := 5) (ls' := [some (.ref a0), some (.ref 2), some (.int x1), some (.int x2), none]) (st' := []) (t' := (jm_S0 L, (jm_up M a0 0 0), J)) (fun _ _ => rfl) (jm_fC L ha0) ?_
  refine jm_go.gfr 2 (b := jm_is (jm_S0 L) a0 0) (o := (jm_S0 L).2.2.2.2 a0 2) (q := a0 + 1) (pc' := 9) (ls' := [some (.ref a0), some (.ref 2), some (.int x1), some (.int x2), none]) (st' := []) (t' := (jm_S0 L, (jm_up M a0 0 0), J)) (fun _ _ => rfl) (jm_fC L ha0) (jm_rC1 L ha0) ?_
  obtain ⟨q1, h2, H⟩ := jm_bdo H
  refine jm_go.call 2 (d := d + 2) (b := true) (u := 165) (as := [.ref (a0 + 1), .int 0]) (pc' := 13) (ls' := [some (.ref a0), some (.ref 2), some (.int x1), some (.int x2), none]) (st' := []) (t' := (jm_S0 L, (jm_up M a0 0 0), J)) (fun _ _ => rfl) rfl rfl (g165 L (d + 2) (jm_up M a0 0 0) J (a0 + 1) 0 (jm_fC1 L ha0) h2) ?_
  refine jm_go.blk 2 (pc' := 16) (ls' := [some (.ref a0), some (.ref 2), some (.int x1), some (.int x2), some (.int 0)]) (st' := []) (t' := (jm_S0 L, q1, J)) (fun _ _ => rfl) ?_
  exact g1_16 L d M J a0 ha0
    _ (fun Me9 r H => by
      have H := Option.some.inj H
      subst H
      exact jm_go.ret 1 (fun _ _ => rfl)
      )
    _ q1 x1 x2 0 _ H


/-- X7_has -/
def f87 (M : jm_MM) (x0 : Int32) (x1 : Int32) : Option (Int32) := bif decide (((x0 >>> (x1 &&& 31)) &&& 1) = 0) then (some 0) else (some 1)
set_option maxRecDepth 100000 in
theorem g87 (L : Nat) (d : Nat) (M : jm_MM) (J : jm_JJ) (x0 : Int32) (x1 : Int32) (r : Int32) (H : f87 M x0 x1 = some r) : jm_go d (jm_G 87) 0 (jm_en 2 [.int x0, .int x1]) [] (jm_S0 L, M, J) (some (.int r), (jm_S0 L, M, J)) := by
  unfold f87 at H
  rcases jm_bro H with ⟨h1, H⟩ | ⟨h1, H⟩
  · refine jm_go.brt 6 (b := decide (((x0 >>> (x1 &&& 31)) &&& 1) = 0)) (p1 := 12) (l1 := [some (.int x0), some (.int x1)]) (s1 := []) (t1 := (jm_S0 L, M, J)) (p2 := 8) (l2 := [some (.int x0), some (.int x1)]) (s2 := []) (t2 := (jm_S0 L, M, J)) (fun _ _ => rfl) h1 ?_
    have H := Option.some.inj H
    subst H
    exact jm_go.retz 2 (b := jm_z1 0) (fun _ _ => rfl) rfl
  · refine jm_go.brf 6 (b := decide (((x0 >>> (x1 &&& 31)) &&& 1) = 0)) (p1 := 12) (l1 := [some (.int x0), some (.int x1)]) (s1 := []) (t1 := (jm_S0 L, M, J)) (p2 := 8) (l2 := [some (.int x0), some (.int x1)]) (s2 := []) (t2 := (jm_S0 L, M, J)) (fun _ _ => rfl) h1 ?_
    have H := Option.some.inj H
    subst H
    exact jm_go.retz 3 (b := jm_z1 1) (fun _ _ => rfl) rfl

def f6_4 (M : jm_MM) (a0 : Nat) (ke0 : Int32 → Option (Int32)) : Nat → Int32 → Int32 → Int32 → Option (Int32)
  | 0, _, _, _ => none
  | n0 + 1, v1, v2, v3 => bif decide (24 ≤ v3) then (ke0 v2) else (jm_bd (f87 M v1 v3) (fun q2 => bif decide (q2 = 0) then ((f6_4 M a0 ke0 n0) v1 v2 (v3 + 1)) else (jm_gd (jm_inb v3 24) ((f6_4 M a0 ke0 n0) v1 (v2 ||| (M (a0 + 1) v3.toNatClampNeg)) (v3 + 1)))))
set_option maxRecDepth 100000 in
theorem g6_4 (L : Nat) (d : Nat) (M : jm_MM) (J : jm_JJ) (a0 : Nat) (ha0 : jm_isC a0) (ke0 : Int32 → Option (Int32)) (hke0 : ∀  (v2 : Int32) (r : Int32), ke0 v2 = some r → jm_go (d + 1) (jm_G 6) 33 [none, none, some (.int v2), none] [] (jm_S0 L, M, J) (some (.int r), (jm_S0 L, M, J))) : ∀ (n0 : Nat) (v1 : Int32) (v2 : Int32) (v3 : Int32) (r : Int32), f6_4 M a0 ke0 n0 v1 v2 v3 = some r → jm_go (d + 1) (jm_G 6) 4 [some (.ref a0), some (.int v1), some (.int v2), some (.int v3)] [] (jm_S0 L, M, J) (some (.int r), (jm_S0 L, M, J)) := by
  intro n0
  induction n0 with
  | zero => intro v1 v2 v3 r H; cases H
  | succ n0 ih =>
    intro v1 v2 v3 r H
    have hkb := ih
    unfold f6_4 at H
    rcases jm_bro H with ⟨h1, H⟩ | ⟨h1, H⟩
    · refine jm_go.brt 3 (b := decide (24 ≤ v3)) (p1 := 33) (l1 := [some (.ref a0), some (.int v1), some (.int v2), some (.int v3)]) (s1 := []) (t1 := (jm_S0 L, M, J)) (p2 := 10) (l2 := [some (.ref a0), some (.int v1), some (.int v2), some (.int v3)]) (s2 := []) (t2 := (jm_S0 L, M, J)) (fun _ _ => rfl) h1 ?_
      refine jm_go.lab (ls' := [none, none, some (.int v2), none]) (fun i hi => by cases hi; rfl) ?_
      exact hke0 v2 _ H
    · refine jm_go.brf 3 (b := decide (24 ≤ v3)) (p1 := 33) (l1 := [some (.ref a0), some (.int v1), some (.int v2), some (.int v3)]) (s1 := []) (t1 := (jm_S0 L, M, J)) (p2 := 10) (l2 := [some (.ref a0), some (.int v1), some (.int v2), some (.int v3)]) (s2 := []) (t2 := (jm_S0 L, M, J)) (fun _ _ => rfl) h1 ?_
      obtain ⟨q2, h3, H⟩ := jm_bdo H
      refine jm_go.call 3 (d := d) (b := true) (u := 87) (as := [.int v1, .int v3]) (pc' := 15) (ls' := [some (.ref a0), some (.int v1), some (.int v2), some (.int v3)]) (st' := []) (t' := (jm_S0 L, M, J)) (fun _ _ => rfl) rfl rfl (g87 L d M J v1 v3 _ h3) ?_
      rcases jm_bro H with ⟨h4, H⟩ | ⟨h4, H⟩
      · refine jm_go.brt 1 (b := decide (q2 = 0)) (p1 := 27) (l1 := [some (.ref a0), some (.int v1), some (.int v2), some (.int v3)]) (s1 := []) (t1 := (jm_S0 L, M, J)) (p2 := 18) (l2 := [some (.ref a0), some (.int v1), some (.int v2), some (.int v3)]) (s2 := []) (t2 := (jm_S0 L, M, J)) (fun _ _ => rfl) h4 ?_
        refine jm_go.blk 2 (pc' := 4) (ls' := [some (.ref a0), some (.int v1), some (.int v2), some (.int (v3 + 1))]) (st' := []) (t' := (jm_S0 L, M, J)) (fun _ _ => rfl) ?_
        exact hkb v1 v2 (v3 + 1) _ H
      · refine jm_go.brf 1 (b := decide (q2 = 0)) (p1 := 27) (l1 := [some (.ref a0), some (.int v1), some (.int v2), some (.int v3)]) (s1 := []) (t1 := (jm_S0 L, M, J)) (p2 := 18) (l2 := [some (.ref a0), some (.int v1), some (.int v2), some (.int v3)]) (s2 := []) (t2 := (jm_S0 L, M, J)) (fun _ _ => rfl) h4 ?_
        refine jm_go.gfr 3 (b := jm_is (jm_S0 L) a0 0) (o := (jm_S0 L).2.2.2.2 a0 2) (q := a0 + 1) (pc' := 23) (ls' := [some (.ref a0), some (.int v1), some (.int v2), some (.int v3)]) (st' := [.int v2]) (t' := (jm_S0 L, M, J)) (fun _ _ => rfl) (jm_fC L ha0) (jm_rC1 L ha0) ?_
        obtain ⟨h5, H⟩ := jm_gdo H
        refine jm_go.grd 2 (b := ((Nat.beq 0 1 && Nat.beq (a0 + 1) 0) || (Nat.beq 0 0 && jm_is (jm_S0 L) (a0 + 1) 9)) && jm_inb v3 ((jm_S0 L).2.2.2.1 (a0 + 1))) (pc' := 25) (ls' := [some (.ref a0), some (.int v1), some (.int v2), some (.int v3)]) (st' := [.int (M (a0 + 1) v3.toNatClampNeg), .int v2]) (t' := (jm_S0 L, M, J)) (fun _ _ => rfl) (jm_gia (jm_fC1 L ha0) h5) ?_
        refine jm_go.blk 4 (pc' := 4) (ls' := [some (.ref a0), some (.int v1), some (.int (v2 ||| (M (a0 + 1) v3.toNatClampNeg))), some (.int (v3 + 1))]) (st' := []) (t' := (jm_S0 L, M, J)) (fun _ _ => rfl) ?_
        exact hkb v1 (v2 ||| (M (a0 + 1) v3.toNatClampNeg)) (v3 + 1) _ H

/-- X0_linkedToAny -/
def f6 (M : jm_MM) (a0 : Nat) (x0 : Int32) : Option (Int32) := f6_4 M a0 (fun ve6 => some ve6) jm_F x0 0 0
set_option maxRecDepth 100000 in
theorem g6 (L : Nat) (d : Nat) (M : jm_MM) (J : jm_JJ) (a0 : Nat) (ha0 : jm_isC a0) (x0 : Int32) (r : Int32) (H : f6 M a0 x0 = some r) : jm_go (d + 1) (jm_G 6) 0 (jm_en 4 [.ref a0, .int x0]) [] (jm_S0 L, M, J) (some (.int r), (jm_S0 L, M, J)) := by
  unfold f6 at H
  refine jm_go.blk 4 (pc' := 4) (ls' := [some (.ref a0), some (.int x0), some (.int 0), some (.int 0)]) (st' := []) (t' := (jm_S0 L, M, J)) (fun _ _ => rfl) ?_
  exact g6_4 L d M J a0 ha0
    _ (fun ve6 r H => by
      have H := Option.some.inj H
      subst H
      exact jm_go.ret 2 (fun _ _ => rfl)
      )
    _ x0 0 0 _ H

def f5_10 (M : jm_MM) (a0 : Nat) (ke0 : Int32 → Option (Int32)) : Nat → Int32 → Int32 → Int32 → Int32 → Option (Int32)
  | 0, _, _, _, _ => none
  | n0 + 1, v2, v3, v4, v5 => bif decide (24 ≤ v5) then (ke0 v3) else (bif decide (v4 = 0) then (ke0 v3) else (jm_bd (f6 M a0 v4) (fun q3 => (f5_10 M a0 ke0 n0) v2 (v3 ||| ((q3 &&& v2) &&& (v3 ^^^ (-1)))) ((q3 &&& v2) &&& (v3 ^^^ (-1))) (v5 + 1))))
set_option maxRecDepth 100000 in
theorem g5_10 (L : Nat) (d : Nat) (M : jm_MM) (J : jm_JJ) (a0 : Nat) (ha0 : jm_isC a0) (ke0 : Int32 → Option (Int32)) (hke0 : ∀  (v3 : Int32) (r : Int32), ke0 v3 = some r → jm_go (d + 2) (jm_G 5) 47 [none, none, none, some (.int v3), none, none] [] (jm_S0 L, M, J) (some (.int r), (jm_S0 L, M, J))) : ∀ (n0 : Nat) (v2 : Int32) (v3 : Int32) (v4 : Int32) (v5 : Int32) (r : Int32), f5_10 M a0 ke0 n0 v2 v3 v4 v5 = some r → jm_go (d + 2) (jm_G 5) 10 [some (.ref a0), none, some (.int v2), some (.int v3), some (.int v4), some (.int v5)] [] (jm_S0 L, M, J) (some (.int r), (jm_S0 L, M, J)) := by
  intro n0
  induction n0 with
  | zero => intro v2 v3 v4 v5 r H; cases H
  | succ n0 ih =>
    intro v2 v3 v4 v5 r H
    have hkb := ih
    unfold f5_10 at H
    rcases jm_bro H with ⟨h1, H⟩ | ⟨h1, H⟩
    · refine jm_go.brt 3 (b := decide (24 ≤ v5)) (p1 := 47) (l1 := [some (.ref a0), none, some (.int v2), some (.int v3), some (.int v4), some (.int v5)]) (s1 := []) (t1 := (jm_S0 L, M, J)) (p2 := 17) (l2 := [some (.ref a0), none, some (.int v2), some (.int v3), some (.int v4), some (.int v5)]) (s2 := []) (t2 := (jm_S0 L, M, J)) (fun _ _ => rfl) h1 ?_
      refine jm_go.lab (ls' := [none, none, none, some (.int v3), none, none]) (fun i hi => by cases hi; rfl) ?_
      exact hke0 v3 _ H
    · refine jm_go.brf 3 (b := decide (24 ≤ v5)) (p1 := 47) (l1 := [some (.ref a0), none, some (.int v2), some (.int v3), some (.int v4), some (.int v5)]) (s1 := []) (t1 := (jm_S0 L, M, J)) (p2 := 17) (l2 := [some (.ref a0), none, some (.int v2), some (.int v3), some (.int v4), some (.int v5)]) (s2 := []) (t2 := (jm_S0 L, M, J)) (fun _ _ => rfl) h1 ?_
      rcases jm_bro H with ⟨h2, H⟩ | ⟨h2, H⟩
      · refine jm_go.brt 2 (b := decide (v4 = 0)) (p1 := 47) (l1 := [some (.ref a0), none, some (.int v2), some (.int v3), some (.int v4), some (.int v5)]) (s1 := []) (t1 := (jm_S0 L, M, J)) (p2 := 22) (l2 := [some (.ref a0), none, some (.int v2), some (.int v3), some (.int v4), some (.int v5)]) (s2 := []) (t2 := (jm_S0 L, M, J)) (fun _ _ => rfl) h2 ?_
        refine jm_go.lab (ls' := [none, none, none, some (.int v3), none, none]) (fun i hi => by cases hi; rfl) ?_
        exact hke0 v3 _ H
      · refine jm_go.brf 2 (b := decide (v4 = 0)) (p1 := 47) (l1 := [some (.ref a0), none, some (.int v2), some (.int v3), some (.int v4), some (.int v5)]) (s1 := []) (t1 := (jm_S0 L, M, J)) (p2 := 22) (l2 := [some (.ref a0), none, some (.int v2), some (.int v3), some (.int v4), some (.int v5)]) (s2 := []) (t2 := (jm_S0 L, M, J)) (fun _ _ => rfl) h2 ?_
        obtain ⟨q3, h4, H⟩ := jm_bdo H
        refine jm_go.call 3 (d := d + 1) (b := jm_is (jm_S0 L) a0 0) (u := 6) (as := [.ref a0, .int v4]) (pc' := 28) (ls' := [some (.ref a0), none, some (.int v2), some (.int v3), some (.int v4), some (.int v5)]) (st' := []) (t' := (jm_S0 L, M, J)) (fun _ _ => rfl) (jm_fC L ha0) rfl (g6 L d M J a0 ha0 v4 _ h4) ?_
        refine jm_go.blk 13 (pc' := 10) (ls' := [some (.ref a0), none, some (.int v2), some (.int (v3 ||| ((q3 &&& v2) &&& (v3 ^^^ (-1))))), some (.int ((q3 &&& v2) &&& (v3 ^^^ (-1)))), some (.int (v5 + 1))]) (st' := []) (t' := (jm_S0 L, M, J)) (fun _ _ => rfl) ?_
        exact hkb v2 (v3 ||| ((q3 &&& v2) &&& (v3 ^^^ (-1)))) ((q3 &&& v2) &&& (v3 ^^^ (-1))) (v5 + 1) _ H

/-- X0_reachedFrom -/
def f5 (M : jm_MM) (a0 : Nat) (x0 : Int32) (x1 : Int32) : Option (Int32) := f5_10 M a0 (fun ve5 => some ve5) jm_F x1 (1 <<< (x0 &&& 31)) (1 <<< (x0 &&& 31)) 0
set_option maxRecDepth 100000 in
theorem g5 (L : Nat) (d : Nat) (M : jm_MM) (J : jm_JJ) (a0 : Nat) (ha0 : jm_isC a0) (x0 : Int32) (x1 : Int32) (r : Int32) (H : f5 M a0 x0 x1 = some r) : jm_go (d + 2) (jm_G 5) 0 (jm_en 6 [.ref a0, .int x0, .int x1]) [] (jm_S0 L, M, J) (some (.int r), (jm_S0 L, M, J)) := by
  unfold f5 at H
  refine jm_go.blk 8 (pc' := 10) (ls' := [some (.ref a0), some (.int x0), some (.int x1), some (.int (1 <<< (x0 &&& 31))), some (.int (1 <<< (x0 &&& 31))), some (.int 0)]) (st' := []) (t' := (jm_S0 L, M, J)) (fun _ _ => rfl) ?_
  refine jm_go.lab (ls' := [some (.ref a0), none, some (.int x1), some (.int (1 <<< (x0 &&& 31))), some (.int (1 <<< (x0 &&& 31))), some (.int 0)]) (fun i hi => by cases hi; rfl) ?_
  exact g5_10 L d M J a0 ha0
    _ (fun ve5 r H => by
      have H := Option.some.inj H
      subst H
      exact jm_go.ret 2 (fun _ _ => rfl)
      )
    _ x1 (1 <<< (x0 &&& 31)) (1 <<< (x0 &&& 31)) 0 _ H

def f4_2 (a0 : Nat) (ke0 : jm_MM → Option (jm_MM)) : Nat → jm_MM → Int32 → Int32 → Option (jm_MM)
  | 0, _, _, _ => none
  | n0 + 1, M, v1, v2 => bif decide (24 ≤ v2) then (ke0 M) else (jm_bd (f87 M v1 v2) (fun q2 => bif decide (q2 = 0) then ((f4_2 a0 ke0 n0) M v1 (v2 + 1)) else (jm_gd (jm_inb v2 24) ((f4_2 a0 ke0 n0) (jm_up M (a0 + 2) v2.toNatClampNeg v1) v1 (v2 + 1)))))
set_option maxRecDepth 100000 in
theorem g4_2 (L : Nat) (d : Nat) (_M : jm_MM) (J : jm_JJ) (a0 : Nat) (ha0 : jm_isC a0) (ke0 : jm_MM → Option (jm_MM)) (hke0 : ∀ (M : jm_MM) (r : jm_MM), ke0 M = some r → jm_go (d + 1) (jm_G 4) 29 [none, none, none] [] (jm_S0 L, M, J) (none, (jm_S0 L, r, J))) : ∀ (n0 : Nat) (M : jm_MM) (v1 : Int32) (v2 : Int32) (r : jm_MM), f4_2 a0 ke0 n0 M v1 v2 = some r → jm_go (d + 1) (jm_G 4) 2 [some (.ref a0), some (.int v1), some (.int v2)] [] (jm_S0 L, M, J) (none, (jm_S0 L, r, J)) := by
  intro n0
  induction n0 with
  | zero => intro M v1 v2 r H; cases H
  | succ n0 ih =>
    intro M v1 v2 r H
    have hkb := ih
    unfold f4_2 at H
    rcases jm_bro H with ⟨h1, H⟩ | ⟨h1, H⟩
    · refine jm_go.brt 3 (b := decide (24 ≤ v2)) (p1 := 29) (l1 := [some (.ref a0), some (.int v1), some (.int v2)]) (s1 := []) (t1 := (jm_S0 L, M, J)) (p2 := 8) (l2 := [some (.ref a0), some (.int v1), some (.int v2)]) (s2 := []) (t2 := (jm_S0 L, M, J)) (fun _ _ => rfl) h1 ?_
      refine jm_go.lab (ls' := [none, none, none]) (fun i hi => by cases hi; rfl) ?_
      exact hke0 M _ H
    · refine jm_go.brf 3 (b := decide (24 ≤ v2)) (p1 := 29) (l1 := [some (.ref a0), some (.int v1), some (.int v2)]) (s1 := []) (t1 := (jm_S0 L, M, J)) (p2 := 8) (l2 := [some (.ref a0), some (.int v1), some (.int v2)]) (s2 := []) (t2 := (jm_S0 L, M, J)) (fun _ _ => rfl) h1 ?_
      obtain ⟨q2, h3, H⟩ := jm_bdo H
      refine jm_go.call 3 (d := d) (b := true) (u := 87) (as := [.int v1, .int v2]) (pc' := 13) (ls' := [some (.ref a0), some (.int v1), some (.int v2)]) (st' := []) (t' := (jm_S0 L, M, J)) (fun _ _ => rfl) rfl rfl (g87 L d M J v1 v2 _ h3) ?_
      rcases jm_bro H with ⟨h4, H⟩ | ⟨h4, H⟩
      · refine jm_go.brt 1 (b := decide (q2 = 0)) (p1 := 23) (l1 := [some (.ref a0), some (.int v1), some (.int v2)]) (s1 := []) (t1 := (jm_S0 L, M, J)) (p2 := 16) (l2 := [some (.ref a0), some (.int v1), some (.int v2)]) (s2 := []) (t2 := (jm_S0 L, M, J)) (fun _ _ => rfl) h4 ?_
        refine jm_go.blk 2 (pc' := 2) (ls' := [some (.ref a0), some (.int v1), some (.int (v2 + 1))]) (st' := []) (t' := (jm_S0 L, M, J)) (fun _ _ => rfl) ?_
        exact hkb M v1 (v2 + 1) _ H
      · refine jm_go.brf 1 (b := decide (q2 = 0)) (p1 := 23) (l1 := [some (.ref a0), some (.int v1), some (.int v2)]) (s1 := []) (t1 := (jm_S0 L, M, J)) (p2 := 16) (l2 := [some (.ref a0), some (.int v1), some (.int v2)]) (s2 := []) (t2 := (jm_S0 L, M, J)) (fun _ _ => rfl) h4 ?_
        refine jm_go.gfr 2 (b := jm_is (jm_S0 L) a0 0) (o := (jm_S0 L).2.2.2.2 a0 3) (q := a0 + 2) (pc' := 20) (ls' := [some (.ref a0), some (.int v1), some (.int v2)]) (st' := []) (t' := (jm_S0 L, M, J)) (fun _ _ => rfl) (jm_fC L ha0) (jm_rC2 L ha0) ?_
        obtain ⟨h5, H⟩ := jm_gdo H
        refine jm_go.grd 3 (b := jm_is (jm_S0 L) (a0 + 2) 9 && jm_inb v2 ((jm_S0 L).2.2.2.1 (a0 + 2))) (pc' := 23) (ls' := [some (.ref a0), some (.int v1), some (.int v2)]) (st' := []) (t' := (jm_S0 L, (jm_up M (a0 + 2) v2.toNatClampNeg v1), J)) (fun _ _ => rfl) (jm_gis (jm_fC2 L ha0) h5) ?_
        refine jm_go.blk 2 (pc' := 2) (ls' := [some (.ref a0), some (.int v1), some (.int (v2 + 1))]) (st' := []) (t' := (jm_S0 L, (jm_up M (a0 + 2) v2.toNatClampNeg v1), J)) (fun _ _ => rfl) ?_
        exact hkb (jm_up M (a0 + 2) v2.toNatClampNeg v1) v1 (v2 + 1) _ H

/-- X0_tellMembers -/
def f4 (M : jm_MM) (a0 : Nat) (x0 : Int32) : Option (jm_MM) := f4_2 a0 (fun Me6 => some Me6) jm_F M x0 0
set_option maxRecDepth 100000 in
theorem g4 (L : Nat) (d : Nat) (M : jm_MM) (J : jm_JJ) (a0 : Nat) (ha0 : jm_isC a0) (x0 : Int32) (r : jm_MM) (H : f4 M a0 x0 = some r) : jm_go (d + 1) (jm_G 4) 0 (jm_en 3 [.ref a0, .int x0]) [] (jm_S0 L, M, J) (none, (jm_S0 L, r, J)) := by
  unfold f4 at H
  refine jm_go.blk 2 (pc' := 2) (ls' := [some (.ref a0), some (.int x0), some (.int 0)]) (st' := []) (t' := (jm_S0 L, M, J)) (fun _ _ => rfl) ?_
  exact g4_2 L d M J a0 ha0
    _ (fun Me6 r H => by
      have H := Option.some.inj H
      subst H
      exact jm_go.ret 1 (fun _ _ => rfl)
      )
    _ M x0 0 _ H

def f3_15 (a0 : Nat) (ke0 : jm_MM → Option (jm_MM)) : Nat → jm_MM → Int32 → Int32 → Option (jm_MM)
  | 0, _, _, _ => none
  | n0 + 1, M, v1, v2 => bif decide (24 ≤ v2) then (ke0 M) else (jm_bd (f87 M v1 v2) (fun q4 => bif decide (q4 = 0) then ((f3_15 a0 ke0 n0) M v1 (v2 + 1)) else (jm_gd (jm_inb v2 24) (bif !decide ((M (a0 + 2) v2.toNatClampNeg) = 0) then ((f3_15 a0 ke0 n0) M v1 (v2 + 1)) else (jm_bd (f5 M a0 v2 v1) (fun q9 => jm_bd (f4 M a0 q9) (fun q11 => (f3_15 a0 ke0 n0) (jm_up q11 a0 1 ((q11 a0 1) + 1)) v1 (v2 + 1))))))))
set_option maxRecDepth 100000 in
theorem g3_15 (L : Nat) (d : Nat) (_M : jm_MM) (J : jm_JJ) (a0 : Nat) (ha0 : jm_isC a0) (ke0 : jm_MM → Option (jm_MM)) (hke0 : ∀ (M : jm_MM) (r : jm_MM), ke0 M = some r → jm_go (d + 3) (jm_G 3) 64 [none, none, none] [] (jm_S0 L, M, J) (none, (jm_S0 L, r, J))) : ∀ (n0 : Nat) (M : jm_MM) (v1 : Int32) (v2 : Int32) (r : jm_MM), f3_15 a0 ke0 n0 M v1 v2 = some r → jm_go (d + 3) (jm_G 3) 15 [some (.ref a0), some (.int v1), some (.int v2)] [] (jm_S0 L, M, J) (none, (jm_S0 L, r, J)) := by
  intro n0
  induction n0 with
  | zero => intro M v1 v2 r H; cases H
  | succ n0 ih =>
    intro M v1 v2 r H
    have hkb := ih
    unfold f3_15 at H
    rcases jm_bro H with ⟨h3, H⟩ | ⟨h3, H⟩
    · refine jm_go.brt 3 (b := decide (24 ≤ v2)) (p1 := 64) (l1 := [some (.ref a0), some (.int v1), some (.int v2)]) (s1 := []) (t1 := (jm_S0 L, M, J)) (p2 := 21) (l2 := [some (.ref a0), some (.int v1), some (.int v2)]) (s2 := []) (t2 := (jm_S0 L, M, J)) (fun _ _ => rfl) h3 ?_
      refine jm_go.lab (ls' := [none, none, none]) (fun i hi => by cases hi; rfl) ?_
      exact hke0 M _ H
    · refine jm_go.brf 3 (b := decide (24 ≤ v2)) (p1 := 64) (l1 := [some (.ref a0), some (.int v1), some (.int v2)]) (s1 := []) (t1 := (jm_S0 L, M, J)) (p2 := 21) (l2 := [some (.ref a0), some (.int v1), some (.int v2)]) (s2 := []) (t2 := (jm_S0 L, M, J)) (fun _ _ => rfl) h3 ?_
      obtain ⟨q4, h5, H⟩ := jm_bdo H
      refine jm_go.call 3 (d := d + 2) (b := true) (u := 87) (as := [.int v1, .int v2]) (pc' := 26) (ls' := [some (.ref a0), some (.int v1), some (.int v2)]) (st' := []) (t' := (jm_S0 L, M, J)) (fun _ _ => rfl) rfl rfl (g87 L (d + 2) M J v1 v2 _ h5) ?_
      rcases jm_bro H with ⟨h6, H⟩ | ⟨h6, H⟩
      · refine jm_go.brt 1 (b := decide (q4 = 0)) (p1 := 58) (l1 := [some (.ref a0), some (.int v1), some (.int v2)]) (s1 := []) (t1 := (jm_S0 L, M, J)) (p2 := 29) (l2 := [some (.ref a0), some (.int v1), some (.int v2)]) (s2 := []) (t2 := (jm_S0 L, M, J)) (fun _ _ => rfl) h6 ?_
        refine jm_go.blk 2 (pc' := 15) (ls' := [some (.ref a0), some (.int v1), some (.int (v2 + 1))]) (st' := []) (t' := (jm_S0 L, M, J)) (fun _ _ => rfl) ?_
        exact hkb M v1 (v2 + 1) _ H
      · refine jm_go.brf 1 (b := decide (q4 = 0)) (p1 := 58) (l1 := [some (.ref a0), some (.int v1), some (.int v2)]) (s1 := []) (t1 := (jm_S0 L, M, J)) (p2 := 29) (l2 := [some (.ref a0), some (.int v1), some (.int v2)]) (s2 := []) (t2 := (jm_S0 L, M, J)) (fun _ _ => rfl) h6 ?_
        refine jm_go.gfr 2 (b := jm_is (jm_S0 L) a0 0) (o := (jm_S0 L).2.2.2.2 a0 3) (q := a0 + 2) (pc' := 33) (ls' := [some (.ref a0), some (.int v1), some (.int v2)]) (st' := []) (t' := (jm_S0 L, M, J)) (fun _ _ => rfl) (jm_fC L ha0) (jm_rC2 L ha0) ?_
        obtain ⟨h7, H⟩ := jm_gdo H
        refine jm_go.grd 2 (b := ((Nat.beq 0 1 && Nat.beq (a0 + 2) 0) || (Nat.beq 0 0 && jm_is (jm_S0 L) (a0 + 2) 9)) && jm_inb v2 ((jm_S0 L).2.2.2.1 (a0 + 2))) (pc' := 35) (ls' := [some (.ref a0), some (.int v1), some (.int v2)]) (st' := [.int (M (a0 + 2) v2.toNatClampNeg)]) (t' := (jm_S0 L, M, J)) (fun _ _ => rfl) (jm_gia (jm_fC2 L ha0) h7) ?_
        rcases jm_bro H with ⟨h8, H⟩ | ⟨h8, H⟩
        · refine jm_go.brt 1 (b := !decide ((M (a0 + 2) v2.toNatClampNeg) = 0)) (p1 := 58) (l1 := [some (.ref a0), some (.int v1), some (.int v2)]) (s1 := []) (t1 := (jm_S0 L, M, J)) (p2 := 38) (l2 := [some (.ref a0), some (.int v1), some (.int v2)]) (s2 := []) (t2 := (jm_S0 L, M, J)) (fun _ _ => rfl) h8 ?_
          refine jm_go.blk 2 (pc' := 15) (ls' := [some (.ref a0), some (.int v1), some (.int (v2 + 1))]) (st' := []) (t' := (jm_S0 L, M, J)) (fun _ _ => rfl) ?_
          exact hkb M v1 (v2 + 1) _ H
        · refine jm_go.brf 1 (b := !decide ((M (a0 + 2) v2.toNatClampNeg) = 0)) (p1 := 58) (l1 := [some (.ref a0), some (.int v1), some (.int v2)]) (s1 := []) (t1 := (jm_S0 L, M, J)) (p2 := 38) (l2 := [some (.ref a0), some (.int v1), some (.int v2)]) (s2 := []) (t2 := (jm_S0 L, M, J)) (fun _ _ => rfl) h8 ?_
          obtain ⟨q9, h10, H⟩ := jm_bdo H
          refine jm_go.call 5 (d := d + 2) (b := jm_is (jm_S0 L) a0 0) (u := 5) (as := [.ref a0, .int v2, .int v1]) (pc' := 45) (ls' := [some (.ref a0), some (.int v1), some (.int v2)]) (st' := [.ref a0]) (t' := (jm_S0 L, M, J)) (fun _ _ => rfl) (jm_fC L ha0) rfl (g5 L d M J a0 ha0 v2 v1 _ h10) ?_
          obtain ⟨q11, h12, H⟩ := jm_bdo H
          refine jm_go.call 1 (d := d + 2) (b := jm_is (jm_S0 L) a0 0) (u := 4) (as := [.ref a0, .int q9]) (pc' := 48) (ls' := [some (.ref a0), some (.int v1), some (.int v2)]) (st' := []) (t' := (jm_S0 L, M, J)) (fun _ _ => rfl) (jm_fC L ha0) rfl (g4 L (d + 1) M J a0 ha0 q9 _ h12) ?_
          refine jm_go.grd 3 (b := jm_is (jm_S0 L) a0 0) (pc' := 53) (ls' := [some (.ref a0), some (.int v1), some (.int v2)]) (st' := [.int (q11 a0 1), .ref a0]) (t' := (jm_S0 L, q11, J)) (fun _ _ => rfl) (jm_fC L ha0) ?_
          refine jm_go.grd 3 (b := jm_is (jm_S0 L) a0 0) (pc' := 58) (ls' := [some (.ref a0), some (.int v1), some (.int v2)]) (st' := []) (t' := (jm_S0 L, (jm_up q11 a0 1 ((q11 a0 1) + 1)), J)) (fun _ _ => rfl) (jm_fC L ha0) ?_
          refine jm_go.blk 2 (pc' := 15) (ls' := [some (.ref a0), some (.int v1), some (.int (v2 + 1))]) (st' := []) (t' := (jm_S0 L, (jm_up q11 a0 1 ((q11 a0 1) + 1)), J)) (fun _ _ => rfl) ?_
          exact hkb (jm_up q11 a0 1 ((q11 a0 1) + 1)) v1 (v2 + 1) _ H

/-- X0_gatherClumps -/
def f3 (M : jm_MM) (a0 : Nat) (x0 : Int32) : Option (jm_MM) := jm_bd (f165 (jm_up M a0 1 0) (a0 + 2) 24 0) (fun q1 => f3_15 a0 (fun Me13 => some Me13) jm_F q1 x0 0)
set_option maxRecDepth 100000 in
theorem g3 (L : Nat) (d : Nat) (M : jm_MM) (J : jm_JJ) (a0 : Nat) (ha0 : jm_isC a0) (x0 : Int32) (r : jm_MM) (H : f3 M a0 x0 = some r) : jm_go (d + 3) (jm_G 3) 0 (jm_en 3 [.ref a0, .int x0]) [] (jm_S0 L, M, J) (none, (jm_S0 L, r, J)) := by
  unfold f3 at H
  refine jm_go.grd 3 (b := jm_is (jm_S0 L) a0 0) (pc' := 5) (ls' := [some (.ref a0), some (.int x0), none]) (st' := []) (t' := (jm_S0 L, (jm_up M a0 1 0), J)) (fun _ _ => rfl) (jm_fC L ha0) ?_
  refine jm_go.gfr 2 (b := jm_is (jm_S0 L) a0 0) (o := (jm_S0 L).2.2.2.2 a0 3) (q := a0 + 2) (pc' := 9) (ls' := [some (.ref a0), some (.int x0), none]) (st' := []) (t' := (jm_S0 L, (jm_up M a0 1 0), J)) (fun _ _ => rfl) (jm_fC L ha0) (jm_rC2 L ha0) ?_
  obtain ⟨q1, h2, H⟩ := jm_bdo H
  refine jm_go.call 2 (d := d + 2) (b := true) (u := 165) (as := [.ref (a0 + 2), .int 0]) (pc' := 13) (ls' := [some (.ref a0), some (.int x0), none]) (st' := []) (t' := (jm_S0 L, (jm_up M a0 1 0), J)) (fun _ _ => rfl) rfl rfl (g165 L (d + 2) (jm_up M a0 1 0) J (a0 + 2) 0 (jm_fC2 L ha0) h2) ?_
  refine jm_go.blk 2 (pc' := 15) (ls' := [some (.ref a0), some (.int x0), some (.int 0)]) (st' := []) (t' := (jm_S0 L, q1, J)) (fun _ _ => rfl) ?_
  exact g3_15 L d M J a0 ha0
    _ (fun Me13 r H => by
      have H := Option.some.inj H
      subst H
      exact jm_go.ret 1 (fun _ _ => rfl)
      )
    _ q1 x0 0 _ H

def f7_22 (M : jm_MM) (a0 : Nat) (ke0 : Int32 → Option (Int32)) : Nat → Int32 → Int32 → Int32 → Option (Int32)
  | 0, _, _, _ => none
  | n0 + 1, v2, v3, v4 => bif decide (24 ≤ v4) then (ke0 v4) else (jm_bd (f87 M v3 v2) (fun q6 => bif !decide (q6 = 0) then (ke0 v4) else (jm_bd (f6 M a0 v3) (fun q9 => (f7_22 M a0 ke0 n0) v2 (v3 ||| q9) (v4 + 1)))))
set_option maxRecDepth 100000 in
theorem g7_22 (L : Nat) (d : Nat) (M : jm_MM) (J : jm_JJ) (a0 : Nat) (ha0 : jm_isC a0) (ke0 : Int32 → Option (Int32)) (hke0 : ∀  (v4 : Int32) (r : Int32), ke0 v4 = some r → jm_go (d + 2) (jm_G 7) 51 [none, none, none, none, some (.int v4)] [] (jm_S0 L, M, J) (some (.int r), (jm_S0 L, M, J))) : ∀ (n0 : Nat) (v2 : Int32) (v3 : Int32) (v4 : Int32) (r : Int32), f7_22 M a0 ke0 n0 v2 v3 v4 = some r → jm_go (d + 2) (jm_G 7) 22 [some (.ref a0), none, some (.int v2), some (.int v3), some (.int v4)] [] (jm_S0 L, M, J) (some (.int r), (jm_S0 L, M, J)) := by
  intro n0
  induction n0 with
  | zero => intro v2 v3 v4 r H; cases H
  | succ n0 ih =>
    intro v2 v3 v4 r H
    have hkb := ih
    unfold f7_22 at H
    rcases jm_bro H with ⟨h5, H⟩ | ⟨h5, H⟩
    · refine jm_go.brt 3 (b := decide (24 ≤ v4)) (p1 := 51) (l1 := [some (.ref a0), none, some (.int v2), some (.int v3), some (.int v4)]) (s1 := []) (t1 := (jm_S0 L, M, J)) (p2 := 29) (l2 := [some (.ref a0), none, some (.int v2), some (.int v3), some (.int v4)]) (s2 := []) (t2 := (jm_S0 L, M, J)) (fun _ _ => rfl) h5 ?_
      refine jm_go.lab (ls' := [none, none, none, none, some (.int v4)]) (fun i hi => by cases hi; rfl) ?_
      exact hke0 v4 _ H
    · refine jm_go.brf 3 (b := decide (24 ≤ v4)) (p1 := 51) (l1 := [some (.ref a0), none, some (.int v2), some (.int v3), some (.int v4)]) (s1 := []) (t1 := (jm_S0 L, M, J)) (p2 := 29) (l2 := [some (.ref a0), none, some (.int v2), some (.int v3), some (.int v4)]) (s2 := []) (t2 := (jm_S0 L, M, J)) (fun _ _ => rfl) h5 ?_
      obtain ⟨q6, h7, H⟩ := jm_bdo H
      refine jm_go.call 3 (d := d + 1) (b := true) (u := 87) (as := [.int v3, .int v2]) (pc' := 34) (ls' := [some (.ref a0), none, some (.int v2), some (.int v3), some (.int v4)]) (st' := []) (t' := (jm_S0 L, M, J)) (fun _ _ => rfl) rfl rfl (g87 L (d + 1) M J v3 v2 _ h7) ?_
      rcases jm_bro H with ⟨h8, H⟩ | ⟨h8, H⟩
      · refine jm_go.brt 1 (b := !decide (q6 = 0)) (p1 := 51) (l1 := [some (.ref a0), none, some (.int v2), some (.int v3), some (.int v4)]) (s1 := []) (t1 := (jm_S0 L, M, J)) (p2 := 37) (l2 := [some (.ref a0), none, some (.int v2), some (.int v3), some (.int v4)]) (s2 := []) (t2 := (jm_S0 L, M, J)) (fun _ _ => rfl) h8 ?_
        refine jm_go.lab (ls' := [none, none, none, none, some (.int v4)]) (fun i hi => by cases hi; rfl) ?_
        exact hke0 v4 _ H
      · refine jm_go.brf 1 (b := !decide (q6 = 0)) (p1 := 51) (l1 := [some (.ref a0), none, some (.int v2), some (.int v3), some (.int v4)]) (s1 := []) (t1 := (jm_S0 L, M, J)) (p2 := 37) (l2 := [some (.ref a0), none, some (.int v2), some (.int v3), some (.int v4)]) (s2 := []) (t2 := (jm_S0 L, M, J)) (fun _ _ => rfl) h8 ?_
        obtain ⟨q9, h10, H⟩ := jm_bdo H
        refine jm_go.call 4 (d := d + 1) (b := jm_is (jm_S0 L) a0 0) (u := 6) (as := [.ref a0, .int v3]) (pc' := 43) (ls' := [some (.ref a0), none, some (.int v2), some (.int v3), some (.int v4)]) (st' := [.int v3]) (t' := (jm_S0 L, M, J)) (fun _ _ => rfl) (jm_fC L ha0) rfl (g6 L d M J a0 ha0 v3 _ h10) ?_
        refine jm_go.blk 4 (pc' := 22) (ls' := [some (.ref a0), none, some (.int v2), some (.int (v3 ||| q9)), some (.int (v4 + 1))]) (st' := []) (t' := (jm_S0 L, M, J)) (fun _ _ => rfl) ?_
        exact hkb v2 (v3 ||| q9) (v4 + 1) _ H

/-- X0_countSteps -/
def f7 (M : jm_MM) (a0 : Nat) (x0 : Int32) (x1 : Int32) : Option (Int32) := jm_gd (jm_inb x0 24) (jm_bd (f87 M (M (a0 + 2) x0.toNatClampNeg) x1) (fun q2 => bif !decide (q2 = 0) then (f7_22 M a0 (fun ve11 => some ve11) jm_F x1 (1 <<< (x0 &&& 31)) 0) else (some (-1))))
set_option maxRecDepth 100000 in
theorem g7 (L : Nat) (d : Nat) (M : jm_MM) (J : jm_JJ) (a0 : Nat) (ha0 : jm_isC a0) (x0 : Int32) (x1 : Int32) (r : Int32) (H : f7 M a0 x0 x1 = some r) : jm_go (d + 2) (jm_G 7) 0 (jm_en 5 [.ref a0, .int x0, .int x1]) [] (jm_S0 L, M, J) (some (.int r), (jm_S0 L, M, J)) := by
  unfold f7 at H
  refine jm_go.gfr 2 (b := jm_is (jm_S0 L) a0 0) (o := (jm_S0 L).2.2.2.2 a0 3) (q := a0 + 2) (pc' := 4) (ls' := [some (.ref a0), some (.int x0), some (.int x1), none, none]) (st' := []) (t' := (jm_S0 L, M, J)) (fun _ _ => rfl) (jm_fC L ha0) (jm_rC2 L ha0) ?_
  obtain ⟨h1, H⟩ := jm_gdo H
  refine jm_go.grd 2 (b := ((Nat.beq 0 1 && Nat.beq (a0 + 2) 0) || (Nat.beq 0 0 && jm_is (jm_S0 L) (a0 + 2) 9)) && jm_inb x0 ((jm_S0 L).2.2.2.1 (a0 + 2))) (pc' := 6) (ls' := [some (.ref a0), some (.int x0), some (.int x1), none, none]) (st' := [.int (M (a0 + 2) x0.toNatClampNeg)]) (t' := (jm_S0 L, M, J)) (fun _ _ => rfl) (jm_gia (jm_fC2 L ha0) h1) ?_
  obtain ⟨q2, h3, H⟩ := jm_bdo H
  refine jm_go.call 2 (d := d + 1) (b := true) (u := 87) (as := [.int (M (a0 + 2) x0.toNatClampNeg), .int x1]) (pc' := 10) (ls' := [some (.ref a0), some (.int x0), some (.int x1), none, none]) (st' := []) (t' := (jm_S0 L, M, J)) (fun _ _ => rfl) rfl rfl (g87 L (d + 1) M J (M (a0 + 2) x0.toNatClampNeg) x1 _ h3) ?_
  rcases jm_bro H with ⟨h4, H⟩ | ⟨h4, H⟩
  · refine jm_go.brt 1 (b := !decide (q2 = 0)) (p1 := 15) (l1 := [some (.ref a0), some (.int x0), some (.int x1), none, none]) (s1 := []) (t1 := (jm_S0 L, M, J)) (p2 := 13) (l2 := [some (.ref a0), some (.int x0), some (.int x1), none, none]) (s2 := []) (t2 := (jm_S0 L, M, J)) (fun _ _ => rfl) h4 ?_
    refine jm_go.blk 6 (pc' := 22) (ls' := [some (.ref a0), some (.int x0), some (.int x1), some (.int (1 <<< (x0 &&& 31))), some (.int 0)]) (st' := []) (t' := (jm_S0 L, M, J)) (fun _ _ => rfl) ?_
    refine jm_go.lab (ls' := [some (.ref a0), none, some (.int x1), some (.int (1 <<< (x0 &&& 31))), some (.int 0)]) (fun i hi => by cases hi; rfl) ?_
    exact g7_22 L d M J a0 ha0
      _ (fun ve11 r H => by
        have H := Option.some.inj H
        subst H
        exact jm_go.ret 2 (fun _ _ => rfl)
        )
      _ x1 (1 <<< (x0 &&& 31)) 0 _ H
  · refine jm_go.brf 1 (b := !decide (q2 = 0)) (p1 := 15) (l1 := [some (.ref a0), some (.int x0), some (.int x1), none, none]) (s1 := []) (t1 := (jm_S0 L, M, J)) (p2 := 13) (l2 := [some (.ref a0), some (.int x0), some (.int x1), none, none]) (s2 := []) (t2 := (jm_S0 L, M, J)) (fun _ _ => rfl) h4 ?_
    have H := Option.some.inj H
    subst H
    exact jm_go.ret 2 (fun _ _ => rfl)

def f8_15 (M : jm_MM) (a0 : Nat) (ke0 : Option (Int32)) (ke1 : Int32 → Int32 → Option (Int32)) : Nat → Int32 → Int32 → Option (Int32)
  | 0, _, _ => none
  | n0 + 1, v2, v3 => bif decide (24 ≤ v3) then (ke0 ) else (jm_bd (f87 M v2 v3) (fun q3 => bif decide (q3 = 0) then ((f8_15 M a0 ke0 ke1 n0) v2 (v3 + 1)) else (ke1 v2 v3)))
set_option maxRecDepth 100000 in
theorem g8_15 (L : Nat) (d : Nat) (M : jm_MM) (J : jm_JJ) (a0 : Nat) (ha0 : jm_isC a0) (ke0 : Option (Int32)) (hke0 : ∀  (r : Int32), ke0  = some r → jm_go (d + 3) (jm_G 8) 51 [none, none, none, none] [] (jm_S0 L, M, J) (some (.int r), (jm_S0 L, M, J))) (ke1 : Int32 → Int32 → Option (Int32)) (hke1 : ∀  (v2 : Int32) (v3 : Int32) (r : Int32), ke1 v2 v3 = some r → jm_go (d + 3) (jm_G 8) 29 [some (.ref a0), none, some (.int v2), some (.int v3)] [] (jm_S0 L, M, J) (some (.int r), (jm_S0 L, M, J))) : ∀ (n0 : Nat) (v2 : Int32) (v3 : Int32) (r : Int32), f8_15 M a0 ke0 ke1 n0 v2 v3 = some r → jm_go (d + 3) (jm_G 8) 15 [some (.ref a0), none, some (.int v2), some (.int v3)] [] (jm_S0 L, M, J) (some (.int r), (jm_S0 L, M, J)) := by
  intro n0
  induction n0 with
  | zero => intro v2 v3 r H; cases H
  | succ n0 ih =>
    intro v2 v3 r H
    have hkb := ih
    unfold f8_15 at H
    rcases jm_bro H with ⟨h2, H⟩ | ⟨h2, H⟩
    · refine jm_go.brt 3 (b := decide (24 ≤ v3)) (p1 := 51) (l1 := [some (.ref a0), none, some (.int v2), some (.int v3)]) (s1 := []) (t1 := (jm_S0 L, M, J)) (p2 := 21) (l2 := [some (.ref a0), none, some (.int v2), some (.int v3)]) (s2 := []) (t2 := (jm_S0 L, M, J)) (fun _ _ => rfl) h2 ?_
      refine jm_go.lab (ls' := [none, none, none, none]) (fun i hi => by cases hi; rfl) ?_
      exact hke0  _ H
    · refine jm_go.brf 3 (b := decide (24 ≤ v3)) (p1 := 51) (l1 := [some (.ref a0), none, some (.int v2), some (.int v3)]) (s1 := []) (t1 := (jm_S0 L, M, J)) (p2 := 21) (l2 := [some (.ref a0), none, some (.int v2), some (.int v3)]) (s2 := []) (t2 := (jm_S0 L, M, J)) (fun _ _ => rfl) h2 ?_
      obtain ⟨q3, h4, H⟩ := jm_bdo H
      refine jm_go.call 3 (d := d + 2) (b := true) (u := 87) (as := [.int v2, .int v3]) (pc' := 26) (ls' := [some (.ref a0), none, some (.int v2), some (.int v3)]) (st' := []) (t' := (jm_S0 L, M, J)) (fun _ _ => rfl) rfl rfl (g87 L (d + 2) M J v2 v3 _ h4) ?_
      rcases jm_bro H with ⟨h5, H⟩ | ⟨h5, H⟩
      · refine jm_go.brt 1 (b := decide (q3 = 0)) (p1 := 45) (l1 := [some (.ref a0), none, some (.int v2), some (.int v3)]) (s1 := []) (t1 := (jm_S0 L, M, J)) (p2 := 29) (l2 := [some (.ref a0), none, some (.int v2), some (.int v3)]) (s2 := []) (t2 := (jm_S0 L, M, J)) (fun _ _ => rfl) h5 ?_
        refine jm_go.blk 2 (pc' := 15) (ls' := [some (.ref a0), none, some (.int v2), some (.int (v3 + 1))]) (st' := []) (t' := (jm_S0 L, M, J)) (fun _ _ => rfl) ?_
        exact hkb v2 (v3 + 1) _ H
      · refine jm_go.brf 1 (b := decide (q3 = 0)) (p1 := 45) (l1 := [some (.ref a0), none, some (.int v2), some (.int v3)]) (s1 := []) (t1 := (jm_S0 L, M, J)) (p2 := 29) (l2 := [some (.ref a0), none, some (.int v2), some (.int v3)]) (s2 := []) (t2 := (jm_S0 L, M, J)) (fun _ _ => rfl) h5 ?_
        exact hke1 v2 v3 _ H

/-- X0_isHolding -/
def f8 (M : jm_MM) (a0 : Nat) (x0 : Int32) : Option (Int32) := jm_gd (jm_inb x0 24) (f8_15 M a0 (some 0) (fun ve6 ve7 => jm_bd (f5 M a0 ve7 ve6) (fun q8 => bif decide (q8 = ve6) then (some 0) else (some 1))) jm_F ((M (a0 + 2) x0.toNatClampNeg) &&& ((1 <<< (x0 &&& 31)) ^^^ (-1))) 0)
set_option maxRecDepth 100000 in
theorem g8 (L : Nat) (d : Nat) (M : jm_MM) (J : jm_JJ) (a0 : Nat) (ha0 : jm_isC a0) (x0 : Int32) (r : Int32) (H : f8 M a0 x0 = some r) : jm_go (d + 3) (jm_G 8) 0 (jm_en 4 [.ref a0, .int x0]) [] (jm_S0 L, M, J) (some (.int r), (jm_S0 L, M, J)) := by
  unfold f8 at H
  refine jm_go.gfr 2 (b := jm_is (jm_S0 L) a0 0) (o := (jm_S0 L).2.2.2.2 a0 3) (q := a0 + 2) (pc' := 4) (ls' := [some (.ref a0), some (.int x0), none, none]) (st' := []) (t' := (jm_S0 L, M, J)) (fun _ _ => rfl) (jm_fC L ha0) (jm_rC2 L ha0) ?_
  obtain ⟨h1, H⟩ := jm_gdo H
  refine jm_go.grd 2 (b := ((Nat.beq 0 1 && Nat.beq (a0 + 2) 0) || (Nat.beq 0 0 && jm_is (jm_S0 L) (a0 + 2) 9)) && jm_inb x0 ((jm_S0 L).2.2.2.1 (a0 + 2))) (pc' := 6) (ls' := [some (.ref a0), some (.int x0), none, none]) (st' := [.int (M (a0 + 2) x0.toNatClampNeg)]) (t' := (jm_S0 L, M, J)) (fun _ _ => rfl) (jm_gia (jm_fC2 L ha0) h1) ?_
  refine jm_go.blk 9 (pc' := 15) (ls' := [some (.ref a0), some (.int x0), some (.int ((M (a0 + 2) x0.toNatClampNeg) &&& ((1 <<< (x0 &&& 31)) ^^^ (-1)))), some (.int 0)]) (st' := []) (t' := (jm_S0 L, M, J)) (fun _ _ => rfl) ?_
  refine jm_go.lab (ls' := [some (.ref a0), none, some (.int ((M (a0 + 2) x0.toNatClampNeg) &&& ((1 <<< (x0 &&& 31)) ^^^ (-1)))), some (.int 0)]) (fun i hi => by cases hi; rfl) ?_
  exact g8_15 L d M J a0 ha0
    _ (fun  r H => by
      have H := Option.some.inj H
      subst H
      exact jm_go.retz 2 (b := jm_z1 0) (fun _ _ => rfl) rfl
      )
    _ (fun ve6 ve7 r H => by
      obtain ⟨q8, h9, H⟩ := jm_bdo H
      refine jm_go.call 4 (d := d + 2) (b := jm_is (jm_S0 L) a0 0) (u := 5) (as := [.ref a0, .int ve7, .int ve6]) (pc' := 35) (ls' := [some (.ref a0), none, some (.int ve6), some (.int ve7)]) (st' := []) (t' := (jm_S0 L, M, J)) (fun _ _ => rfl) (jm_fC L ha0) rfl (g5 L d M J a0 ha0 ve7 ve6 _ h9) ?_
      rcases jm_bro H with ⟨h10, H⟩ | ⟨h10, H⟩
      · refine jm_go.brt 2 (b := decide (q8 = ve6)) (p1 := 43) (l1 := [some (.ref a0), none, some (.int ve6), some (.int ve7)]) (s1 := []) (t1 := (jm_S0 L, M, J)) (p2 := 39) (l2 := [some (.ref a0), none, some (.int ve6), some (.int ve7)]) (s2 := []) (t2 := (jm_S0 L, M, J)) (fun _ _ => rfl) h10 ?_
        have H := Option.some.inj H
        subst H
        exact jm_go.retz 2 (b := jm_z1 0) (fun _ _ => rfl) rfl
      · refine jm_go.brf 2 (b := decide (q8 = ve6)) (p1 := 43) (l1 := [some (.ref a0), none, some (.int ve6), some (.int ve7)]) (s1 := []) (t1 := (jm_S0 L, M, J)) (p2 := 39) (l2 := [some (.ref a0), none, some (.int ve6), some (.int ve7)]) (s2 := []) (t2 := (jm_S0 L, M, J)) (fun _ _ => rfl) h10 ?_
        have H := Option.some.inj H
        subst H
        exact jm_go.retz 3 (b := jm_z1 1) (fun _ _ => rfl) rfl
      )
    _ ((M (a0 + 2) x0.toNatClampNeg) &&& ((1 <<< (x0 &&& 31)) ^^^ (-1))) 0 _ H


/-- X1_become -/
def f10 (M : jm_MM) (a0 : Nat) (b0 : Nat) : Option (jm_MM) := some (va_up (va_up (jm_up (jm_up (jm_up M a0 0 (M b0 0)) a0 1 ((jm_up M a0 0 (M b0 0)) b0 1)) a0 2 ((jm_up (jm_up M a0 0 (M b0 0)) a0 1 ((jm_up M a0 0 (M b0 0)) b0 1)) b0 2)) (a0 + 1) (va_cpy ((jm_up (jm_up (jm_up M a0 0 (M b0 0)) a0 1 ((jm_up M a0 0 (M b0 0)) b0 1)) a0 2 ((jm_up (jm_up M a0 0 (M b0 0)) a0 1 ((jm_up M a0 0 (M b0 0)) b0 1)) b0 2)) (b0 + 1)) ((jm_up (jm_up (jm_up M a0 0 (M b0 0)) a0 1 ((jm_up M a0 0 (M b0 0)) b0 1)) a0 2 ((jm_up (jm_up M a0 0 (M b0 0)) a0 1 ((jm_up M a0 0 (M b0 0)) b0 1)) b0 2)) (a0 + 1)) 0 0 24)) (a0 + 2) (va_cpy ((va_up (jm_up (jm_up (jm_up M a0 0 (M b0 0)) a0 1 ((jm_up M a0 0 (M b0 0)) b0 1)) a0 2 ((jm_up (jm_up M a0 0 (M b0 0)) a0 1 ((jm_up M a0 0 (M b0 0)) b0 1)) b0 2)) (a0 + 1) (va_cpy ((jm_up (jm_up (jm_up M a0 0 (M b0 0)) a0 1 ((jm_up M a0 0 (M b0 0)) b0 1)) a0 2 ((jm_up (jm_up M a0 0 (M b0 0)) a0 1 ((jm_up M a0 0 (M b0 0)) b0 1)) b0 2)) (b0 + 1)) ((jm_up (jm_up (jm_up M a0 0 (M b0 0)) a0 1 ((jm_up M a0 0 (M b0 0)) b0 1)) a0 2 ((jm_up (jm_up M a0 0 (M b0 0)) a0 1 ((jm_up M a0 0 (M b0 0)) b0 1)) b0 2)) (a0 + 1)) 0 0 24)) (b0 + 2)) ((va_up (jm_up (jm_up (jm_up M a0 0 (M b0 0)) a0 1 ((jm_up M a0 0 (M b0 0)) b0 1)) a0 2 ((jm_up (jm_up M a0 0 (M b0 0)) a0 1 ((jm_up M a0 0 (M b0 0)) b0 1)) b0 2)) (a0 + 1) (va_cpy ((jm_up (jm_up (jm_up M a0 0 (M b0 0)) a0 1 ((jm_up M a0 0 (M b0 0)) b0 1)) a0 2 ((jm_up (jm_up M a0 0 (M b0 0)) a0 1 ((jm_up M a0 0 (M b0 0)) b0 1)) b0 2)) (b0 + 1)) ((jm_up (jm_up (jm_up M a0 0 (M b0 0)) a0 1 ((jm_up M a0 0 (M b0 0)) b0 1)) a0 2 ((jm_up (jm_up M a0 0 (M b0 0)) a0 1 ((jm_up M a0 0 (M b0 0)) b0 1)) b0 2)) (a0 + 1)) 0 0 24)) (a0 + 2)) 0 0 144))
set_option maxRecDepth 100000 in
theorem g10 (L : Nat) (d : Nat) (M : jm_MM) (J : jm_JJ) (a0 : Nat) (ha0 : jm_isF a0) (b0 : Nat) (hb0 : jm_isF b0)  (r : jm_MM) (H : f10 M a0 b0 = some r) : jm_go (d + 1) (jm_G 10) 0 (jm_en 2 [.ref a0, .ref b0]) [] (jm_S0 L, M, J) (none, (jm_S0 L, r, J)) := by
  unfold f10 at H
  refine jm_go.grd 3 (b := jm_is (jm_S0 L) b0 1) (pc' := 5) (ls' := [some (.ref a0), some (.ref b0)]) (st' := [.int (M b0 0), .ref a0]) (t' := (jm_S0 L, M, J)) (fun _ _ => rfl) (jm_fF L hb0) ?_
  refine jm_go.grd 1 (b := jm_is (jm_S0 L) a0 1) (pc' := 8) (ls' := [some (.ref a0), some (.ref b0)]) (st' := []) (t' := (jm_S0 L, (jm_up M a0 0 (M b0 0)), J)) (fun _ _ => rfl) (jm_fF L ha0) ?_
  refine jm_go.grd 3 (b := jm_is (jm_S0 L) b0 1) (pc' := 13) (ls' := [some (.ref a0), some (.ref b0)]) (st' := [.int ((jm_up M a0 0 (M b0 0)) b0 1), .ref a0]) (t' := (jm_S0 L, (jm_up M a0 0 (M b0 0)), J)) (fun _ _ => rfl) (jm_fF L hb0) ?_
  refine jm_go.grd 1 (b := jm_is (jm_S0 L) a0 1) (pc' := 16) (ls' := [some (.ref a0), some (.ref b0)]) (st' := []) (t' := (jm_S0 L, (jm_up (jm_up M a0 0 (M b0 0)) a0 1 ((jm_up M a0 0 (M b0 0)) b0 1)), J)) (fun _ _ => rfl) (jm_fF L ha0) ?_
  refine jm_go.grd 3 (b := jm_is (jm_S0 L) b0 1) (pc' := 21) (ls' := [some (.ref a0), some (.ref b0)]) (st' := [.int ((jm_up (jm_up M a0 0 (M b0 0)) a0 1 ((jm_up M a0 0 (M b0 0)) b0 1)) b0 2), .ref a0]) (t' := (jm_S0 L, (jm_up (jm_up M a0 0 (M b0 0)) a0 1 ((jm_up M a0 0 (M b0 0)) b0 1)), J)) (fun _ _ => rfl) (jm_fF L hb0) ?_
  refine jm_go.grd 1 (b := jm_is (jm_S0 L) a0 1) (pc' := 24) (ls' := [some (.ref a0), some (.ref b0)]) (st' := []) (t' := (jm_S0 L, (jm_up (jm_up (jm_up M a0 0 (M b0 0)) a0 1 ((jm_up M a0 0 (M b0 0)) b0 1)) a0 2 ((jm_up (jm_up M a0 0 (M b0 0)) a0 1 ((jm_up M a0 0 (M b0 0)) b0 1)) b0 2)), J)) (fun _ _ => rfl) (jm_fF L ha0) ?_
  refine jm_go.gfr 2 (b := jm_is (jm_S0 L) b0 1) (o := (jm_S0 L).2.2.2.2 b0 3) (q := b0 + 1) (pc' := 28) (ls' := [some (.ref a0), some (.ref b0)]) (st' := []) (t' := (jm_S0 L, (jm_up (jm_up (jm_up M a0 0 (M b0 0)) a0 1 ((jm_up M a0 0 (M b0 0)) b0 1)) a0 2 ((jm_up (jm_up M a0 0 (M b0 0)) a0 1 ((jm_up M a0 0 (M b0 0)) b0 1)) b0 2)), J)) (fun _ _ => rfl) (jm_fF L hb0) (jm_rF1 L hb0) ?_
  refine jm_go.gfr 3 (b := jm_is (jm_S0 L) a0 1) (o := (jm_S0 L).2.2.2.2 a0 3) (q := a0 + 1) (pc' := 33) (ls' := [some (.ref a0), some (.ref b0)]) (st' := [.int 0, .ref (b0 + 1)]) (t' := (jm_S0 L, (jm_up (jm_up (jm_up M a0 0 (M b0 0)) a0 1 ((jm_up M a0 0 (M b0 0)) b0 1)) a0 2 ((jm_up (jm_up M a0 0 (M b0 0)) a0 1 ((jm_up M a0 0 (M b0 0)) b0 1)) b0 2)), J)) (fun _ _ => rfl) (jm_fF L ha0) (jm_rF1 L ha0) ?_
  refine jm_go.grd 3 (b := Nat.blt 0 (d + 1) && Nat.ble (jm_sum ([])) 8 && jm_is (jm_S0 L) (a0 + 1) 9 && jm_is (jm_S0 L) (b0 + 1) 9 && !decide ((24 : Int32) < 0) && !decide ((0 : Int32) < 0) && !decide ((0 : Int32) < 0) && Nat.ble ((0 : Int32).toNatClampNeg + (24 : Int32).toNatClampNeg) ((jm_S0 L).2.2.2.1 (b0 + 1)) && Nat.ble ((0 : Int32).toNatClampNeg + (24 : Int32).toNatClampNeg) ((jm_S0 L).2.2.2.1 (a0 + 1))) (pc' := 39) (ls' := [some (.ref a0), some (.ref b0)]) (st' := []) (t' := (jm_S0 L, (va_up (jm_up (jm_up (jm_up M a0 0 (M b0 0)) a0 1 ((jm_up M a0 0 (M b0 0)) b0 1)) a0 2 ((jm_up (jm_up M a0 0 (M b0 0)) a0 1 ((jm_up M a0 0 (M b0 0)) b0 1)) b0 2)) (a0 + 1) (va_cpy ((jm_up (jm_up (jm_up M a0 0 (M b0 0)) a0 1 ((jm_up M a0 0 (M b0 0)) b0 1)) a0 2 ((jm_up (jm_up M a0 0 (M b0 0)) a0 1 ((jm_up M a0 0 (M b0 0)) b0 1)) b0 2)) (b0 + 1)) ((jm_up (jm_up (jm_up M a0 0 (M b0 0)) a0 1 ((jm_up M a0 0 (M b0 0)) b0 1)) a0 2 ((jm_up (jm_up M a0 0 (M b0 0)) a0 1 ((jm_up M a0 0 (M b0 0)) b0 1)) b0 2)) (a0 + 1)) 0 0 24)), J)) (fun _ _ => rfl) (jm_gcp24 (jm_fF1 L ha0) (jm_fF1 L hb0)) ?_
  refine jm_go.gfr 2 (b := jm_is (jm_S0 L) b0 1) (o := (jm_S0 L).2.2.2.2 b0 4) (q := b0 + 2) (pc' := 43) (ls' := [some (.ref a0), some (.ref b0)]) (st' := []) (t' := (jm_S0 L, (va_up (jm_up (jm_up (jm_up M a0 0 (M b0 0)) a0 1 ((jm_up M a0 0 (M b0 0)) b0 1)) a0 2 ((jm_up (jm_up M a0 0 (M b0 0)) a0 1 ((jm_up M a0 0 (M b0 0)) b0 1)) b0 2)) (a0 + 1) (va_cpy ((jm_up (jm_up (jm_up M a0 0 (M b0 0)) a0 1 ((jm_up M a0 0 (M b0 0)) b0 1)) a0 2 ((jm_up (jm_up M a0 0 (M b0 0)) a0 1 ((jm_up M a0 0 (M b0 0)) b0 1)) b0 2)) (b0 + 1)) ((jm_up (jm_up (jm_up M a0 0 (M b0 0)) a0 1 ((jm_up M a0 0 (M b0 0)) b0 1)) a0 2 ((jm_up (jm_up M a0 0 (M b0 0)) a0 1 ((jm_up M a0 0 (M b0 0)) b0 1)) b0 2)) (a0 + 1)) 0 0 24)), J)) (fun _ _ => rfl) (jm_fF L hb0) (jm_rF2 L hb0) ?_
  refine jm_go.gfr 3 (b := jm_is (jm_S0 L) a0 1) (o := (jm_S0 L).2.2.2.2 a0 4) (q := a0 + 2) (pc' := 48) (ls' := [some (.ref a0), some (.ref b0)]) (st' := [.int 0, .ref (b0 + 2)]) (t' := (jm_S0 L, (va_up (jm_up (jm_up (jm_up M a0 0 (M b0 0)) a0 1 ((jm_up M a0 0 (M b0 0)) b0 1)) a0 2 ((jm_up (jm_up M a0 0 (M b0 0)) a0 1 ((jm_up M a0 0 (M b0 0)) b0 1)) b0 2)) (a0 + 1) (va_cpy ((jm_up (jm_up (jm_up M a0 0 (M b0 0)) a0 1 ((jm_up M a0 0 (M b0 0)) b0 1)) a0 2 ((jm_up (jm_up M a0 0 (M b0 0)) a0 1 ((jm_up M a0 0 (M b0 0)) b0 1)) b0 2)) (b0 + 1)) ((jm_up (jm_up (jm_up M a0 0 (M b0 0)) a0 1 ((jm_up M a0 0 (M b0 0)) b0 1)) a0 2 ((jm_up (jm_up M a0 0 (M b0 0)) a0 1 ((jm_up M a0 0 (M b0 0)) b0 1)) b0 2)) (a0 + 1)) 0 0 24)), J)) (fun _ _ => rfl) (jm_fF L ha0) (jm_rF2 L ha0) ?_
  refine jm_go.grd 3 (b := Nat.blt 0 (d + 1) && Nat.ble (jm_sum ([])) 8 && jm_is (jm_S0 L) (a0 + 2) 9 && jm_is (jm_S0 L) (b0 + 2) 9 && !decide ((144 : Int32) < 0) && !decide ((0 : Int32) < 0) && !decide ((0 : Int32) < 0) && Nat.ble ((0 : Int32).toNatClampNeg + (144 : Int32).toNatClampNeg) ((jm_S0 L).2.2.2.1 (b0 + 2)) && Nat.ble ((0 : Int32).toNatClampNeg + (144 : Int32).toNatClampNeg) ((jm_S0 L).2.2.2.1 (a0 + 2))) (pc' := 55) (ls' := [some (.ref a0), some (.ref b0)]) (st' := []) (t' := (jm_S0 L, (va_up (va_up (jm_up (jm_up (jm_up M a0 0 (M b0 0)) a0 1 ((jm_up M a0 0 (M b0 0)) b0 1)) a0 2 ((jm_up (jm_up M a0 0 (M b0 0)) a0 1 ((jm_up M a0 0 (M b0 0)) b0 1)) b0 2)) (a0 + 1) (va_cpy ((jm_up (jm_up (jm_up M a0 0 (M b0 0)) a0 1 ((jm_up M a0 0 (M b0 0)) b0 1)) a0 2 ((jm_up (jm_up M a0 0 (M b0 0)) a0 1 ((jm_up M a0 0 (M b0 0)) b0 1)) b0 2)) (b0 + 1)) ((jm_up (jm_up (jm_up M a0 0 (M b0 0)) a0 1 ((jm_up M a0 0 (M b0 0)) b0 1)) a0 2 ((jm_up (jm_up M a0 0 (M b0 0)) a0 1 ((jm_up M a0 0 (M b0 0)) b0 1)) b0 2)) (a0 + 1)) 0 0 24)) (a0 + 2) (va_cpy ((va_up (jm_up (jm_up (jm_up M a0 0 (M b0 0)) a0 1 ((jm_up M a0 0 (M b0 0)) b0 1)) a0 2 ((jm_up (jm_up M a0 0 (M b0 0)) a0 1 ((jm_up M a0 0 (M b0 0)) b0 1)) b0 2)) (a0 + 1) (va_cpy ((jm_up (jm_up (jm_up M a0 0 (M b0 0)) a0 1 ((jm_up M a0 0 (M b0 0)) b0 1)) a0 2 ((jm_up (jm_up M a0 0 (M b0 0)) a0 1 ((jm_up M a0 0 (M b0 0)) b0 1)) b0 2)) (b0 + 1)) ((jm_up (jm_up (jm_up M a0 0 (M b0 0)) a0 1 ((jm_up M a0 0 (M b0 0)) b0 1)) a0 2 ((jm_up (jm_up M a0 0 (M b0 0)) a0 1 ((jm_up M a0 0 (M b0 0)) b0 1)) b0 2)) (a0 + 1)) 0 0 24)) (b0 + 2)) ((va_up (jm_up (jm_up (jm_up M a0 0 (M b0 0)) a0 1 ((jm_up M a0 0 (M b0 0)) b0 1)) a0 2 ((jm_up (jm_up M a0 0 (M b0 0)) a0 1 ((jm_up M a0 0 (M b0 0)) b0 1)) b0 2)) (a0 + 1) (va_cpy ((jm_up (jm_up (jm_up M a0 0 (M b0 0)) a0 1 ((jm_up M a0 0 (M b0 0)) b0 1)) a0 2 ((jm_up (jm_up M a0 0 (M b0 0)) a0 1 ((jm_up M a0 0 (M b0 0)) b0 1)) b0 2)) (b0 + 1)) ((jm_up (jm_up (jm_up M a0 0 (M b0 0)) a0 1 ((jm_up M a0 0 (M b0 0)) b0 1)) a0 2 ((jm_up (jm_up M a0 0 (M b0 0)) a0 1 ((jm_up M a0 0 (M b0 0)) b0 1)) b0 2)) (a0 + 1)) 0 0 24)) (a0 + 2)) 0 0 144)), J)) (fun _ _ => rfl) (jm_gcp144 (jm_fF2 L ha0) (jm_fF2 L hb0)) ?_
  have H := Option.some.inj H
  subst H
  exact jm_go.ret 1 (fun _ _ => rfl)


/-- X1_takeAway -/
def f13 (M : jm_MM) (x0 : Int32) (x1 : Int32) : Option (jm_MM) := jm_gd (jm_inb ((x0 * 24) + x1) 144) (some (jm_up M 4 (((x0 * 24) + x1).toNatClampNeg) (-1)))
set_option maxRecDepth 100000 in
theorem g13 (L : Nat) (d : Nat) (M : jm_MM) (J : jm_JJ) (x0 : Int32) (x1 : Int32) (r : jm_MM) (H : f13 M x0 x1 = some r) : jm_go d (jm_G 13) 0 (jm_en 3 [.ref 2, .int x0, .int x1]) [] (jm_S0 L, M, J) (none, (jm_S0 L, r, J)) := by
  unfold f13 at H
  obtain ⟨h1, H⟩ := jm_gdo H
  refine jm_go.grd 9 (b := jm_inb ((x0 * 24) + x1) 144) (pc' := 12) (ls' := [some (.ref 2), some (.int x0), some (.int x1)]) (st' := []) (t' := (jm_S0 L, (jm_up M 4 (((x0 * 24) + x1).toNatClampNeg) (-1)), J)) (fun _ _ => rfl) h1 ?_
  have H := Option.some.inj H
  subst H
  exact jm_go.ret 1 (fun _ _ => rfl)

def f11_7  (ke0 : jm_MM → Int32 → Option (Int32 × jm_MM)) : Nat → jm_MM → Int32 → Int32 → Option (Int32 × jm_MM)
  | 0, _, _, _ => none
  | n0 + 1, M, v1, v2 => bif decide (24 ≤ v2) then (ke0 M v1) else (jm_bd (f13 M v1 v2) (fun q2 => (f11_7  ke0 n0) q2 v1 (v2 + 1)))
set_option maxRecDepth 100000 in
theorem g11_7 (L : Nat) (d : Nat) (_M : jm_MM) (J : jm_JJ) (ke0 : jm_MM → Int32 → Option (Int32 × jm_MM)) (hke0 : ∀ (M : jm_MM) (v1 : Int32) (r : Int32 × jm_MM), ke0 M v1 = some r → jm_go (d + 1) (jm_G 11) 25 [some (.ref 2), some (.int v1), none] [] (jm_S0 L, M, J) (some (.int r.1), (jm_S0 L, r.2, J))) : ∀ (n0 : Nat) (M : jm_MM) (v1 : Int32) (v2 : Int32) (r : Int32 × jm_MM), f11_7  ke0 n0 M v1 v2 = some r → jm_go (d + 1) (jm_G 11) 7 [some (.ref 2), some (.int v1), some (.int v2)] [] (jm_S0 L, M, J) (some (.int r.1), (jm_S0 L, r.2, J)) := by
  intro n0
  induction n0 with
  | zero => intro M v1 v2 r H; cases H
  | succ n0 ih =>
    intro M v1 v2 r H
    have hkb := ih
    unfold f11_7 at H
    rcases jm_bro H with ⟨h1, H⟩ | ⟨h1, H⟩
    · refine jm_go.brt 3 (b := decide (24 ≤ v2)) (p1 := 25) (l1 := [some (.ref 2), some (.int v1), some (.int v2)]) (s1 := []) (t1 := (jm_S0 L, M, J)) (p2 := 13) (l2 := [some (.ref 2), some (.int v1), some (.int v2)]) (s2 := []) (t2 := (jm_S0 L, M, J)) (fun _ _ => rfl) h1 ?_
      refine jm_go.lab (ls' := [some (.ref 2), some (.int v1), none]) (fun i hi => by cases hi; rfl) ?_
      exact hke0 M v1 _ H
    · refine jm_go.brf 3 (b := decide (24 ≤ v2)) (p1 := 25) (l1 := [some (.ref 2), some (.int v1), some (.int v2)]) (s1 := []) (t1 := (jm_S0 L, M, J)) (p2 := 13) (l2 := [some (.ref 2), some (.int v1), some (.int v2)]) (s2 := []) (t2 := (jm_S0 L, M, J)) (fun _ _ => rfl) h1 ?_
      obtain ⟨q2, h3, H⟩ := jm_bdo H
      refine jm_go.call 4 (d := d) (b := true) (u := 13) (as := [.ref 2, .int v1, .int v2]) (pc' := 19) (ls' := [some (.ref 2), some (.int v1), some (.int v2)]) (st' := []) (t' := (jm_S0 L, M, J)) (fun _ _ => rfl) rfl rfl (g13 L d M J v1 v2 _ h3) ?_
      refine jm_go.blk 2 (pc' := 7) (ls' := [some (.ref 2), some (.int v1), some (.int (v2 + 1))]) (st' := []) (t' := (jm_S0 L, q2, J)) (fun _ _ => rfl) ?_
      exact hkb q2 v1 (v2 + 1) _ H

/-- X1_addPicture -/
def f11 (M : jm_MM)  : Option (Int32 × jm_MM) := f11_7  (fun Me4 ve5 => some (ve5, (jm_up Me4 2 0 ((Me4 2 0) + 1)))) jm_F M (M 2 0) 0
set_option maxRecDepth 100000 in
theorem g11 (L : Nat) (d : Nat) (M : jm_MM) (J : jm_JJ)  (r : Int32 × jm_MM) (H : f11 M  = some r) : jm_go (d + 1) (jm_G 11) 0 (jm_en 3 [.ref 2]) [] (jm_S0 L, M, J) (some (.int r.1), (jm_S0 L, r.2, J)) := by
  unfold f11 at H
  refine jm_go.blk 5 (pc' := 7) (ls' := [some (.ref 2), some (.int (M 2 0)), some (.int 0)]) (st' := []) (t' := (jm_S0 L, M, J)) (fun _ _ => rfl) ?_
  exact g11_7 L d M J
    _ (fun Me4 ve5 r H => by
      have H := Option.some.inj H
      subst H
      exact jm_go.ret 8 (fun _ _ => rfl)
      )
    _ M (M 2 0) 0 _ H


/-- X1_lay -/
def f12 (M : jm_MM) (x0 : Int32) (x1 : Int32) (x2 : Int32) (x3 : Int32) : Option (jm_MM) := jm_gd (jm_inb ((x0 * 24) + x1) 144) (some (jm_up M 4 (((x0 * 24) + x1).toNatClampNeg) ((x2 * 64) + x3)))
set_option maxRecDepth 100000 in
theorem g12 (L : Nat) (d : Nat) (M : jm_MM) (J : jm_JJ) (x0 : Int32) (x1 : Int32) (x2 : Int32) (x3 : Int32) (r : jm_MM) (H : f12 M x0 x1 x2 x3 = some r) : jm_go d (jm_G 12) 0 (jm_en 5 [.ref 2, .int x0, .int x1, .int x2, .int x3]) [] (jm_S0 L, M, J) (none, (jm_S0 L, r, J)) := by
  unfold f12 at H
  obtain ⟨h1, H⟩ := jm_gdo H
  refine jm_go.grd 13 (b := jm_inb ((x0 * 24) + x1) 144) (pc' := 18) (ls' := [some (.ref 2), some (.int x0), some (.int x1), some (.int x2), some (.int x3)]) (st' := []) (t' := (jm_S0 L, (jm_up M 4 (((x0 * 24) + x1).toNatClampNeg) ((x2 * 64) + x3)), J)) (fun _ _ => rfl) h1 ?_
  have H := Option.some.inj H
  subst H
  exact jm_go.ret 1 (fun _ _ => rfl)

def f18_4 (M : jm_MM) (ke0 : Int32 → Option (Int32)) : Nat → Int32 → Int32 → Int32 → Option (Int32)
  | 0, _, _, _ => none
  | n0 + 1, v1, v2, v3 => bif decide (24 ≤ v3) then (ke0 v2) else (jm_bd (f14 M v1 v3) (fun q2 => bif decide (q2 = 0) then ((f18_4 M ke0 n0) v1 v2 (v3 + 1)) else ((f18_4 M ke0 n0) v1 (v2 ||| (1 <<< (v3 &&& 31))) (v3 + 1))))
set_option maxRecDepth 100000 in
theorem g18_4 (L : Nat) (d : Nat) (M : jm_MM) (J : jm_JJ) (ke0 : Int32 → Option (Int32)) (hke0 : ∀  (v2 : Int32) (r : Int32), ke0 v2 = some r → jm_go (d + 1) (jm_G 18) 31 [none, none, some (.int v2), none] [] (jm_S0 L, M, J) (some (.int r), (jm_S0 L, M, J))) : ∀ (n0 : Nat) (v1 : Int32) (v2 : Int32) (v3 : Int32) (r : Int32), f18_4 M ke0 n0 v1 v2 v3 = some r → jm_go (d + 1) (jm_G 18) 4 [some (.ref 2), some (.int v1), some (.int v2), some (.int v3)] [] (jm_S0 L, M, J) (some (.int r), (jm_S0 L, M, J)) := by
  intro n0
  induction n0 with
  | zero => intro v1 v2 v3 r H; cases H
  | succ n0 ih =>
    intro v1 v2 v3 r H
    have hkb := ih
    unfold f18_4 at H
    rcases jm_bro H with ⟨h1, H⟩ | ⟨h1, H⟩
    · refine jm_go.brt 3 (b := decide (24 ≤ v3)) (p1 := 31) (l1 := [some (.ref 2), some (.int v1), some (.int v2), some (.int v3)]) (s1 := []) (t1 := (jm_S0 L, M, J)) (p2 := 10) (l2 := [some (.ref 2), some (.int v1), some (.int v2), some (.int v3)]) (s2 := []) (t2 := (jm_S0 L, M, J)) (fun _ _ => rfl) h1 ?_
      refine jm_go.lab (ls' := [none, none, some (.int v2), none]) (fun i hi => by cases hi; rfl) ?_
      exact hke0 v2 _ H
    · refine jm_go.brf 3 (b := decide (24 ≤ v3)) (p1 := 31) (l1 := [some (.ref 2), some (.int v1), some (.int v2), some (.int v3)]) (s1 := []) (t1 := (jm_S0 L, M, J)) (p2 := 10) (l2 := [some (.ref 2), some (.int v1), some (.int v2), some (.int v3)]) (s2 := []) (t2 := (jm_S0 L, M, J)) (fun _ _ => rfl) h1 ?_
      obtain ⟨q2, h3, H⟩ := jm_bdo H
      refine jm_go.call 4 (d := d) (b := true) (u := 14) (as := [.ref 2, .int v1, .int v3]) (pc' := 16) (ls' := [some (.ref 2), some (.int v1), some (.int v2), some (.int v3)]) (st' := []) (t' := (jm_S0 L, M, J)) (fun _ _ => rfl) rfl rfl (g14 L d M J v1 v3 _ h3) ?_
      rcases jm_bro H with ⟨h4, H⟩ | ⟨h4, H⟩
      · refine jm_go.brt 1 (b := decide (q2 = 0)) (p1 := 25) (l1 := [some (.ref 2), some (.int v1), some (.int v2), some (.int v3)]) (s1 := []) (t1 := (jm_S0 L, M, J)) (p2 := 19) (l2 := [some (.ref 2), some (.int v1), some (.int v2), some (.int v3)]) (s2 := []) (t2 := (jm_S0 L, M, J)) (fun _ _ => rfl) h4 ?_
        refine jm_go.blk 2 (pc' := 4) (ls' := [some (.ref 2), some (.int v1), some (.int v2), some (.int (v3 + 1))]) (st' := []) (t' := (jm_S0 L, M, J)) (fun _ _ => rfl) ?_
        exact hkb v1 v2 (v3 + 1) _ H
      · refine jm_go.brf 1 (b := decide (q2 = 0)) (p1 := 25) (l1 := [some (.ref 2), some (.int v1), some (.int v2), some (.int v3)]) (s1 := []) (t1 := (jm_S0 L, M, J)) (p2 := 19) (l2 := [some (.ref 2), some (.int v1), some (.int v2), some (.int v3)]) (s2 := []) (t2 := (jm_S0 L, M, J)) (fun _ _ => rfl) h4 ?_
        refine jm_go.blk 8 (pc' := 4) (ls' := [some (.ref 2), some (.int v1), some (.int (v2 ||| (1 <<< (v3 &&& 31)))), some (.int (v3 + 1))]) (st' := []) (t' := (jm_S0 L, M, J)) (fun _ _ => rfl) ?_
        exact hkb v1 (v2 ||| (1 <<< (v3 &&& 31))) (v3 + 1) _ H

/-- X1_grainsOf -/
def f18 (M : jm_MM) (x0 : Int32) : Option (Int32) := f18_4 M (fun ve5 => some ve5) jm_F x0 0 0
set_option maxRecDepth 100000 in
theorem g18 (L : Nat) (d : Nat) (M : jm_MM) (J : jm_JJ) (x0 : Int32) (r : Int32) (H : f18 M x0 = some r) : jm_go (d + 1) (jm_G 18) 0 (jm_en 4 [.ref 2, .int x0]) [] (jm_S0 L, M, J) (some (.int r), (jm_S0 L, M, J)) := by
  unfold f18 at H
  refine jm_go.blk 4 (pc' := 4) (ls' := [some (.ref 2), some (.int x0), some (.int 0), some (.int 0)]) (st' := []) (t' := (jm_S0 L, M, J)) (fun _ _ => rfl) ?_
  exact g18_4 L d M J
    _ (fun ve5 r H => by
      have H := Option.some.inj H
      subst H
      exact jm_go.ret 2 (fun _ _ => rfl)
      )
    _ x0 0 0 _ H
