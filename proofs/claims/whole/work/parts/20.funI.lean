/-! methods as functions: printed by wip/whole/gen/lay.py (funs.py) -/
def f124_78  (ke0 : jm_MM → Int32 → Int32 → Int32 → Int32 → Int32 → Option (jm_MM)) : Nat → jm_MM → Int32 → Int32 → Int32 → Int32 → Int32 → Option (jm_MM)
  | 0, _, _, _, _, _, _ => none
  | n0 + 1, M, v1, v2, v3, v4, v5 => bif decide (v5 ≤ 0) then (ke0 M v1 v2 v3 v4 v5) else (jm_gd (jm_inb (((24 * v1) + v5) - 1) 144) (jm_bd (f123 M v4 (M 116 ((((24 * v1) + v5) - 1).toNatClampNeg))) (fun q18 => bif decide (q18 = 0) then (ke0 M v1 v2 v3 v4 v5) else (jm_gd (jm_inb (((24 * v1) + v5) - 1) 144) (jm_gd (jm_inb ((24 * v1) + v5) 144) ((f124_78  ke0 n0) (jm_up M 116 (((24 * v1) + v5).toNatClampNeg) (M 116 ((((24 * v1) + v5) - 1).toNatClampNeg))) v1 v2 v3 v4 (v5 + (-1))))))))
set_option maxRecDepth 100000 in
theorem g124_78 (L : Nat) (d : Nat) (_M : jm_MM) (J : jm_JJ) (ke0 : jm_MM → Int32 → Int32 → Int32 → Int32 → Int32 → Option (jm_MM)) (hke0 : ∀ (M : jm_MM) (v1 : Int32) (v2 : Int32) (v3 : Int32) (v4 : Int32) (v5 : Int32) (r : jm_MM), ke0 M v1 v2 v3 v4 v5 = some r → jm_go (d + 5) (jm_G 124) 138 [some (.ref 113), some (.int v1), some (.int v2), some (.int v3), some (.int v4), some (.int v5)] [] (jm_S0 L, M, J) (none, (jm_S0 L, r, J))) : ∀ (n0 : Nat) (M : jm_MM) (v1 : Int32) (v2 : Int32) (v3 : Int32) (v4 : Int32) (v5 : Int32) (r : jm_MM), f124_78  ke0 n0 M v1 v2 v3 v4 v5 = some r → jm_go (d + 5) (jm_G 124) 78 [some (.ref 113), some (.int v1), some (.int v2), some (.int v3), some (.int v4), some (.int v5)] [] (jm_S0 L, M, J) (none, (jm_S0 L, r, J)) := by
  intro n0
  induction n0 with
  | zero => intro M v1 v2 v3 v4 v5 r H; cases H
  | succ n0 ih =>
    intro M v1 v2 v3 v4 v5 r H
    have hkb := ih
    unfold f124_78 at H
    rcases jm_bro H with ⟨h16, H⟩ | ⟨h16, H⟩
    · refine jm_go.brt 2 (b := decide (v5 ≤ 0)) (p1 := 138) (l1 := [some (.ref 113), some (.int v1), some (.int v2), some (.int v3), some (.int v4), some (.int v5)]) (s1 := []) (t1 := (jm_S0 L, M, J)) (p2 := 83) (l2 := [some (.ref 113), some (.int v1), some (.int v2), some (.int v3), some (.int v4), some (.int v5)]) (s2 := []) (t2 := (jm_S0 L, M, J)) (fun _ _ => rfl) h16 ?_
      exact hke0 M v1 v2 v3 v4 v5 _ H
    · refine jm_go.brf 2 (b := decide (v5 ≤ 0)) (p1 := 138) (l1 := [some (.ref 113), some (.int v1), some (.int v2), some (.int v3), some (.int v4), some (.int v5)]) (s1 := []) (t1 := (jm_S0 L, M, J)) (p2 := 83) (l2 := [some (.ref 113), some (.int v1), some (.int v2), some (.int v3), some (.int v4), some (.int v5)]) (s2 := []) (t2 := (jm_S0 L, M, J)) (fun _ _ => rfl) h16 ?_
      obtain ⟨h17, H⟩ := jm_gdo H
      refine jm_go.grd 12 (b := jm_inb (((24 * v1) + v5) - 1) 144) (pc' := 100) (ls' := [some (.ref 113), some (.int v1), some (.int v2), some (.int v3), some (.int v4), some (.int v5)]) (st' := [.int (M 116 ((((24 * v1) + v5) - 1).toNatClampNeg)), .int v4, .ref 113]) (t' := (jm_S0 L, M, J)) (fun _ _ => rfl) h17 ?_
      obtain ⟨q18, h19, H⟩ := jm_bdo H
      refine jm_go.call 1 (d := d + 4) (b := true) (u := 123) (as := [.ref 113, .int v4, .int (M 116 ((((24 * v1) + v5) - 1).toNatClampNeg))]) (pc' := 103) (ls' := [some (.ref 113), some (.int v1), some (.int v2), some (.int v3), some (.int v4), some (.int v5)]) (st' := []) (t' := (jm_S0 L, M, J)) (fun _ _ => rfl) rfl rfl (g123 L (d + 2) M J v4 (M 116 ((((24 * v1) + v5) - 1).toNatClampNeg)) _ h19) ?_
      rcases jm_bro H with ⟨h20, H⟩ | ⟨h20, H⟩
      · refine jm_go.brt 1 (b := decide (q18 = 0)) (p1 := 138) (l1 := [some (.ref 113), some (.int v1), some (.int v2), some (.int v3), some (.int v4), some (.int v5)]) (s1 := []) (t1 := (jm_S0 L, M, J)) (p2 := 106) (l2 := [some (.ref 113), some (.int v1), some (.int v2), some (.int v3), some (.int v4), some (.int v5)]) (s2 := []) (t2 := (jm_S0 L, M, J)) (fun _ _ => rfl) h20 ?_
        exact hke0 M v1 v2 v3 v4 v5 _ H
      · refine jm_go.brf 1 (b := decide (q18 = 0)) (p1 := 138) (l1 := [some (.ref 113), some (.int v1), some (.int v2), some (.int v3), some (.int v4), some (.int v5)]) (s1 := []) (t1 := (jm_S0 L, M, J)) (p2 := 106) (l2 := [some (.ref 113), some (.int v1), some (.int v2), some (.int v3), some (.int v4), some (.int v5)]) (s2 := []) (t2 := (jm_S0 L, M, J)) (fun _ _ => rfl) h20 ?_
        obtain ⟨h21, H⟩ := jm_gdo H
        refine jm_go.grd 17 (b := jm_inb (((24 * v1) + v5) - 1) 144) (pc' := 131) (ls' := [some (.ref 113), some (.int v1), some (.int v2), some (.int v3), some (.int v4), some (.int v5)]) (st' := [.int (M 116 ((((24 * v1) + v5) - 1).toNatClampNeg)), .int ((24 * v1) + v5), .ref 116]) (t' := (jm_S0 L, M, J)) (fun _ _ => rfl) h21 ?_
        obtain ⟨h22, H⟩ := jm_gdo H
        refine jm_go.grd 1 (b := jm_inb ((24 * v1) + v5) 144) (pc' := 132) (ls' := [some (.ref 113), some (.int v1), some (.int v2), some (.int v3), some (.int v4), some (.int v5)]) (st' := []) (t' := (jm_S0 L, (jm_up M 116 (((24 * v1) + v5).toNatClampNeg) (M 116 ((((24 * v1) + v5) - 1).toNatClampNeg))), J)) (fun _ _ => rfl) h22 ?_
        refine jm_go.blk 2 (pc' := 78) (ls' := [some (.ref 113), some (.int v1), some (.int v2), some (.int v3), some (.int v4), some (.int (v5 + (-1)))]) (st' := []) (t' := (jm_S0 L, (jm_up M 116 (((24 * v1) + v5).toNatClampNeg) (M 116 ((((24 * v1) + v5) - 1).toNatClampNeg))), J)) (fun _ _ => rfl) ?_
        exact hkb (jm_up M 116 (((24 * v1) + v5).toNatClampNeg) (M 116 ((((24 * v1) + v5) - 1).toNatClampNeg))) v1 v2 v3 v4 (v5 + (-1)) _ H

def f124_138  (kb : jm_MM → Int32 → Int32 → Int32 → Option (jm_MM)) (ke0 : jm_MM → Option (jm_MM)) (M : jm_MM) (v1 : Int32) (v2 : Int32) (v3 : Int32) (v4 : Int32) (v5 : Int32) : Option (jm_MM) := jm_gd (jm_inb ((24 * v1) + v5) 144) (jm_gd (jm_inb v1 6) (jm_gd (jm_inb v1 6) (kb (jm_up (jm_up M 116 (((24 * v1) + v5).toNatClampNeg) v4) 117 v1.toNatClampNeg (((jm_up M 116 (((24 * v1) + v5).toNatClampNeg) v4) 117 v1.toNatClampNeg) + 1)) v1 v2 (v3 + 1))))
set_option maxRecDepth 100000 in
theorem g124_138 (L : Nat) (d : Nat) (_M : jm_MM) (J : jm_JJ) (kb : jm_MM → Int32 → Int32 → Int32 → Option (jm_MM)) (hkb : ∀ (M : jm_MM) (v1 : Int32) (v2 : Int32) (v3 : Int32) (r : jm_MM), kb M v1 v2 v3 = some r → jm_go (d + 5) (jm_G 124) 15 [some (.ref 113), some (.int v1), some (.int v2), some (.int v3), none, none] [] (jm_S0 L, M, J) (none, (jm_S0 L, r, J))) (ke0 : jm_MM → Option (jm_MM)) (hke0 : ∀ (M : jm_MM) (r : jm_MM), ke0 M = some r → jm_go (d + 5) (jm_G 124) 168 [none, none, none, none, none, none] [] (jm_S0 L, M, J) (none, (jm_S0 L, r, J))) (M : jm_MM) (v1 : Int32) (v2 : Int32) (v3 : Int32) (v4 : Int32) (v5 : Int32) (r : jm_MM) (H : f124_138  kb ke0 M v1 v2 v3 v4 v5 = some r) : jm_go (d + 5) (jm_G 124) 138 [some (.ref 113), some (.int v1), some (.int v2), some (.int v3), some (.int v4), some (.int v5)] [] (jm_S0 L, M, J) (none, (jm_S0 L, r, J)) := by
  unfold f124_138 at H
  obtain ⟨h29, H⟩ := jm_gdo H
  refine jm_go.grd 9 (b := jm_inb ((24 * v1) + v5) 144) (pc' := 152) (ls' := [some (.ref 113), some (.int v1), some (.int v2), some (.int v3), some (.int v4), some (.int v5)]) (st' := []) (t' := (jm_S0 L, (jm_up M 116 (((24 * v1) + v5).toNatClampNeg) v4), J)) (fun _ _ => rfl) h29 ?_
  obtain ⟨h30, H⟩ := jm_gdo H
  refine jm_go.grd 5 (b := jm_inb v1 6) (pc' := 159) (ls' := [some (.ref 113), some (.int v1), some (.int v2), some (.int v3), some (.int v4), some (.int v5)]) (st' := [.int ((jm_up M 116 (((24 * v1) + v5).toNatClampNeg) v4) 117 v1.toNatClampNeg), .int v1, .ref 117]) (t' := (jm_S0 L, (jm_up M 116 (((24 * v1) + v5).toNatClampNeg) v4), J)) (fun _ _ => rfl) h30 ?_
  obtain ⟨h31, H⟩ := jm_gdo H
  refine jm_go.grd 3 (b := jm_inb v1 6) (pc' := 162) (ls' := [some (.ref 113), some (.int v1), some (.int v2), some (.int v3), some (.int v4), some (.int v5)]) (st' := []) (t' := (jm_S0 L, (jm_up (jm_up M 116 (((24 * v1) + v5).toNatClampNeg) v4) 117 v1.toNatClampNeg (((jm_up M 116 (((24 * v1) + v5).toNatClampNeg) v4) 117 v1.toNatClampNeg) + 1)), J)) (fun _ _ => rfl) h31 ?_
  refine jm_go.blk 2 (pc' := 15) (ls' := [some (.ref 113), some (.int v1), some (.int v2), some (.int (v3 + 1)), none, none]) (st' := []) (t' := (jm_S0 L, (jm_up (jm_up M 116 (((24 * v1) + v5).toNatClampNeg) v4) 117 v1.toNatClampNeg (((jm_up M 116 (((24 * v1) + v5).toNatClampNeg) v4) 117 v1.toNatClampNeg) + 1)), J)) (fun _ _ => rfl) ?_
  exact hkb (jm_up (jm_up M 116 (((24 * v1) + v5).toNatClampNeg) v4) 117 v1.toNatClampNeg (((jm_up M 116 (((24 * v1) + v5).toNatClampNeg) v4) 117 v1.toNatClampNeg) + 1)) v1 v2 (v3 + 1) _ H

def f124_15  (ke0 : jm_MM → Option (jm_MM)) : Nat → jm_MM → Int32 → Int32 → Int32 → Option (jm_MM)
  | 0, _, _, _, _ => none
  | n0 + 1, M, v1, v2, v3 => bif decide (24 ≤ v3) then (ke0 M) else (jm_bd (f94 M v2 v3) (fun q5 => bif decide (q5 = 0) then ((f124_15  ke0 n0) M v1 v2 (v3 + 1)) else (jm_bd (f102 M v1) (fun q8 => jm_bd (f120 M v1 v3 q8 (M 114 0)) (fun q10 => jm_bd (f119 M q10) (fun q12 => bif decide (q12 < (M 114 1)) then ((f124_15  ke0 n0) M v1 (v2 &&& (q10 ^^^ (-1))) (v3 + 1)) else (jm_gd (jm_inb v1 6) (f124_78  (fun Me23 ve24 ve25 ve26 ve27 ve28 => f124_138  (f124_15  ke0 n0) ke0 Me23 ve24 ve25 ve26 ve27 ve28) jm_F M v1 (v2 &&& (q10 ^^^ (-1))) v3 q10 (M 117 v1.toNatClampNeg)))))))))
set_option maxRecDepth 100000 in
theorem g124_15 (L : Nat) (d : Nat) (_M : jm_MM) (J : jm_JJ) (ke0 : jm_MM → Option (jm_MM)) (hke0 : ∀ (M : jm_MM) (r : jm_MM), ke0 M = some r → jm_go (d + 5) (jm_G 124) 168 [none, none, none, none, none, none] [] (jm_S0 L, M, J) (none, (jm_S0 L, r, J))) : ∀ (n0 : Nat) (M : jm_MM) (v1 : Int32) (v2 : Int32) (v3 : Int32) (r : jm_MM), f124_15  ke0 n0 M v1 v2 v3 = some r → jm_go (d + 5) (jm_G 124) 15 [some (.ref 113), some (.int v1), some (.int v2), some (.int v3), none, none] [] (jm_S0 L, M, J) (none, (jm_S0 L, r, J)) := by
  intro n0
  induction n0 with
  | zero => intro M v1 v2 v3 r H; cases H
  | succ n0 ih =>
    intro M v1 v2 v3 r H
    have hkb := ih
    unfold f124_15 at H
    rcases jm_bro H with ⟨h4, H⟩ | ⟨h4, H⟩
    · refine jm_go.brt 3 (b := decide (24 ≤ v3)) (p1 := 168) (l1 := [some (.ref 113), some (.int v1), some (.int v2), some (.int v3), none, none]) (s1 := []) (t1 := (jm_S0 L, M, J)) (p2 := 21) (l2 := [some (.ref 113), some (.int v1), some (.int v2), some (.int v3), none, none]) (s2 := []) (t2 := (jm_S0 L, M, J)) (fun _ _ => rfl) h4 ?_
      refine jm_go.lab (ls' := [none, none, none, none, none, none]) (fun i hi => by cases hi; rfl) ?_
      exact hke0 M _ H
    · refine jm_go.brf 3 (b := decide (24 ≤ v3)) (p1 := 168) (l1 := [some (.ref 113), some (.int v1), some (.int v2), some (.int v3), none, none]) (s1 := []) (t1 := (jm_S0 L, M, J)) (p2 := 21) (l2 := [some (.ref 113), some (.int v1), some (.int v2), some (.int v3), none, none]) (s2 := []) (t2 := (jm_S0 L, M, J)) (fun _ _ => rfl) h4 ?_
      obtain ⟨q5, h6, H⟩ := jm_bdo H
      refine jm_go.call 3 (d := d + 4) (b := true) (u := 94) (as := [.int v2, .int v3]) (pc' := 26) (ls' := [some (.ref 113), some (.int v1), some (.int v2), some (.int v3), none, none]) (st' := []) (t' := (jm_S0 L, M, J)) (fun _ _ => rfl) rfl rfl (g94 L (d + 4) M J v2 v3 _ h6) ?_
      rcases jm_bro H with ⟨h7, H⟩ | ⟨h7, H⟩
      · refine jm_go.brt 1 (b := decide (q5 = 0)) (p1 := 162) (l1 := [some (.ref 113), some (.int v1), some (.int v2), some (.int v3), none, none]) (s1 := []) (t1 := (jm_S0 L, M, J)) (p2 := 29) (l2 := [some (.ref 113), some (.int v1), some (.int v2), some (.int v3), none, none]) (s2 := []) (t2 := (jm_S0 L, M, J)) (fun _ _ => rfl) h7 ?_
        refine jm_go.blk 2 (pc' := 15) (ls' := [some (.ref 113), some (.int v1), some (.int v2), some (.int (v3 + 1)), none, none]) (st' := []) (t' := (jm_S0 L, M, J)) (fun _ _ => rfl) ?_
        exact hkb M v1 v2 (v3 + 1) _ H
      · refine jm_go.brf 1 (b := decide (q5 = 0)) (p1 := 162) (l1 := [some (.ref 113), some (.int v1), some (.int v2), some (.int v3), none, none]) (s1 := []) (t1 := (jm_S0 L, M, J)) (p2 := 29) (l2 := [some (.ref 113), some (.int v1), some (.int v2), some (.int v3), none, none]) (s2 := []) (t2 := (jm_S0 L, M, J)) (fun _ _ => rfl) h7 ?_
        obtain ⟨q8, h9, H⟩ := jm_bdo H
        refine jm_go.call 6 (d := d + 4) (b := true) (u := 102) (as := [.ref 113, .int v1]) (pc' := 37) (ls' := [some (.ref 113), some (.int v1), some (.int v2), some (.int v3), none, none]) (st' := [.int v3, .int v1, .ref 113]) (t' := (jm_S0 L, M, J)) (fun _ _ => rfl) rfl rfl (g102 L (d + 3) M J v1 _ h9) ?_
        obtain ⟨q10, h11, H⟩ := jm_bdo H
        refine jm_go.call 5 (d := d + 4) (b := true) (u := 120) (as := [.ref 113, .int v1, .int v3, .int q8, .int (M 114 0)]) (pc' := 46) (ls' := [some (.ref 113), some (.int v1), some (.int v2), some (.int v3), none, none]) (st' := []) (t' := (jm_S0 L, M, J)) (fun _ _ => rfl) rfl rfl (g120 L d M J v1 v3 q8 (M 114 0) _ h11) ?_
        obtain ⟨q12, h13, H⟩ := jm_bdo H
        refine jm_go.call 10 (d := d + 4) (b := true) (u := 119) (as := [.ref 113, .int q10]) (pc' := 61) (ls' := [some (.ref 113), some (.int v1), some (.int (v2 &&& (q10 ^^^ (-1)))), some (.int v3), some (.int q10), none]) (st' := []) (t' := (jm_S0 L, M, J)) (fun _ _ => rfl) rfl rfl (g119 L (d + 3) M J q10 _ h13) ?_
        rcases jm_bro H with ⟨h14, H⟩ | ⟨h14, H⟩
        · refine jm_go.brt 5 (b := decide (q12 < (M 114 1))) (p1 := 162) (l1 := [some (.ref 113), some (.int v1), some (.int (v2 &&& (q10 ^^^ (-1)))), some (.int v3), some (.int q10), none]) (s1 := []) (t1 := (jm_S0 L, M, J)) (p2 := 70) (l2 := [some (.ref 113), some (.int v1), some (.int (v2 &&& (q10 ^^^ (-1)))), some (.int v3), some (.int q10), none]) (s2 := []) (t2 := (jm_S0 L, M, J)) (fun _ _ => rfl) h14 ?_
          refine jm_go.blk 2 (pc' := 15) (ls' := [some (.ref 113), some (.int v1), some (.int (v2 &&& (q10 ^^^ (-1)))), some (.int (v3 + 1)), none, none]) (st' := []) (t' := (jm_S0 L, M, J)) (fun _ _ => rfl) ?_
          exact hkb M v1 (v2 &&& (q10 ^^^ (-1))) (v3 + 1) _ H
        · refine jm_go.brf 5 (b := decide (q12 < (M 114 1))) (p1 := 162) (l1 := [some (.ref 113), some (.int v1), some (.int (v2 &&& (q10 ^^^ (-1)))), some (.int v3), some (.int q10), none]) (s1 := []) (t1 := (jm_S0 L, M, J)) (p2 := 70) (l2 := [some (.ref 113), some (.int v1), some (.int (v2 &&& (q10 ^^^ (-1)))), some (.int v3), some (.int q10), none]) (s2 := []) (t2 := (jm_S0 L, M, J)) (fun _ _ => rfl) h14 ?_
          obtain ⟨h15, H⟩ := jm_gdo H
          refine jm_go.grd 4 (b := jm_inb v1 6) (pc' := 76) (ls' := [some (.ref 113), some (.int v1), some (.int (v2 &&& (q10 ^^^ (-1)))), some (.int v3), some (.int q10), none]) (st' := [.int (M 117 v1.toNatClampNeg)]) (t' := (jm_S0 L, M, J)) (fun _ _ => rfl) h15 ?_
          refine jm_go.blk 1 (pc' := 78) (ls' := [some (.ref 113), some (.int v1), some (.int (v2 &&& (q10 ^^^ (-1)))), some (.int v3), some (.int q10), some (.int (M 117 v1.toNatClampNeg))]) (st' := []) (t' := (jm_S0 L, M, J)) (fun _ _ => rfl) ?_
          exact g124_78 L d M J
            _ (fun Me23 ve24 ve25 ve26 ve27 ve28 r H => by
              exact g124_138 L d M J _ hkb _ hke0 Me23 ve24 ve25 ve26 ve27 ve28 _ H
              )
            _ M v1 (v2 &&& (q10 ^^^ (-1))) v3 q10 (M 117 v1.toNatClampNeg) _ H

/-- X8_layHalos -/
def f124 (M : jm_MM) (x0 : Int32) : Option (jm_MM) := jm_bd (f102 M x0) (fun q1 => jm_gd (jm_inb x0 6) (f124_15  (fun Me32 => some Me32) jm_F (jm_up M 117 x0.toNatClampNeg 0) x0 q1 0))
set_option maxRecDepth 100000 in
theorem g124 (L : Nat) (d : Nat) (M : jm_MM) (J : jm_JJ) (x0 : Int32) (r : jm_MM) (H : f124 M x0 = some r) : jm_go (d + 5) (jm_G 124) 0 (jm_en 6 [.ref 113, .int x0]) [] (jm_S0 L, M, J) (none, (jm_S0 L, r, J)) := by
  unfold f124 at H
  obtain ⟨q1, h2, H⟩ := jm_bdo H
  refine jm_go.call 3 (d := d + 4) (b := true) (u := 102) (as := [.ref 113, .int x0]) (pc' := 5) (ls' := [some (.ref 113), some (.int x0), none, none, none, none]) (st' := []) (t' := (jm_S0 L, M, J)) (fun _ _ => rfl) rfl rfl (g102 L (d + 3) M J x0 _ h2) ?_
  obtain ⟨h3, H⟩ := jm_gdo H
  refine jm_go.grd 6 (b := jm_inb x0 6) (pc' := 13) (ls' := [some (.ref 113), some (.int x0), some (.int q1), none, none, none]) (st' := []) (t' := (jm_S0 L, (jm_up M 117 x0.toNatClampNeg 0), J)) (fun _ _ => rfl) h3 ?_
  refine jm_go.blk 2 (pc' := 15) (ls' := [some (.ref 113), some (.int x0), some (.int q1), some (.int 0), none, none]) (st' := []) (t' := (jm_S0 L, (jm_up M 117 x0.toNatClampNeg 0), J)) (fun _ _ => rfl) ?_
  exact g124_15 L d M J
    _ (fun Me32 r H => by
      have H := Option.some.inj H
      subst H
      exact jm_go.ret 1 (fun _ _ => rfl)
      )
    _ (jm_up M 117 x0.toNatClampNeg 0) x0 q1 0 _ H

def f125_2  (ke0 : jm_MM → Option (jm_MM)) : Nat → jm_MM → Int32 → Option (jm_MM)
  | 0, _, _ => none
  | n0 + 1, M, v1 => bif decide ((M 114 2) ≤ v1) then (ke0 M) else (jm_bd (f124 M v1) (fun q2 => (f125_2  ke0 n0) q2 (v1 + 1)))
set_option maxRecDepth 100000 in
theorem g125_2 (L : Nat) (d : Nat) (_M : jm_MM) (J : jm_JJ) (ke0 : jm_MM → Option (jm_MM)) (hke0 : ∀ (M : jm_MM) (r : jm_MM), ke0 M = some r → jm_go (d + 6) (jm_G 125) 23 [none, none] [] (jm_S0 L, M, J) (none, (jm_S0 L, r, J))) : ∀ (n0 : Nat) (M : jm_MM) (v1 : Int32) (r : jm_MM), f125_2  ke0 n0 M v1 = some r → jm_go (d + 6) (jm_G 125) 2 [some (.ref 113), some (.int v1)] [] (jm_S0 L, M, J) (none, (jm_S0 L, r, J)) := by
  intro n0
  induction n0 with
  | zero => intro M v1 r H; cases H
  | succ n0 ih =>
    intro M v1 r H
    have hkb := ih
    unfold f125_2 at H
    rcases jm_bro H with ⟨h1, H⟩ | ⟨h1, H⟩
    · refine jm_go.brt 6 (b := decide ((M 114 2) ≤ v1)) (p1 := 23) (l1 := [some (.ref 113), some (.int v1)]) (s1 := []) (t1 := (jm_S0 L, M, J)) (p2 := 12) (l2 := [some (.ref 113), some (.int v1)]) (s2 := []) (t2 := (jm_S0 L, M, J)) (fun _ _ => rfl) h1 ?_
      refine jm_go.lab (ls' := [none, none]) (fun i hi => by cases hi; rfl) ?_
      exact hke0 M _ H
    · refine jm_go.brf 6 (b := decide ((M 114 2) ≤ v1)) (p1 := 23) (l1 := [some (.ref 113), some (.int v1)]) (s1 := []) (t1 := (jm_S0 L, M, J)) (p2 := 12) (l2 := [some (.ref 113), some (.int v1)]) (s2 := []) (t2 := (jm_S0 L, M, J)) (fun _ _ => rfl) h1 ?_
      obtain ⟨q2, h3, H⟩ := jm_bdo H
      refine jm_go.call 3 (d := d + 5) (b := true) (u := 124) (as := [.ref 113, .int v1]) (pc' := 17) (ls' := [some (.ref 113), some (.int v1)]) (st' := []) (t' := (jm_S0 L, M, J)) (fun _ _ => rfl) rfl rfl (g124 L d M J v1 _ h3) ?_
      refine jm_go.blk 2 (pc' := 2) (ls' := [some (.ref 113), some (.int (v1 + 1))]) (st' := []) (t' := (jm_S0 L, q2, J)) (fun _ _ => rfl) ?_
      exact hkb q2 (v1 + 1) _ H

/-- X8_layAll -/
def f125 (M : jm_MM)  : Option (jm_MM) := f125_2  (fun Me4 => some Me4) jm_F M 0
set_option maxRecDepth 100000 in
theorem g125 (L : Nat) (d : Nat) (M : jm_MM) (J : jm_JJ)  (r : jm_MM) (H : f125 M  = some r) : jm_go (d + 6) (jm_G 125) 0 (jm_en 2 [.ref 113]) [] (jm_S0 L, M, J) (none, (jm_S0 L, r, J)) := by
  unfold f125 at H
  refine jm_go.blk 2 (pc' := 2) (ls' := [some (.ref 113), some (.int 0)]) (st' := []) (t' := (jm_S0 L, M, J)) (fun _ _ => rfl) ?_
  exact g125_2 L d M J
    _ (fun Me4 r H => by
      have H := Option.some.inj H
      subst H
      exact jm_go.ret 1 (fun _ _ => rfl)
      )
    _ M 0 _ H


/-- X8_isHalo -/
def f126 (M : jm_MM) (x0 : Int32) (x1 : Int32) : Option (Int32 × jm_MM) := jm_bd (f96 M x0) (fun q1 => bif !decide (q1 = 0) then (jm_bd (f125 M) (fun q4 => jm_gd (jm_inb x0 6) (jm_bd (f93 q4 (Int32.toInt64 x1) 0 (Int32.toInt64 ((q4 117 x0.toNatClampNeg) - 1))) (fun q7 => jm_gd (jm_z1 q7) (some (q7, q4)))))) else (some (0, M)))
set_option maxRecDepth 100000 in
theorem g126 (L : Nat) (d : Nat) (M : jm_MM) (J : jm_JJ) (x0 : Int32) (x1 : Int32) (r : Int32 × jm_MM) (H : f126 M x0 x1 = some r) : jm_go (d + 7) (jm_G 126) 0 (jm_en 3 [.ref 113, .int x0, .int x1]) [] (jm_S0 L, M, J) (some (.int r.1), (jm_S0 L, r.2, J)) := by
  unfold f126 at H
  obtain ⟨q1, h2, H⟩ := jm_bdo H
  refine jm_go.call 3 (d := d + 6) (b := true) (u := 96) (as := [.ref 113, .int x0]) (pc' := 5) (ls' := [some (.ref 113), some (.int x0), some (.int x1)]) (st' := []) (t' := (jm_S0 L, M, J)) (fun _ _ => rfl) rfl rfl (g96 L (d + 5) M J x0 _ h2) ?_
  rcases jm_bro H with ⟨h3, H⟩ | ⟨h3, H⟩
  · refine jm_go.brt 1 (b := !decide (q1 = 0)) (p1 := 10) (l1 := [some (.ref 113), some (.int x0), some (.int x1)]) (s1 := []) (t1 := (jm_S0 L, M, J)) (p2 := 8) (l2 := [some (.ref 113), some (.int x0), some (.int x1)]) (s2 := []) (t2 := (jm_S0 L, M, J)) (fun _ _ => rfl) h3 ?_
    obtain ⟨q4, h5, H⟩ := jm_bdo H
    refine jm_go.call 2 (d := d + 6) (b := true) (u := 125) (as := [.ref 113]) (pc' := 14) (ls' := [some (.ref 113), some (.int x0), some (.int x1)]) (st' := []) (t' := (jm_S0 L, M, J)) (fun _ _ => rfl) rfl rfl (g125 L d M J _ h5) ?_
    obtain ⟨h6, H⟩ := jm_gdo H
    refine jm_go.grd 7 (b := jm_inb x0 6) (pc' := 23) (ls' := [some (.ref 113), some (.int x0), some (.int x1)]) (st' := [.int (q4 117 x0.toNatClampNeg), .long 0, .long (Int32.toInt64 x1)]) (t' := (jm_S0 L, q4, J)) (fun _ _ => rfl) h6 ?_
    obtain ⟨q7, h8, H⟩ := jm_bdo H
    refine jm_go.call 4 (d := d + 6) (b := true) (u := 93) (as := [.long (Int32.toInt64 x1), .long 0, .long (Int32.toInt64 ((q4 117 x0.toNatClampNeg) - 1))]) (pc' := 29) (ls' := [some (.ref 113), some (.int x0), some (.int x1)]) (st' := []) (t' := (jm_S0 L, q4, J)) (fun _ _ => rfl) rfl rfl (g93 L (d + 6) q4 J (Int32.toInt64 x1) 0 (Int32.toInt64 ((q4 117 x0.toNatClampNeg) - 1)) _ h8) ?_
    obtain ⟨h9, H⟩ := jm_gdo H
    have H := Option.some.inj H
    subst H
    exact jm_go.retz 1 (b := jm_z1 q7) (fun _ _ => rfl) h9
  · refine jm_go.brf 1 (b := !decide (q1 = 0)) (p1 := 10) (l1 := [some (.ref 113), some (.int x0), some (.int x1)]) (s1 := []) (t1 := (jm_S0 L, M, J)) (p2 := 8) (l2 := [some (.ref 113), some (.int x0), some (.int x1)]) (s2 := []) (t2 := (jm_S0 L, M, J)) (fun _ _ => rfl) h3 ?_
    have H := Option.some.inj H
    subst H
    exact jm_go.retz 2 (b := jm_z1 0) (fun _ _ => rfl) rfl


/-- X8_haloSet -/
def f127 (M : jm_MM) (x0 : Int32) (x1 : Int32) : Option (Int32) := jm_gd (jm_inb ((24 * x0) + x1) 144) (some (M 116 (((24 * x0) + x1).toNatClampNeg)))
set_option maxRecDepth 100000 in
theorem g127 (L : Nat) (d : Nat) (M : jm_MM) (J : jm_JJ) (x0 : Int32) (x1 : Int32) (r : Int32) (H : f127 M x0 x1 = some r) : jm_go d (jm_G 127) 0 (jm_en 3 [.ref 113, .int x0, .int x1]) [] (jm_S0 L, M, J) (some (.int r), (jm_S0 L, M, J)) := by
  unfold f127 at H
  obtain ⟨h1, H⟩ := jm_gdo H
  refine jm_go.grd 8 (b := jm_inb ((24 * x0) + x1) 144) (pc' := 11) (ls' := [some (.ref 113), some (.int x0), some (.int x1)]) (st' := [.int (M 116 (((24 * x0) + x1).toNatClampNeg))]) (t' := (jm_S0 L, M, J)) (fun _ _ => rfl) h1 ?_
  have H := Option.some.inj H
  subst H
  exact jm_go.ret 1 (fun _ _ => rfl)

def f128_70 (M : jm_MM) (kb : Int32 → Int32 → Int32 → Int32 → Int32 → Option (Int32)) (ke0 : Int32 → Option (Int32)) (v1 : Int32) (v2 : Int32) (v4 : Int32) (v5 : Int32) (v6 : Int32) (s0 : Int32) : Option (Int32) := bif decide (v6 ≤ v4) then (kb v1 v2 s0 v4 (v5 + 1)) else (kb v1 v2 s0 v6 (v5 + 1))
set_option maxRecDepth 100000 in
theorem g128_70 (L : Nat) (d : Nat) (M : jm_MM) (J : jm_JJ) (kb : Int32 → Int32 → Int32 → Int32 → Int32 → Option (Int32)) (hkb : ∀  (v1 : Int32) (v2 : Int32) (v3 : Int32) (v4 : Int32) (v5 : Int32) (r : Int32), kb v1 v2 v3 v4 v5 = some r → jm_go (d + 2) (jm_G 128) 22 [some (.ref 113), some (.int v1), some (.int v2), some (.int v3), some (.int v4), some (.int v5), none] [] (jm_S0 L, M, J) (some (.int r), (jm_S0 L, M, J))) (ke0 : Int32 → Option (Int32)) (hke0 : ∀  (v3 : Int32) (r : Int32), ke0 v3 = some r → jm_go (d + 2) (jm_G 128) 93 [none, none, none, some (.int v3), none, none, none] [] (jm_S0 L, M, J) (some (.int r), (jm_S0 L, M, J))) (v1 : Int32) (v2 : Int32) (v4 : Int32) (v5 : Int32) (v6 : Int32) (s0 : Int32) (r : Int32) (H : f128_70 M kb ke0 v1 v2 v4 v5 v6 s0 = some r) : jm_go (d + 2) (jm_G 128) 70 [some (.ref 113), some (.int v1), some (.int v2), none, some (.int v4), some (.int v5), some (.int v6)] [.int s0] (jm_S0 L, M, J) (some (.int r), (jm_S0 L, M, J)) := by
  unfold f128_70 at H
  rcases jm_bro H with ⟨h11, H⟩ | ⟨h11, H⟩
  · refine jm_go.brt 4 (b := decide (v6 ≤ v4)) (p1 := 83) (l1 := [some (.ref 113), some (.int v1), some (.int v2), some (.int s0), some (.int v4), some (.int v5), some (.int v6)]) (s1 := []) (t1 := (jm_S0 L, M, J)) (p2 := 78) (l2 := [some (.ref 113), some (.int v1), some (.int v2), some (.int s0), some (.int v4), some (.int v5), some (.int v6)]) (s2 := []) (t2 := (jm_S0 L, M, J)) (fun _ _ => rfl) h11 ?_
    refine jm_go.blk 4 (pc' := 22) (ls' := [some (.ref 113), some (.int v1), some (.int v2), some (.int s0), some (.int v4), some (.int (v5 + 1)), none]) (st' := []) (t' := (jm_S0 L, M, J)) (fun _ _ => rfl) ?_
    exact hkb v1 v2 s0 v4 (v5 + 1) _ H
  · refine jm_go.brf 4 (b := decide (v6 ≤ v4)) (p1 := 83) (l1 := [some (.ref 113), some (.int v1), some (.int v2), some (.int s0), some (.int v4), some (.int v5), some (.int v6)]) (s1 := []) (t1 := (jm_S0 L, M, J)) (p2 := 78) (l2 := [some (.ref 113), some (.int v1), some (.int v2), some (.int s0), some (.int v4), some (.int v5), some (.int v6)]) (s2 := []) (t2 := (jm_S0 L, M, J)) (fun _ _ => rfl) h11 ?_
    refine jm_go.blk 5 (pc' := 22) (ls' := [some (.ref 113), some (.int v1), some (.int v2), some (.int s0), some (.int v6), some (.int (v5 + 1)), none]) (st' := []) (t' := (jm_S0 L, M, J)) (fun _ _ => rfl) ?_
    exact hkb v1 v2 s0 v6 (v5 + 1) _ H

def f128_22 (M : jm_MM) (ke0 : Int32 → Option (Int32)) : Nat → Int32 → Int32 → Int32 → Int32 → Int32 → Option (Int32)
  | 0, _, _, _, _, _ => none
  | n0 + 1, v1, v2, v3, v4, v5 => jm_gd (jm_inb (v1 + 1) 6) (bif decide ((M 117 ((v1 + 1).toNatClampNeg)) ≤ v5) then (ke0 v3) else (jm_bd (f127 M v1 v2) (fun q4 => jm_bd (f127 M (v1 + 1) v5) (fun q6 => jm_bd (f119 M (q4 &&& q6)) (fun q8 => bif decide (q8 ≤ v4) then (f128_70 M (f128_22 M ke0 n0) ke0 v1 v2 v4 v5 q8 v3) else (f128_70 M (f128_22 M ke0 n0) ke0 v1 v2 v4 v5 q8 v5))))))
set_option maxRecDepth 100000 in
theorem g128_22 (L : Nat) (d : Nat) (M : jm_MM) (J : jm_JJ) (ke0 : Int32 → Option (Int32)) (hke0 : ∀  (v3 : Int32) (r : Int32), ke0 v3 = some r → jm_go (d + 2) (jm_G 128) 93 [none, none, none, some (.int v3), none, none, none] [] (jm_S0 L, M, J) (some (.int r), (jm_S0 L, M, J))) : ∀ (n0 : Nat) (v1 : Int32) (v2 : Int32) (v3 : Int32) (v4 : Int32) (v5 : Int32) (r : Int32), f128_22 M ke0 n0 v1 v2 v3 v4 v5 = some r → jm_go (d + 2) (jm_G 128) 22 [some (.ref 113), some (.int v1), some (.int v2), some (.int v3), some (.int v4), some (.int v5), none] [] (jm_S0 L, M, J) (some (.int r), (jm_S0 L, M, J)) := by
  intro n0
  induction n0 with
  | zero => intro v1 v2 v3 v4 v5 r H; cases H
  | succ n0 ih =>
    intro v1 v2 v3 v4 v5 r H
    have hkb := ih
    unfold f128_22 at H
    obtain ⟨h2, H⟩ := jm_gdo H
    refine jm_go.grd 7 (b := jm_inb (v1 + 1) 6) (pc' := 32) (ls' := [some (.ref 113), some (.int v1), some (.int v2), some (.int v3), some (.int v4), some (.int v5), none]) (st' := [.int (M 117 ((v1 + 1).toNatClampNeg)), .int v5]) (t' := (jm_S0 L, M, J)) (fun _ _ => rfl) h2 ?_
    rcases jm_bro H with ⟨h3, H⟩ | ⟨h3, H⟩
    · refine jm_go.brt 1 (b := decide ((M 117 ((v1 + 1).toNatClampNeg)) ≤ v5)) (p1 := 93) (l1 := [some (.ref 113), some (.int v1), some (.int v2), some (.int v3), some (.int v4), some (.int v5), none]) (s1 := []) (t1 := (jm_S0 L, M, J)) (p2 := 35) (l2 := [some (.ref 113), some (.int v1), some (.int v2), some (.int v3), some (.int v4), some (.int v5), none]) (s2 := []) (t2 := (jm_S0 L, M, J)) (fun _ _ => rfl) h3 ?_
      refine jm_go.lab (ls' := [none, none, none, some (.int v3), none, none, none]) (fun i hi => by cases hi; rfl) ?_
      exact hke0 v3 _ H
    · refine jm_go.brf 1 (b := decide ((M 117 ((v1 + 1).toNatClampNeg)) ≤ v5)) (p1 := 93) (l1 := [some (.ref 113), some (.int v1), some (.int v2), some (.int v3), some (.int v4), some (.int v5), none]) (s1 := []) (t1 := (jm_S0 L, M, J)) (p2 := 35) (l2 := [some (.ref 113), some (.int v1), some (.int v2), some (.int v3), some (.int v4), some (.int v5), none]) (s2 := []) (t2 := (jm_S0 L, M, J)) (fun _ _ => rfl) h3 ?_
      obtain ⟨q4, h5, H⟩ := jm_bdo H
      refine jm_go.call 5 (d := d + 1) (b := true) (u := 127) (as := [.ref 113, .int v1, .int v2]) (pc' := 42) (ls' := [some (.ref 113), some (.int v1), some (.int v2), some (.int v3), some (.int v4), some (.int v5), none]) (st' := [.ref 113]) (t' := (jm_S0 L, M, J)) (fun _ _ => rfl) rfl rfl (g127 L (d + 1) M J v1 v2 _ h5) ?_
      obtain ⟨q6, h7, H⟩ := jm_bdo H
      refine jm_go.call 6 (d := d + 1) (b := true) (u := 127) (as := [.ref 113, .int (v1 + 1), .int v5]) (pc' := 51) (ls' := [some (.ref 113), some (.int v1), some (.int v2), some (.int v3), some (.int v4), some (.int v5), none]) (st' := [.int q4, .ref 113]) (t' := (jm_S0 L, M, J)) (fun _ _ => rfl) rfl rfl (g127 L (d + 1) M J (v1 + 1) v5 _ h7) ?_
      obtain ⟨q8, h9, H⟩ := jm_bdo H
      refine jm_go.call 2 (d := d + 1) (b := true) (u := 119) (as := [.ref 113, .int (q4 &&& q6)]) (pc' := 55) (ls' := [some (.ref 113), some (.int v1), some (.int v2), some (.int v3), some (.int v4), some (.int v5), none]) (st' := []) (t' := (jm_S0 L, M, J)) (fun _ _ => rfl) rfl rfl (g119 L d M J (q4 &&& q6) _ h9) ?_
      rcases jm_bro H with ⟨h10, H⟩ | ⟨h10, H⟩
      · refine jm_go.brt 4 (b := decide (q8 ≤ v4)) (p1 := 69) (l1 := [some (.ref 113), some (.int v1), some (.int v2), some (.int v3), some (.int v4), some (.int v5), some (.int q8)]) (s1 := []) (t1 := (jm_S0 L, M, J)) (p2 := 64) (l2 := [some (.ref 113), some (.int v1), some (.int v2), some (.int v3), some (.int v4), some (.int v5), some (.int q8)]) (s2 := []) (t2 := (jm_S0 L, M, J)) (fun _ _ => rfl) h10 ?_
        refine jm_go.blk 1 (pc' := 70) (ls' := [some (.ref 113), some (.int v1), some (.int v2), some (.int v3), some (.int v4), some (.int v5), some (.int q8)]) (st' := [.int v3]) (t' := (jm_S0 L, M, J)) (fun _ _ => rfl) ?_
        refine jm_go.lab (ls' := [some (.ref 113), some (.int v1), some (.int v2), none, some (.int v4), some (.int v5), some (.int q8)]) (fun i hi => by cases hi; rfl) ?_
        exact g128_70 L d M J _ hkb _ hke0 v1 v2 v4 v5 q8 v3 _ H
      · refine jm_go.brf 4 (b := decide (q8 ≤ v4)) (p1 := 69) (l1 := [some (.ref 113), some (.int v1), some (.int v2), some (.int v3), some (.int v4), some (.int v5), some (.int q8)]) (s1 := []) (t1 := (jm_S0 L, M, J)) (p2 := 64) (l2 := [some (.ref 113), some (.int v1), some (.int v2), some (.int v3), some (.int v4), some (.int v5), some (.int q8)]) (s2 := []) (t2 := (jm_S0 L, M, J)) (fun _ _ => rfl) h10 ?_
        refine jm_go.blk 2 (pc' := 70) (ls' := [some (.ref 113), some (.int v1), some (.int v2), some (.int v3), some (.int v4), some (.int v5), some (.int q8)]) (st' := [.int v5]) (t' := (jm_S0 L, M, J)) (fun _ _ => rfl) ?_
        refine jm_go.lab (ls' := [some (.ref 113), some (.int v1), some (.int v2), none, some (.int v4), some (.int v5), some (.int q8)]) (fun i hi => by cases hi; rfl) ?_
        exact g128_70 L d M J _ hkb _ hke0 v1 v2 v4 v5 q8 v5 _ H

/-- X8_goesOn -/
def f128 (M : jm_MM) (x0 : Int32) (x1 : Int32) : Option (Int32) := bif decide ((x0 + 1) < (M 114 2)) then (f128_22 M (fun ve12 => some ve12) jm_F x0 x1 (-1) 0 0) else (some (-1))
set_option maxRecDepth 100000 in
theorem g128 (L : Nat) (d : Nat) (M : jm_MM) (J : jm_JJ) (x0 : Int32) (x1 : Int32) (r : Int32) (H : f128 M x0 x1 = some r) : jm_go (d + 2) (jm_G 128) 0 (jm_en 7 [.ref 113, .int x0, .int x1]) [] (jm_S0 L, M, J) (some (.int r), (jm_S0 L, M, J)) := by
  unfold f128 at H
  rcases jm_bro H with ⟨h1, H⟩ | ⟨h1, H⟩
  · refine jm_go.brt 8 (b := decide ((x0 + 1) < (M 114 2))) (p1 := 14) (l1 := [some (.ref 113), some (.int x0), some (.int x1), none, none, none, none]) (s1 := []) (t1 := (jm_S0 L, M, J)) (p2 := 12) (l2 := [some (.ref 113), some (.int x0), some (.int x1), none, none, none, none]) (s2 := []) (t2 := (jm_S0 L, M, J)) (fun _ _ => rfl) h1 ?_
    refine jm_go.blk 6 (pc' := 22) (ls' := [some (.ref 113), some (.int x0), some (.int x1), some (.int (-1)), some (.int 0), some (.int 0), none]) (st' := []) (t' := (jm_S0 L, M, J)) (fun _ _ => rfl) ?_
    exact g128_22 L d M J
      _ (fun ve12 r H => by
        have H := Option.some.inj H
        subst H
        exact jm_go.ret 2 (fun _ _ => rfl)
        )
      _ x0 x1 (-1) 0 0 _ H
  · refine jm_go.brf 8 (b := decide ((x0 + 1) < (M 114 2))) (p1 := 14) (l1 := [some (.ref 113), some (.int x0), some (.int x1), none, none, none, none]) (s1 := []) (t1 := (jm_S0 L, M, J)) (p2 := 12) (l2 := [some (.ref 113), some (.int x0), some (.int x1), none, none, none, none]) (s2 := []) (t2 := (jm_S0 L, M, J)) (fun _ _ => rfl) h1 ?_
    have H := Option.some.inj H
    subst H
    exact jm_go.ret 2 (fun _ _ => rfl)

def f129_5 (M : jm_MM) (ke0 : Int32 → Option (Int32)) : Nat → Int32 → Int32 → Int32 → Int32 → Option (Int32)
  | 0, _, _, _, _ => none
  | n0 + 1, v1, v2, v3, v4 => bif decide (v1 ≤ 0) then (ke0 v3) else (jm_gd (jm_inb (v1 - 1) 6) (bif decide ((M 117 ((v1 - 1).toNatClampNeg)) ≤ v4) then (ke0 v3) else (jm_bd (f128 M (v1 - 1) v4) (fun q4 => bif !decide (q4 = v2) then ((f129_5 M ke0 n0) v1 v2 (v3 ||| 0) (v4 + 1)) else ((f129_5 M ke0 n0) v1 v2 (v3 ||| (1 <<< (v4 &&& 31))) (v4 + 1))))))
set_option maxRecDepth 100000 in
theorem g129_5 (L : Nat) (d : Nat) (M : jm_MM) (J : jm_JJ) (ke0 : Int32 → Option (Int32)) (hke0 : ∀  (v3 : Int32) (r : Int32), ke0 v3 = some r → jm_go (d + 3) (jm_G 129) 52 [none, none, none, some (.int v3), none] [] (jm_S0 L, M, J) (some (.int r), (jm_S0 L, M, J))) : ∀ (n0 : Nat) (v1 : Int32) (v2 : Int32) (v3 : Int32) (v4 : Int32) (r : Int32), f129_5 M ke0 n0 v1 v2 v3 v4 = some r → jm_go (d + 3) (jm_G 129) 5 [some (.ref 113), some (.int v1), some (.int v2), some (.int v3), some (.int v4)] [] (jm_S0 L, M, J) (some (.int r), (jm_S0 L, M, J)) := by
  intro n0
  induction n0 with
  | zero => intro v1 v2 v3 v4 r H; cases H
  | succ n0 ih =>
    intro v1 v2 v3 v4 r H
    have hkb := ih
    unfold f129_5 at H
    rcases jm_bro H with ⟨h1, H⟩ | ⟨h1, H⟩
    · refine jm_go.brt 2 (b := decide (v1 ≤ 0)) (p1 := 52) (l1 := [some (.ref 113), some (.int v1), some (.int v2), some (.int v3), some (.int v4)]) (s1 := []) (t1 := (jm_S0 L, M, J)) (p2 := 9) (l2 := [some (.ref 113), some (.int v1), some (.int v2), some (.int v3), some (.int v4)]) (s2 := []) (t2 := (jm_S0 L, M, J)) (fun _ _ => rfl) h1 ?_
      refine jm_go.lab (ls' := [none, none, none, some (.int v3), none]) (fun i hi => by cases hi; rfl) ?_
      exact hke0 v3 _ H
    · refine jm_go.brf 2 (b := decide (v1 ≤ 0)) (p1 := 52) (l1 := [some (.ref 113), some (.int v1), some (.int v2), some (.int v3), some (.int v4)]) (s1 := []) (t1 := (jm_S0 L, M, J)) (p2 := 9) (l2 := [some (.ref 113), some (.int v1), some (.int v2), some (.int v3), some (.int v4)]) (s2 := []) (t2 := (jm_S0 L, M, J)) (fun _ _ => rfl) h1 ?_
      obtain ⟨h2, H⟩ := jm_gdo H
      refine jm_go.grd 7 (b := jm_inb (v1 - 1) 6) (pc' := 19) (ls' := [some (.ref 113), some (.int v1), some (.int v2), some (.int v3), some (.int v4)]) (st' := [.int (M 117 ((v1 - 1).toNatClampNeg)), .int v4]) (t' := (jm_S0 L, M, J)) (fun _ _ => rfl) h2 ?_
      rcases jm_bro H with ⟨h3, H⟩ | ⟨h3, H⟩
      · refine jm_go.brt 1 (b := decide ((M 117 ((v1 - 1).toNatClampNeg)) ≤ v4)) (p1 := 52) (l1 := [some (.ref 113), some (.int v1), some (.int v2), some (.int v3), some (.int v4)]) (s1 := []) (t1 := (jm_S0 L, M, J)) (p2 := 22) (l2 := [some (.ref 113), some (.int v1), some (.int v2), some (.int v3), some (.int v4)]) (s2 := []) (t2 := (jm_S0 L, M, J)) (fun _ _ => rfl) h3 ?_
        refine jm_go.lab (ls' := [none, none, none, some (.int v3), none]) (fun i hi => by cases hi; rfl) ?_
        exact hke0 v3 _ H
      · refine jm_go.brf 1 (b := decide ((M 117 ((v1 - 1).toNatClampNeg)) ≤ v4)) (p1 := 52) (l1 := [some (.ref 113), some (.int v1), some (.int v2), some (.int v3), some (.int v4)]) (s1 := []) (t1 := (jm_S0 L, M, J)) (p2 := 22) (l2 := [some (.ref 113), some (.int v1), some (.int v2), some (.int v3), some (.int v4)]) (s2 := []) (t2 := (jm_S0 L, M, J)) (fun _ _ => rfl) h3 ?_
        obtain ⟨q4, h5, H⟩ := jm_bdo H
        refine jm_go.call 7 (d := d + 2) (b := true) (u := 128) (as := [.ref 113, .int (v1 - 1), .int v4]) (pc' := 32) (ls' := [some (.ref 113), some (.int v1), some (.int v2), some (.int v3), some (.int v4)]) (st' := [.int v3]) (t' := (jm_S0 L, M, J)) (fun _ _ => rfl) rfl rfl (g128 L d M J (v1 - 1) v4 _ h5) ?_
        rcases jm_bro H with ⟨h6, H⟩ | ⟨h6, H⟩
        · refine jm_go.brt 2 (b := !decide (q4 = v2)) (p1 := 43) (l1 := [some (.ref 113), some (.int v1), some (.int v2), some (.int v3), some (.int v4)]) (s1 := [.int v3]) (t1 := (jm_S0 L, M, J)) (p2 := 36) (l2 := [some (.ref 113), some (.int v1), some (.int v2), some (.int v3), some (.int v4)]) (s2 := [.int v3]) (t2 := (jm_S0 L, M, J)) (fun _ _ => rfl) h6 ?_
          refine jm_go.blk 5 (pc' := 5) (ls' := [some (.ref 113), some (.int v1), some (.int v2), some (.int (v3 ||| 0)), some (.int (v4 + 1))]) (st' := []) (t' := (jm_S0 L, M, J)) (fun _ _ => rfl) ?_
          exact hkb v1 v2 (v3 ||| 0) (v4 + 1) _ H
        · refine jm_go.brf 2 (b := !decide (q4 = v2)) (p1 := 43) (l1 := [some (.ref 113), some (.int v1), some (.int v2), some (.int v3), some (.int v4)]) (s1 := [.int v3]) (t1 := (jm_S0 L, M, J)) (p2 := 36) (l2 := [some (.ref 113), some (.int v1), some (.int v2), some (.int v3), some (.int v4)]) (s2 := [.int v3]) (t2 := (jm_S0 L, M, J)) (fun _ _ => rfl) h6 ?_
          refine jm_go.blk 8 (pc' := 5) (ls' := [some (.ref 113), some (.int v1), some (.int v2), some (.int (v3 ||| (1 <<< (v4 &&& 31)))), some (.int (v4 + 1))]) (st' := []) (t' := (jm_S0 L, M, J)) (fun _ _ => rfl) ?_
          exact hkb v1 v2 (v3 ||| (1 <<< (v4 &&& 31))) (v4 + 1) _ H

/-- X8_comesFrom -/
def f129 (M : jm_MM) (x0 : Int32) (x1 : Int32) : Option (Int32) := f129_5 M (fun ve7 => some ve7) jm_F x0 x1 0 0
set_option maxRecDepth 100000 in
theorem g129 (L : Nat) (d : Nat) (M : jm_MM) (J : jm_JJ) (x0 : Int32) (x1 : Int32) (r : Int32) (H : f129 M x0 x1 = some r) : jm_go (d + 3) (jm_G 129) 0 (jm_en 5 [.ref 113, .int x0, .int x1]) [] (jm_S0 L, M, J) (some (.int r), (jm_S0 L, M, J)) := by
  unfold f129 at H
  refine jm_go.blk 4 (pc' := 5) (ls' := [some (.ref 113), some (.int x0), some (.int x1), some (.int 0), some (.int 0)]) (st' := []) (t' := (jm_S0 L, M, J)) (fun _ _ => rfl) ?_
  exact g129_5 L d M J
    _ (fun ve7 r H => by
      have H := Option.some.inj H
      subst H
      exact jm_go.ret 2 (fun _ _ => rfl)
      )
    _ x0 x1 0 0 _ H


/-- X8_mainOf -/
def f130 (M : jm_MM) (x0 : Int32) (x1 : Int32) : Option (Int32) := jm_bd (f129 M x0 x1) (fun q1 => bif !decide (q1 = 0) then (jm_bd (f122 M q1) (fun q4 => some q4)) else (some (-1)))
set_option maxRecDepth 100000 in
theorem g130 (L : Nat) (d : Nat) (M : jm_MM) (J : jm_JJ) (x0 : Int32) (x1 : Int32) (r : Int32) (H : f130 M x0 x1 = some r) : jm_go (d + 4) (jm_G 130) 0 (jm_en 4 [.ref 113, .int x0, .int x1]) [] (jm_S0 L, M, J) (some (.int r), (jm_S0 L, M, J)) := by
  unfold f130 at H
  obtain ⟨q1, h2, H⟩ := jm_bdo H
  refine jm_go.call 4 (d := d + 3) (b := true) (u := 129) (as := [.ref 113, .int x0, .int x1]) (pc' := 6) (ls' := [some (.ref 113), some (.int x0), some (.int x1), none]) (st' := []) (t' := (jm_S0 L, M, J)) (fun _ _ => rfl) rfl rfl (g129 L d M J x0 x1 _ h2) ?_
  rcases jm_bro H with ⟨h3, H⟩ | ⟨h3, H⟩
  · refine jm_go.brt 3 (b := !decide (q1 = 0)) (p1 := 15) (l1 := [some (.ref 113), some (.int x0), some (.int x1), some (.int q1)]) (s1 := []) (t1 := (jm_S0 L, M, J)) (p2 := 11) (l2 := [some (.ref 113), some (.int x0), some (.int x1), some (.int q1)]) (s2 := []) (t2 := (jm_S0 L, M, J)) (fun _ _ => rfl) h3 ?_
    obtain ⟨q4, h5, H⟩ := jm_bdo H
    refine jm_go.call 2 (d := d + 3) (b := true) (u := 122) (as := [.int q1]) (pc' := 19) (ls' := [none, none, none, some (.int q1)]) (st' := []) (t' := (jm_S0 L, M, J)) (fun _ _ => rfl) rfl rfl (g122 L (d + 2) M J q1 _ h5) ?_
    have H := Option.some.inj H
    subst H
    exact jm_go.ret 1 (fun _ _ => rfl)
  · refine jm_go.brf 3 (b := !decide (q1 = 0)) (p1 := 15) (l1 := [some (.ref 113), some (.int x0), some (.int x1), some (.int q1)]) (s1 := []) (t1 := (jm_S0 L, M, J)) (p2 := 11) (l2 := [some (.ref 113), some (.int x0), some (.int x1), some (.int q1)]) (s2 := []) (t2 := (jm_S0 L, M, J)) (fun _ _ => rfl) h3 ?_
    have H := Option.some.inj H
    subst H
    exact jm_go.ret 3 (fun _ _ => rfl)

def f131_8 (M : jm_MM) (ke0 : Int32 → Option (Int32)) : Nat → Int32 → Int32 → Int32 → Option (Int32)
  | 0, _, _, _ => none
  | n0 + 1, v3, v4, v5 => bif decide (v5 = (-1)) then (ke0 v3) else (jm_bd (f130 M v4 v5) (fun q2 => (f131_8 M ke0 n0) (v3 + 1) (v4 + (-1)) q2))
set_option maxRecDepth 100000 in
theorem g131_8 (L : Nat) (d : Nat) (M : jm_MM) (J : jm_JJ) (ke0 : Int32 → Option (Int32)) (hke0 : ∀  (v3 : Int32) (r : Int32), ke0 v3 = some r → jm_go (d + 5) (jm_G 131) 33 [none, none, none, some (.int v3), none, none] [] (jm_S0 L, M, J) (some (.int r), (jm_S0 L, M, J))) : ∀ (n0 : Nat) (v3 : Int32) (v4 : Int32) (v5 : Int32) (r : Int32), f131_8 M ke0 n0 v3 v4 v5 = some r → jm_go (d + 5) (jm_G 131) 8 [some (.ref 113), none, none, some (.int v3), some (.int v4), some (.int v5)] [] (jm_S0 L, M, J) (some (.int r), (jm_S0 L, M, J)) := by
  intro n0
  induction n0 with
  | zero => intro v3 v4 v5 r H; cases H
  | succ n0 ih =>
    intro v3 v4 v5 r H
    have hkb := ih
    unfold f131_8 at H
    rcases jm_bro H with ⟨h1, H⟩ | ⟨h1, H⟩
    · refine jm_go.brt 3 (b := decide (v5 = (-1))) (p1 := 33) (l1 := [some (.ref 113), none, none, some (.int v3), some (.int v4), some (.int v5)]) (s1 := []) (t1 := (jm_S0 L, M, J)) (p2 := 14) (l2 := [some (.ref 113), none, none, some (.int v3), some (.int v4), some (.int v5)]) (s2 := []) (t2 := (jm_S0 L, M, J)) (fun _ _ => rfl) h1 ?_
      refine jm_go.lab (ls' := [none, none, none, some (.int v3), none, none]) (fun i hi => by cases hi; rfl) ?_
      exact hke0 v3 _ H
    · refine jm_go.brf 3 (b := decide (v5 = (-1))) (p1 := 33) (l1 := [some (.ref 113), none, none, some (.int v3), some (.int v4), some (.int v5)]) (s1 := []) (t1 := (jm_S0 L, M, J)) (p2 := 14) (l2 := [some (.ref 113), none, none, some (.int v3), some (.int v4), some (.int v5)]) (s2 := []) (t2 := (jm_S0 L, M, J)) (fun _ _ => rfl) h1 ?_
      obtain ⟨q2, h3, H⟩ := jm_bdo H
      refine jm_go.call 4 (d := d + 4) (b := true) (u := 130) (as := [.ref 113, .int v4, .int v5]) (pc' := 22) (ls' := [some (.ref 113), none, none, some (.int v3), some (.int v4), some (.int v5)]) (st' := []) (t' := (jm_S0 L, M, J)) (fun _ _ => rfl) rfl rfl (g130 L d M J v4 v5 _ h3) ?_
      refine jm_go.blk 4 (pc' := 8) (ls' := [some (.ref 113), none, none, some (.int (v3 + 1)), some (.int (v4 + (-1))), some (.int q2)]) (st' := []) (t' := (jm_S0 L, M, J)) (fun _ _ => rfl) ?_
      exact hkb (v3 + 1) (v4 + (-1)) q2 _ H

/-- X8_branchLong -/
def f131 (M : jm_MM) (x0 : Int32) (x1 : Int32) : Option (Int32) := f131_8 M (fun ve4 => some ve4) jm_F 0 x0 x1
set_option maxRecDepth 100000 in
theorem g131 (L : Nat) (d : Nat) (M : jm_MM) (J : jm_JJ) (x0 : Int32) (x1 : Int32) (r : Int32) (H : f131 M x0 x1 = some r) : jm_go (d + 5) (jm_G 131) 0 (jm_en 6 [.ref 113, .int x0, .int x1]) [] (jm_S0 L, M, J) (some (.int r), (jm_S0 L, M, J)) := by
  unfold f131 at H
  refine jm_go.blk 6 (pc' := 8) (ls' := [some (.ref 113), some (.int x0), some (.int x1), some (.int 0), some (.int x0), some (.int x1)]) (st' := []) (t' := (jm_S0 L, M, J)) (fun _ _ => rfl) ?_
  refine jm_go.lab (ls' := [some (.ref 113), none, none, some (.int 0), some (.int x0), some (.int x1)]) (fun i hi => by cases hi; rfl) ?_
  exact g131_8 L d M J
    _ (fun ve4 r H => by
      have H := Option.some.inj H
      subst H
      exact jm_go.ret 2 (fun _ _ => rfl)
      )
    _ 0 x0 x1 _ H

def f132_61 (M : jm_MM) (s0 : Int32) : Option (Int32) := jm_bd (f119 M s0) (fun q11 => some q11)
set_option maxRecDepth 100000 in
theorem g132_61 (L : Nat) (d : Nat) (M : jm_MM) (J : jm_JJ) (s0 : Int32) (r : Int32) (H : f132_61 M s0 = some r) : jm_go (d + 3) (jm_G 132) 61 [none, none, none, none, none] [.int s0, .ref 113] (jm_S0 L, M, J) (some (.int r), (jm_S0 L, M, J)) := by
  unfold f132_61 at H
  obtain ⟨q11, h12, H⟩ := jm_bdo H
  refine jm_go.call 1 (d := d + 2) (b := true) (u := 119) (as := [.ref 113, .int s0]) (pc' := 64) (ls' := [none, none, none, none, none]) (st' := []) (t' := (jm_S0 L, M, J)) (fun _ _ => rfl) rfl rfl (g119 L (d + 1) M J s0 _ h12) ?_
  have H := Option.some.inj H
  subst H
  exact jm_go.ret 1 (fun _ _ => rfl)

/-- X8_strayed -/
def f132 (M : jm_MM) (x0 : Int32) (x1 : Int32) : Option (Int32) := bif decide ((x0 + 1) < (M 114 2)) then (jm_bd (f128 M x0 x1) (fun q2 => jm_bd (f127 M x0 x1) (fun q4 => jm_bd (f102 M (x0 + 1)) (fun q6 => bif !decide (q2 = (-1)) then (jm_bd (f127 M (x0 + 1) q2) (fun q9 => f132_61 M  ((q4 &&& q6) &&& (q9 ^^^ (-1))))) else (f132_61 M  (q4 &&& q6)))))) else (some 0)
set_option maxRecDepth 100000 in
theorem g132 (L : Nat) (d : Nat) (M : jm_MM) (J : jm_JJ) (x0 : Int32) (x1 : Int32) (r : Int32) (H : f132 M x0 x1 = some r) : jm_go (d + 3) (jm_G 132) 0 (jm_en 5 [.ref 113, .int x0, .int x1]) [] (jm_S0 L, M, J) (some (.int r), (jm_S0 L, M, J)) := by
  unfold f132 at H
  rcases jm_bro H with ⟨h1, H⟩ | ⟨h1, H⟩
  · refine jm_go.brt 8 (b := decide ((x0 + 1) < (M 114 2))) (p1 := 14) (l1 := [some (.ref 113), some (.int x0), some (.int x1), none, none]) (s1 := []) (t1 := (jm_S0 L, M, J)) (p2 := 12) (l2 := [some (.ref 113), some (.int x0), some (.int x1), none, none]) (s2 := []) (t2 := (jm_S0 L, M, J)) (fun _ _ => rfl) h1 ?_
    obtain ⟨q2, h3, H⟩ := jm_bdo H
    refine jm_go.call 4 (d := d + 2) (b := true) (u := 128) (as := [.ref 113, .int x0, .int x1]) (pc' := 20) (ls' := [some (.ref 113), some (.int x0), some (.int x1), none, none]) (st' := []) (t' := (jm_S0 L, M, J)) (fun _ _ => rfl) rfl rfl (g128 L d M J x0 x1 _ h3) ?_
    obtain ⟨q4, h5, H⟩ := jm_bdo H
    refine jm_go.call 5 (d := d + 2) (b := true) (u := 127) (as := [.ref 113, .int x0, .int x1]) (pc' := 27) (ls' := [some (.ref 113), some (.int x0), some (.int x1), some (.int q2), none]) (st' := []) (t' := (jm_S0 L, M, J)) (fun _ _ => rfl) rfl rfl (g127 L (d + 2) M J x0 x1 _ h5) ?_
    obtain ⟨q6, h7, H⟩ := jm_bdo H
    refine jm_go.call 5 (d := d + 2) (b := true) (u := 102) (as := [.ref 113, .int (x0 + 1)]) (pc' := 34) (ls' := [some (.ref 113), some (.int x0), some (.int x1), some (.int q2), none]) (st' := [.int q4]) (t' := (jm_S0 L, M, J)) (fun _ _ => rfl) rfl rfl (g102 L (d + 1) M J (x0 + 1) _ h7) ?_
    rcases jm_bro H with ⟨h8, H⟩ | ⟨h8, H⟩
    · refine jm_go.brt 6 (b := !decide (q2 = (-1))) (p1 := 48) (l1 := [some (.ref 113), some (.int x0), some (.int x1), some (.int q2), some (.int (q4 &&& q6))]) (s1 := [.ref 113]) (t1 := (jm_S0 L, M, J)) (p2 := 43) (l2 := [some (.ref 113), some (.int x0), some (.int x1), some (.int q2), some (.int (q4 &&& q6))]) (s2 := [.ref 113]) (t2 := (jm_S0 L, M, J)) (fun _ _ => rfl) h8 ?_
      obtain ⟨q9, h10, H⟩ := jm_bdo H
      refine jm_go.call 7 (d := d + 2) (b := true) (u := 127) (as := [.ref 113, .int (x0 + 1), .int q2]) (pc' := 58) (ls' := [some (.ref 113), some (.int x0), none, some (.int q2), some (.int (q4 &&& q6))]) (st' := [.int (q4 &&& q6), .ref 113]) (t' := (jm_S0 L, M, J)) (fun _ _ => rfl) rfl rfl (g127 L (d + 2) M J (x0 + 1) q2 _ h10) ?_
      refine jm_go.blk 3 (pc' := 61) (ls' := [some (.ref 113), some (.int x0), none, some (.int q2), some (.int (q4 &&& q6))]) (st' := [.int ((q4 &&& q6) &&& (q9 ^^^ (-1))), .ref 113]) (t' := (jm_S0 L, M, J)) (fun _ _ => rfl) ?_
      refine jm_go.lab (ls' := [none, none, none, none, none]) (fun i hi => by cases hi; rfl) ?_
      exact g132_61 L d M J  ((q4 &&& q6) &&& (q9 ^^^ (-1))) _ H
    · refine jm_go.brf 6 (b := !decide (q2 = (-1))) (p1 := 48) (l1 := [some (.ref 113), some (.int x0), some (.int x1), some (.int q2), some (.int (q4 &&& q6))]) (s1 := [.ref 113]) (t1 := (jm_S0 L, M, J)) (p2 := 43) (l2 := [some (.ref 113), some (.int x0), some (.int x1), some (.int q2), some (.int (q4 &&& q6))]) (s2 := [.ref 113]) (t2 := (jm_S0 L, M, J)) (fun _ _ => rfl) h8 ?_
      refine jm_go.blk 2 (pc' := 61) (ls' := [some (.ref 113), some (.int x0), some (.int x1), some (.int q2), some (.int (q4 &&& q6))]) (st' := [.int (q4 &&& q6), .ref 113]) (t' := (jm_S0 L, M, J)) (fun _ _ => rfl) ?_
      refine jm_go.lab (ls' := [none, none, none, none, none]) (fun i hi => by cases hi; rfl) ?_
      exact g132_61 L d M J  (q4 &&& q6) _ H
  · refine jm_go.brf 8 (b := decide ((x0 + 1) < (M 114 2))) (p1 := 14) (l1 := [some (.ref 113), some (.int x0), some (.int x1), none, none]) (s1 := []) (t1 := (jm_S0 L, M, J)) (p2 := 12) (l2 := [some (.ref 113), some (.int x0), some (.int x1), none, none]) (s2 := []) (t2 := (jm_S0 L, M, J)) (fun _ _ => rfl) h1 ?_
    have H := Option.some.inj H
    subst H
    exact jm_go.ret 2 (fun _ _ => rfl)

def f133_119  (kb : jm_MM → Int32 → Int32 → Int32 → Int32 → Int32 → Option (Int32 × jm_MM)) (ke0 : jm_MM → Int32 → Int32 → Int32 → Int32 → Option (Int32 × jm_MM)) (M : jm_MM) (v1 : Int32) (v2 : Int32) (v3 : Int32) (v4 : Int32) (v5 : Int32) (s0 : Int32) : Option (Int32 × jm_MM) := bif decide (s0 ≤ v3) then (kb M v1 v2 v3 v4 (v5 + 1)) else (kb M v1 v2 s0 v4 (v5 + 1))
set_option maxRecDepth 100000 in
theorem g133_119 (L : Nat) (d : Nat) (_M : jm_MM) (J : jm_JJ) (kb : jm_MM → Int32 → Int32 → Int32 → Int32 → Int32 → Option (Int32 × jm_MM)) (hkb : ∀ (M : jm_MM) (v1 : Int32) (v2 : Int32) (v3 : Int32) (v4 : Int32) (v5 : Int32) (r : Int32 × jm_MM), kb M v1 v2 v3 v4 v5 = some r → jm_go (d + 7) (jm_G 133) 25 [some (.ref 113), some (.int v1), some (.int v2), some (.int v3), some (.int v4), some (.int v5), none] [] (jm_S0 L, M, J) (some (.int r.1), (jm_S0 L, r.2, J))) (ke0 : jm_MM → Int32 → Int32 → Int32 → Int32 → Option (Int32 × jm_MM)) (hke0 : ∀ (M : jm_MM) (v1 : Int32) (v2 : Int32) (v3 : Int32) (v4 : Int32) (r : Int32 × jm_MM), ke0 M v1 v2 v3 v4 = some r → jm_go (d + 7) (jm_G 133) 140 [some (.ref 113), some (.int v1), some (.int v2), some (.int v3), some (.int v4), none, none] [] (jm_S0 L, M, J) (some (.int r.1), (jm_S0 L, r.2, J))) (M : jm_MM) (v1 : Int32) (v2 : Int32) (v3 : Int32) (v4 : Int32) (v5 : Int32) (s0 : Int32) (r : Int32 × jm_MM) (H : f133_119  kb ke0 M v1 v2 v3 v4 v5 s0 = some r) : jm_go (d + 7) (jm_G 133) 119 [some (.ref 113), some (.int v1), some (.int v2), some (.int v3), some (.int v4), some (.int v5), none] [.int s0] (jm_S0 L, M, J) (some (.int r.1), (jm_S0 L, r.2, J)) := by
  unfold f133_119 at H
  rcases jm_bro H with ⟨h8, H⟩ | ⟨h8, H⟩
  · refine jm_go.brt 4 (b := decide (s0 ≤ v3)) (p1 := 132) (l1 := [some (.ref 113), some (.int v1), some (.int v2), some (.int v3), some (.int v4), some (.int v5), some (.int s0)]) (s1 := []) (t1 := (jm_S0 L, M, J)) (p2 := 127) (l2 := [some (.ref 113), some (.int v1), some (.int v2), some (.int v3), some (.int v4), some (.int v5), some (.int s0)]) (s2 := []) (t2 := (jm_S0 L, M, J)) (fun _ _ => rfl) h8 ?_
    refine jm_go.blk 4 (pc' := 25) (ls' := [some (.ref 113), some (.int v1), some (.int v2), some (.int v3), some (.int v4), some (.int (v5 + 1)), none]) (st' := []) (t' := (jm_S0 L, M, J)) (fun _ _ => rfl) ?_
    exact hkb M v1 v2 v3 v4 (v5 + 1) _ H
  · refine jm_go.brf 4 (b := decide (s0 ≤ v3)) (p1 := 132) (l1 := [some (.ref 113), some (.int v1), some (.int v2), some (.int v3), some (.int v4), some (.int v5), some (.int s0)]) (s1 := []) (t1 := (jm_S0 L, M, J)) (p2 := 127) (l2 := [some (.ref 113), some (.int v1), some (.int v2), some (.int v3), some (.int v4), some (.int v5), some (.int s0)]) (s2 := []) (t2 := (jm_S0 L, M, J)) (fun _ _ => rfl) h8 ?_
    refine jm_go.blk 5 (pc' := 25) (ls' := [some (.ref 113), some (.int v1), some (.int v2), some (.int s0), some (.int v4), some (.int (v5 + 1)), none]) (st' := []) (t' := (jm_S0 L, M, J)) (fun _ _ => rfl) ?_
    exact hkb M v1 v2 s0 v4 (v5 + 1) _ H

def f133_99  (kb : jm_MM → Int32 → Int32 → Int32 → Int32 → Int32 → Option (Int32 × jm_MM)) (ke0 : jm_MM → Int32 → Int32 → Int32 → Int32 → Option (Int32 × jm_MM)) (M : jm_MM) (v1 : Int32) (v3 : Int32) (v4 : Int32) (v5 : Int32) (s0 : Int32) (s1 : Int32) : Option (Int32 × jm_MM) := bif !decide (v1 = 6) then (f133_119  kb ke0 M v1 (s1 + s0) v3 v4 v5 0) else (jm_bd (f131 M v4 v5) (fun q9 => f133_119  kb ke0 M v1 (s1 + s0) v3 v4 v5 q9))
set_option maxRecDepth 100000 in
theorem g133_99 (L : Nat) (d : Nat) (_M : jm_MM) (J : jm_JJ) (kb : jm_MM → Int32 → Int32 → Int32 → Int32 → Int32 → Option (Int32 × jm_MM)) (hkb : ∀ (M : jm_MM) (v1 : Int32) (v2 : Int32) (v3 : Int32) (v4 : Int32) (v5 : Int32) (r : Int32 × jm_MM), kb M v1 v2 v3 v4 v5 = some r → jm_go (d + 7) (jm_G 133) 25 [some (.ref 113), some (.int v1), some (.int v2), some (.int v3), some (.int v4), some (.int v5), none] [] (jm_S0 L, M, J) (some (.int r.1), (jm_S0 L, r.2, J))) (ke0 : jm_MM → Int32 → Int32 → Int32 → Int32 → Option (Int32 × jm_MM)) (hke0 : ∀ (M : jm_MM) (v1 : Int32) (v2 : Int32) (v3 : Int32) (v4 : Int32) (r : Int32 × jm_MM), ke0 M v1 v2 v3 v4 = some r → jm_go (d + 7) (jm_G 133) 140 [some (.ref 113), some (.int v1), some (.int v2), some (.int v3), some (.int v4), none, none] [] (jm_S0 L, M, J) (some (.int r.1), (jm_S0 L, r.2, J))) (M : jm_MM) (v1 : Int32) (v3 : Int32) (v4 : Int32) (v5 : Int32) (s0 : Int32) (s1 : Int32) (r : Int32 × jm_MM) (H : f133_99  kb ke0 M v1 v3 v4 v5 s0 s1 = some r) : jm_go (d + 7) (jm_G 133) 99 [some (.ref 113), some (.int v1), none, some (.int v3), some (.int v4), some (.int v5), none] [.int s0, .int s1] (jm_S0 L, M, J) (some (.int r.1), (jm_S0 L, r.2, J)) := by
  unfold f133_99 at H
  rcases jm_bro H with ⟨h7, H⟩ | ⟨h7, H⟩
  · refine jm_go.brt 5 (b := !decide (v1 = 6)) (p1 := 118) (l1 := [some (.ref 113), some (.int v1), some (.int (s1 + s0)), some (.int v3), some (.int v4), some (.int v5), none]) (s1 := []) (t1 := (jm_S0 L, M, J)) (p2 := 107) (l2 := [some (.ref 113), some (.int v1), some (.int (s1 + s0)), some (.int v3), some (.int v4), some (.int v5), none]) (s2 := []) (t2 := (jm_S0 L, M, J)) (fun _ _ => rfl) h7 ?_
    refine jm_go.blk 1 (pc' := 119) (ls' := [some (.ref 113), some (.int v1), some (.int (s1 + s0)), some (.int v3), some (.int v4), some (.int v5), none]) (st' := [.int 0]) (t' := (jm_S0 L, M, J)) (fun _ _ => rfl) ?_
    exact g133_119 L d M J _ hkb _ hke0 M v1 (s1 + s0) v3 v4 v5 0 _ H
  · refine jm_go.brf 5 (b := !decide (v1 = 6)) (p1 := 118) (l1 := [some (.ref 113), some (.int v1), some (.int (s1 + s0)), some (.int v3), some (.int v4), some (.int v5), none]) (s1 := []) (t1 := (jm_S0 L, M, J)) (p2 := 107) (l2 := [some (.ref 113), some (.int v1), some (.int (s1 + s0)), some (.int v3), some (.int v4), some (.int v5), none]) (s2 := []) (t2 := (jm_S0 L, M, J)) (fun _ _ => rfl) h7 ?_
    obtain ⟨q9, h10, H⟩ := jm_bdo H
    refine jm_go.call 4 (d := d + 6) (b := true) (u := 131) (as := [.ref 113, .int v4, .int v5]) (pc' := 115) (ls' := [some (.ref 113), some (.int v1), some (.int (s1 + s0)), some (.int v3), some (.int v4), some (.int v5), none]) (st' := []) (t' := (jm_S0 L, M, J)) (fun _ _ => rfl) rfl rfl (g131 L (d + 1) M J v4 v5 _ h10) ?_
    refine jm_go.blk 1 (pc' := 119) (ls' := [some (.ref 113), some (.int v1), some (.int (s1 + s0)), some (.int v3), some (.int v4), some (.int v5), none]) (st' := [.int q9]) (t' := (jm_S0 L, M, J)) (fun _ _ => rfl) ?_
    exact g133_119 L d M J _ hkb _ hke0 M v1 (s1 + s0) v3 v4 v5 q9 _ H

def f133_94  (kb : jm_MM → Int32 → Int32 → Int32 → Int32 → Int32 → Option (Int32 × jm_MM)) (ke0 : jm_MM → Int32 → Int32 → Int32 → Int32 → Option (Int32 × jm_MM)) (M : jm_MM) (v1 : Int32) (v3 : Int32) (v4 : Int32) (v5 : Int32) (s0 : Int32) : Option (Int32 × jm_MM) := f133_99  kb ke0 M v1 v3 v4 v5 1 s0
set_option maxRecDepth 100000 in
theorem g133_94 (L : Nat) (d : Nat) (_M : jm_MM) (J : jm_JJ) (kb : jm_MM → Int32 → Int32 → Int32 → Int32 → Int32 → Option (Int32 × jm_MM)) (hkb : ∀ (M : jm_MM) (v1 : Int32) (v2 : Int32) (v3 : Int32) (v4 : Int32) (v5 : Int32) (r : Int32 × jm_MM), kb M v1 v2 v3 v4 v5 = some r → jm_go (d + 7) (jm_G 133) 25 [some (.ref 113), some (.int v1), some (.int v2), some (.int v3), some (.int v4), some (.int v5), none] [] (jm_S0 L, M, J) (some (.int r.1), (jm_S0 L, r.2, J))) (ke0 : jm_MM → Int32 → Int32 → Int32 → Int32 → Option (Int32 × jm_MM)) (hke0 : ∀ (M : jm_MM) (v1 : Int32) (v2 : Int32) (v3 : Int32) (v4 : Int32) (r : Int32 × jm_MM), ke0 M v1 v2 v3 v4 = some r → jm_go (d + 7) (jm_G 133) 140 [some (.ref 113), some (.int v1), some (.int v2), some (.int v3), some (.int v4), none, none] [] (jm_S0 L, M, J) (some (.int r.1), (jm_S0 L, r.2, J))) (M : jm_MM) (v1 : Int32) (v3 : Int32) (v4 : Int32) (v5 : Int32) (s0 : Int32) (r : Int32 × jm_MM) (H : f133_94  kb ke0 M v1 v3 v4 v5 s0 = some r) : jm_go (d + 7) (jm_G 133) 94 [some (.ref 113), some (.int v1), none, some (.int v3), some (.int v4), some (.int v5), none] [.int s0] (jm_S0 L, M, J) (some (.int r.1), (jm_S0 L, r.2, J)) := by
  unfold f133_94 at H
  refine jm_go.blk 2 (pc' := 99) (ls' := [some (.ref 113), some (.int v1), none, some (.int v3), some (.int v4), some (.int v5), none]) (st' := [.int 1, .int s0]) (t' := (jm_S0 L, M, J)) (fun _ _ => rfl) ?_
  exact g133_99 L d M J _ hkb _ hke0 M v1 v3 v4 v5 1 s0 _ H

def f133_98  (kb : jm_MM → Int32 → Int32 → Int32 → Int32 → Int32 → Option (Int32 × jm_MM)) (ke0 : jm_MM → Int32 → Int32 → Int32 → Int32 → Option (Int32 × jm_MM)) (M : jm_MM) (v1 : Int32) (v3 : Int32) (v4 : Int32) (v5 : Int32) (s0 : Int32) : Option (Int32 × jm_MM) := f133_99  kb ke0 M v1 v3 v4 v5 0 s0
set_option maxRecDepth 100000 in
theorem g133_98 (L : Nat) (d : Nat) (_M : jm_MM) (J : jm_JJ) (kb : jm_MM → Int32 → Int32 → Int32 → Int32 → Int32 → Option (Int32 × jm_MM)) (hkb : ∀ (M : jm_MM) (v1 : Int32) (v2 : Int32) (v3 : Int32) (v4 : Int32) (v5 : Int32) (r : Int32 × jm_MM), kb M v1 v2 v3 v4 v5 = some r → jm_go (d + 7) (jm_G 133) 25 [some (.ref 113), some (.int v1), some (.int v2), some (.int v3), some (.int v4), some (.int v5), none] [] (jm_S0 L, M, J) (some (.int r.1), (jm_S0 L, r.2, J))) (ke0 : jm_MM → Int32 → Int32 → Int32 → Int32 → Option (Int32 × jm_MM)) (hke0 : ∀ (M : jm_MM) (v1 : Int32) (v2 : Int32) (v3 : Int32) (v4 : Int32) (r : Int32 × jm_MM), ke0 M v1 v2 v3 v4 = some r → jm_go (d + 7) (jm_G 133) 140 [some (.ref 113), some (.int v1), some (.int v2), some (.int v3), some (.int v4), none, none] [] (jm_S0 L, M, J) (some (.int r.1), (jm_S0 L, r.2, J))) (M : jm_MM) (v1 : Int32) (v3 : Int32) (v4 : Int32) (v5 : Int32) (s0 : Int32) (r : Int32 × jm_MM) (H : f133_98  kb ke0 M v1 v3 v4 v5 s0 = some r) : jm_go (d + 7) (jm_G 133) 98 [some (.ref 113), some (.int v1), none, some (.int v3), some (.int v4), some (.int v5), none] [.int s0] (jm_S0 L, M, J) (some (.int r.1), (jm_S0 L, r.2, J)) := by
  unfold f133_98 at H
  refine jm_go.blk 1 (pc' := 99) (ls' := [some (.ref 113), some (.int v1), none, some (.int v3), some (.int v4), some (.int v5), none]) (st' := [.int 0, .int s0]) (t' := (jm_S0 L, M, J)) (fun _ _ => rfl) ?_
  exact g133_99 L d M J _ hkb _ hke0 M v1 v3 v4 v5 0 s0 _ H

def f133_73  (kb : jm_MM → Int32 → Int32 → Int32 → Int32 → Int32 → Option (Int32 × jm_MM)) (ke0 : jm_MM → Int32 → Int32 → Int32 → Int32 → Option (Int32 × jm_MM)) (M : jm_MM) (v1 : Int32) (v3 : Int32) (v4 : Int32) (v5 : Int32) (s0 : Int32) : Option (Int32 × jm_MM) := bif !decide (v1 = 5) then (f133_98  kb ke0 M v1 v3 v4 v5 s0) else (bif decide (v4 ≤ 0) then (f133_98  kb ke0 M v1 v3 v4 v5 s0) else (jm_bd (f129 M v4 v5) (fun q14 => bif !decide (q14 = 0) then (f133_98  kb ke0 M v1 v3 v4 v5 s0) else (f133_94  kb ke0 M v1 v3 v4 v5 s0))))
set_option maxRecDepth 100000 in
theorem g133_73 (L : Nat) (d : Nat) (_M : jm_MM) (J : jm_JJ) (kb : jm_MM → Int32 → Int32 → Int32 → Int32 → Int32 → Option (Int32 × jm_MM)) (hkb : ∀ (M : jm_MM) (v1 : Int32) (v2 : Int32) (v3 : Int32) (v4 : Int32) (v5 : Int32) (r : Int32 × jm_MM), kb M v1 v2 v3 v4 v5 = some r → jm_go (d + 7) (jm_G 133) 25 [some (.ref 113), some (.int v1), some (.int v2), some (.int v3), some (.int v4), some (.int v5), none] [] (jm_S0 L, M, J) (some (.int r.1), (jm_S0 L, r.2, J))) (ke0 : jm_MM → Int32 → Int32 → Int32 → Int32 → Option (Int32 × jm_MM)) (hke0 : ∀ (M : jm_MM) (v1 : Int32) (v2 : Int32) (v3 : Int32) (v4 : Int32) (r : Int32 × jm_MM), ke0 M v1 v2 v3 v4 = some r → jm_go (d + 7) (jm_G 133) 140 [some (.ref 113), some (.int v1), some (.int v2), some (.int v3), some (.int v4), none, none] [] (jm_S0 L, M, J) (some (.int r.1), (jm_S0 L, r.2, J))) (M : jm_MM) (v1 : Int32) (v3 : Int32) (v4 : Int32) (v5 : Int32) (s0 : Int32) (r : Int32 × jm_MM) (H : f133_73  kb ke0 M v1 v3 v4 v5 s0 = some r) : jm_go (d + 7) (jm_G 133) 73 [some (.ref 113), some (.int v1), none, some (.int v3), some (.int v4), some (.int v5), none] [.int s0] (jm_S0 L, M, J) (some (.int r.1), (jm_S0 L, r.2, J)) := by
  unfold f133_73 at H
  rcases jm_bro H with ⟨h12, H⟩ | ⟨h12, H⟩
  · refine jm_go.brt 3 (b := !decide (v1 = 5)) (p1 := 98) (l1 := [some (.ref 113), some (.int v1), none, some (.int v3), some (.int v4), some (.int v5), none]) (s1 := [.int s0]) (t1 := (jm_S0 L, M, J)) (p2 := 78) (l2 := [some (.ref 113), some (.int v1), none, some (.int v3), some (.int v4), some (.int v5), none]) (s2 := [.int s0]) (t2 := (jm_S0 L, M, J)) (fun _ _ => rfl) h12 ?_
    exact g133_98 L d M J _ hkb _ hke0 M v1 v3 v4 v5 s0 _ H
  · refine jm_go.brf 3 (b := !decide (v1 = 5)) (p1 := 98) (l1 := [some (.ref 113), some (.int v1), none, some (.int v3), some (.int v4), some (.int v5), none]) (s1 := [.int s0]) (t1 := (jm_S0 L, M, J)) (p2 := 78) (l2 := [some (.ref 113), some (.int v1), none, some (.int v3), some (.int v4), some (.int v5), none]) (s2 := [.int s0]) (t2 := (jm_S0 L, M, J)) (fun _ _ => rfl) h12 ?_
    rcases jm_bro H with ⟨h13, H⟩ | ⟨h13, H⟩
    · refine jm_go.brt 2 (b := decide (v4 ≤ 0)) (p1 := 98) (l1 := [some (.ref 113), some (.int v1), none, some (.int v3), some (.int v4), some (.int v5), none]) (s1 := [.int s0]) (t1 := (jm_S0 L, M, J)) (p2 := 83) (l2 := [some (.ref 113), some (.int v1), none, some (.int v3), some (.int v4), some (.int v5), none]) (s2 := [.int s0]) (t2 := (jm_S0 L, M, J)) (fun _ _ => rfl) h13 ?_
      exact g133_98 L d M J _ hkb _ hke0 M v1 v3 v4 v5 s0 _ H
    · refine jm_go.brf 2 (b := decide (v4 ≤ 0)) (p1 := 98) (l1 := [some (.ref 113), some (.int v1), none, some (.int v3), some (.int v4), some (.int v5), none]) (s1 := [.int s0]) (t1 := (jm_S0 L, M, J)) (p2 := 83) (l2 := [some (.ref 113), some (.int v1), none, some (.int v3), some (.int v4), some (.int v5), none]) (s2 := [.int s0]) (t2 := (jm_S0 L, M, J)) (fun _ _ => rfl) h13 ?_
      obtain ⟨q14, h15, H⟩ := jm_bdo H
      refine jm_go.call 4 (d := d + 6) (b := true) (u := 129) (as := [.ref 113, .int v4, .int v5]) (pc' := 91) (ls' := [some (.ref 113), some (.int v1), none, some (.int v3), some (.int v4), some (.int v5), none]) (st' := [.int s0]) (t' := (jm_S0 L, M, J)) (fun _ _ => rfl) rfl rfl (g129 L (d + 3) M J v4 v5 _ h15) ?_
      rcases jm_bro H with ⟨h16, H⟩ | ⟨h16, H⟩
      · refine jm_go.brt 1 (b := !decide (q14 = 0)) (p1 := 98) (l1 := [some (.ref 113), some (.int v1), none, some (.int v3), some (.int v4), some (.int v5), none]) (s1 := [.int s0]) (t1 := (jm_S0 L, M, J)) (p2 := 94) (l2 := [some (.ref 113), some (.int v1), none, some (.int v3), some (.int v4), some (.int v5), none]) (s2 := [.int s0]) (t2 := (jm_S0 L, M, J)) (fun _ _ => rfl) h16 ?_
        exact g133_98 L d M J _ hkb _ hke0 M v1 v3 v4 v5 s0 _ H
      · refine jm_go.brf 1 (b := !decide (q14 = 0)) (p1 := 98) (l1 := [some (.ref 113), some (.int v1), none, some (.int v3), some (.int v4), some (.int v5), none]) (s1 := [.int s0]) (t1 := (jm_S0 L, M, J)) (p2 := 94) (l2 := [some (.ref 113), some (.int v1), none, some (.int v3), some (.int v4), some (.int v5), none]) (s2 := [.int s0]) (t2 := (jm_S0 L, M, J)) (fun _ _ => rfl) h16 ?_
        exact g133_94 L d M J _ hkb _ hke0 M v1 v3 v4 v5 s0 _ H

def f133_25  (ke0 : jm_MM → Int32 → Int32 → Int32 → Int32 → Option (Int32 × jm_MM)) : Nat → jm_MM → Int32 → Int32 → Int32 → Int32 → Int32 → Option (Int32 × jm_MM)
  | 0, _, _, _, _, _, _ => none
  | n0 + 1, M, v1, v2, v3, v4, v5 => jm_gd (jm_inb v4 6) (bif decide ((M 117 v4.toNatClampNeg) ≤ v5) then (ke0 M v1 v2 v3 v4) else (bif decide (v1 = 3) then (f133_94  (f133_25  ke0 n0) ke0 M v1 v3 v4 v5 v2) else (bif !decide (v1 = 4) then (f133_73  (f133_25  ke0 n0) ke0 M v1 v3 v4 v5 v2) else (bif decide ((M 114 2) ≤ (v4 + 1)) then (f133_73  (f133_25  ke0 n0) ke0 M v1 v3 v4 v5 v2) else (jm_bd (f128 M v4 v5) (fun q18 => bif decide (q18 = (-1)) then (f133_94  (f133_25  ke0 n0) ke0 M v1 v3 v4 v5 v2) else (f133_73  (f133_25  ke0 n0) ke0 M v1 v3 v4 v5 v2)))))))
set_option maxRecDepth 100000 in
theorem g133_25 (L : Nat) (d : Nat) (_M : jm_MM) (J : jm_JJ) (ke0 : jm_MM → Int32 → Int32 → Int32 → Int32 → Option (Int32 × jm_MM)) (hke0 : ∀ (M : jm_MM) (v1 : Int32) (v2 : Int32) (v3 : Int32) (v4 : Int32) (r : Int32 × jm_MM), ke0 M v1 v2 v3 v4 = some r → jm_go (d + 7) (jm_G 133) 140 [some (.ref 113), some (.int v1), some (.int v2), some (.int v3), some (.int v4), none, none] [] (jm_S0 L, M, J) (some (.int r.1), (jm_S0 L, r.2, J))) : ∀ (n0 : Nat) (M : jm_MM) (v1 : Int32) (v2 : Int32) (v3 : Int32) (v4 : Int32) (v5 : Int32) (r : Int32 × jm_MM), f133_25  ke0 n0 M v1 v2 v3 v4 v5 = some r → jm_go (d + 7) (jm_G 133) 25 [some (.ref 113), some (.int v1), some (.int v2), some (.int v3), some (.int v4), some (.int v5), none] [] (jm_S0 L, M, J) (some (.int r.1), (jm_S0 L, r.2, J)) := by
  intro n0
  induction n0 with
  | zero => intro M v1 v2 v3 v4 v5 r H; cases H
  | succ n0 ih =>
    intro M v1 v2 v3 v4 v5 r H
    have hkb := ih
    unfold f133_25 at H
    obtain ⟨h4, H⟩ := jm_gdo H
    refine jm_go.grd 5 (b := jm_inb v4 6) (pc' := 34) (ls' := [some (.ref 113), some (.int v1), some (.int v2), some (.int v3), some (.int v4), some (.int v5), none]) (st' := [.int (M 117 v4.toNatClampNeg), .int v5]) (t' := (jm_S0 L, M, J)) (fun _ _ => rfl) h4 ?_
    rcases jm_bro H with ⟨h5, H⟩ | ⟨h5, H⟩
    · refine jm_go.brt 1 (b := decide ((M 117 v4.toNatClampNeg) ≤ v5)) (p1 := 140) (l1 := [some (.ref 113), some (.int v1), some (.int v2), some (.int v3), some (.int v4), some (.int v5), none]) (s1 := []) (t1 := (jm_S0 L, M, J)) (p2 := 37) (l2 := [some (.ref 113), some (.int v1), some (.int v2), some (.int v3), some (.int v4), some (.int v5), none]) (s2 := []) (t2 := (jm_S0 L, M, J)) (fun _ _ => rfl) h5 ?_
      refine jm_go.lab (ls' := [some (.ref 113), some (.int v1), some (.int v2), some (.int v3), some (.int v4), none, none]) (fun i hi => by cases hi; rfl) ?_
      exact hke0 M v1 v2 v3 v4 _ H
    · refine jm_go.brf 1 (b := decide ((M 117 v4.toNatClampNeg) ≤ v5)) (p1 := 140) (l1 := [some (.ref 113), some (.int v1), some (.int v2), some (.int v3), some (.int v4), some (.int v5), none]) (s1 := []) (t1 := (jm_S0 L, M, J)) (p2 := 37) (l2 := [some (.ref 113), some (.int v1), some (.int v2), some (.int v3), some (.int v4), some (.int v5), none]) (s2 := []) (t2 := (jm_S0 L, M, J)) (fun _ _ => rfl) h5 ?_
      rcases jm_bro H with ⟨h6, H⟩ | ⟨h6, H⟩
      · refine jm_go.brt 4 (b := decide (v1 = 3)) (p1 := 94) (l1 := [some (.ref 113), some (.int v1), some (.int v2), some (.int v3), some (.int v4), some (.int v5), none]) (s1 := [.int v2]) (t1 := (jm_S0 L, M, J)) (p2 := 43) (l2 := [some (.ref 113), some (.int v1), some (.int v2), some (.int v3), some (.int v4), some (.int v5), none]) (s2 := [.int v2]) (t2 := (jm_S0 L, M, J)) (fun _ _ => rfl) h6 ?_
        refine jm_go.lab (ls' := [some (.ref 113), some (.int v1), none, some (.int v3), some (.int v4), some (.int v5), none]) (fun i hi => by cases hi; rfl) ?_
        exact g133_94 L d M J _ hkb _ hke0 M v1 v3 v4 v5 v2 _ H
      · refine jm_go.brf 4 (b := decide (v1 = 3)) (p1 := 94) (l1 := [some (.ref 113), some (.int v1), some (.int v2), some (.int v3), some (.int v4), some (.int v5), none]) (s1 := [.int v2]) (t1 := (jm_S0 L, M, J)) (p2 := 43) (l2 := [some (.ref 113), some (.int v1), some (.int v2), some (.int v3), some (.int v4), some (.int v5), none]) (s2 := [.int v2]) (t2 := (jm_S0 L, M, J)) (fun _ _ => rfl) h6 ?_
        rcases jm_bro H with ⟨h11, H⟩ | ⟨h11, H⟩
        · refine jm_go.brt 3 (b := !decide (v1 = 4)) (p1 := 73) (l1 := [some (.ref 113), some (.int v1), some (.int v2), some (.int v3), some (.int v4), some (.int v5), none]) (s1 := [.int v2]) (t1 := (jm_S0 L, M, J)) (p2 := 48) (l2 := [some (.ref 113), some (.int v1), some (.int v2), some (.int v3), some (.int v4), some (.int v5), none]) (s2 := [.int v2]) (t2 := (jm_S0 L, M, J)) (fun _ _ => rfl) h11 ?_
          refine jm_go.lab (ls' := [some (.ref 113), some (.int v1), none, some (.int v3), some (.int v4), some (.int v5), none]) (fun i hi => by cases hi; rfl) ?_
          exact g133_73 L d M J _ hkb _ hke0 M v1 v3 v4 v5 v2 _ H
        · refine jm_go.brf 3 (b := !decide (v1 = 4)) (p1 := 73) (l1 := [some (.ref 113), some (.int v1), some (.int v2), some (.int v3), some (.int v4), some (.int v5), none]) (s1 := [.int v2]) (t1 := (jm_S0 L, M, J)) (p2 := 48) (l2 := [some (.ref 113), some (.int v1), some (.int v2), some (.int v3), some (.int v4), some (.int v5), none]) (s2 := [.int v2]) (t2 := (jm_S0 L, M, J)) (fun _ _ => rfl) h11 ?_
          rcases jm_bro H with ⟨h17, H⟩ | ⟨h17, H⟩
          · refine jm_go.brt 8 (b := decide ((M 114 2) ≤ (v4 + 1))) (p1 := 73) (l1 := [some (.ref 113), some (.int v1), some (.int v2), some (.int v3), some (.int v4), some (.int v5), none]) (s1 := [.int v2]) (t1 := (jm_S0 L, M, J)) (p2 := 61) (l2 := [some (.ref 113), some (.int v1), some (.int v2), some (.int v3), some (.int v4), some (.int v5), none]) (s2 := [.int v2]) (t2 := (jm_S0 L, M, J)) (fun _ _ => rfl) h17 ?_
            refine jm_go.lab (ls' := [some (.ref 113), some (.int v1), none, some (.int v3), some (.int v4), some (.int v5), none]) (fun i hi => by cases hi; rfl) ?_
            exact g133_73 L d M J _ hkb _ hke0 M v1 v3 v4 v5 v2 _ H
          · refine jm_go.brf 8 (b := decide ((M 114 2) ≤ (v4 + 1))) (p1 := 73) (l1 := [some (.ref 113), some (.int v1), some (.int v2), some (.int v3), some (.int v4), some (.int v5), none]) (s1 := [.int v2]) (t1 := (jm_S0 L, M, J)) (p2 := 61) (l2 := [some (.ref 113), some (.int v1), some (.int v2), some (.int v3), some (.int v4), some (.int v5), none]) (s2 := [.int v2]) (t2 := (jm_S0 L, M, J)) (fun _ _ => rfl) h17 ?_
            obtain ⟨q18, h19, H⟩ := jm_bdo H
            refine jm_go.call 4 (d := d + 6) (b := true) (u := 128) (as := [.ref 113, .int v4, .int v5]) (pc' := 69) (ls' := [some (.ref 113), some (.int v1), some (.int v2), some (.int v3), some (.int v4), some (.int v5), none]) (st' := [.int v2]) (t' := (jm_S0 L, M, J)) (fun _ _ => rfl) rfl rfl (g128 L (d + 4) M J v4 v5 _ h19) ?_
            rcases jm_bro H with ⟨h20, H⟩ | ⟨h20, H⟩
            · refine jm_go.brt 2 (b := decide (q18 = (-1))) (p1 := 94) (l1 := [some (.ref 113), some (.int v1), some (.int v2), some (.int v3), some (.int v4), some (.int v5), none]) (s1 := [.int v2]) (t1 := (jm_S0 L, M, J)) (p2 := 73) (l2 := [some (.ref 113), some (.int v1), some (.int v2), some (.int v3), some (.int v4), some (.int v5), none]) (s2 := [.int v2]) (t2 := (jm_S0 L, M, J)) (fun _ _ => rfl) h20 ?_
              refine jm_go.lab (ls' := [some (.ref 113), some (.int v1), none, some (.int v3), some (.int v4), some (.int v5), none]) (fun i hi => by cases hi; rfl) ?_
              exact g133_94 L d M J _ hkb _ hke0 M v1 v3 v4 v5 v2 _ H
            · refine jm_go.brf 2 (b := decide (q18 = (-1))) (p1 := 94) (l1 := [some (.ref 113), some (.int v1), some (.int v2), some (.int v3), some (.int v4), some (.int v5), none]) (s1 := [.int v2]) (t1 := (jm_S0 L, M, J)) (p2 := 73) (l2 := [some (.ref 113), some (.int v1), some (.int v2), some (.int v3), some (.int v4), some (.int v5), none]) (s2 := [.int v2]) (t2 := (jm_S0 L, M, J)) (fun _ _ => rfl) h20 ?_
              refine jm_go.lab (ls' := [some (.ref 113), some (.int v1), none, some (.int v3), some (.int v4), some (.int v5), none]) (fun i hi => by cases hi; rfl) ?_
              exact g133_73 L d M J _ hkb _ hke0 M v1 v3 v4 v5 v2 _ H

def f133_11  (ke0 : jm_MM → Int32 → Int32 → Int32 → Option (Int32 × jm_MM)) : Nat → jm_MM → Int32 → Int32 → Int32 → Int32 → Option (Int32 × jm_MM)
  | 0, _, _, _, _, _ => none
  | n0 + 1, M, v1, v2, v3, v4 => bif decide ((M 114 2) ≤ v4) then (ke0 M v1 v2 v3) else (f133_25  (fun Me21 ve22 ve23 ve24 ve25 => (f133_11  ke0 n0) Me21 ve22 ve23 ve24 (ve25 + 1)) jm_F M v1 v2 v3 v4 0)
set_option maxRecDepth 100000 in
theorem g133_11 (L : Nat) (d : Nat) (_M : jm_MM) (J : jm_JJ) (ke0 : jm_MM → Int32 → Int32 → Int32 → Option (Int32 × jm_MM)) (hke0 : ∀ (M : jm_MM) (v1 : Int32) (v2 : Int32) (v3 : Int32) (r : Int32 × jm_MM), ke0 M v1 v2 v3 = some r → jm_go (d + 7) (jm_G 133) 146 [none, some (.int v1), some (.int v2), some (.int v3), none, none, none] [] (jm_S0 L, M, J) (some (.int r.1), (jm_S0 L, r.2, J))) : ∀ (n0 : Nat) (M : jm_MM) (v1 : Int32) (v2 : Int32) (v3 : Int32) (v4 : Int32) (r : Int32 × jm_MM), f133_11  ke0 n0 M v1 v2 v3 v4 = some r → jm_go (d + 7) (jm_G 133) 11 [some (.ref 113), some (.int v1), some (.int v2), some (.int v3), some (.int v4), none, none] [] (jm_S0 L, M, J) (some (.int r.1), (jm_S0 L, r.2, J)) := by
  intro n0
  induction n0 with
  | zero => intro M v1 v2 v3 v4 r H; cases H
  | succ n0 ih =>
    intro M v1 v2 v3 v4 r H
    have hkb := ih
    unfold f133_11 at H
    rcases jm_bro H with ⟨h3, H⟩ | ⟨h3, H⟩
    · refine jm_go.brt 6 (b := decide ((M 114 2) ≤ v4)) (p1 := 146) (l1 := [some (.ref 113), some (.int v1), some (.int v2), some (.int v3), some (.int v4), none, none]) (s1 := []) (t1 := (jm_S0 L, M, J)) (p2 := 22) (l2 := [some (.ref 113), some (.int v1), some (.int v2), some (.int v3), some (.int v4), none, none]) (s2 := []) (t2 := (jm_S0 L, M, J)) (fun _ _ => rfl) h3 ?_
      refine jm_go.lab (ls' := [none, some (.int v1), some (.int v2), some (.int v3), none, none, none]) (fun i hi => by cases hi; rfl) ?_
      exact hke0 M v1 v2 v3 _ H
    · refine jm_go.brf 6 (b := decide ((M 114 2) ≤ v4)) (p1 := 146) (l1 := [some (.ref 113), some (.int v1), some (.int v2), some (.int v3), some (.int v4), none, none]) (s1 := []) (t1 := (jm_S0 L, M, J)) (p2 := 22) (l2 := [some (.ref 113), some (.int v1), some (.int v2), some (.int v3), some (.int v4), none, none]) (s2 := []) (t2 := (jm_S0 L, M, J)) (fun _ _ => rfl) h3 ?_
      refine jm_go.blk 2 (pc' := 25) (ls' := [some (.ref 113), some (.int v1), some (.int v2), some (.int v3), some (.int v4), some (.int 0), none]) (st' := []) (t' := (jm_S0 L, M, J)) (fun _ _ => rfl) ?_
      exact g133_25 L d M J
        _ (fun Me21 ve22 ve23 ve24 ve25 r H => by
          refine jm_go.blk 2 (pc' := 11) (ls' := [some (.ref 113), some (.int ve22), some (.int ve23), some (.int ve24), some (.int (ve25 + 1)), none, none]) (st' := []) (t' := (jm_S0 L, Me21, J)) (fun _ _ => rfl) ?_
          exact hkb Me21 ve22 ve23 ve24 (ve25 + 1) _ H
          )
        _ M v1 v2 v3 v4 0 _ H

/-- X8_countHalos -/
def f133 (M : jm_MM) (x0 : Int32) : Option (Int32 × jm_MM) := jm_bd (f125 M) (fun q1 => f133_11  (fun Me26 ve27 ve28 ve29 => bif !decide (ve27 = 6) then (some (ve28, Me26)) else (some (ve29, Me26))) jm_F q1 x0 0 0 0)
set_option maxRecDepth 100000 in
theorem g133 (L : Nat) (d : Nat) (M : jm_MM) (J : jm_JJ) (x0 : Int32) (r : Int32 × jm_MM) (H : f133 M x0 = some r) : jm_go (d + 7) (jm_G 133) 0 (jm_en 7 [.ref 113, .int x0]) [] (jm_S0 L, M, J) (some (.int r.1), (jm_S0 L, r.2, J)) := by
  unfold f133 at H
  obtain ⟨q1, h2, H⟩ := jm_bdo H
  refine jm_go.call 6 (d := d + 6) (b := true) (u := 125) (as := [.ref 113]) (pc' := 8) (ls' := [some (.ref 113), some (.int x0), some (.int 0), some (.int 0), none, none, none]) (st' := []) (t' := (jm_S0 L, M, J)) (fun _ _ => rfl) rfl rfl (g125 L d M J _ h2) ?_
  refine jm_go.blk 2 (pc' := 11) (ls' := [some (.ref 113), some (.int x0), some (.int 0), some (.int 0), some (.int 0), none, none]) (st' := []) (t' := (jm_S0 L, q1, J)) (fun _ _ => rfl) ?_
  exact g133_11 L d M J
    _ (fun Me26 ve27 ve28 ve29 r H => by
      rcases jm_bro H with ⟨h30, H⟩ | ⟨h30, H⟩
      · refine jm_go.brt 3 (b := !decide (ve27 = 6)) (p1 := 156) (l1 := [none, some (.int ve27), some (.int ve28), some (.int ve29), none, none, none]) (s1 := []) (t1 := (jm_S0 L, Me26, J)) (p2 := 152) (l2 := [none, some (.int ve27), some (.int ve28), some (.int ve29), none, none, none]) (s2 := []) (t2 := (jm_S0 L, Me26, J)) (fun _ _ => rfl) h30 ?_
        have H := Option.some.inj H
        subst H
        exact jm_go.ret 2 (fun _ _ => rfl)
      · refine jm_go.brf 3 (b := !decide (ve27 = 6)) (p1 := 156) (l1 := [none, some (.int ve27), some (.int ve28), some (.int ve29), none, none, none]) (s1 := []) (t1 := (jm_S0 L, Me26, J)) (p2 := 152) (l2 := [none, some (.int ve27), some (.int ve28), some (.int ve29), none, none, none]) (s2 := []) (t2 := (jm_S0 L, Me26, J)) (fun _ _ => rfl) h30 ?_
        have H := Option.some.inj H
        subst H
        exact jm_go.ret 3 (fun _ _ => rfl)
      )
    _ q1 x0 0 0 0 _ H
