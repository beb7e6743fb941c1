/-! methods as functions: printed by wip/whole/gen/lay.py (funs.py) -/

/-- X8_goBack -/
def f163 (M : jm_MM) (x0 : Int32) : Option (Int32 × jm_MM) := jm_bd (f93 M (Int32.toInt64 x0) 0 1) (fun q1 => bif !decide (q1 = 0) then (jm_gd (jm_inb x0 2) (bif !decide ((M 115 x0.toNatClampNeg) = 0) then (jm_bd (f99 M (321 + (321 * x0)) 0) (fun q6 => some ((jm_up q6 113 2 0) 114 2, (jm_up q6 113 2 0)))) else (some ((-1000000003), M)))) else (some ((-1000000001), M)))
set_option maxRecDepth 100000 in
theorem g163 (L : Nat) (d : Nat) (M : jm_MM) (J : jm_JJ) (x0 : Int32) (r : Int32 × jm_MM) (H : f163 M x0 = some r) : jm_go (d + 1) (jm_G 163) 0 (jm_en 2 [.ref 113, .int x0]) [] (jm_S0 L, M, J) (some (.int r.1), (jm_S0 L, r.2, J)) := by
  unfold f163 at H
  obtain ⟨q1, h2, H⟩ := jm_bdo H
  refine jm_go.call 5 (d := d) (b := true) (u := 93) (as := [.long (Int32.toInt64 x0), .long 0, .long 1]) (pc' := 7) (ls' := [some (.ref 113), some (.int x0)]) (st' := []) (t' := (jm_S0 L, M, J)) (fun _ _ => rfl) rfl rfl (g93 L d M J (Int32.toInt64 x0) 0 1 _ h2) ?_
  rcases jm_bro H with ⟨h3, H⟩ | ⟨h3, H⟩
  · refine jm_go.brt 1 (b := !decide (q1 = 0)) (p1 := 13) (l1 := [some (.ref 113), some (.int x0)]) (s1 := []) (t1 := (jm_S0 L, M, J)) (p2 := 10) (l2 := [some (.ref 113), some (.int x0)]) (s2 := []) (t2 := (jm_S0 L, M, J)) (fun _ _ => rfl) h3 ?_
    obtain ⟨h4, H⟩ := jm_gdo H
    refine jm_go.grd 4 (b := jm_inb x0 2) (pc' := 19) (ls' := [some (.ref 113), some (.int x0)]) (st' := [.int (M 115 x0.toNatClampNeg)]) (t' := (jm_S0 L, M, J)) (fun _ _ => rfl) h4 ?_
    rcases jm_bro H with ⟨h5, H⟩ | ⟨h5, H⟩
    · refine jm_go.brt 1 (b := !decide ((M 115 x0.toNatClampNeg) = 0)) (p1 := 25) (l1 := [some (.ref 113), some (.int x0)]) (s1 := []) (t1 := (jm_S0 L, M, J)) (p2 := 22) (l2 := [some (.ref 113), some (.int x0)]) (s2 := []) (t2 := (jm_S0 L, M, J)) (fun _ _ => rfl) h5 ?_
      obtain ⟨q6, h7, H⟩ := jm_bdo H
      refine jm_go.call 8 (d := d) (b := true) (u := 99) (as := [.ref 113, .int (321 + (321 * x0)), .int 0]) (pc' := 39) (ls' := [some (.ref 113), some (.int x0)]) (st' := []) (t' := (jm_S0 L, M, J)) (fun _ _ => rfl) rfl rfl (g99 L d M J (321 + (321 * x0)) 0 _ h7) ?_
      have H := Option.some.inj H
      subst H
      exact jm_go.ret 8 (fun _ _ => rfl)
    · refine jm_go.brf 1 (b := !decide ((M 115 x0.toNatClampNeg) = 0)) (p1 := 25) (l1 := [some (.ref 113), some (.int x0)]) (s1 := []) (t1 := (jm_S0 L, M, J)) (p2 := 22) (l2 := [some (.ref 113), some (.int x0)]) (s2 := []) (t2 := (jm_S0 L, M, J)) (fun _ _ => rfl) h5 ?_
      have H := Option.some.inj H
      subst H
      exact jm_go.ret 2 (fun _ _ => rfl)
  · refine jm_go.brf 1 (b := !decide (q1 = 0)) (p1 := 13) (l1 := [some (.ref 113), some (.int x0)]) (s1 := []) (t1 := (jm_S0 L, M, J)) (p2 := 10) (l2 := [some (.ref 113), some (.int x0)]) (s2 := []) (t2 := (jm_S0 L, M, J)) (fun _ _ => rfl) h3 ?_
    have H := Option.some.inj H
    subst H
    exact jm_go.ret 2 (fun _ _ => rfl)
