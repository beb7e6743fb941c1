/-! the walk of both constructors: printed by wip/whole/gen/ctor.py -/
set_option maxRecDepth 100000 in
theorem kc45_1 (d L : Nat) (xs : Nat → Int32) : jm_go (d + 2) (jm_G 45) 0 (jm_en 2 [.ref 5]) [] (kt5 L xs) (none, (kt33 L xs)) := by
  refine jm_go.blk 2 (pc' := 4) (ls' := [some (.ref 5), none]) (st' := []) (t' := (kt5 L xs)) (fun _ _ => rfl) ?_
  refine jm_go.blk 3 (pc' := 10) (ls' := [some (.ref 5), none]) (st' := [.ref 6, .ref 5]) (t' := (kt6 L xs)) (fun _ _ => rfl) ?_
  refine jm_go.blk 1 (pc' := 13) (ls' := [some (.ref 5), none]) (st' := []) (t' := (kt7 L xs)) (fun _ _ => rfl) ?_
  refine jm_go.blk 3 (pc' := 18) (ls' := [some (.ref 5), none]) (st' := []) (t' := (kt8 L xs)) (fun _ _ => rfl) ?_
  refine jm_go.blk 3 (pc' := 23) (ls' := [some (.ref 5), none]) (st' := []) (t' := (kt9 L xs)) (fun _ _ => rfl) ?_
  refine jm_go.blk 5 (pc' := 31) (ls' := [some (.ref 5), some (.int 0)]) (st' := []) (t' := (kt9 L xs)) (fun _ _ => rfl) ?_
  refine jm_go.blk 4 (pc' := 39) (ls' := [some (.ref 5), some (.int 0)]) (st' := [.ref 7, .int 0, .ref 6]) (t' := (kt10 L xs)) (fun _ _ => rfl) ?_
  refine jm_go.call 2 (d := d + 1) (b := true) (u := 9) (as := [.ref 7]) (pc' := 43) (ls' := [some (.ref 5), some (.int 0)]) (st' := [.ref 7, .int 0, .ref 6]) (t' := (kt10 L xs)) (fun _ _ => rfl) rfl rfl (k9 d (kt10 L xs) 7 rfl) ?_
  refine jm_go.blk 1 (pc' := 44) (ls' := [some (.ref 5), some (.int 0)]) (st' := []) (t' := (kt12 L xs)) (fun _ _ => rfl) ?_
  refine jm_go.blk 2 (pc' := 25) (ls' := [some (.ref 5), some (.int 1)]) (st' := []) (t' := (kt12 L xs)) (fun _ _ => rfl) ?_
  refine jm_go.blk 3 (pc' := 31) (ls' := [some (.ref 5), some (.int 1)]) (st' := []) (t' := (kt12 L xs)) (fun _ _ => rfl) ?_
  refine jm_go.blk 4 (pc' := 39) (ls' := [some (.ref 5), some (.int 1)]) (st' := [.ref 10, .int 1, .ref 6]) (t' := (kt13 L xs)) (fun _ _ => rfl) ?_
  refine jm_go.call 2 (d := d + 1) (b := true) (u := 9) (as := [.ref 10]) (pc' := 43) (ls' := [some (.ref 5), some (.int 1)]) (st' := [.ref 10, .int 1, .ref 6]) (t' := (kt13 L xs)) (fun _ _ => rfl) rfl rfl (k9 d (kt13 L xs) 10 rfl) ?_
  refine jm_go.blk 1 (pc' := 44) (ls' := [some (.ref 5), some (.int 1)]) (st' := []) (t' := (kt15 L xs)) (fun _ _ => rfl) ?_
  refine jm_go.blk 2 (pc' := 25) (ls' := [some (.ref 5), some (.int 2)]) (st' := []) (t' := (kt15 L xs)) (fun _ _ => rfl) ?_
  refine jm_go.blk 3 (pc' := 31) (ls' := [some (.ref 5), some (.int 2)]) (st' := []) (t' := (kt15 L xs)) (fun _ _ => rfl) ?_
  refine jm_go.blk 4 (pc' := 39) (ls' := [some (.ref 5), some (.int 2)]) (st' := [.ref 13, .int 2, .ref 6]) (t' := (kt16 L xs)) (fun _ _ => rfl) ?_
  refine jm_go.call 2 (d := d + 1) (b := true) (u := 9) (as := [.ref 13]) (pc' := 43) (ls' := [some (.ref 5), some (.int 2)]) (st' := [.ref 13, .int 2, .ref 6]) (t' := (kt16 L xs)) (fun _ _ => rfl) rfl rfl (k9 d (kt16 L xs) 13 rfl) ?_
  refine jm_go.blk 1 (pc' := 44) (ls' := [some (.ref 5), some (.int 2)]) (st' := []) (t' := (kt18 L xs)) (fun _ _ => rfl) ?_
  refine jm_go.blk 2 (pc' := 25) (ls' := [some (.ref 5), some (.int 3)]) (st' := []) (t' := (kt18 L xs)) (fun _ _ => rfl) ?_
  refine jm_go.blk 3 (pc' := 31) (ls' := [some (.ref 5), some (.int 3)]) (st' := []) (t' := (kt18 L xs)) (fun _ _ => rfl) ?_
  refine jm_go.blk 4 (pc' := 39) (ls' := [some (.ref 5), some (.int 3)]) (st' := [.ref 16, .int 3, .ref 6]) (t' := (kt19 L xs)) (fun _ _ => rfl) ?_
  refine jm_go.call 2 (d := d + 1) (b := true) (u := 9) (as := [.ref 16]) (pc' := 43) (ls' := [some (.ref 5), some (.int 3)]) (st' := [.ref 16, .int 3, .ref 6]) (t' := (kt19 L xs)) (fun _ _ => rfl) rfl rfl (k9 d (kt19 L xs) 16 rfl) ?_
  refine jm_go.blk 1 (pc' := 44) (ls' := [some (.ref 5), some (.int 3)]) (st' := []) (t' := (kt21 L xs)) (fun _ _ => rfl) ?_
  refine jm_go.blk 2 (pc' := 25) (ls' := [some (.ref 5), some (.int 4)]) (st' := []) (t' := (kt21 L xs)) (fun _ _ => rfl) ?_
  refine jm_go.blk 3 (pc' := 31) (ls' := [some (.ref 5), some (.int 4)]) (st' := []) (t' := (kt21 L xs)) (fun _ _ => rfl) ?_
  refine jm_go.blk 4 (pc' := 39) (ls' := [some (.ref 5), some (.int 4)]) (st' := [.ref 19, .int 4, .ref 6]) (t' := (kt22 L xs)) (fun _ _ => rfl) ?_
  refine jm_go.call 2 (d := d + 1) (b := true) (u := 9) (as := [.ref 19]) (pc' := 43) (ls' := [some (.ref 5), some (.int 4)]) (st' := [.ref 19, .int 4, .ref 6]) (t' := (kt22 L xs)) (fun _ _ => rfl) rfl rfl (k9 d (kt22 L xs) 19 rfl) ?_
  refine jm_go.blk 1 (pc' := 44) (ls' := [some (.ref 5), some (.int 4)]) (st' := []) (t' := (kt24 L xs)) (fun _ _ => rfl) ?_
  refine jm_go.blk 2 (pc' := 25) (ls' := [some (.ref 5), some (.int 5)]) (st' := []) (t' := (kt24 L xs)) (fun _ _ => rfl) ?_
  refine jm_go.blk 3 (pc' := 31) (ls' := [some (.ref 5), some (.int 5)]) (st' := []) (t' := (kt24 L xs)) (fun _ _ => rfl) ?_
  refine jm_go.blk 4 (pc' := 39) (ls' := [some (.ref 5), some (.int 5)]) (st' := [.ref 22, .int 5, .ref 6]) (t' := (kt25 L xs)) (fun _ _ => rfl) ?_
  refine jm_go.call 2 (d := d + 1) (b := true) (u := 9) (as := [.ref 22]) (pc' := 43) (ls' := [some (.ref 5), some (.int 5)]) (st' := [.ref 22, .int 5, .ref 6]) (t' := (kt25 L xs)) (fun _ _ => rfl) rfl rfl (k9 d (kt25 L xs) 22 rfl) ?_
  refine jm_go.blk 1 (pc' := 44) (ls' := [some (.ref 5), some (.int 5)]) (st' := []) (t' := (kt27 L xs)) (fun _ _ => rfl) ?_
  refine jm_go.blk 2 (pc' := 25) (ls' := [some (.ref 5), some (.int 6)]) (st' := []) (t' := (kt27 L xs)) (fun _ _ => rfl) ?_
  refine jm_go.blk 3 (pc' := 31) (ls' := [some (.ref 5), some (.int 6)]) (st' := []) (t' := (kt27 L xs)) (fun _ _ => rfl) ?_
  refine jm_go.blk 4 (pc' := 39) (ls' := [some (.ref 5), some (.int 6)]) (st' := [.ref 25, .int 6, .ref 6]) (t' := (kt28 L xs)) (fun _ _ => rfl) ?_
  refine jm_go.call 2 (d := d + 1) (b := true) (u := 9) (as := [.ref 25]) (pc' := 43) (ls' := [some (.ref 5), some (.int 6)]) (st' := [.ref 25, .int 6, .ref 6]) (t' := (kt28 L xs)) (fun _ _ => rfl) rfl rfl (k9 d (kt28 L xs) 25 rfl) ?_
  refine jm_go.blk 1 (pc' := 44) (ls' := [some (.ref 5), some (.int 6)]) (st' := []) (t' := (kt30 L xs)) (fun _ _ => rfl) ?_
  refine jm_go.blk 2 (pc' := 25) (ls' := [some (.ref 5), some (.int 7)]) (st' := []) (t' := (kt30 L xs)) (fun _ _ => rfl) ?_
  refine jm_go.blk 3 (pc' := 31) (ls' := [some (.ref 5), some (.int 7)]) (st' := []) (t' := (kt30 L xs)) (fun _ _ => rfl) ?_
  refine jm_go.blk 4 (pc' := 39) (ls' := [some (.ref 5), some (.int 7)]) (st' := [.ref 28, .int 7, .ref 6]) (t' := (kt31 L xs)) (fun _ _ => rfl) ?_
  refine jm_go.call 2 (d := d + 1) (b := true) (u := 9) (as := [.ref 28]) (pc' := 43) (ls' := [some (.ref 5), some (.int 7)]) (st' := [.ref 28, .int 7, .ref 6]) (t' := (kt31 L xs)) (fun _ _ => rfl) rfl rfl (k9 d (kt31 L xs) 28 rfl) ?_
  refine jm_go.blk 1 (pc' := 44) (ls' := [some (.ref 5), some (.int 7)]) (st' := []) (t' := (kt33 L xs)) (fun _ _ => rfl) ?_
  refine jm_go.blk 2 (pc' := 25) (ls' := [some (.ref 5), some (.int 8)]) (st' := []) (t' := (kt33 L xs)) (fun _ _ => rfl) ?_
  refine jm_go.blk 3 (pc' := 50) (ls' := [some (.ref 5), some (.int 8)]) (st' := []) (t' := (kt33 L xs)) (fun _ _ => rfl) ?_
  exact jm_go.ret 1 (fun _ _ => rfl)
set_option maxRecDepth 100000 in
theorem kc0_2 (d L : Nat) (xs : Nat → Int32) : jm_go (d + 1) (jm_G 0) 0 (jm_en 1 [.ref 42]) [] (kt52 L xs) (none, (kt58 L xs)) := by
  refine jm_go.blk 2 (pc' := 4) (ls' := [some (.ref 42)]) (st' := []) (t' := (kt52 L xs)) (fun _ _ => rfl) ?_
  refine jm_go.blk 3 (pc' := 9) (ls' := [some (.ref 42)]) (st' := []) (t' := (kt53 L xs)) (fun _ _ => rfl) ?_
  refine jm_go.blk 3 (pc' := 14) (ls' := [some (.ref 42)]) (st' := []) (t' := (kt54 L xs)) (fun _ _ => rfl) ?_
  refine jm_go.blk 3 (pc' := 19) (ls' := [some (.ref 42)]) (st' := [.ref 43, .ref 42]) (t' := (kt55 L xs)) (fun _ _ => rfl) ?_
  refine jm_go.blk 1 (pc' := 22) (ls' := [some (.ref 42)]) (st' := []) (t' := (kt56 L xs)) (fun _ _ => rfl) ?_
  refine jm_go.blk 3 (pc' := 27) (ls' := [some (.ref 42)]) (st' := [.ref 44, .ref 42]) (t' := (kt57 L xs)) (fun _ _ => rfl) ?_
  refine jm_go.blk 1 (pc' := 30) (ls' := [some (.ref 42)]) (st' := []) (t' := (kt58 L xs)) (fun _ _ => rfl) ?_
  exact jm_go.ret 1 (fun _ _ => rfl)
set_option maxRecDepth 100000 in
theorem kc29_3 (d L : Nat) (xs : Nat → Int32) : jm_go (d + 1) (jm_G 29) 0 (jm_en 1 [.ref 45]) [] (kt60 L xs) (none, (kt73 L xs)) := by
  refine jm_go.blk 2 (pc' := 4) (ls' := [some (.ref 45)]) (st' := []) (t' := (kt60 L xs)) (fun _ _ => rfl) ?_
  refine jm_go.blk 3 (pc' := 9) (ls' := [some (.ref 45)]) (st' := []) (t' := (kt61 L xs)) (fun _ _ => rfl) ?_
  refine jm_go.blk 3 (pc' := 14) (ls' := [some (.ref 45)]) (st' := [.ref 46, .ref 45]) (t' := (kt62 L xs)) (fun _ _ => rfl) ?_
  refine jm_go.blk 1 (pc' := 17) (ls' := [some (.ref 45)]) (st' := []) (t' := (kt63 L xs)) (fun _ _ => rfl) ?_
  refine jm_go.blk 3 (pc' := 22) (ls' := [some (.ref 45)]) (st' := [.ref 47, .ref 45]) (t' := (kt64 L xs)) (fun _ _ => rfl) ?_
  refine jm_go.blk 1 (pc' := 25) (ls' := [some (.ref 45)]) (st' := []) (t' := (kt65 L xs)) (fun _ _ => rfl) ?_
  refine jm_go.blk 3 (pc' := 30) (ls' := [some (.ref 45)]) (st' := [.ref 48, .ref 45]) (t' := (kt66 L xs)) (fun _ _ => rfl) ?_
  refine jm_go.blk 1 (pc' := 33) (ls' := [some (.ref 45)]) (st' := []) (t' := (kt67 L xs)) (fun _ _ => rfl) ?_
  refine jm_go.blk 3 (pc' := 38) (ls' := [some (.ref 45)]) (st' := [.ref 49, .ref 45]) (t' := (kt68 L xs)) (fun _ _ => rfl) ?_
  refine jm_go.blk 1 (pc' := 41) (ls' := [some (.ref 45)]) (st' := []) (t' := (kt69 L xs)) (fun _ _ => rfl) ?_
  refine jm_go.blk 3 (pc' := 46) (ls' := [some (.ref 45)]) (st' := [.ref 50, .ref 45]) (t' := (kt70 L xs)) (fun _ _ => rfl) ?_
  refine jm_go.blk 1 (pc' := 49) (ls' := [some (.ref 45)]) (st' := []) (t' := (kt71 L xs)) (fun _ _ => rfl) ?_
  refine jm_go.blk 3 (pc' := 54) (ls' := [some (.ref 45)]) (st' := [.ref 51, .ref 45]) (t' := (kt72 L xs)) (fun _ _ => rfl) ?_
  refine jm_go.blk 1 (pc' := 57) (ls' := [some (.ref 45)]) (st' := []) (t' := (kt73 L xs)) (fun _ _ => rfl) ?_
  exact jm_go.ret 1 (fun _ _ => rfl)
set_option maxRecDepth 100000 in
theorem kc0_4 (d L : Nat) (xs : Nat → Int32) : jm_go (d + 1) (jm_G 0) 0 (jm_en 1 [.ref 52]) [] (kt75 L xs) (none, (kt81 L xs)) := by
  refine jm_go.blk 2 (pc' := 4) (ls' := [some (.ref 52)]) (st' := []) (t' := (kt75 L xs)) (fun _ _ => rfl) ?_
  refine jm_go.blk 3 (pc' := 9) (ls' := [some (.ref 52)]) (st' := []) (t' := (kt76 L xs)) (fun _ _ => rfl) ?_
  refine jm_go.blk 3 (pc' := 14) (ls' := [some (.ref 52)]) (st' := []) (t' := (kt77 L xs)) (fun _ _ => rfl) ?_
  refine jm_go.blk 3 (pc' := 19) (ls' := [some (.ref 52)]) (st' := [.ref 53, .ref 52]) (t' := (kt78 L xs)) (fun _ _ => rfl) ?_
  refine jm_go.blk 1 (pc' := 22) (ls' := [some (.ref 52)]) (st' := []) (t' := (kt79 L xs)) (fun _ _ => rfl) ?_
  refine jm_go.blk 3 (pc' := 27) (ls' := [some (.ref 52)]) (st' := [.ref 54, .ref 52]) (t' := (kt80 L xs)) (fun _ _ => rfl) ?_
  refine jm_go.blk 1 (pc' := 30) (ls' := [some (.ref 52)]) (st' := []) (t' := (kt81 L xs)) (fun _ _ => rfl) ?_
  exact jm_go.ret 1 (fun _ _ => rfl)
set_option maxRecDepth 100000 in
theorem kc29_5 (d L : Nat) (xs : Nat → Int32) : jm_go (d + 1) (jm_G 29) 0 (jm_en 1 [.ref 55]) [] (kt83 L xs) (none, (kt96 L xs)) := by
  refine jm_go.blk 2 (pc' := 4) (ls' := [some (.ref 55)]) (st' := []) (t' := (kt83 L xs)) (fun _ _ => rfl) ?_
  refine jm_go.blk 3 (pc' := 9) (ls' := [some (.ref 55)]) (st' := []) (t' := (kt84 L xs)) (fun _ _ => rfl) ?_
  refine jm_go.blk 3 (pc' := 14) (ls' := [some (.ref 55)]) (st' := [.ref 56, .ref 55]) (t' := (kt85 L xs)) (fun _ _ => rfl) ?_
  refine jm_go.blk 1 (pc' := 17) (ls' := [some (.ref 55)]) (st' := []) (t' := (kt86 L xs)) (fun _ _ => rfl) ?_
  refine jm_go.blk 3 (pc' := 22) (ls' := [some (.ref 55)]) (st' := [.ref 57, .ref 55]) (t' := (kt87 L xs)) (fun _ _ => rfl) ?_
  refine jm_go.blk 1 (pc' := 25) (ls' := [some (.ref 55)]) (st' := []) (t' := (kt88 L xs)) (fun _ _ => rfl) ?_
  refine jm_go.blk 3 (pc' := 30) (ls' := [some (.ref 55)]) (st' := [.ref 58, .ref 55]) (t' := (kt89 L xs)) (fun _ _ => rfl) ?_
  refine jm_go.blk 1 (pc' := 33) (ls' := [some (.ref 55)]) (st' := []) (t' := (kt90 L xs)) (fun _ _ => rfl) ?_
  refine jm_go.blk 3 (pc' := 38) (ls' := [some (.ref 55)]) (st' := [.ref 59, .ref 55]) (t' := (kt91 L xs)) (fun _ _ => rfl) ?_
  refine jm_go.blk 1 (pc' := 41) (ls' := [some (.ref 55)]) (st' := []) (t' := (kt92 L xs)) (fun _ _ => rfl) ?_
  refine jm_go.blk 3 (pc' := 46) (ls' := [some (.ref 55)]) (st' := [.ref 60, .ref 55]) (t' := (kt93 L xs)) (fun _ _ => rfl) ?_
  refine jm_go.blk 1 (pc' := 49) (ls' := [some (.ref 55)]) (st' := []) (t' := (kt94 L xs)) (fun _ _ => rfl) ?_
  refine jm_go.blk 3 (pc' := 54) (ls' := [some (.ref 55)]) (st' := [.ref 61, .ref 55]) (t' := (kt95 L xs)) (fun _ _ => rfl) ?_
  refine jm_go.blk 1 (pc' := 57) (ls' := [some (.ref 55)]) (st' := []) (t' := (kt96 L xs)) (fun _ _ => rfl) ?_
  exact jm_go.ret 1 (fun _ _ => rfl)
set_option maxRecDepth 100000 in
theorem kc0_6 (d L : Nat) (xs : Nat → Int32) : jm_go (d + 1) (jm_G 0) 0 (jm_en 1 [.ref 62]) [] (kt98 L xs) (none, (kt104 L xs)) := by
  refine jm_go.blk 2 (pc' := 4) (ls' := [some (.ref 62)]) (st' := []) (t' := (kt98 L xs)) (fun _ _ => rfl) ?_
  refine jm_go.blk 3 (pc' := 9) (ls' := [some (.ref 62)]) (st' := []) (t' := (kt99 L xs)) (fun _ _ => rfl) ?_
  refine jm_go.blk 3 (pc' := 14) (ls' := [some (.ref 62)]) (st' := []) (t' := (kt100 L xs)) (fun _ _ => rfl) ?_
  refine jm_go.blk 3 (pc' := 19) (ls' := [some (.ref 62)]) (st' := [.ref 63, .ref 62]) (t' := (kt101 L xs)) (fun _ _ => rfl) ?_
  refine jm_go.blk 1 (pc' := 22) (ls' := [some (.ref 62)]) (st' := []) (t' := (kt102 L xs)) (fun _ _ => rfl) ?_
  refine jm_go.blk 3 (pc' := 27) (ls' := [some (.ref 62)]) (st' := [.ref 64, .ref 62]) (t' := (kt103 L xs)) (fun _ _ => rfl) ?_
  refine jm_go.blk 1 (pc' := 30) (ls' := [some (.ref 62)]) (st' := []) (t' := (kt104 L xs)) (fun _ _ => rfl) ?_
  exact jm_go.ret 1 (fun _ _ => rfl)
set_option maxRecDepth 100000 in
theorem kc29_7 (d L : Nat) (xs : Nat → Int32) : jm_go (d + 1) (jm_G 29) 0 (jm_en 1 [.ref 65]) [] (kt106 L xs) (none, (kt119 L xs)) := by
  refine jm_go.blk 2 (pc' := 4) (ls' := [some (.ref 65)]) (st' := []) (t' := (kt106 L xs)) (fun _ _ => rfl) ?_
  refine jm_go.blk 3 (pc' := 9) (ls' := [some (.ref 65)]) (st' := []) (t' := (kt107 L xs)) (fun _ _ => rfl) ?_
  refine jm_go.blk 3 (pc' := 14) (ls' := [some (.ref 65)]) (st' := [.ref 66, .ref 65]) (t' := (kt108 L xs)) (fun _ _ => rfl) ?_
  refine jm_go.blk 1 (pc' := 17) (ls' := [some (.ref 65)]) (st' := []) (t' := (kt109 L xs)) (fun _ _ => rfl) ?_
  refine jm_go.blk 3 (pc' := 22) (ls' := [some (.ref 65)]) (st' := [.ref 67, .ref 65]) (t' := (kt110 L xs)) (fun _ _ => rfl) ?_
  refine jm_go.blk 1 (pc' := 25) (ls' := [some (.ref 65)]) (st' := []) (t' := (kt111 L xs)) (fun _ _ => rfl) ?_
  refine jm_go.blk 3 (pc' := 30) (ls' := [some (.ref 65)]) (st' := [.ref 68, .ref 65]) (t' := (kt112 L xs)) (fun _ _ => rfl) ?_
  refine jm_go.blk 1 (pc' := 33) (ls' := [some (.ref 65)]) (st' := []) (t' := (kt113 L xs)) (fun _ _ => rfl) ?_
  refine jm_go.blk 3 (pc' := 38) (ls' := [some (.ref 65)]) (st' := [.ref 69, .ref 65]) (t' := (kt114 L xs)) (fun _ _ => rfl) ?_
  refine jm_go.blk 1 (pc' := 41) (ls' := [some (.ref 65)]) (st' := []) (t' := (kt115 L xs)) (fun _ _ => rfl) ?_
  refine jm_go.blk 3 (pc' := 46) (ls' := [some (.ref 65)]) (st' := [.ref 70, .ref 65]) (t' := (kt116 L xs)) (fun _ _ => rfl) ?_
  refine jm_go.blk 1 (pc' := 49) (ls' := [some (.ref 65)]) (st' := []) (t' := (kt117 L xs)) (fun _ _ => rfl) ?_
  refine jm_go.blk 3 (pc' := 54) (ls' := [some (.ref 65)]) (st' := [.ref 71, .ref 65]) (t' := (kt118 L xs)) (fun _ _ => rfl) ?_
  refine jm_go.blk 1 (pc' := 57) (ls' := [some (.ref 65)]) (st' := []) (t' := (kt119 L xs)) (fun _ _ => rfl) ?_
  exact jm_go.ret 1 (fun _ _ => rfl)
set_option maxRecDepth 100000 in
theorem kc0_8 (d L : Nat) (xs : Nat → Int32) : jm_go (d + 1) (jm_G 0) 0 (jm_en 1 [.ref 72]) [] (kt121 L xs) (none, (kt127 L xs)) := by
  refine jm_go.blk 2 (pc' := 4) (ls' := [some (.ref 72)]) (st' := []) (t' := (kt121 L xs)) (fun _ _ => rfl) ?_
  refine jm_go.blk 3 (pc' := 9) (ls' := [some (.ref 72)]) (st' := []) (t' := (kt122 L xs)) (fun _ _ => rfl) ?_
  refine jm_go.blk 3 (pc' := 14) (ls' := [some (.ref 72)]) (st' := []) (t' := (kt123 L xs)) (fun _ _ => rfl) ?_
  refine jm_go.blk 3 (pc' := 19) (ls' := [some (.ref 72)]) (st' := [.ref 73, .ref 72]) (t' := (kt124 L xs)) (fun _ _ => rfl) ?_
  refine jm_go.blk 1 (pc' := 22) (ls' := [some (.ref 72)]) (st' := []) (t' := (kt125 L xs)) (fun _ _ => rfl) ?_
  refine jm_go.blk 3 (pc' := 27) (ls' := [some (.ref 72)]) (st' := [.ref 74, .ref 72]) (t' := (kt126 L xs)) (fun _ _ => rfl) ?_
  refine jm_go.blk 1 (pc' := 30) (ls' := [some (.ref 72)]) (st' := []) (t' := (kt127 L xs)) (fun _ _ => rfl) ?_
  exact jm_go.ret 1 (fun _ _ => rfl)
set_option maxRecDepth 100000 in
theorem kc29_9 (d L : Nat) (xs : Nat → Int32) : jm_go (d + 1) (jm_G 29) 0 (jm_en 1 [.ref 75]) [] (kt129 L xs) (none, (kt142 L xs)) := by
  refine jm_go.blk 2 (pc' := 4) (ls' := [some (.ref 75)]) (st' := []) (t' := (kt129 L xs)) (fun _ _ => rfl) ?_
  refine jm_go.blk 3 (pc' := 9) (ls' := [some (.ref 75)]) (st' := []) (t' := (kt130 L xs)) (fun _ _ => rfl) ?_
  refine jm_go.blk 3 (pc' := 14) (ls' := [some (.ref 75)]) (st' := [.ref 76, .ref 75]) (t' := (kt131 L xs)) (fun _ _ => rfl) ?_
  refine jm_go.blk 1 (pc' := 17) (ls' := [some (.ref 75)]) (st' := []) (t' := (kt132 L xs)) (fun _ _ => rfl) ?_
  refine jm_go.blk 3 (pc' := 22) (ls' := [some (.ref 75)]) (st' := [.ref 77, .ref 75]) (t' := (kt133 L xs)) (fun _ _ => rfl) ?_
  refine jm_go.blk 1 (pc' := 25) (ls' := [some (.ref 75)]) (st' := []) (t' := (kt134 L xs)) (fun _ _ => rfl) ?_
  refine jm_go.blk 3 (pc' := 30) (ls' := [some (.ref 75)]) (st' := [.ref 78, .ref 75]) (t' := (kt135 L xs)) (fun _ _ => rfl) ?_
  refine jm_go.blk 1 (pc' := 33) (ls' := [some (.ref 75)]) (st' := []) (t' := (kt136 L xs)) (fun _ _ => rfl) ?_
  refine jm_go.blk 3 (pc' := 38) (ls' := [some (.ref 75)]) (st' := [.ref 79, .ref 75]) (t' := (kt137 L xs)) (fun _ _ => rfl) ?_
  refine jm_go.blk 1 (pc' := 41) (ls' := [some (.ref 75)]) (st' := []) (t' := (kt138 L xs)) (fun _ _ => rfl) ?_
  refine jm_go.blk 3 (pc' := 46) (ls' := [some (.ref 75)]) (st' := [.ref 80, .ref 75]) (t' := (kt139 L xs)) (fun _ _ => rfl) ?_
  refine jm_go.blk 1 (pc' := 49) (ls' := [some (.ref 75)]) (st' := []) (t' := (kt140 L xs)) (fun _ _ => rfl) ?_
  refine jm_go.blk 3 (pc' := 54) (ls' := [some (.ref 75)]) (st' := [.ref 81, .ref 75]) (t' := (kt141 L xs)) (fun _ _ => rfl) ?_
  refine jm_go.blk 1 (pc' := 57) (ls' := [some (.ref 75)]) (st' := []) (t' := (kt142 L xs)) (fun _ _ => rfl) ?_
  exact jm_go.ret 1 (fun _ _ => rfl)
set_option maxRecDepth 100000 in
theorem kc0_10 (d L : Nat) (xs : Nat → Int32) : jm_go (d + 1) (jm_G 0) 0 (jm_en 1 [.ref 82]) [] (kt144 L xs) (none, (kt150 L xs)) := by
  refine jm_go.blk 2 (pc' := 4) (ls' := [some (.ref 82)]) (st' := []) (t' := (kt144 L xs)) (fun _ _ => rfl) ?_
  refine jm_go.blk 3 (pc' := 9) (ls' := [some (.ref 82)]) (st' := []) (t' := (kt145 L xs)) (fun _ _ => rfl) ?_
  refine jm_go.blk 3 (pc' := 14) (ls' := [some (.ref 82)]) (st' := []) (t' := (kt146 L xs)) (fun _ _ => rfl) ?_
  refine jm_go.blk 3 (pc' := 19) (ls' := [some (.ref 82)]) (st' := [.ref 83, .ref 82]) (t' := (kt147 L xs)) (fun _ _ => rfl) ?_
  refine jm_go.blk 1 (pc' := 22) (ls' := [some (.ref 82)]) (st' := []) (t' := (kt148 L xs)) (fun _ _ => rfl) ?_
  refine jm_go.blk 3 (pc' := 27) (ls' := [some (.ref 82)]) (st' := [.ref 84, .ref 82]) (t' := (kt149 L xs)) (fun _ _ => rfl) ?_
  refine jm_go.blk 1 (pc' := 30) (ls' := [some (.ref 82)]) (st' := []) (t' := (kt150 L xs)) (fun _ _ => rfl) ?_
  exact jm_go.ret 1 (fun _ _ => rfl)
set_option maxRecDepth 100000 in
theorem kc29_11 (d L : Nat) (xs : Nat → Int32) : jm_go (d + 1) (jm_G 29) 0 (jm_en 1 [.ref 85]) [] (kt152 L xs) (none, (kt165 L xs)) := by
  refine jm_go.blk 2 (pc' := 4) (ls' := [some (.ref 85)]) (st' := []) (t' := (kt152 L xs)) (fun _ _ => rfl) ?_
  refine jm_go.blk 3 (pc' := 9) (ls' := [some (.ref 85)]) (st' := []) (t' := (kt153 L xs)) (fun _ _ => rfl) ?_
  refine jm_go.blk 3 (pc' := 14) (ls' := [some (.ref 85)]) (st' := [.ref 86, .ref 85]) (t' := (kt154 L xs)) (fun _ _ => rfl) ?_
  refine jm_go.blk 1 (pc' := 17) (ls' := [some (.ref 85)]) (st' := []) (t' := (kt155 L xs)) (fun _ _ => rfl) ?_
  refine jm_go.blk 3 (pc' := 22) (ls' := [some (.ref 85)]) (st' := [.ref 87, .ref 85]) (t' := (kt156 L xs)) (fun _ _ => rfl) ?_
  refine jm_go.blk 1 (pc' := 25) (ls' := [some (.ref 85)]) (st' := []) (t' := (kt157 L xs)) (fun _ _ => rfl) ?_
  refine jm_go.blk 3 (pc' := 30) (ls' := [some (.ref 85)]) (st' := [.ref 88, .ref 85]) (t' := (kt158 L xs)) (fun _ _ => rfl) ?_
  refine jm_go.blk 1 (pc' := 33) (ls' := [some (.ref 85)]) (st' := []) (t' := (kt159 L xs)) (fun _ _ => rfl) ?_
  refine jm_go.blk 3 (pc' := 38) (ls' := [some (.ref 85)]) (st' := [.ref 89, .ref 85]) (t' := (kt160 L xs)) (fun _ _ => rfl) ?_
  refine jm_go.blk 1 (pc' := 41) (ls' := [some (.ref 85)]) (st' := []) (t' := (kt161 L xs)) (fun _ _ => rfl) ?_
  refine jm_go.blk 3 (pc' := 46) (ls' := [some (.ref 85)]) (st' := [.ref 90, .ref 85]) (t' := (kt162 L xs)) (fun _ _ => rfl) ?_
  refine jm_go.blk 1 (pc' := 49) (ls' := [some (.ref 85)]) (st' := []) (t' := (kt163 L xs)) (fun _ _ => rfl) ?_
  refine jm_go.blk 3 (pc' := 54) (ls' := [some (.ref 85)]) (st' := [.ref 91, .ref 85]) (t' := (kt164 L xs)) (fun _ _ => rfl) ?_
  refine jm_go.blk 1 (pc' := 57) (ls' := [some (.ref 85)]) (st' := []) (t' := (kt165 L xs)) (fun _ _ => rfl) ?_
  exact jm_go.ret 1 (fun _ _ => rfl)
set_option maxRecDepth 100000 in
theorem kc0_12 (d L : Nat) (xs : Nat → Int32) : jm_go (d + 1) (jm_G 0) 0 (jm_en 1 [.ref 92]) [] (kt167 L xs) (none, (kt173 L xs)) := by
  refine jm_go.blk 2 (pc' := 4) (ls' := [some (.ref 92)]) (st' := []) (t' := (kt167 L xs)) (fun _ _ => rfl) ?_
  refine jm_go.blk 3 (pc' := 9) (ls' := [some (.ref 92)]) (st' := []) (t' := (kt168 L xs)) (fun _ _ => rfl) ?_
  refine jm_go.blk 3 (pc' := 14) (ls' := [some (.ref 92)]) (st' := []) (t' := (kt169 L xs)) (fun _ _ => rfl) ?_
  refine jm_go.blk 3 (pc' := 19) (ls' := [some (.ref 92)]) (st' := [.ref 93, .ref 92]) (t' := (kt170 L xs)) (fun _ _ => rfl) ?_
  refine jm_go.blk 1 (pc' := 22) (ls' := [some (.ref 92)]) (st' := []) (t' := (kt171 L xs)) (fun _ _ => rfl) ?_
  refine jm_go.blk 3 (pc' := 27) (ls' := [some (.ref 92)]) (st' := [.ref 94, .ref 92]) (t' := (kt172 L xs)) (fun _ _ => rfl) ?_
  refine jm_go.blk 1 (pc' := 30) (ls' := [some (.ref 92)]) (st' := []) (t' := (kt173 L xs)) (fun _ _ => rfl) ?_
  exact jm_go.ret 1 (fun _ _ => rfl)
set_option maxRecDepth 100000 in
theorem kc29_13 (d L : Nat) (xs : Nat → Int32) : jm_go (d + 1) (jm_G 29) 0 (jm_en 1 [.ref 95]) [] (kt175 L xs) (none, (kt188 L xs)) := by
  refine jm_go.blk 2 (pc' := 4) (ls' := [some (.ref 95)]) (st' := []) (t' := (kt175 L xs)) (fun _ _ => rfl) ?_
  refine jm_go.blk 3 (pc' := 9) (ls' := [some (.ref 95)]) (st' := []) (t' := (kt176 L xs)) (fun _ _ => rfl) ?_
  refine jm_go.blk 3 (pc' := 14) (ls' := [some (.ref 95)]) (st' := [.ref 96, .ref 95]) (t' := (kt177 L xs)) (fun _ _ => rfl) ?_
  refine jm_go.blk 1 (pc' := 17) (ls' := [some (.ref 95)]) (st' := []) (t' := (kt178 L xs)) (fun _ _ => rfl) ?_
  refine jm_go.blk 3 (pc' := 22) (ls' := [some (.ref 95)]) (st' := [.ref 97, .ref 95]) (t' := (kt179 L xs)) (fun _ _ => rfl) ?_
  refine jm_go.blk 1 (pc' := 25) (ls' := [some (.ref 95)]) (st' := []) (t' := (kt180 L xs)) (fun _ _ => rfl) ?_
  refine jm_go.blk 3 (pc' := 30) (ls' := [some (.ref 95)]) (st' := [.ref 98, .ref 95]) (t' := (kt181 L xs)) (fun _ _ => rfl) ?_
  refine jm_go.blk 1 (pc' := 33) (ls' := [some (.ref 95)]) (st' := []) (t' := (kt182 L xs)) (fun _ _ => rfl) ?_
  refine jm_go.blk 3 (pc' := 38) (ls' := [some (.ref 95)]) (st' := [.ref 99, .ref 95]) (t' := (kt183 L xs)) (fun _ _ => rfl) ?_
  refine jm_go.blk 1 (pc' := 41) (ls' := [some (.ref 95)]) (st' := []) (t' := (kt184 L xs)) (fun _ _ => rfl) ?_
  refine jm_go.blk 3 (pc' := 46) (ls' := [some (.ref 95)]) (st' := [.ref 100, .ref 95]) (t' := (kt185 L xs)) (fun _ _ => rfl) ?_
  refine jm_go.blk 1 (pc' := 49) (ls' := [some (.ref 95)]) (st' := []) (t' := (kt186 L xs)) (fun _ _ => rfl) ?_
  refine jm_go.blk 3 (pc' := 54) (ls' := [some (.ref 95)]) (st' := [.ref 101, .ref 95]) (t' := (kt187 L xs)) (fun _ _ => rfl) ?_
  refine jm_go.blk 1 (pc' := 57) (ls' := [some (.ref 95)]) (st' := []) (t' := (kt188 L xs)) (fun _ _ => rfl) ?_
  exact jm_go.ret 1 (fun _ _ => rfl)
set_option maxRecDepth 100000 in
theorem kc21_14 (d L : Nat) (xs : Nat → Int32) : jm_go (d + 2) (jm_G 21) 0 (jm_en 2 [.ref 39]) [] (kt45 L xs) (none, (kt189 L xs)) := by
  refine jm_go.blk 2 (pc' := 4) (ls' := [some (.ref 39), none]) (st' := []) (t' := (kt45 L xs)) (fun _ _ => rfl) ?_
  refine jm_go.blk 3 (pc' := 9) (ls' := [some (.ref 39), none]) (st' := []) (t' := (kt46 L xs)) (fun _ _ => rfl) ?_
  refine jm_go.blk 3 (pc' := 14) (ls' := [some (.ref 39), none]) (st' := []) (t' := (kt47 L xs)) (fun _ _ => rfl) ?_
  refine jm_go.blk 3 (pc' := 20) (ls' := [some (.ref 39), none]) (st' := [.ref 40, .ref 39]) (t' := (kt48 L xs)) (fun _ _ => rfl) ?_
  refine jm_go.blk 1 (pc' := 23) (ls' := [some (.ref 39), none]) (st' := []) (t' := (kt49 L xs)) (fun _ _ => rfl) ?_
  refine jm_go.blk 3 (pc' := 29) (ls' := [some (.ref 39), none]) (st' := [.ref 41, .ref 39]) (t' := (kt50 L xs)) (fun _ _ => rfl) ?_
  refine jm_go.blk 1 (pc' := 32) (ls' := [some (.ref 39), none]) (st' := []) (t' := (kt51 L xs)) (fun _ _ => rfl) ?_
  refine jm_go.blk 5 (pc' := 40) (ls' := [some (.ref 39), some (.int 0)]) (st' := []) (t' := (kt51 L xs)) (fun _ _ => rfl) ?_
  refine jm_go.blk 4 (pc' := 48) (ls' := [some (.ref 39), some (.int 0)]) (st' := [.ref 42, .int 0, .ref 40]) (t' := (kt52 L xs)) (fun _ _ => rfl) ?_
  refine jm_go.call 2 (d := d + 1) (b := true) (u := 0) (as := [.ref 42]) (pc' := 52) (ls' := [some (.ref 39), some (.int 0)]) (st' := [.ref 42, .int 0, .ref 40]) (t' := (kt52 L xs)) (fun _ _ => rfl) rfl rfl (kc0_2 d L xs) ?_
  refine jm_go.blk 1 (pc' := 53) (ls' := [some (.ref 39), some (.int 0)]) (st' := []) (t' := (kt59 L xs)) (fun _ _ => rfl) ?_
  refine jm_go.blk 4 (pc' := 61) (ls' := [some (.ref 39), some (.int 0)]) (st' := [.ref 45, .int 0, .ref 41]) (t' := (kt60 L xs)) (fun _ _ => rfl) ?_
  refine jm_go.call 2 (d := d + 1) (b := true) (u := 29) (as := [.ref 45]) (pc' := 65) (ls' := [some (.ref 39), some (.int 0)]) (st' := [.ref 45, .int 0, .ref 41]) (t' := (kt60 L xs)) (fun _ _ => rfl) rfl rfl (kc29_3 d L xs) ?_
  refine jm_go.blk 1 (pc' := 66) (ls' := [some (.ref 39), some (.int 0)]) (st' := []) (t' := (kt74 L xs)) (fun _ _ => rfl) ?_
  refine jm_go.blk 2 (pc' := 34) (ls' := [some (.ref 39), some (.int 1)]) (st' := []) (t' := (kt74 L xs)) (fun _ _ => rfl) ?_
  refine jm_go.blk 3 (pc' := 40) (ls' := [some (.ref 39), some (.int 1)]) (st' := []) (t' := (kt74 L xs)) (fun _ _ => rfl) ?_
  refine jm_go.blk 4 (pc' := 48) (ls' := [some (.ref 39), some (.int 1)]) (st' := [.ref 52, .int 1, .ref 40]) (t' := (kt75 L xs)) (fun _ _ => rfl) ?_
  refine jm_go.call 2 (d := d + 1) (b := true) (u := 0) (as := [.ref 52]) (pc' := 52) (ls' := [some (.ref 39), some (.int 1)]) (st' := [.ref 52, .int 1, .ref 40]) (t' := (kt75 L xs)) (fun _ _ => rfl) rfl rfl (kc0_4 d L xs) ?_
  refine jm_go.blk 1 (pc' := 53) (ls' := [some (.ref 39), some (.int 1)]) (st' := []) (t' := (kt82 L xs)) (fun _ _ => rfl) ?_
  refine jm_go.blk 4 (pc' := 61) (ls' := [some (.ref 39), some (.int 1)]) (st' := [.ref 55, .int 1, .ref 41]) (t' := (kt83 L xs)) (fun _ _ => rfl) ?_
  refine jm_go.call 2 (d := d + 1) (b := true) (u := 29) (as := [.ref 55]) (pc' := 65) (ls' := [some (.ref 39), some (.int 1)]) (st' := [.ref 55, .int 1, .ref 41]) (t' := (kt83 L xs)) (fun _ _ => rfl) rfl rfl (kc29_5 d L xs) ?_
  refine jm_go.blk 1 (pc' := 66) (ls' := [some (.ref 39), some (.int 1)]) (st' := []) (t' := (kt97 L xs)) (fun _ _ => rfl) ?_
  refine jm_go.blk 2 (pc' := 34) (ls' := [some (.ref 39), some (.int 2)]) (st' := []) (t' := (kt97 L xs)) (fun _ _ => rfl) ?_
  refine jm_go.blk 3 (pc' := 40) (ls' := [some (.ref 39), some (.int 2)]) (st' := []) (t' := (kt97 L xs)) (fun _ _ => rfl) ?_
  refine jm_go.blk 4 (pc' := 48) (ls' := [some (.ref 39), some (.int 2)]) (st' := [.ref 62, .int 2, .ref 40]) (t' := (kt98 L xs)) (fun _ _ => rfl) ?_
  refine jm_go.call 2 (d := d + 1) (b := true) (u := 0) (as := [.ref 62]) (pc' := 52) (ls' := [some (.ref 39), some (.int 2)]) (st' := [.ref 62, .int 2, .ref 40]) (t' := (kt98 L xs)) (fun _ _ => rfl) rfl rfl (kc0_6 d L xs) ?_
  refine jm_go.blk 1 (pc' := 53) (ls' := [some (.ref 39), some (.int 2)]) (st' := []) (t' := (kt105 L xs)) (fun _ _ => rfl) ?_
  refine jm_go.blk 4 (pc' := 61) (ls' := [some (.ref 39), some (.int 2)]) (st' := [.ref 65, .int 2, .ref 41]) (t' := (kt106 L xs)) (fun _ _ => rfl) ?_
  refine jm_go.call 2 (d := d + 1) (b := true) (u := 29) (as := [.ref 65]) (pc' := 65) (ls' := [some (.ref 39), some (.int 2)]) (st' := [.ref 65, .int 2, .ref 41]) (t' := (kt106 L xs)) (fun _ _ => rfl) rfl rfl (kc29_7 d L xs) ?_
  refine jm_go.blk 1 (pc' := 66) (ls' := [some (.ref 39), some (.int 2)]) (st' := []) (t' := (kt120 L xs)) (fun _ _ => rfl) ?_
  refine jm_go.blk 2 (pc' := 34) (ls' := [some (.ref 39), some (.int 3)]) (st' := []) (t' := (kt120 L xs)) (fun _ _ => rfl) ?_
  refine jm_go.blk 3 (pc' := 40) (ls' := [some (.ref 39), some (.int 3)]) (st' := []) (t' := (kt120 L xs)) (fun _ _ => rfl) ?_
  refine jm_go.blk 4 (pc' := 48) (ls' := [some (.ref 39), some (.int 3)]) (st' := [.ref 72, .int 3, .ref 40]) (t' := (kt121 L xs)) (fun _ _ => rfl) ?_
  refine jm_go.call 2 (d := d + 1) (b := true) (u := 0) (as := [.ref 72]) (pc' := 52) (ls' := [some (.ref 39), some (.int 3)]) (st' := [.ref 72, .int 3, .ref 40]) (t' := (kt121 L xs)) (fun _ _ => rfl) rfl rfl (kc0_8 d L xs) ?_
  refine jm_go.blk 1 (pc' := 53) (ls' := [some (.ref 39), some (.int 3)]) (st' := []) (t' := (kt128 L xs)) (fun _ _ => rfl) ?_
  refine jm_go.blk 4 (pc' := 61) (ls' := [some (.ref 39), some (.int 3)]) (st' := [.ref 75, .int 3, .ref 41]) (t' := (kt129 L xs)) (fun _ _ => rfl) ?_
  refine jm_go.call 2 (d := d + 1) (b := true) (u := 29) (as := [.ref 75]) (pc' := 65) (ls' := [some (.ref 39), some (.int 3)]) (st' := [.ref 75, .int 3, .ref 41]) (t' := (kt129 L xs)) (fun _ _ => rfl) rfl rfl (kc29_9 d L xs) ?_
  refine jm_go.blk 1 (pc' := 66) (ls' := [some (.ref 39), some (.int 3)]) (st' := []) (t' := (kt143 L xs)) (fun _ _ => rfl) ?_
  refine jm_go.blk 2 (pc' := 34) (ls' := [some (.ref 39), some (.int 4)]) (st' := []) (t' := (kt143 L xs)) (fun _ _ => rfl) ?_
  refine jm_go.blk 3 (pc' := 40) (ls' := [some (.ref 39), some (.int 4)]) (st' := []) (t' := (kt143 L xs)) (fun _ _ => rfl) ?_
  refine jm_go.blk 4 (pc' := 48) (ls' := [some (.ref 39), some (.int 4)]) (st' := [.ref 82, .int 4, .ref 40]) (t' := (kt144 L xs)) (fun _ _ => rfl) ?_
  refine jm_go.call 2 (d := d + 1) (b := true) (u := 0) (as := [.ref 82]) (pc' := 52) (ls' := [some (.ref 39), some (.int 4)]) (st' := [.ref 82, .int 4, .ref 40]) (t' := (kt144 L xs)) (fun _ _ => rfl) rfl rfl (kc0_10 d L xs) ?_
  refine jm_go.blk 1 (pc' := 53) (ls' := [some (.ref 39), some (.int 4)]) (st' := []) (t' := (kt151 L xs)) (fun _ _ => rfl) ?_
  refine jm_go.blk 4 (pc' := 61) (ls' := [some (.ref 39), some (.int 4)]) (st' := [.ref 85, .int 4, .ref 41]) (t' := (kt152 L xs)) (fun _ _ => rfl) ?_
  refine jm_go.call 2 (d := d + 1) (b := true) (u := 29) (as := [.ref 85]) (pc' := 65) (ls' := [some (.ref 39), some (.int 4)]) (st' := [.ref 85, .int 4, .ref 41]) (t' := (kt152 L xs)) (fun _ _ => rfl) rfl rfl (kc29_11 d L xs) ?_
  refine jm_go.blk 1 (pc' := 66) (ls' := [some (.ref 39), some (.int 4)]) (st' := []) (t' := (kt166 L xs)) (fun _ _ => rfl) ?_
  refine jm_go.blk 2 (pc' := 34) (ls' := [some (.ref 39), some (.int 5)]) (st' := []) (t' := (kt166 L xs)) (fun _ _ => rfl) ?_
  refine jm_go.blk 3 (pc' := 40) (ls' := [some (.ref 39), some (.int 5)]) (st' := []) (t' := (kt166 L xs)) (fun _ _ => rfl) ?_
  refine jm_go.blk 4 (pc' := 48) (ls' := [some (.ref 39), some (.int 5)]) (st' := [.ref 92, .int 5, .ref 40]) (t' := (kt167 L xs)) (fun _ _ => rfl) ?_
  refine jm_go.call 2 (d := d + 1) (b := true) (u := 0) (as := [.ref 92]) (pc' := 52) (ls' := [some (.ref 39), some (.int 5)]) (st' := [.ref 92, .int 5, .ref 40]) (t' := (kt167 L xs)) (fun _ _ => rfl) rfl rfl (kc0_12 d L xs) ?_
  refine jm_go.blk 1 (pc' := 53) (ls' := [some (.ref 39), some (.int 5)]) (st' := []) (t' := (kt174 L xs)) (fun _ _ => rfl) ?_
  refine jm_go.blk 4 (pc' := 61) (ls' := [some (.ref 39), some (.int 5)]) (st' := [.ref 95, .int 5, .ref 41]) (t' := (kt175 L xs)) (fun _ _ => rfl) ?_
  refine jm_go.call 2 (d := d + 1) (b := true) (u := 29) (as := [.ref 95]) (pc' := 65) (ls' := [some (.ref 39), some (.int 5)]) (st' := [.ref 95, .int 5, .ref 41]) (t' := (kt175 L xs)) (fun _ _ => rfl) rfl rfl (kc29_13 d L xs) ?_
  refine jm_go.blk 1 (pc' := 66) (ls' := [some (.ref 39), some (.int 5)]) (st' := []) (t' := (kt189 L xs)) (fun _ _ => rfl) ?_
  refine jm_go.blk 2 (pc' := 34) (ls' := [some (.ref 39), some (.int 6)]) (st' := []) (t' := (kt189 L xs)) (fun _ _ => rfl) ?_
  refine jm_go.blk 3 (pc' := 72) (ls' := [some (.ref 39), some (.int 6)]) (st' := []) (t' := (kt189 L xs)) (fun _ _ => rfl) ?_
  exact jm_go.ret 1 (fun _ _ => rfl)
set_option maxRecDepth 100000 in
theorem kc0_15 (d L : Nat) (xs : Nat → Int32) : jm_go (d + 1) (jm_G 0) 0 (jm_en 1 [.ref 102]) [] (kt191 L xs) (none, (kt197 L xs)) := by
  refine jm_go.blk 2 (pc' := 4) (ls' := [some (.ref 102)]) (st' := []) (t' := (kt191 L xs)) (fun _ _ => rfl) ?_
  refine jm_go.blk 3 (pc' := 9) (ls' := [some (.ref 102)]) (st' := []) (t' := (kt192 L xs)) (fun _ _ => rfl) ?_
  refine jm_go.blk 3 (pc' := 14) (ls' := [some (.ref 102)]) (st' := []) (t' := (kt193 L xs)) (fun _ _ => rfl) ?_
  refine jm_go.blk 3 (pc' := 19) (ls' := [some (.ref 102)]) (st' := [.ref 103, .ref 102]) (t' := (kt194 L xs)) (fun _ _ => rfl) ?_
  refine jm_go.blk 1 (pc' := 22) (ls' := [some (.ref 102)]) (st' := []) (t' := (kt195 L xs)) (fun _ _ => rfl) ?_
  refine jm_go.blk 3 (pc' := 27) (ls' := [some (.ref 102)]) (st' := [.ref 104, .ref 102]) (t' := (kt196 L xs)) (fun _ _ => rfl) ?_
  refine jm_go.blk 1 (pc' := 30) (ls' := [some (.ref 102)]) (st' := []) (t' := (kt197 L xs)) (fun _ _ => rfl) ?_
  exact jm_go.ret 1 (fun _ _ => rfl)
set_option maxRecDepth 100000 in
theorem kc49_16 (d L : Nat) (xs : Nat → Int32) : jm_go (d + 1) (jm_G 49) 0 (jm_en 1 [.ref 105]) [] (kt199 L xs) (none, (kt213 L xs)) := by
  refine jm_go.blk 2 (pc' := 4) (ls' := [some (.ref 105)]) (st' := []) (t' := (kt199 L xs)) (fun _ _ => rfl) ?_
  refine jm_go.blk 3 (pc' := 9) (ls' := [some (.ref 105)]) (st' := []) (t' := (kt200 L xs)) (fun _ _ => rfl) ?_
  refine jm_go.blk 3 (pc' := 14) (ls' := [some (.ref 105)]) (st' := []) (t' := (kt201 L xs)) (fun _ _ => rfl) ?_
  refine jm_go.blk 3 (pc' := 19) (ls' := [some (.ref 105)]) (st' := [.ref 106, .ref 105]) (t' := (kt202 L xs)) (fun _ _ => rfl) ?_
  refine jm_go.blk 1 (pc' := 22) (ls' := [some (.ref 105)]) (st' := []) (t' := (kt203 L xs)) (fun _ _ => rfl) ?_
  refine jm_go.blk 3 (pc' := 27) (ls' := [some (.ref 105)]) (st' := [.ref 107, .ref 105]) (t' := (kt204 L xs)) (fun _ _ => rfl) ?_
  refine jm_go.blk 1 (pc' := 30) (ls' := [some (.ref 105)]) (st' := []) (t' := (kt205 L xs)) (fun _ _ => rfl) ?_
  refine jm_go.blk 3 (pc' := 35) (ls' := [some (.ref 105)]) (st' := [.ref 108, .ref 105]) (t' := (kt206 L xs)) (fun _ _ => rfl) ?_
  refine jm_go.blk 1 (pc' := 38) (ls' := [some (.ref 105)]) (st' := []) (t' := (kt207 L xs)) (fun _ _ => rfl) ?_
  refine jm_go.blk 3 (pc' := 43) (ls' := [some (.ref 105)]) (st' := [.ref 109, .ref 105]) (t' := (kt208 L xs)) (fun _ _ => rfl) ?_
  refine jm_go.blk 1 (pc' := 46) (ls' := [some (.ref 105)]) (st' := []) (t' := (kt209 L xs)) (fun _ _ => rfl) ?_
  refine jm_go.blk 3 (pc' := 51) (ls' := [some (.ref 105)]) (st' := [.ref 110, .ref 105]) (t' := (kt210 L xs)) (fun _ _ => rfl) ?_
  refine jm_go.blk 1 (pc' := 54) (ls' := [some (.ref 105)]) (st' := []) (t' := (kt211 L xs)) (fun _ _ => rfl) ?_
  refine jm_go.blk 3 (pc' := 59) (ls' := [some (.ref 105)]) (st' := [.ref 111, .ref 105]) (t' := (kt212 L xs)) (fun _ _ => rfl) ?_
  refine jm_go.blk 1 (pc' := 62) (ls' := [some (.ref 105)]) (st' := []) (t' := (kt213 L xs)) (fun _ _ => rfl) ?_
  exact jm_go.ret 1 (fun _ _ => rfl)
set_option maxRecDepth 100000 in
theorem kc38_17 (d L : Nat) (xs : Nat → Int32) : jm_go (d + 1) (jm_G 38) 0 (jm_en 1 [.ref 112]) [] (kt215 L xs) (none, (kt216 L xs)) := by
  refine jm_go.blk 2 (pc' := 4) (ls' := [some (.ref 112)]) (st' := []) (t' := (kt215 L xs)) (fun _ _ => rfl) ?_
  refine jm_go.blk 3 (pc' := 9) (ls' := [some (.ref 112)]) (st' := []) (t' := (kt216 L xs)) (fun _ _ => rfl) ?_
  exact jm_go.ret 1 (fun _ _ => rfl)
set_option maxRecDepth 100000 in
theorem kc56_18 (d L : Nat) (xs : Nat → Int32) : jm_go (d + 3) (jm_G 56) 0 (jm_en 2 [.ref 1]) [] (kt1 L xs) (none, (kt217 L xs)) := by
  refine jm_go.blk 2 (pc' := 4) (ls' := [some (.ref 1), none]) (st' := []) (t' := (kt1 L xs)) (fun _ _ => rfl) ?_
  refine jm_go.blk 2 (pc' := 8) (ls' := [some (.ref 1), none]) (st' := [.ref 2, .ref 1]) (t' := (kt2 L xs)) (fun _ _ => rfl) ?_
  refine jm_go.call 2 (d := d + 2) (b := true) (u := 9) (as := [.ref 2]) (pc' := 12) (ls' := [some (.ref 1), none]) (st' := [.ref 2, .ref 1]) (t' := (kt2 L xs)) (fun _ _ => rfl) rfl rfl (k9 (d + 1) (kt2 L xs) 2 rfl) ?_
  refine jm_go.blk 1 (pc' := 15) (ls' := [some (.ref 1), none]) (st' := []) (t' := (kt4 L xs)) (fun _ _ => rfl) ?_
  refine jm_go.blk 2 (pc' := 19) (ls' := [some (.ref 1), none]) (st' := [.ref 5, .ref 1]) (t' := (kt5 L xs)) (fun _ _ => rfl) ?_
  refine jm_go.call 2 (d := d + 2) (b := true) (u := 45) (as := [.ref 5]) (pc' := 23) (ls' := [some (.ref 1), none]) (st' := [.ref 5, .ref 1]) (t' := (kt5 L xs)) (fun _ _ => rfl) rfl rfl (kc45_1 d L xs) ?_
  refine jm_go.blk 1 (pc' := 26) (ls' := [some (.ref 1), none]) (st' := []) (t' := (kt34 L xs)) (fun _ _ => rfl) ?_
  refine jm_go.blk 3 (pc' := 31) (ls' := [some (.ref 1), none]) (st' := [.ref 31, .ref 1]) (t' := (kt35 L xs)) (fun _ _ => rfl) ?_
  refine jm_go.blk 1 (pc' := 34) (ls' := [some (.ref 1), none]) (st' := []) (t' := (kt36 L xs)) (fun _ _ => rfl) ?_
  refine jm_go.blk 5 (pc' := 41) (ls' := [some (.ref 1), some (.int 0)]) (st' := []) (t' := (kt36 L xs)) (fun _ _ => rfl) ?_
  refine jm_go.blk 4 (pc' := 49) (ls' := [some (.ref 1), some (.int 0)]) (st' := [.ref 32, .int 0, .ref 31]) (t' := (kt37 L xs)) (fun _ _ => rfl) ?_
  refine jm_go.call 2 (d := d + 2) (b := true) (u := 9) (as := [.ref 32]) (pc' := 53) (ls' := [some (.ref 1), some (.int 0)]) (st' := [.ref 32, .int 0, .ref 31]) (t' := (kt37 L xs)) (fun _ _ => rfl) rfl rfl (k9 (d + 1) (kt37 L xs) 32 rfl) ?_
  refine jm_go.blk 1 (pc' := 54) (ls' := [some (.ref 1), some (.int 0)]) (st' := []) (t' := (kt39 L xs)) (fun _ _ => rfl) ?_
  refine jm_go.blk 2 (pc' := 36) (ls' := [some (.ref 1), some (.int 1)]) (st' := []) (t' := (kt39 L xs)) (fun _ _ => rfl) ?_
  refine jm_go.blk 3 (pc' := 41) (ls' := [some (.ref 1), some (.int 1)]) (st' := []) (t' := (kt39 L xs)) (fun _ _ => rfl) ?_
  refine jm_go.blk 4 (pc' := 49) (ls' := [some (.ref 1), some (.int 1)]) (st' := [.ref 35, .int 1, .ref 31]) (t' := (kt40 L xs)) (fun _ _ => rfl) ?_
  refine jm_go.call 2 (d := d + 2) (b := true) (u := 9) (as := [.ref 35]) (pc' := 53) (ls' := [some (.ref 1), some (.int 1)]) (st' := [.ref 35, .int 1, .ref 31]) (t' := (kt40 L xs)) (fun _ _ => rfl) rfl rfl (k9 (d + 1) (kt40 L xs) 35 rfl) ?_
  refine jm_go.blk 1 (pc' := 54) (ls' := [some (.ref 1), some (.int 1)]) (st' := []) (t' := (kt42 L xs)) (fun _ _ => rfl) ?_
  refine jm_go.blk 2 (pc' := 36) (ls' := [some (.ref 1), some (.int 2)]) (st' := []) (t' := (kt42 L xs)) (fun _ _ => rfl) ?_
  refine jm_go.blk 3 (pc' := 60) (ls' := [some (.ref 1), some (.int 2)]) (st' := []) (t' := (kt42 L xs)) (fun _ _ => rfl) ?_
  refine jm_go.blk 3 (pc' := 64) (ls' := [some (.ref 1), none]) (st' := [.ref 38, .ref 1]) (t' := (kt43 L xs)) (fun _ _ => rfl) ?_
  refine jm_go.blk 1 (pc' := 67) (ls' := [some (.ref 1), none]) (st' := []) (t' := (kt44 L xs)) (fun _ _ => rfl) ?_
  refine jm_go.blk 2 (pc' := 71) (ls' := [some (.ref 1), none]) (st' := [.ref 39, .ref 1]) (t' := (kt45 L xs)) (fun _ _ => rfl) ?_
  refine jm_go.call 2 (d := d + 2) (b := true) (u := 21) (as := [.ref 39]) (pc' := 75) (ls' := [some (.ref 1), none]) (st' := [.ref 39, .ref 1]) (t' := (kt45 L xs)) (fun _ _ => rfl) rfl rfl (kc21_14 d L xs) ?_
  refine jm_go.blk 1 (pc' := 78) (ls' := [some (.ref 1), none]) (st' := []) (t' := (kt190 L xs)) (fun _ _ => rfl) ?_
  refine jm_go.blk 2 (pc' := 82) (ls' := [some (.ref 1), none]) (st' := [.ref 102, .ref 1]) (t' := (kt191 L xs)) (fun _ _ => rfl) ?_
  refine jm_go.call 2 (d := d + 2) (b := true) (u := 0) (as := [.ref 102]) (pc' := 86) (ls' := [some (.ref 1), none]) (st' := [.ref 102, .ref 1]) (t' := (kt191 L xs)) (fun _ _ => rfl) rfl rfl (kc0_15 (d + 1) L xs) ?_
  refine jm_go.blk 1 (pc' := 89) (ls' := [some (.ref 1), none]) (st' := []) (t' := (kt198 L xs)) (fun _ _ => rfl) ?_
  refine jm_go.blk 2 (pc' := 93) (ls' := [some (.ref 1), none]) (st' := [.ref 105, .ref 1]) (t' := (kt199 L xs)) (fun _ _ => rfl) ?_
  refine jm_go.call 2 (d := d + 2) (b := true) (u := 49) (as := [.ref 105]) (pc' := 97) (ls' := [some (.ref 1), none]) (st' := [.ref 105, .ref 1]) (t' := (kt199 L xs)) (fun _ _ => rfl) rfl rfl (kc49_16 (d + 1) L xs) ?_
  refine jm_go.blk 1 (pc' := 100) (ls' := [some (.ref 1), none]) (st' := []) (t' := (kt214 L xs)) (fun _ _ => rfl) ?_
  refine jm_go.blk 2 (pc' := 104) (ls' := [some (.ref 1), none]) (st' := [.ref 112, .ref 1]) (t' := (kt215 L xs)) (fun _ _ => rfl) ?_
  refine jm_go.call 2 (d := d + 2) (b := true) (u := 38) (as := [.ref 112]) (pc' := 108) (ls' := [some (.ref 1), none]) (st' := [.ref 112, .ref 1]) (t' := (kt215 L xs)) (fun _ _ => rfl) rfl rfl (kc38_17 (d + 1) L xs) ?_
  refine jm_go.blk 1 (pc' := 111) (ls' := [some (.ref 1), none]) (st' := []) (t' := (kt217 L xs)) (fun _ _ => rfl) ?_
  exact jm_go.ret 1 (fun _ _ => rfl)
set_option maxRecDepth 100000 in
theorem kc92_19 (d L : Nat) (xs : Nat → Int32) : jm_go (d + 1) (jm_G 92) 0 (jm_en 2 [.ref 113]) [] (kt218 L xs) (none, (kt268 L xs)) := by
  refine jm_go.blk 2 (pc' := 4) (ls' := [some (.ref 113), none]) (st' := []) (t' := (kt218 L xs)) (fun _ _ => rfl) ?_
  refine jm_go.blk 3 (pc' := 10) (ls' := [some (.ref 113), none]) (st' := [.ref 114, .ref 113]) (t' := (kt219 L xs)) (fun _ _ => rfl) ?_
  refine jm_go.blk 1 (pc' := 13) (ls' := [some (.ref 113), none]) (st' := []) (t' := (kt220 L xs)) (fun _ _ => rfl) ?_
  refine jm_go.blk 3 (pc' := 17) (ls' := [some (.ref 113), none]) (st' := [.ref 115, .ref 113]) (t' := (kt221 L xs)) (fun _ _ => rfl) ?_
  refine jm_go.blk 1 (pc' := 20) (ls' := [some (.ref 113), none]) (st' := []) (t' := (kt222 L xs)) (fun _ _ => rfl) ?_
  refine jm_go.blk 3 (pc' := 26) (ls' := [some (.ref 113), none]) (st' := [.ref 116, .ref 113]) (t' := (kt223 L xs)) (fun _ _ => rfl) ?_
  refine jm_go.blk 1 (pc' := 29) (ls' := [some (.ref 113), none]) (st' := []) (t' := (kt224 L xs)) (fun _ _ => rfl) ?_
  refine jm_go.blk 3 (pc' := 34) (ls' := [some (.ref 113), none]) (st' := [.ref 117, .ref 113]) (t' := (kt225 L xs)) (fun _ _ => rfl) ?_
  refine jm_go.blk 1 (pc' := 37) (ls' := [some (.ref 113), none]) (st' := []) (t' := (kt226 L xs)) (fun _ _ => rfl) ?_
  refine jm_go.blk 3 (pc' := 42) (ls' := [some (.ref 113), none]) (st' := [.ref 118, .ref 113]) (t' := (kt227 L xs)) (fun _ _ => rfl) ?_
  refine jm_go.blk 1 (pc' := 45) (ls' := [some (.ref 113), none]) (st' := []) (t' := (kt228 L xs)) (fun _ _ => rfl) ?_
  refine jm_go.blk 3 (pc' := 50) (ls' := [some (.ref 113), none]) (st' := [.ref 119, .ref 113]) (t' := (kt229 L xs)) (fun _ _ => rfl) ?_
  refine jm_go.blk 1 (pc' := 53) (ls' := [some (.ref 113), none]) (st' := []) (t' := (kt230 L xs)) (fun _ _ => rfl) ?_
  refine jm_go.blk 3 (pc' := 58) (ls' := [some (.ref 113), none]) (st' := [.ref 120, .ref 113]) (t' := (kt231 L xs)) (fun _ _ => rfl) ?_
  refine jm_go.blk 1 (pc' := 61) (ls' := [some (.ref 113), none]) (st' := []) (t' := (kt232 L xs)) (fun _ _ => rfl) ?_
  refine jm_go.blk 3 (pc' := 66) (ls' := [some (.ref 113), none]) (st' := [.ref 121, .ref 113]) (t' := (kt233 L xs)) (fun _ _ => rfl) ?_
  refine jm_go.blk 1 (pc' := 69) (ls' := [some (.ref 113), none]) (st' := []) (t' := (kt234 L xs)) (fun _ _ => rfl) ?_
  refine jm_go.blk 3 (pc' := 74) (ls' := [some (.ref 113), none]) (st' := [.ref 122, .ref 113]) (t' := (kt235 L xs)) (fun _ _ => rfl) ?_
  refine jm_go.blk 1 (pc' := 77) (ls' := [some (.ref 113), none]) (st' := []) (t' := (kt236 L xs)) (fun _ _ => rfl) ?_
  refine jm_go.blk 3 (pc' := 82) (ls' := [some (.ref 113), none]) (st' := [.ref 123, .ref 113]) (t' := (kt237 L xs)) (fun _ _ => rfl) ?_
  refine jm_go.blk 1 (pc' := 85) (ls' := [some (.ref 113), none]) (st' := []) (t' := (kt238 L xs)) (fun _ _ => rfl) ?_
  refine jm_go.blk 3 (pc' := 90) (ls' := [some (.ref 113), none]) (st' := [.ref 124, .ref 113]) (t' := (kt239 L xs)) (fun _ _ => rfl) ?_
  refine jm_go.blk 1 (pc' := 93) (ls' := [some (.ref 113), none]) (st' := []) (t' := (kt240 L xs)) (fun _ _ => rfl) ?_
  refine jm_go.blk 3 (pc' := 98) (ls' := [some (.ref 113), none]) (st' := [.ref 125, .ref 113]) (t' := (kt241 L xs)) (fun _ _ => rfl) ?_
  refine jm_go.blk 1 (pc' := 101) (ls' := [some (.ref 113), none]) (st' := []) (t' := (kt242 L xs)) (fun _ _ => rfl) ?_
  refine jm_go.blk 5 (pc' := 109) (ls' := [some (.ref 113), none]) (st' := []) (t' := (kt243 L xs)) (fun _ _ => rfl) ?_
  refine jm_go.blk 5 (pc' := 116) (ls' := [some (.ref 113), none]) (st' := []) (t' := (kt244 L xs)) (fun _ _ => rfl) ?_
  refine jm_go.blk 5 (pc' := 124) (ls' := [some (.ref 113), some (.int 0)]) (st' := []) (t' := (kt244 L xs)) (fun _ _ => rfl) ?_
  refine jm_go.blk 7 (pc' := 133) (ls' := [some (.ref 113), some (.int 0)]) (st' := []) (t' := (kt245 L xs)) (fun _ _ => rfl) ?_
  refine jm_go.blk 2 (pc' := 118) (ls' := [some (.ref 113), some (.int 1)]) (st' := []) (t' := (kt245 L xs)) (fun _ _ => rfl) ?_
  refine jm_go.blk 3 (pc' := 124) (ls' := [some (.ref 113), some (.int 1)]) (st' := []) (t' := (kt245 L xs)) (fun _ _ => rfl) ?_
  refine jm_go.blk 7 (pc' := 133) (ls' := [some (.ref 113), some (.int 1)]) (st' := []) (t' := (kt246 L xs)) (fun _ _ => rfl) ?_
  refine jm_go.blk 2 (pc' := 118) (ls' := [some (.ref 113), some (.int 2)]) (st' := []) (t' := (kt246 L xs)) (fun _ _ => rfl) ?_
  refine jm_go.blk 3 (pc' := 124) (ls' := [some (.ref 113), some (.int 2)]) (st' := []) (t' := (kt246 L xs)) (fun _ _ => rfl) ?_
  refine jm_go.blk 7 (pc' := 133) (ls' := [some (.ref 113), some (.int 2)]) (st' := []) (t' := (kt247 L xs)) (fun _ _ => rfl) ?_
  refine jm_go.blk 2 (pc' := 118) (ls' := [some (.ref 113), some (.int 3)]) (st' := []) (t' := (kt247 L xs)) (fun _ _ => rfl) ?_
  refine jm_go.blk 3 (pc' := 124) (ls' := [some (.ref 113), some (.int 3)]) (st' := []) (t' := (kt247 L xs)) (fun _ _ => rfl) ?_
  refine jm_go.blk 7 (pc' := 133) (ls' := [some (.ref 113), some (.int 3)]) (st' := []) (t' := (kt248 L xs)) (fun _ _ => rfl) ?_
  refine jm_go.blk 2 (pc' := 118) (ls' := [some (.ref 113), some (.int 4)]) (st' := []) (t' := (kt248 L xs)) (fun _ _ => rfl) ?_
  refine jm_go.blk 3 (pc' := 124) (ls' := [some (.ref 113), some (.int 4)]) (st' := []) (t' := (kt248 L xs)) (fun _ _ => rfl) ?_
  refine jm_go.blk 7 (pc' := 133) (ls' := [some (.ref 113), some (.int 4)]) (st' := []) (t' := (kt249 L xs)) (fun _ _ => rfl) ?_
  refine jm_go.blk 2 (pc' := 118) (ls' := [some (.ref 113), some (.int 5)]) (st' := []) (t' := (kt249 L xs)) (fun _ _ => rfl) ?_
  refine jm_go.blk 3 (pc' := 124) (ls' := [some (.ref 113), some (.int 5)]) (st' := []) (t' := (kt249 L xs)) (fun _ _ => rfl) ?_
  refine jm_go.blk 7 (pc' := 133) (ls' := [some (.ref 113), some (.int 5)]) (st' := []) (t' := (kt250 L xs)) (fun _ _ => rfl) ?_
  refine jm_go.blk 2 (pc' := 118) (ls' := [some (.ref 113), some (.int 6)]) (st' := []) (t' := (kt250 L xs)) (fun _ _ => rfl) ?_
  refine jm_go.blk 3 (pc' := 124) (ls' := [some (.ref 113), some (.int 6)]) (st' := []) (t' := (kt250 L xs)) (fun _ _ => rfl) ?_
  refine jm_go.blk 7 (pc' := 133) (ls' := [some (.ref 113), some (.int 6)]) (st' := []) (t' := (kt251 L xs)) (fun _ _ => rfl) ?_
  refine jm_go.blk 2 (pc' := 118) (ls' := [some (.ref 113), some (.int 7)]) (st' := []) (t' := (kt251 L xs)) (fun _ _ => rfl) ?_
  refine jm_go.blk 3 (pc' := 124) (ls' := [some (.ref 113), some (.int 7)]) (st' := []) (t' := (kt251 L xs)) (fun _ _ => rfl) ?_
  refine jm_go.blk 7 (pc' := 133) (ls' := [some (.ref 113), some (.int 7)]) (st' := []) (t' := (kt252 L xs)) (fun _ _ => rfl) ?_
  refine jm_go.blk 2 (pc' := 118) (ls' := [some (.ref 113), some (.int 8)]) (st' := []) (t' := (kt252 L xs)) (fun _ _ => rfl) ?_
  refine jm_go.blk 3 (pc' := 124) (ls' := [some (.ref 113), some (.int 8)]) (st' := []) (t' := (kt252 L xs)) (fun _ _ => rfl) ?_
  refine jm_go.blk 7 (pc' := 133) (ls' := [some (.ref 113), some (.int 8)]) (st' := []) (t' := (kt253 L xs)) (fun _ _ => rfl) ?_
  refine jm_go.blk 2 (pc' := 118) (ls' := [some (.ref 113), some (.int 9)]) (st' := []) (t' := (kt253 L xs)) (fun _ _ => rfl) ?_
  refine jm_go.blk 3 (pc' := 124) (ls' := [some (.ref 113), some (.int 9)]) (st' := []) (t' := (kt253 L xs)) (fun _ _ => rfl) ?_
  refine jm_go.blk 7 (pc' := 133) (ls' := [some (.ref 113), some (.int 9)]) (st' := []) (t' := (kt254 L xs)) (fun _ _ => rfl) ?_
  refine jm_go.blk 2 (pc' := 118) (ls' := [some (.ref 113), some (.int 10)]) (st' := []) (t' := (kt254 L xs)) (fun _ _ => rfl) ?_
  refine jm_go.blk 3 (pc' := 124) (ls' := [some (.ref 113), some (.int 10)]) (st' := []) (t' := (kt254 L xs)) (fun _ _ => rfl) ?_
  refine jm_go.blk 7 (pc' := 133) (ls' := [some (.ref 113), some (.int 10)]) (st' := []) (t' := (kt255 L xs)) (fun _ _ => rfl) ?_
  refine jm_go.blk 2 (pc' := 118) (ls' := [some (.ref 113), some (.int 11)]) (st' := []) (t' := (kt255 L xs)) (fun _ _ => rfl) ?_
  refine jm_go.blk 3 (pc' := 124) (ls' := [some (.ref 113), some (.int 11)]) (st' := []) (t' := (kt255 L xs)) (fun _ _ => rfl) ?_
  refine jm_go.blk 7 (pc' := 133) (ls' := [some (.ref 113), some (.int 11)]) (st' := []) (t' := (kt256 L xs)) (fun _ _ => rfl) ?_
  refine jm_go.blk 2 (pc' := 118) (ls' := [some (.ref 113), some (.int 12)]) (st' := []) (t' := (kt256 L xs)) (fun _ _ => rfl) ?_
  refine jm_go.blk 3 (pc' := 124) (ls' := [some (.ref 113), some (.int 12)]) (st' := []) (t' := (kt256 L xs)) (fun _ _ => rfl) ?_
  refine jm_go.blk 7 (pc' := 133) (ls' := [some (.ref 113), some (.int 12)]) (st' := []) (t' := (kt257 L xs)) (fun _ _ => rfl) ?_
  refine jm_go.blk 2 (pc' := 118) (ls' := [some (.ref 113), some (.int 13)]) (st' := []) (t' := (kt257 L xs)) (fun _ _ => rfl) ?_
  refine jm_go.blk 3 (pc' := 124) (ls' := [some (.ref 113), some (.int 13)]) (st' := []) (t' := (kt257 L xs)) (fun _ _ => rfl) ?_
  refine jm_go.blk 7 (pc' := 133) (ls' := [some (.ref 113), some (.int 13)]) (st' := []) (t' := (kt258 L xs)) (fun _ _ => rfl) ?_
  refine jm_go.blk 2 (pc' := 118) (ls' := [some (.ref 113), some (.int 14)]) (st' := []) (t' := (kt258 L xs)) (fun _ _ => rfl) ?_
  refine jm_go.blk 3 (pc' := 124) (ls' := [some (.ref 113), some (.int 14)]) (st' := []) (t' := (kt258 L xs)) (fun _ _ => rfl) ?_
  refine jm_go.blk 7 (pc' := 133) (ls' := [some (.ref 113), some (.int 14)]) (st' := []) (t' := (kt259 L xs)) (fun _ _ => rfl) ?_
  refine jm_go.blk 2 (pc' := 118) (ls' := [some (.ref 113), some (.int 15)]) (st' := []) (t' := (kt259 L xs)) (fun _ _ => rfl) ?_
  refine jm_go.blk 3 (pc' := 124) (ls' := [some (.ref 113), some (.int 15)]) (st' := []) (t' := (kt259 L xs)) (fun _ _ => rfl) ?_
  refine jm_go.blk 7 (pc' := 133) (ls' := [some (.ref 113), some (.int 15)]) (st' := []) (t' := (kt260 L xs)) (fun _ _ => rfl) ?_
  refine jm_go.blk 2 (pc' := 118) (ls' := [some (.ref 113), some (.int 16)]) (st' := []) (t' := (kt260 L xs)) (fun _ _ => rfl) ?_
  refine jm_go.blk 3 (pc' := 124) (ls' := [some (.ref 113), some (.int 16)]) (st' := []) (t' := (kt260 L xs)) (fun _ _ => rfl) ?_
  refine jm_go.blk 7 (pc' := 133) (ls' := [some (.ref 113), some (.int 16)]) (st' := []) (t' := (kt261 L xs)) (fun _ _ => rfl) ?_
  refine jm_go.blk 2 (pc' := 118) (ls' := [some (.ref 113), some (.int 17)]) (st' := []) (t' := (kt261 L xs)) (fun _ _ => rfl) ?_
  refine jm_go.blk 3 (pc' := 124) (ls' := [some (.ref 113), some (.int 17)]) (st' := []) (t' := (kt261 L xs)) (fun _ _ => rfl) ?_
  refine jm_go.blk 7 (pc' := 133) (ls' := [some (.ref 113), some (.int 17)]) (st' := []) (t' := (kt262 L xs)) (fun _ _ => rfl) ?_
  refine jm_go.blk 2 (pc' := 118) (ls' := [some (.ref 113), some (.int 18)]) (st' := []) (t' := (kt262 L xs)) (fun _ _ => rfl) ?_
  refine jm_go.blk 3 (pc' := 124) (ls' := [some (.ref 113), some (.int 18)]) (st' := []) (t' := (kt262 L xs)) (fun _ _ => rfl) ?_
  refine jm_go.blk 7 (pc' := 133) (ls' := [some (.ref 113), some (.int 18)]) (st' := []) (t' := (kt263 L xs)) (fun _ _ => rfl) ?_
  refine jm_go.blk 2 (pc' := 118) (ls' := [some (.ref 113), some (.int 19)]) (st' := []) (t' := (kt263 L xs)) (fun _ _ => rfl) ?_
  refine jm_go.blk 3 (pc' := 124) (ls' := [some (.ref 113), some (.int 19)]) (st' := []) (t' := (kt263 L xs)) (fun _ _ => rfl) ?_
  refine jm_go.blk 7 (pc' := 133) (ls' := [some (.ref 113), some (.int 19)]) (st' := []) (t' := (kt264 L xs)) (fun _ _ => rfl) ?_
  refine jm_go.blk 2 (pc' := 118) (ls' := [some (.ref 113), some (.int 20)]) (st' := []) (t' := (kt264 L xs)) (fun _ _ => rfl) ?_
  refine jm_go.blk 3 (pc' := 124) (ls' := [some (.ref 113), some (.int 20)]) (st' := []) (t' := (kt264 L xs)) (fun _ _ => rfl) ?_
  refine jm_go.blk 7 (pc' := 133) (ls' := [some (.ref 113), some (.int 20)]) (st' := []) (t' := (kt265 L xs)) (fun _ _ => rfl) ?_
  refine jm_go.blk 2 (pc' := 118) (ls' := [some (.ref 113), some (.int 21)]) (st' := []) (t' := (kt265 L xs)) (fun _ _ => rfl) ?_
  refine jm_go.blk 3 (pc' := 124) (ls' := [some (.ref 113), some (.int 21)]) (st' := []) (t' := (kt265 L xs)) (fun _ _ => rfl) ?_
  refine jm_go.blk 7 (pc' := 133) (ls' := [some (.ref 113), some (.int 21)]) (st' := []) (t' := (kt266 L xs)) (fun _ _ => rfl) ?_
  refine jm_go.blk 2 (pc' := 118) (ls' := [some (.ref 113), some (.int 22)]) (st' := []) (t' := (kt266 L xs)) (fun _ _ => rfl) ?_
  refine jm_go.blk 3 (pc' := 124) (ls' := [some (.ref 113), some (.int 22)]) (st' := []) (t' := (kt266 L xs)) (fun _ _ => rfl) ?_
  refine jm_go.blk 7 (pc' := 133) (ls' := [some (.ref 113), some (.int 22)]) (st' := []) (t' := (kt267 L xs)) (fun _ _ => rfl) ?_
  refine jm_go.blk 2 (pc' := 118) (ls' := [some (.ref 113), some (.int 23)]) (st' := []) (t' := (kt267 L xs)) (fun _ _ => rfl) ?_
  refine jm_go.blk 3 (pc' := 124) (ls' := [some (.ref 113), some (.int 23)]) (st' := []) (t' := (kt267 L xs)) (fun _ _ => rfl) ?_
  refine jm_go.blk 7 (pc' := 133) (ls' := [some (.ref 113), some (.int 23)]) (st' := []) (t' := (kt268 L xs)) (fun _ _ => rfl) ?_
  refine jm_go.blk 2 (pc' := 118) (ls' := [some (.ref 113), some (.int 24)]) (st' := []) (t' := (kt268 L xs)) (fun _ _ => rfl) ?_
  refine jm_go.blk 3 (pc' := 139) (ls' := [some (.ref 113), some (.int 24)]) (st' := []) (t' := (kt268 L xs)) (fun _ _ => rfl) ?_
  exact jm_go.ret 1 (fun _ _ => rfl)
set_option maxRecDepth 100000 in
theorem kc_law (d L : Nat) (xs : Nat → Int32) (r : jm_R) (g : jm_go (d + 4) (jm_G 166) 18 [some (.ref 0), some (.ref 1), some (.ref 113), some (.int 0)] [] (kt268 L xs) r) : jm_go (d + 4) (jm_G 166) 0 (jm_en 4 [.ref 0]) [] (kt0 L xs) r := by
  refine jm_go.blk 1 (pc' := 3) (ls' := [some (.ref 0), none, none, none]) (st' := [.ref 1]) (t' := (kt1 L xs)) (fun _ _ => rfl) ?_
  refine jm_go.call 2 (d := d + 3) (b := true) (u := 56) (as := [.ref 1]) (pc' := 7) (ls' := [some (.ref 0), none, none, none]) (st' := [.ref 1]) (t' := (kt1 L xs)) (fun _ _ => rfl) rfl rfl (kc56_18 d L xs) ?_
  refine jm_go.blk 2 (pc' := 11) (ls' := [some (.ref 0), some (.ref 1), none, none]) (st' := [.ref 113]) (t' := (kt218 L xs)) (fun _ _ => rfl) ?_
  refine jm_go.call 2 (d := d + 3) (b := true) (u := 92) (as := [.ref 113]) (pc' := 15) (ls' := [some (.ref 0), some (.ref 1), none, none]) (st' := [.ref 113]) (t' := (kt218 L xs)) (fun _ _ => rfl) rfl rfl (kc92_19 (d + 2) L xs) ?_
  refine jm_go.blk 3 (pc' := 18) (ls' := [some (.ref 0), some (.ref 1), some (.ref 113), some (.int 0)]) (st' := []) (t' := (kt268 L xs)) (fun _ _ => rfl) ?_
  exact g
