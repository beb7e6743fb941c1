/-! ===== the start, and the law's run ===== -/
set_option maxRecDepth 100000 in
theorem st2 (L : Nat) (xs : Nat → Int32) : (kt268 L xs).2.1 2 0 = 0 ∧ (kt268 L xs).2.1 2 1 = 8 ∧ (kt268 L xs).2.1 2 2 = 2 := ⟨rfl, rfl, rfl⟩
set_option maxRecDepth 100000 in
theorem st3 (L : Nat) (xs : Nat → Int32) (g : Nat) : (kt268 L xs).2.1 3 g = if g < 24 then 1 else 0 := rfl
set_option maxRecDepth 100000 in
theorem st4 (L : Nat) (xs : Nat → Int32) (g : Nat) : (kt268 L xs).2.1 4 g = if g < 144 then -1 else 0 := rfl
set_option maxRecDepth 100000 in
theorem st5 (L : Nat) (xs : Nat → Int32) : (kt268 L xs).2.1 5 1 = 0 ∧ (kt268 L xs).2.1 5 2 = 0 ∧ (kt268 L xs).2.1 39 0 = 0 ∧ (kt268 L xs).2.1 113 2 = 0 := ⟨rfl, rfl, rfl, rfl⟩
set_option maxRecDepth 100000 in
theorem st38 (L : Nat) (xs : Nat → Int32) (i : Nat) : (kt268 L xs).2.1 38 i = 0 ∧ (kt268 L xs).2.1 115 i = 0 := ⟨rfl, rfl⟩
set_option maxRecDepth 100000 in
theorem st114 (L : Nat) (xs : Nat → Int32) : (kt268 L xs).2.1 114 0 = 8 ∧ (kt268 L xs).2.1 114 1 = 2 ∧ (kt268 L xs).2.1 114 2 = 0 := ⟨rfl, rfl, rfl⟩
set_option maxRecDepth 100000 in
theorem st114w (L : Nat) (xs : Nat → Int32) {g : Nat} (hg : g < 24) : (kt268 L xs).2.1 114 (0 + (3 + g)) = 1 := by
  rcases (show g = 0 ∨ g = 1 ∨ g = 2 ∨ g = 3 ∨ g = 4 ∨ g = 5 ∨ g = 6 ∨ g = 7 ∨ g = 8 ∨ g = 9 ∨ g = 10 ∨ g = 11 ∨ g = 12 ∨ g = 13 ∨ g = 14 ∨ g = 15 ∨ g = 16 ∨ g = 17 ∨ g = 18 ∨ g = 19 ∨ g = 20 ∨ g = 21 ∨ g = 22 ∨ g = 23 by omega) with rfl | rfl | rfl | rfl | rfl | rfl | rfl | rfl | rfl | rfl | rfl | rfl | rfl | rfl | rfl | rfl | rfl | rfl | rfl | rfl | rfl | rfl | rfl | rfl <;> rfl
set_option maxRecDepth 100000 in
theorem st114p (L : Nat) (xs : Nat → Int32) {p : Nat} (hp : p < 6) : (kt268 L xs).2.1 114 (0 + (27 + 49 * p)) = 0 := by
  rcases (show p = 0 ∨ p = 1 ∨ p = 2 ∨ p = 3 ∨ p = 4 ∨ p = 5 by omega) with rfl | rfl | rfl | rfl | rfl | rfl <;> rfl
def D0 : hD := ((0, 8, 2), fun _ => 1, fun _ _ => false, fun _ _ => 0, fun _ _ => 0)
def A0 : hA := (D0, (0, fun _ => D0), fun _ => false, fun _ => D0)
theorem D0_ok : hok D0 := ⟨by decide, by decide, by decide, fun g _ => (show 1 ≤ 9 by omega), fun p g _ _ e => (by cases e)⟩
theorem inv0 (L : Nat) (xs : Nat → Int32) : Inv (kt268 L xs).2.1 := by
  have m0 : mk (di D0 0) = 0 := mk_0.mpr fun _ _ => rfl
  obtain ⟨a1, a2, a3⟩ := st2 L xs
  obtain ⟨b1, b2, b3, b4⟩ := st5 L xs
  obtain ⟨c1, c2, c3⟩ := st114 L xs
  refine ⟨A0, ⟨⟨⟨a1.trans nI_0.symm, a2, a3, fun g hg => ?_, fun p g hp hg => ?_⟩, D0_ok, Nat.zero_le 8, ⟨0, by omega, b1.trans nI_0.symm, b2.trans nI_0.symm, fun i hi => absurd hi (Nat.not_lt_zero i)⟩, fun i _ => ⟨(st38 L xs i).1, fun q => (by cases q)⟩⟩, Or.inl b3⟩, ⟨⟨c1, c2, c3.trans nI_0.symm, fun g hg => st114w L xs hg, fun p hp => (st114p L xs hp).trans m0.symm, fun p g _ _ e => (by cases e)⟩, b4.trans nI_0.symm, fun i hi => absurd hi (Nat.not_lt_zero i), fun i _ => ⟨(st38 L xs i).2, fun q => (by cases q)⟩⟩⟩
  · show (kt268 L xs).2.1 3 g = nI 1
    rw [st3, if_pos hg]
    rfl
  · show (kt268 L xs).2.1 4 (24 * p + g) = -1
    rw [st4, if_pos (by omega)]
