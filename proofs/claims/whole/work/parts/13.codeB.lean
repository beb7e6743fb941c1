/-! the law's table is its bytecode -/
set_option maxRecDepth 100000 in
theorem jm_cl0 : ((tbL_law.drop 0).take 40).all (jm_ck 166) = true := by decide +kernel
set_option maxRecDepth 100000 in
theorem jm_cl1 : ((tbL_law.drop 40).take 40).all (jm_ck 166) = true := by decide +kernel
set_option maxRecDepth 100000 in
theorem jm_cl2 : ((tbL_law.drop 80).take 40).all (jm_ck 166) = true := by decide +kernel
set_option maxRecDepth 100000 in
theorem jm_cl3 : ((tbL_law.drop 120).take 40).all (jm_ck 166) = true := by decide +kernel
set_option maxRecDepth 100000 in
theorem jm_cl4 : ((tbL_law.drop 160).take 40).all (jm_ck 166) = true := by decide +kernel
set_option maxRecDepth 100000 in
theorem jm_cl5 : ((tbL_law.drop 200).take 40).all (jm_ck 166) = true := by decide +kernel
set_option maxRecDepth 100000 in
theorem jm_cl6 : ((tbL_law.drop 240).take 40).all (jm_ck 166) = true := by decide +kernel
set_option maxRecDepth 100000 in
theorem jm_cl7 : ((tbL_law.drop 280).take 40).all (jm_ck 166) = true := by decide +kernel
set_option maxRecDepth 100000 in
theorem jm_cl8 : ((tbL_law.drop 320).take 40).all (jm_ck 166) = true := by decide +kernel
set_option maxRecDepth 100000 in
theorem jm_cl9 : ((tbL_law.drop 360).take 40).all (jm_ck 166) = true := by decide +kernel
set_option maxRecDepth 100000 in
theorem jm_cl10 : ((tbL_law.drop 400).take 40).all (jm_ck 166) = true := by decide +kernel
set_option maxRecDepth 100000 in
theorem jm_cl11 : ((tbL_law.drop 440).take 40).all (jm_ck 166) = true := by decide +kernel
set_option maxRecDepth 100000 in
theorem jm_cl12 : ((tbL_law.drop 480).take 40).all (jm_ck 166) = true := by decide +kernel
set_option maxRecDepth 100000 in
theorem jm_cl13 : ((tbL_law.drop 520).take 40).all (jm_ck 166) = true := by decide +kernel
set_option maxRecDepth 100000 in
theorem jm_cl14 : ((tbL_law.drop 560).take 40).all (jm_ck 166) = true := by decide +kernel
set_option maxRecDepth 100000 in
theorem jm_cl15 : ((tbL_law.drop 600).take 40).all (jm_ck 166) = true := by decide +kernel
set_option maxRecDepth 100000 in
theorem jm_cl16 : ((tbL_law.drop 640).take 40).all (jm_ck 166) = true := by decide +kernel
theorem jm_seg {α : Type} (f : α → Bool) (n : Nat) (hn : 0 < n) : ∀ (k : Nat) (l : List α), (∀ i, i < k → ((l.drop (n * i)).take n).all f = true) → l.length ≤ n * k → l.all f = true
  | 0, l, _, hl => by
    have : l = [] := List.length_eq_zero_iff.mp (by omega)
    rw [this]; rfl
  | k + 1, l, h, hl => by
    rw [← List.take_append_drop n l, List.all_append, Bool.and_eq_true]
    refine ⟨by simpa using h 0 (by omega), jm_seg f n hn k (l.drop n) (fun i hi => ?_) ?_⟩
    · have := h (i + 1) (by omega)
      rw [List.drop_drop]
      rw [Nat.mul_add, Nat.mul_one, Nat.add_comm] at this
      exact this
    · rw [List.length_drop, Nat.mul_add] at *
      omega
theorem jm_ckl : jm_ckm 166 = true := by
  have hl : tbL_law.length ≤ 40 * 17 := by decide +kernel
  refine jm_seg (jm_ck 166) 40 (by omega) 17 tbL_law (fun i hi => ?_) hl
  match i, hi with
  | 0, _ => exact jm_cl0
  | 1, _ => exact jm_cl1
  | 2, _ => exact jm_cl2
  | 3, _ => exact jm_cl3
  | 4, _ => exact jm_cl4
  | 5, _ => exact jm_cl5
  | 6, _ => exact jm_cl6
  | 7, _ => exact jm_cl7
  | 8, _ => exact jm_cl8
  | 9, _ => exact jm_cl9
  | 10, _ => exact jm_cl10
  | 11, _ => exact jm_cl11
  | 12, _ => exact jm_cl12
  | 13, _ => exact jm_cl13
  | 14, _ => exact jm_cl14
  | 15, _ => exact jm_cl15
  | 16, _ => exact jm_cl16
  | _ + 17, h => exact absurd h (by omega)
