/-! from a run of the small machine to the law's walk -/
def jm_t0 (L : Nat) (xs : Nat → Int32) : jm_T := ((0, 0, fun _ => 99, fun a => bif Nat.beq a 0 then L else 0, fun _ _ => none), (fun a => bif Nat.beq a 0 then xs else fun _ => 0), fun _ _ => 0)
/-- what the pure part owes: the law's run, on every script -/
def jm_Law : Prop := ∀ (L : Nat) (xs : Nat → Int32), L ≤ 3072 → ∃ (n : Nat) (tt : jm_T), jm_run jm_G n 60 (jm_G jm_law) 0 (jm_en 4 [.ref 0]) [] (jm_t0 L xs) = some (some (.int 1), tt) ∧ tt.1.1 ≤ 600000 ∧ tt.1.2.1 ≤ 7302250
theorem jm_K0 {s : State} {args : Array Value} (hts : ∀ w ∈ lw_tbl, w.before args s = true) : ∃ (D : va_G) (ca : Nat → ClassId), ∀ b z L xs, va_K D jm_cl (jm_tys (b, z, D, ca, L, xs)) s := by
  have hcls : ∀ c, ∃ (cC : ClassId) (iS : Nat → Nat), c < 9 → u_Kn s (jm_cn c) (jm_cT c) (jm_nf c) cC iS := by
    intro c
    by_cases hc : c < 9
    · obtain ⟨cC, iS, h⟩ := u_known (C := jm_cn c) (T := jm_cT c) (N := jm_nf c) (n := jm_nf c) hts (fun w hw => (jm_tb_of (jm_wu c hc w hw)).1) (hts _ (jm_tb_of (jm_w_inst c hc)).1)
      exact ⟨cC, iS, fun _ => h⟩
    · exact ⟨0, fun _ => 0, fun h => absurd h hc⟩
  have harr : ∀ k, ∃ cA : ClassId, (k = 9 → ArrOfT s cA .int ∧ va_RA s cA .int) ∧ (k = 10 → ArrOfT s cA .boolean ∧ va_RA s cA .boolean) ∧ (11 ≤ k ∧ k ≤ 13 → ArrOfT s cA (.object (jm_cn (jm_ec k))) ∧ va_RA s cA (.object (jm_cn (jm_ec k)))) := by
    intro k
    by_cases h9 : k = 9
    · obtain ⟨c, kA, comp, h1, h2, h3⟩ := Cond.arrayClass_spec (hts _ (jm_tb_of jm_w_ai).1)
      exact ⟨c, fun _ => ⟨fun n z => ⟨fun k h => (by cases h), kA, h2, comp, h3⟩, h1⟩, fun h => by omega, fun h => by omega⟩
    · by_cases h10 : k = 10
      · obtain ⟨c, kA, comp, h1, h2, h3⟩ := Cond.arrayClass_spec (hts _ (jm_tb_of jm_w_az).1)
        exact ⟨c, fun h => by omega, fun _ => ⟨fun n z => ⟨fun k h => (by cases h), kA, h2, comp, h3⟩, h1⟩, fun h => by omega⟩
      · obtain ⟨comp, c, kA, h1, h2, h3, h4, h5⟩ := Cond.arrayOver_spec (hts _ (jm_ao_in _ (jm_ec_in k)))
        exact ⟨c, fun h => absurd h h9, fun h => absurd h h10, fun _ => ⟨fun n z => ⟨fun k h => (by cases h), kA, h3, comp, h4⟩, kA, comp, h3, h4, h1, h5⟩⟩
  refine ⟨(fun c => (hcls c).choose, fun c => (hcls c).choose_spec.choose), fun k => (harr k).choose, fun b z L xs => ⟨fun c q hq => ?_, fun k q hq => ?_⟩⟩
  · have hc : c < 9 := (List.getElem?_eq_some_iff.mp hq).1
    rw [jm_cl_at c hc] at hq
    cases hq
    exact (hcls c).choose_spec.choose_spec hc
  · have hk : k < 5 := (List.getElem?_eq_some_iff.mp hq).1
    rcases (show k = 0 ∨ k = 1 ∨ k = 2 ∨ k = 3 ∨ k = 4 by omega) with rfl | rfl | rfl | rfl | rfl
    · cases hq; exact (harr 9).choose_spec.1 rfl
    · cases hq; exact (harr 10).choose_spec.2.1 rfl
    · cases hq; exact (harr 11).choose_spec.2.2 (by omega)
    · cases hq; exact (harr 12).choose_spec.2.2 (by omega)
    · cases hq; exact (harr 13).choose_spec.2.2 (by omega)
set_option maxRecDepth 20000 in
theorem jm_start (HL : jm_Law) {p : Program} {e : Env} {s : State} {m : MethodId} {below : List Frame} {meth : Method} {c : Code} (l : Launch) {b L : Nat} {xs : Nat → Int32} (hL : L ≤ 3072) (C0 : lw_At p s m meth c b L xs) : W p l e room_1 s m #[Value.ref b] below meth c s.heap [] 0 0 (lw_Z below #[Value.ref b] s) (entryFrame m ([Value.ref b] : List Value).toArray 4) := by
  obtain ⟨hx, hb, hr, hml, hown, hts, hX, hbl, hlocks, hgv⟩ := C0
  obtain ⟨D, ca, hK⟩ := jm_K0 hts
  obtain ⟨n, tt, hrun, hc1, hc2⟩ := HL L xs hL
  rw [lg_entry_eq]
  have hname : (jm_nm jm_law).name = "<init>" → meth.name = "<init>" := fun h => absurd h (by decide +kernel)
  refine jm_snd (l := l) (E := (b, s.heap.size, D, ca, L, xs)) jm_ok n jm_law 60 0 (jm_en 4 [.ref 0]) [] (jm_t0 L xs) (some (.int 1), tt) hrun (n0 := 0) (s0 := 0) ⟨hx, hb, hml, hown, fun w hw => hts w (jm_tb_of hw).1, hK _ _ _ _, jm_N.of hts, rfl, hname, fun _ => ⟨hX, hbl, hbl⟩⟩ ⟨Nat.le_of_ble_eq_true rfl, Nat.le_of_ble_eq_true rfl, hc1, hc2⟩ ?_ s.heap [] _ 0 0 ⟨fun k q h => (by simp [jm_ws, jm_t0] at h), rfl, rfl⟩ va_S.rf (jm_L_entry (b, s.heap.size, D, ca, L, xs) [.ref 0] (Nat.le_of_ble_eq_true rfl)) rfl rfl
  intro pc op v t2 hvr hdc hrt lsA H locs cells slots hP' hS' hc' hs'
  cases hvr
  rcases hrt with ⟨rfl, x, hxx, hkk⟩ | ⟨rfl, hkk, a, hxx⟩ | ⟨rfl, hkk, hxx⟩
  · refine va_forget (fun q hq => hS'.2.2 q hq) ?_
    refine W.widen (k := 600000) (n := 7302250) (by omega) (by omega) ?_
    exact lw_ret hx hb hr hlocks hdc
  · cases hxx
  · cases hxx
