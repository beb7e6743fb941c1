/-! ===== the law runs on every script ===== -/
theorem law_of {L : Nat} (hL : L ≤ 3072) (t : jm_T) (ht : t.1 = jm_S0 L) (hI : Inv t.2.1) : ∃ tt : jm_T, tt.1 = jm_S0 L ∧ jm_go 60 (jm_G 166) 18 [some (.ref 0), some (.ref 1), some (.ref 113), some (.int 0)] [] t (some (.int 1), tt) := by
  obtain ⟨S, M, J⟩ := t
  have ht : S = jm_S0 L := ht
  subst ht
  obtain ⟨M', J', e⟩ := law_run hL 512 0 jm_F M J (by omega) (by omega) (show 512 < 5000 by omega) hI
  rw [nI_0] at e
  exact ⟨(jm_S0 L, M', J'), rfl, g166_18 L 24 M J jm_F M J 0 (1, M', J') e⟩
theorem jm_S0_small (L : Nat) {tt : jm_T} (h : tt.1 = jm_S0 L) : tt.1.1 ≤ 600000 ∧ tt.1.2.1 ≤ 7302250 := by
  rw [h]
  exact ⟨(show 125 ≤ 600000 by omega), (show 7352 ≤ 7302250 by omega)⟩
theorem jm_law_go {L : Nat} {xs : Nat → Int32} {tt : jm_T} (g : jm_go 60 (jm_G 166) 18 [some (.ref 0), some (.ref 1), some (.ref 113), some (.int 0)] [] (kt268 L xs) (some (.int 1), tt)) : jm_go 60 (jm_G 166) 0 (jm_en 4 [.ref 0]) [] (kt0 L xs) (some (.int 1), tt) := kc_law 56 L xs _ g
theorem jm_law_runs : jm_Law := by
  intro L xs hL
  obtain ⟨tt, h1, g⟩ := law_of hL (kt268 L xs) (kt_shape L xs) (inv0 L xs)
  obtain ⟨n, hn⟩ := jm_law_go g
  exact ⟨n, tt, hn, jm_S0_small L h1⟩
