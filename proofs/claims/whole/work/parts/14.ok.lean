/-! all of it -/
theorem jm_cka : ∀ y, y < 167 → jm_ckm y = true := by
  intro y hy
  by_cases h0 : y < 10
  · have := jm_ck0 (y - 0) (by omega)
    rwa [show 0 + (y - 0) = y by omega] at this
  by_cases h10 : y < 20
  · have := jm_ck10 (y - 10) (by omega)
    rwa [show 10 + (y - 10) = y by omega] at this
  by_cases h20 : y < 30
  · have := jm_ck20 (y - 20) (by omega)
    rwa [show 20 + (y - 20) = y by omega] at this
  by_cases h30 : y < 40
  · have := jm_ck30 (y - 30) (by omega)
    rwa [show 30 + (y - 30) = y by omega] at this
  by_cases h40 : y < 50
  · have := jm_ck40 (y - 40) (by omega)
    rwa [show 40 + (y - 40) = y by omega] at this
  by_cases h50 : y < 60
  · have := jm_ck50 (y - 50) (by omega)
    rwa [show 50 + (y - 50) = y by omega] at this
  by_cases h60 : y < 70
  · have := jm_ck60 (y - 60) (by omega)
    rwa [show 60 + (y - 60) = y by omega] at this
  by_cases h70 : y < 80
  · have := jm_ck70 (y - 70) (by omega)
    rwa [show 70 + (y - 70) = y by omega] at this
  by_cases h80 : y < 90
  · have := jm_ck80 (y - 80) (by omega)
    rwa [show 80 + (y - 80) = y by omega] at this
  by_cases h90 : y < 100
  · have := jm_ck90 (y - 90) (by omega)
    rwa [show 90 + (y - 90) = y by omega] at this
  by_cases h100 : y < 110
  · have := jm_ck100 (y - 100) (by omega)
    rwa [show 100 + (y - 100) = y by omega] at this
  by_cases h110 : y < 120
  · have := jm_ck110 (y - 110) (by omega)
    rwa [show 110 + (y - 110) = y by omega] at this
  by_cases h120 : y < 130
  · have := jm_ck120 (y - 120) (by omega)
    rwa [show 120 + (y - 120) = y by omega] at this
  by_cases h130 : y < 140
  · have := jm_ck130 (y - 130) (by omega)
    rwa [show 130 + (y - 130) = y by omega] at this
  by_cases h140 : y < 150
  · have := jm_ck140 (y - 140) (by omega)
    rwa [show 140 + (y - 140) = y by omega] at this
  by_cases h150 : y < 160
  · have := jm_ck150 (y - 150) (by omega)
    rwa [show 150 + (y - 150) = y by omega] at this
  by_cases h160 : y < 166
  · have := jm_ck160 (y - 160) (by omega)
    rwa [show 160 + (y - 160) = y by omega] at this
  rw [show y = 166 by omega]
  exact jm_ckl
theorem jm_at_mem : ∀ {l : List (Nat × jm_I)} {pc : Nat} {i : jm_I}, jm_at l pc = some i → (pc, i) ∈ l
  | [], _, _, h => by cases h
  | (k, j) :: r, pc, i, h => by
    unfold jm_at at h
    by_cases hk : Nat.beq k pc = true
    · rw [hk] at h
      have e : k = pc := Nat.eq_of_beq_eq_true hk
      have e2 : j = i := Option.some.inj h
      rw [e, e2]
      exact List.mem_cons_self
    · rw [Bool.not_eq_true _ |>.mp hk] at h
      exact List.mem_cons_of_mem _ (jm_at_mem h)
theorem jm_ok : jm_Ok jm_G jm_nm jm_cd jm_rt0 jm_law := by
  intro y pc op len u v w c cl ts kl h
  by_cases hy : y < 167
  · have h1 := List.all_eq_true.mp (jm_cka y hy) _ (jm_at_mem h)
    simp only [jm_ck, Bool.and_eq_true, decide_eq_true_eq] at h1
    exact ⟨h1.1, jm_ib_ok hy h1.2⟩
  · have e : jm_gl.length = 167 := by decide +kernel
    have h2 : jm_G y = (0, 0, []) := by
      unfold jm_G jm_g
      rw [List.getD_eq_getElem?_getD, List.getElem?_eq_none (by omega)]
      rfl
    rw [h2] at h
    cases h
