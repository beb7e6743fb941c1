/-! the check of one instruction -/
/-- an instruction of method y, of a class with number o, at pc -/
def jm_ib (y o pc : Nat) (op : Instr) (len u v w : Nat) (c : Int32) (cl : Int64) (ts : List (Int32 × Nat)) : Bool := match op with
  | .iconst n => decide (len = 1 ∧ Int32.ofInt n = c)
  | .bipush n => decide (len = 2 ∧ (Int8.ofInt n).toInt32 = c)
  | .sipush n => decide (len = 3 ∧ (Int16.ofInt n).toInt32 = c)
  | .ldc i => decide (len = 2) && decide ((o, i, c) ∈ jm_ki)
  | .ldc_w i => decide (len = 3) && decide ((o, i, c) ∈ jm_ki)
  | .ldc2_w i => decide (len = 3) && decide ((o, i, cl) ∈ jm_kj)
  | .lconst n => decide (len = 1 ∧ Int64.ofNat (n : Nat) = cl)
  | .iload i => decide (len = 2 ∧ i = u)
  | .lload i => decide (len = 2 ∧ i = u)
  | .aload i => decide (len = 2 ∧ i = u)
  | .iload_n i => decide (len = 1 ∧ (i : Nat) = u)
  | .lload_n i => decide (len = 1 ∧ (i : Nat) = u)
  | .aload_n i => decide (len = 1 ∧ (i : Nat) = u)
  | .istore i => decide (len = 2 ∧ i = u ∧ u < (jm_G y).1)
  | .astore i => decide (len = 2 ∧ i = u ∧ u < (jm_G y).1)
  | .istore_n i => decide (len = 1 ∧ (i : Nat) = u ∧ u < (jm_G y).1)
  | .astore_n i => decide (len = 1 ∧ (i : Nat) = u ∧ u < (jm_G y).1)
  | .iinc i n => decide (len = 3 ∧ i = u ∧ Int32.ofInt n = c ∧ u < (jm_G y).1)
  | .goto q => decide (len = 3 ∧ (pc : Int) + q = (u : Int))
  | .ifCond _ q => decide (len = 3 ∧ (pc : Int) + q = (u : Int))
  | .if_icmp _ q => decide (len = 3 ∧ (pc : Int) + q = (u : Int))
  | .tableswitch df lo hi offs => decide ((pc : Int) + df = (u : Int) ∧ jm_tsok pc lo offs.toList ts = true ∧ hi + 1 = lo + offs.toList.length)
  | .lookupswitch df ps => decide ((pc : Int) + df = (u : Int) ∧ jm_lsok pc ps.toList ts = true ∧ (ps.toList.zip (ps.toList.drop 1)).all (fun (a, next) => a.1 < next.1) = true)
  | .getfield i => decide (len = 3) && decide ((o, i, u, v) ∈ jm_fl)
  | .putfield i => decide (len = 3) && decide ((o, i, u, v) ∈ jm_fl) && decide (jm_ft u v = 1 → (jm_nm y).name = "<init>" ∧ o = u)
  | .arraylength => decide (len = 1 ∧ (w = 1 → y = jm_law))
  | .iaload => decide (len = 1 ∧ (w = 1 → y = jm_law))
  | .newarray a => decide (len = 2 ∧ ((a = .int ∧ u = 9) ∨ (a = .boolean ∧ u = 10)))
  | .anewarray i => decide (len = 3 ∧ (11 ≤ u ∧ u ≤ 13)) && decide ((o, i, jm_ec u) ∈ jm_kc)
  | .new i => decide (len = 3) && decide ((o, i, u) ∈ jm_kc)
  | .invokevirtual i => decide (len = 3) && decide ((o, i, u) ∈ jm_ml) && decide (u < 166 ∧ 0 < v ∧ jm_ar u = v - 1 ∧ jm_sf u = false ∧ jm_oc u = w ∧ (jm_nm u).name ≠ "<init>")
  | .invokestatic i => decide (len = 3) && (bif decide (w = 7) then decide ((o, i) ∈ jm_cp) else bif decide (w = 8) then decide ((o, i) ∈ jm_mx) else bif decide (w = 9) then decide ((o, i) ∈ jm_mn) else (decide ((o, i, u) ∈ jm_ml) || decide ((o, i, u) ∈ jm_nl)) && decide (u < 166 ∧ jm_ar u = v ∧ jm_sf u = true))
  | .invokespecial i => decide (len = 3) && (bif decide (w = 7) then decide ((o, i) ∈ jm_ol) else (decide ((o, i, u) ∈ jm_ml) || decide ((o, i, u) ∈ jm_nl)) && decide (u < 166 ∧ 0 < v ∧ jm_ar u = v - 1 ∧ jm_sf u = false ∧ (jm_nm u).name = "<init>" ∧ jm_rt0 u = none))
  | _ => decide (len = 1)
theorem jm_ib_ok {y pc : Nat} {op : Instr} {len u v w : Nat} {c : Int32} {cl : Int64} {ts : List (Int32 × Nat)} (hy : y < 167) (h : jm_ib y (jm_oc y) pc op len u v w c cl ts = true) : jm_iok jm_G jm_nm jm_cd jm_rt0 jm_law y pc op len u v w c cl ts := by
  have ho := jm_m_oc y hy
  cases op with
  | ldc i =>
    simp only [jm_ib, Bool.and_eq_true, decide_eq_true_eq] at h
    exact ⟨h.1, by rw [ho]; exact jm_ki_ok _ h.2⟩
  | ldc_w i =>
    simp only [jm_ib, Bool.and_eq_true, decide_eq_true_eq] at h
    exact ⟨h.1, by rw [ho]; exact jm_ki_ok _ h.2⟩
  | ldc2_w i =>
    simp only [jm_ib, Bool.and_eq_true, decide_eq_true_eq] at h
    exact ⟨h.1, by rw [ho]; exact jm_kj_ok _ h.2⟩
  | getfield i =>
    simp only [jm_ib, Bool.and_eq_true, decide_eq_true_eq] at h
    obtain ⟨a, b, d⟩ := jm_fl_ok _ h.2
    exact ⟨h.1, a, b, by rw [ho]; exact d⟩
  | putfield i =>
    simp only [jm_ib, Bool.and_eq_true, decide_eq_true_eq] at h
    obtain ⟨a, b, d⟩ := jm_fl_ok _ h.1.2
    refine ⟨h.1.1, a, b, by rw [ho]; exact d, fun q => ⟨(h.2 q).1, ?_⟩⟩
    rw [ho, (h.2 q).2]
    dsimp only at a
    unfold jm_on
    split <;> first | omega | rfl
  | anewarray i =>
    simp only [jm_ib, Bool.and_eq_true, decide_eq_true_eq] at h
    exact ⟨h.1.1, h.1.2, by rw [ho]; exact (jm_kc_ok _ h.2).2⟩
  | new i =>
    simp only [jm_ib, Bool.and_eq_true, decide_eq_true_eq] at h
    exact ⟨h.1, (jm_kc_ok _ h.2).1, by rw [ho]; exact (jm_kc_ok _ h.2).2⟩
  | invokevirtual i =>
    simp only [jm_ib, Bool.and_eq_true, decide_eq_true_eq] at h
    obtain ⟨⟨h1, h2⟩, h3, h4, h5, h6, h7, h8⟩ := h
    have hs := jm_m_se u h3 h6 h8
    subst h7
    refine ⟨h1, h4, hs.1, fun q => ?_, ?_, by rw [ho]; exact jm_ml_ok _ h2, jm_m_in u h3 h6, hs.2, jm_m_mk h3 h5⟩
    · subst q; exact absurd h3 (by decide)
    · rw [jm_m_oc u (by omega)]
      unfold jm_on
      split <;> first | omega | rfl
  | invokestatic i =>
    simp only [jm_ib, Bool.and_eq_true, decide_eq_true_eq] at h
    obtain ⟨h1, h2⟩ := h
    refine ⟨h1, fun q => ?_, fun q => ?_, fun q => ?_, fun q q8 q9 => ?_⟩
    · rw [decide_eq_true q] at h2
      rw [ho]
      exact jm_cp_ok _ (of_decide_eq_true h2)
    · rw [decide_eq_false (show ¬ w = 7 by omega), decide_eq_true q] at h2
      rw [ho]
      exact jm_mx_ok _ (of_decide_eq_true h2)
    · rw [decide_eq_false (show ¬ w = 7 by omega), decide_eq_false (show ¬ w = 8 by omega), decide_eq_true q] at h2
      rw [ho]
      exact jm_mn_ok _ (of_decide_eq_true h2)
    · rw [decide_eq_false q, decide_eq_false q8, decide_eq_false q9] at h2
      simp only [cond_false, Bool.and_eq_true, Bool.or_eq_true, decide_eq_true_eq] at h2
      obtain ⟨h2, h3, h4, h5⟩ := h2
      refine ⟨fun q => ?_, jm_m_st u h3 h5, ?_, jm_m_mk h3 h4⟩
      · subst q; exact absurd h3 (by decide)
      · rw [ho]
        rcases h2 with h2 | h2
        · exact Or.inl (jm_ml_ok _ h2)
        · exact Or.inr (jm_nl_ok _ h2)
  | invokespecial i =>
    simp only [jm_ib, Bool.and_eq_true, decide_eq_true_eq] at h
    obtain ⟨h1, h2⟩ := h
    refine ⟨h1, fun q => ?_, fun q => ?_⟩
    · rw [decide_eq_true q] at h2
      rw [ho]
      exact jm_ol_ok _ (of_decide_eq_true h2)
    · rw [decide_eq_false q] at h2
      simp only [cond_false, Bool.and_eq_true, Bool.or_eq_true, decide_eq_true_eq] at h2
      obtain ⟨h2, h3, h4, h5, h6, h7, h8⟩ := h2
      refine ⟨h4, fun q => ?_, h7, jm_m_in u h3 h6, ?_, h8, jm_m_mk h3 h5⟩
      · subst q; exact absurd h3 (by decide)
      · rw [ho]
        rcases h2 with h2 | h2
        · exact Or.inl (jm_ml_ok _ h2)
        · exact Or.inr (jm_nl_ok _ h2)
  | _ =>
    simp only [jm_ib, decide_eq_true_eq] at h
    exact h
def jm_ck (y : Nat) (e : Nat × jm_I) : Bool := match e with
  | (pc, op, len, u, v, w, c, cl, ts, _) => decide (decode (jm_cd y) pc = .ok (op, len)) && jm_ib y (jm_oc y) pc op len u v w c cl ts
def jm_ckm (y : Nat) : Bool := (jm_G y).2.2.all (jm_ck y)
