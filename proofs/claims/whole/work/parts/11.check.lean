/-! the tables are the program's: a check that the kernel runs -/
def jm_wp (i : Nat) (w : Jvm.Cond) : Bool := decide (lw_tbl[i]? = some w) && goodWord w
theorem jm_wp_ok {i : Nat} {w : Jvm.Cond} (h : jm_wp i w = true) : w ∈ jm_tb := by
  simp only [jm_wp, Bool.and_eq_true, decide_eq_true_eq] at h
  exact jm_tb_in (List.mem_of_getElem? h.1) h.2
set_option maxRecDepth 100000 in
theorem jm_flp_ck : jm_flp.all (fun q => decide (q.2.2.2.1 < 9) && decide (q.2.2.2.2 < jm_nf q.2.2.2.1) && jm_wp q.1 (Jvm.Cond.fieldLink (jm_on q.2.1) q.2.2.1 (jm_cn q.2.2.2.1) (jm_cT q.2.2.2.1 q.2.2.2.2).2.1 (jm_cT q.2.2.2.1 q.2.2.2.2).2.2.1)) = true := by decide +kernel
theorem jm_fl_ok : ∀ q ∈ jm_fl, q.2.2.1 < 9 ∧ q.2.2.2 < jm_nf q.2.2.1 ∧ Jvm.Cond.fieldLink (jm_on q.1) q.2.1 (jm_cn q.2.2.1) (jm_cT q.2.2.1 q.2.2.2).2.1 (jm_cT q.2.2.1 q.2.2.2).2.2.1 ∈ jm_tb := by
  intro q hq
  obtain ⟨z, hz, rfl⟩ := List.mem_map.mp hq
  have h := List.all_eq_true.mp jm_flp_ck z hz
  simp only [Bool.and_eq_true, decide_eq_true_eq] at h
  exact ⟨h.1.1, h.1.2, jm_wp_ok h.2⟩
set_option maxRecDepth 100000 in
theorem jm_mlp_ck : jm_mlp.all (fun q => jm_wp q.1 (Jvm.Cond.methodLink (jm_on q.2.1) q.2.2.1 (jm_nm q.2.2.2))) = true := by decide +kernel
theorem jm_ml_ok : ∀ q ∈ jm_ml, Jvm.Cond.methodLink (jm_on q.1) q.2.1 (jm_nm q.2.2) ∈ jm_tb := by
  intro q hq
  obtain ⟨z, hz, rfl⟩ := List.mem_map.mp hq
  exact jm_wp_ok (List.all_eq_true.mp jm_mlp_ck z hz)
set_option maxRecDepth 100000 in
theorem jm_nl_ok : ∀ q ∈ jm_nl, (jm_on q.1, q.2.1, jm_nm q.2.2, RX7) ∈ jm_nst := by decide +kernel
set_option maxRecDepth 100000 in
theorem jm_olp_ck : jm_olp.all (fun q => jm_wp q.1 (Jvm.Cond.methodLink (jm_on q.2.1) q.2.2 objectInit)) = true := by decide +kernel
theorem jm_ol_ok : ∀ q ∈ jm_ol, Jvm.Cond.methodLink (jm_on q.1) q.2 objectInit ∈ jm_tb := by
  intro q hq
  obtain ⟨z, hz, rfl⟩ := List.mem_map.mp hq
  exact jm_wp_ok (List.all_eq_true.mp jm_olp_ck z hz)
set_option maxRecDepth 100000 in
theorem jm_cpp_ck : jm_cpp.all (fun q => jm_wp q.1 (Jvm.Cond.methodLink (jm_on q.2.1) q.2.2 arraycopyName)) = true := by decide +kernel
theorem jm_cp_ok : ∀ q ∈ jm_cp, Jvm.Cond.methodLink (jm_on q.1) q.2 arraycopyName ∈ jm_tb := by
  intro q hq
  obtain ⟨z, hz, rfl⟩ := List.mem_map.mp hq
  exact jm_wp_ok (List.all_eq_true.mp jm_cpp_ck z hz)
set_option maxRecDepth 100000 in
theorem jm_mxp_ck : jm_mxp.all (fun q => jm_wp q.1 (Jvm.Cond.methodLink (jm_on q.2.1) q.2.2 Lib.Math.max.name)) = true := by decide +kernel
theorem jm_mx_ok : ∀ q ∈ jm_mx, Jvm.Cond.methodLink (jm_on q.1) q.2 Lib.Math.max.name ∈ jm_tb := by
  intro q hq
  obtain ⟨z, hz, rfl⟩ := List.mem_map.mp hq
  exact jm_wp_ok (List.all_eq_true.mp jm_mxp_ck z hz)
set_option maxRecDepth 100000 in
theorem jm_mnp_ck : jm_mnp.all (fun q => jm_wp q.1 (Jvm.Cond.methodLink (jm_on q.2.1) q.2.2 Lib.Math.min.name)) = true := by decide +kernel
theorem jm_mn_ok : ∀ q ∈ jm_mn, Jvm.Cond.methodLink (jm_on q.1) q.2 Lib.Math.min.name ∈ jm_tb := by
  intro q hq
  obtain ⟨z, hz, rfl⟩ := List.mem_map.mp hq
  exact jm_wp_ok (List.all_eq_true.mp jm_mnp_ck z hz)
set_option maxRecDepth 100000 in
theorem jm_kcp_ck : jm_kcp.all (fun q => decide (q.2.2.2 < 9) && jm_wp q.1 (Jvm.Cond.classLink (jm_on q.2.1) q.2.2.1 (jm_cn q.2.2.2))) = true := by decide +kernel
theorem jm_kc_ok : ∀ q ∈ jm_kc, q.2.2 < 9 ∧ Jvm.Cond.classLink (jm_on q.1) q.2.1 (jm_cn q.2.2) ∈ jm_tb := by
  intro q hq
  obtain ⟨z, hz, rfl⟩ := List.mem_map.mp hq
  have h := List.all_eq_true.mp jm_kcp_ck z hz
  simp only [Bool.and_eq_true, decide_eq_true_eq] at h
  exact ⟨h.1, jm_wp_ok h.2⟩
set_option maxRecDepth 100000 in
theorem jm_kip_ck : jm_kip.all (fun q => jm_wp q.1 (Jvm.Cond.constant (jm_on q.2.1) q.2.2.1 q.2.2.2)) = true := by decide +kernel
theorem jm_ki_ok : ∀ q ∈ jm_ki, Jvm.Cond.constant (jm_on q.1) q.2.1 q.2.2 ∈ jm_tb := by
  intro q hq
  obtain ⟨z, hz, rfl⟩ := List.mem_map.mp hq
  exact jm_wp_ok (List.all_eq_true.mp jm_kip_ck z hz)
set_option maxRecDepth 100000 in
theorem jm_kjp_ck : jm_kjp.all (fun q => jm_wp q.1 (Jvm.Cond.constantLong (jm_on q.2.1) q.2.2.1 q.2.2.2)) = true := by decide +kernel
theorem jm_kj_ok : ∀ q ∈ jm_kj, Jvm.Cond.constantLong (jm_on q.1) q.2.1 q.2.2 ∈ jm_tb := by
  intro q hq
  obtain ⟨z, hz, rfl⟩ := List.mem_map.mp hq
  exact jm_wp_ok (List.all_eq_true.mp jm_kjp_ck z hz)
set_option maxRecDepth 100000 in
theorem jm_m_oc : ∀ y, y < 167 → (jm_nm y).cls = jm_on (jm_oc y) := by decide +kernel
def jm_mpp (y : Nat) : Nat × Nat × Nat × Nat := jm_mpl.getD y (0, 0, 0, 0)
set_option maxRecDepth 100000 in
theorem jm_mp1 : ∀ y, y < 166 → jm_wp (jm_mpp y).1 (bif jm_sf y then Jvm.Cond.static (jm_nm y) else Jvm.Cond.instanceMethod (jm_nm y)) = true := by decide +kernel
set_option maxRecDepth 100000 in
theorem jm_mp2 : ∀ y, y < 166 → jm_sf y = false → (jm_nm y).name ≠ "<init>" → jm_oc y < 9 ∧ jm_wp (jm_mpp y).2.1 (Jvm.Cond.selects (jm_cn (jm_oc y)) (jm_nm y) (jm_nm y)) = true := by decide +kernel
set_option maxRecDepth 100000 in
theorem jm_mp3 : ∀ y, y < 166 → lw_tbl[(jm_mpp y).2.2.1]? = some (Jvm.Cond.code (jm_nm y) (jm_cd y) (jm_G y).1 (jm_rt0 y))
  | 0, _ => rfl
  | 1, _ => rfl
  | 2, _ => rfl
  | 3, _ => rfl
  | 4, _ => rfl
  | 5, _ => rfl
  | 6, _ => rfl
  | 7, _ => rfl
  | 8, _ => rfl
  | 9, _ => rfl
  | 10, _ => rfl
  | 11, _ => rfl
  | 12, _ => rfl
  | 13, _ => rfl
  | 14, _ => rfl
  | 15, _ => rfl
  | 16, _ => rfl
  | 17, _ => rfl
  | 18, _ => rfl
  | 19, _ => rfl
  | 20, _ => rfl
  | 21, _ => rfl
  | 22, _ => rfl
  | 23, _ => rfl
  | 24, _ => rfl
  | 25, _ => rfl
  | 26, _ => rfl
  | 27, _ => rfl
  | 28, _ => rfl
  | 29, _ => rfl
  | 30, _ => rfl
  | 31, _ => rfl
  | 32, _ => rfl
  | 33, _ => rfl
  | 34, _ => rfl
  | 35, _ => rfl
  | 36, _ => rfl
  | 37, _ => rfl
  | 38, _ => rfl
  | 39, _ => rfl
  | 40, _ => rfl
  | 41, _ => rfl
  | 42, _ => rfl
  | 43, _ => rfl
  | 44, _ => rfl
  | 45, _ => rfl
  | 46, _ => rfl
  | 47, _ => rfl
  | 48, _ => rfl
  | 49, _ => rfl
  | 50, _ => rfl
  | 51, _ => rfl
  | 52, _ => rfl
  | 53, _ => rfl
  | 54, _ => rfl
  | 55, _ => rfl
  | 56, _ => rfl
  | 57, _ => rfl
  | 58, _ => rfl
  | 59, _ => rfl
  | 60, _ => rfl
  | 61, _ => rfl
  | 62, _ => rfl
  | 63, _ => rfl
  | 64, _ => rfl
  | 65, _ => rfl
  | 66, _ => rfl
  | 67, _ => rfl
  | 68, _ => rfl
  | 69, _ => rfl
  | 70, _ => rfl
  | 71, _ => rfl
  | 72, _ => rfl
  | 73, _ => rfl
  | 74, _ => rfl
  | 75, _ => rfl
  | 76, _ => rfl
  | 77, _ => rfl
  | 78, _ => rfl
  | 79, _ => rfl
  | 80, _ => rfl
  | 81, _ => rfl
  | 82, _ => rfl
  | 83, _ => rfl
  | 84, _ => rfl
  | 85, _ => rfl
  | 86, _ => rfl
  | 87, _ => rfl
  | 88, _ => rfl
  | 89, _ => rfl
  | 90, _ => rfl
  | 91, _ => rfl
  | 92, _ => rfl
  | 93, _ => rfl
  | 94, _ => rfl
  | 95, _ => rfl
  | 96, _ => rfl
  | 97, _ => rfl
  | 98, _ => rfl
  | 99, _ => rfl
  | 100, _ => rfl
  | 101, _ => rfl
  | 102, _ => rfl
  | 103, _ => rfl
  | 104, _ => rfl
  | 105, _ => rfl
  | 106, _ => rfl
  | 107, _ => rfl
  | 108, _ => rfl
  | 109, _ => rfl
  | 110, _ => rfl
  | 111, _ => rfl
  | 112, _ => rfl
  | 113, _ => rfl
  | 114, _ => rfl
  | 115, _ => rfl
  | 116, _ => rfl
  | 117, _ => rfl
  | 118, _ => rfl
  | 119, _ => rfl
  | 120, _ => rfl
  | 121, _ => rfl
  | 122, _ => rfl
  | 123, _ => rfl
  | 124, _ => rfl
  | 125, _ => rfl
  | 126, _ => rfl
  | 127, _ => rfl
  | 128, _ => rfl
  | 129, _ => rfl
  | 130, _ => rfl
  | 131, _ => rfl
  | 132, _ => rfl
  | 133, _ => rfl
  | 134, _ => rfl
  | 135, _ => rfl
  | 136, _ => rfl
  | 137, _ => rfl
  | 138, _ => rfl
  | 139, _ => rfl
  | 140, _ => rfl
  | 141, _ => rfl
  | 142, _ => rfl
  | 143, _ => rfl
  | 144, _ => rfl
  | 145, _ => rfl
  | 146, _ => rfl
  | 147, _ => rfl
  | 148, _ => rfl
  | 149, _ => rfl
  | 150, _ => rfl
  | 151, _ => rfl
  | 152, _ => rfl
  | 153, _ => rfl
  | 154, _ => rfl
  | 155, _ => rfl
  | 156, _ => rfl
  | 157, _ => rfl
  | 158, _ => rfl
  | 159, _ => rfl
  | 160, _ => rfl
  | 161, _ => rfl
  | 162, _ => rfl
  | 163, _ => rfl
  | 164, _ => rfl
  | 165, _ => rfl
  | _ + 166, h => absurd h (by omega)
set_option maxRecDepth 100000 in
theorem jm_mp4 : ∀ y, y < 166 → jm_wp (jm_mpp y).2.2.2 (Jvm.Cond.initialized (jm_nm y).cls) = true := by decide +kernel
theorem jm_m_st (y : Nat) (h : y < 166) (hs : jm_sf y = true) : Jvm.Cond.static (jm_nm y) ∈ jm_tb := by
  have := jm_wp_ok (jm_mp1 y h)
  rw [hs] at this
  exact this
theorem jm_m_in (y : Nat) (h : y < 166) (hs : jm_sf y = false) : Jvm.Cond.instanceMethod (jm_nm y) ∈ jm_tb := by
  have := jm_wp_ok (jm_mp1 y h)
  rw [hs] at this
  exact this
theorem jm_m_se (y : Nat) (h : y < 166) (hs : jm_sf y = false) (hn : (jm_nm y).name ≠ "<init>") : jm_oc y < 9 ∧ Jvm.Cond.selects (jm_cn (jm_oc y)) (jm_nm y) (jm_nm y) ∈ jm_tb := ⟨(jm_mp2 y h hs hn).1, jm_wp_ok (jm_mp2 y h hs hn).2⟩
set_option maxRecDepth 100000 in
theorem jm_m_pl : ∀ y, y < 166 → ((jm_nm y).cls ≠ "java/lang/invoke/MethodHandle" ∧ (jm_nm y).cls ≠ "java/lang/invoke/VarHandle") ∧ plainName (jm_nm y).cls = true ∧ (parseMethodDescriptor (jm_nm y).desc).map (fun d => d.parameters.length) = some (jm_ar y) ∧ jm_rk (jm_G y).2.1 (jm_rt0 y) = true ∧ (jm_G y).1 ≤ 40 := by decide +kernel
theorem jm_m_mk {y n : Nat} (h : y < 166) (hn : jm_ar y = n) : jm_mk jm_G jm_nm jm_cd jm_rt0 y n := by
  obtain ⟨a, b, c, d, e⟩ := jm_m_pl y h
  exact ⟨jm_tb_in (List.mem_of_getElem? (jm_mp3 y h)) rfl, jm_wp_ok (jm_mp4 y h), a, b, by rw [c, hn], d, e⟩
