/-! the words that pass from caller to callee, and the facts of the classes -/
def jm_tb : List Jvm.Cond := lw_tbl.filter goodWord
theorem jm_tb_in {w : Jvm.Cond} (h : w ∈ lw_tbl) (g : goodWord w = true) : w ∈ jm_tb := List.mem_filter.mpr ⟨h, g⟩
theorem jm_tb_of {w : Jvm.Cond} (h : w ∈ jm_tb) : w ∈ lw_tbl ∧ goodWord w = true := List.mem_filter.mp h
set_option maxRecDepth 20000 in
theorem jm_wu : ∀ c, c < 9 → ∀ w ∈ u_ws (jm_cn c) (jm_cT c) (jm_nf c), w ∈ jm_tb := by decide +kernel
theorem jm_cl_at : ∀ c, c < 9 → jm_cl[c]? = some (jm_cn c, jm_cT c, jm_nf c)
  | 0, _ => rfl | 1, _ => rfl | 2, _ => rfl | 3, _ => rfl | 4, _ => rfl | 5, _ => rfl | 6, _ => rfl | 7, _ => rfl | 8, _ => rfl
  | _ + 9, h => absurd h (by omega)
theorem jm_ty_ok : ∀ c, c < 9 → ∀ k, k < jm_nf c → parseFieldDescriptor (jm_cT c k).2.2.1 = some (jm_ty c k) := by decide +kernel
theorem jm_nm_ok : ∀ c, c < 9 → ∀ a, a < jm_nf c → ∀ b, b < jm_nf c → a ≠ b → (jm_cT c a).2.1 ≠ (jm_cT c b).2.1 := by decide +kernel
theorem jm_own_ok : ∀ c, c < 9 → ∀ k, k < jm_nf c → (jm_cT c k).1 = jm_cn c := by decide +kernel
theorem jm_fin_ok : ∀ c, c < 9 → ∀ k, k < jm_nf c → (jm_cT c k).2.2.2 = decide (jm_ft c k = 1) := by decide +kernel
theorem jm_ft_lt : ∀ c, c < 9 → ∀ k, k < jm_nf c → jm_ft c k < 4 := by decide +kernel
theorem jm_ty0 : ∀ c, c < 9 → ∀ k, k < jm_nf c → jm_ft c k = 0 → jm_ty c k = .int := by decide +kernel
theorem jm_ty2 : ∀ c, c < 9 → ∀ k, k < jm_nf c → jm_ft c k = 2 → jm_ty c k = .long := by decide +kernel
theorem jm_ty3 : ∀ c, c < 9 → ∀ k, k < jm_nf c → jm_ft c k = 3 → jm_ty c k = .boolean := by decide +kernel
def jm_isq (t : FieldType) : Bool := match t with
  | .object _ => true
  | .array _ => true
  | _ => false
theorem jm_ty1 : ∀ c, c < 9 → ∀ k, k < jm_nf c → jm_ft c k = 1 → jm_isq (jm_ty c k) = true := by decide +kernel
set_option maxRecDepth 20000 in
theorem jm_w_inst : ∀ c, c < 9 → Jvm.Cond.instantiable (jm_cn c) (jm_nf c) ∈ jm_tb := by decide +kernel
set_option maxRecDepth 20000 in
theorem jm_w_init : ∀ c, c < 9 → Jvm.Cond.initialized (jm_cn c) ∈ jm_tb := by decide +kernel
set_option maxRecDepth 20000 in
theorem jm_w_ai : Jvm.Cond.arrayClass FieldType.int ∈ jm_tb := by decide +kernel
set_option maxRecDepth 20000 in
theorem jm_w_az : Jvm.Cond.arrayClass FieldType.boolean ∈ jm_tb := by decide +kernel
set_option maxRecDepth 20000 in
theorem jm_w_o1 : Jvm.Cond.instanceMethod objectInit ∈ jm_tb := by decide +kernel
set_option maxRecDepth 20000 in
theorem jm_w_o2 : Jvm.Cond.code objectInit ⟨#[0xb1]⟩ 1 none ∈ jm_tb := by decide +kernel
set_option maxRecDepth 20000 in
theorem jm_w_c1 : Jvm.Cond.native arraycopyName ∈ jm_tb := by decide +kernel
set_option maxRecDepth 20000 in
theorem jm_w_c2 : Jvm.Cond.static arraycopyName ∈ jm_tb := by decide +kernel
set_option maxRecDepth 20000 in
theorem jm_w_c3 : Jvm.Cond.initialized "java/lang/System" ∈ jm_tb := by decide +kernel
set_option maxRecDepth 20000 in
theorem jm_w_m0 : Jvm.Cond.initialized "java/lang/Math" ∈ jm_tb := by decide +kernel
set_option maxRecDepth 20000 in
theorem jm_w_m1 : Jvm.Cond.static Lib.Math.max.name ∈ jm_tb := by decide +kernel
set_option maxRecDepth 20000 in
theorem jm_w_m2 : Jvm.Cond.code Lib.Math.max.name Lib.Math.max.code 2 (some .int) ∈ jm_tb := by decide +kernel
set_option maxRecDepth 20000 in
theorem jm_w_m3 : Jvm.Cond.static Lib.Math.min.name ∈ jm_tb := by decide +kernel
set_option maxRecDepth 20000 in
theorem jm_w_m4 : Jvm.Cond.code Lib.Math.min.name Lib.Math.min.code 2 (some .int) ∈ jm_tb := by decide +kernel
/-- links to private members of nest mates: these don't pass as words, they are carried -/
def jm_nst : List (String × Nat × MethodName × String) := [(RX2, 31, yX0_init, RX7), (RX2, 32, yX3_init, RX7), (RX7, 40, yX0_init, RX7), (RX7, 47, yX6_init, RX7), (RX7, 54, yX4_init, RX7), (RX0, 52, yX7_has, RX7), (RX3, 39, yX7_has, RX7), (RX1, 59, yX7_has, RX7)]
set_option maxRecDepth 20000 in
theorem jm_nst_in : ∀ q ∈ jm_nst, Jvm.Cond.methodLinkNest q.1 q.2.1 q.2.2.1 q.2.2.2 ∈ lw_tbl := by decide +kernel
set_option maxRecDepth 20000 in
theorem jm_ao_in : ∀ c, c ∈ [RX0, RX1, RX3] → Jvm.Cond.arrayOver (.object c) ∈ lw_tbl := by decide +kernel
def jm_N (U : State) : Prop := (∀ q ∈ jm_nst, va_Nw (.methodLinkNest q.1 q.2.1 q.2.2.1 q.2.2.2) U) ∧ ∀ c, c ∈ [RX0, RX1, RX3] → va_AO c U
theorem jm_N.warm {s U : State} (hW : s.WarmedH U.vm) (h : jm_N s) : jm_N U := ⟨fun q hq => (h.1 q hq).warmM hW, fun c hc => (h.2 c hc).moved hW.alike⟩
theorem jm_N.of {s : State} {args : Array Value} (h : ∀ w ∈ lw_tbl, w.before args s = true) : jm_N s := ⟨fun q hq => va_Nw.of rfl (h _ (jm_nst_in q hq)), fun c hc => va_AO.of (A := args) (h _ (jm_ao_in c hc))⟩
