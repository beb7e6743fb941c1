/-! WHAT THE SMALL MACHINE READS, THE MACHINE DOES -/
def jm_rk (k : Nat) (rt : Option FieldType) : Bool := match k with
  | 0 => match rt with | none => true | _ => false
  | 1 => match rt with | some .int => true | _ => false
  | 2 => match rt with | some .boolean => true | _ => false
  | 3 => match rt with | some (.object _) => true | _ => false
  | _ => false
def jm_mk (G : Nat → jm_M) (nm : Nat → MethodName) (cd : Nat → ByteArray) (rt : Nat → Option FieldType) (u n : Nat) : Prop :=
  Jvm.Cond.code (nm u) (cd u) (G u).1 (rt u) ∈ jm_tb ∧ Jvm.Cond.initialized (nm u).cls ∈ jm_tb ∧ ((nm u).cls ≠ "java/lang/invoke/MethodHandle" ∧ (nm u).cls ≠ "java/lang/invoke/VarHandle") ∧ plainName (nm u).cls = true ∧ (parseMethodDescriptor (nm u).desc).map (fun d => d.parameters.length) = some n ∧ jm_rk (G u).2.1 (rt u) = true ∧ (G u).1 ≤ 40
def jm_tsok (pc : Nat) : Int → List Int → List (Int32 × Nat) → Bool
  | _, [], [] => true
  | lo, o :: os, (c, q) :: ts => decide (c.toInt = lo) && decide ((pc : Int) + o = (q : Int)) && jm_tsok pc (lo + 1) os ts
  | _, _, _ => false
def jm_lsok (pc : Nat) : List (Int × Int) → List (Int32 × Nat) → Bool
  | [], [] => true
  | (a, o) :: os, (c, q) :: ts => decide (c.toInt = a) && decide ((pc : Int) + o = (q : Int)) && jm_lsok pc os ts
  | _, _ => false
/-- what must hold of an instruction of method y at pc; lw is the law's number -/
def jm_iok (G : Nat → jm_M) (nm : Nat → MethodName) (cd : Nat → ByteArray) (rt : Nat → Option FieldType) (lw y pc : Nat) (op : Instr) (len u v w : Nat) (c : Int32) (cl : Int64) (ts : List (Int32 × Nat)) : Prop := match op with
  | .iconst n => len = 1 ∧ Int32.ofInt n = c
  | .bipush n => len = 2 ∧ (Int8.ofInt n).toInt32 = c
  | .sipush n => len = 3 ∧ (Int16.ofInt n).toInt32 = c
  | .ldc i => len = 2 ∧ Jvm.Cond.constant (nm y).cls i c ∈ jm_tb
  | .ldc_w i => len = 3 ∧ Jvm.Cond.constant (nm y).cls i c ∈ jm_tb
  | .ldc2_w i => len = 3 ∧ Jvm.Cond.constantLong (nm y).cls i cl ∈ jm_tb
  | .lconst n => len = 1 ∧ Int64.ofNat (n : Nat) = cl
  | .iload i => len = 2 ∧ i = u
  | .lload i => len = 2 ∧ i = u
  | .aload i => len = 2 ∧ i = u
  | .iload_n i => len = 1 ∧ (i : Nat) = u
  | .lload_n i => len = 1 ∧ (i : Nat) = u
  | .aload_n i => len = 1 ∧ (i : Nat) = u
  | .istore i => len = 2 ∧ i = u ∧ u < (G y).1
  | .astore i => len = 2 ∧ i = u ∧ u < (G y).1
  | .istore_n i => len = 1 ∧ (i : Nat) = u ∧ u < (G y).1
  | .astore_n i => len = 1 ∧ (i : Nat) = u ∧ u < (G y).1
  | .iinc i n => len = 3 ∧ i = u ∧ Int32.ofInt n = c ∧ u < (G y).1
  | .goto o => len = 3 ∧ (pc : Int) + o = (u : Int)
  | .ifCond _ o => len = 3 ∧ (pc : Int) + o = (u : Int)
  | .if_icmp _ o => len = 3 ∧ (pc : Int) + o = (u : Int)
  | .tableswitch df lo hi offs => (pc : Int) + df = (u : Int) ∧ jm_tsok pc lo offs.toList ts = true ∧ hi + 1 = lo + offs.toList.length
  | .lookupswitch df ps => (pc : Int) + df = (u : Int) ∧ jm_lsok pc ps.toList ts = true ∧ (ps.toList.zip (ps.toList.drop 1)).all (fun (a, next) => a.1 < next.1) = true
  | .getfield i => len = 3 ∧ u < 9 ∧ v < jm_nf u ∧ Jvm.Cond.fieldLink (nm y).cls i (jm_cn u) (jm_cT u v).2.1 (jm_cT u v).2.2.1 ∈ jm_tb
  | .putfield i => len = 3 ∧ u < 9 ∧ v < jm_nf u ∧ Jvm.Cond.fieldLink (nm y).cls i (jm_cn u) (jm_cT u v).2.1 (jm_cT u v).2.2.1 ∈ jm_tb ∧ (jm_ft u v = 1 → (nm y).name = "<init>" ∧ (nm y).cls = jm_cn u)
  | .arraylength => len = 1 ∧ (w = 1 → y = lw)
  | .iaload => len = 1 ∧ (w = 1 → y = lw)
  | .newarray a => len = 2 ∧ ((a = .int ∧ u = 9) ∨ (a = .boolean ∧ u = 10))
  | .anewarray i => len = 3 ∧ (11 ≤ u ∧ u ≤ 13) ∧ Jvm.Cond.classLink (nm y).cls i (jm_cn (jm_ec u)) ∈ jm_tb
  | .new i => len = 3 ∧ u < 9 ∧ Jvm.Cond.classLink (nm y).cls i (jm_cn u) ∈ jm_tb
  | .invokevirtual i => len = 3 ∧ 0 < v ∧ w < 9 ∧ u ≠ lw ∧ (nm u).cls = jm_cn w ∧ Jvm.Cond.methodLink (nm y).cls i (nm u) ∈ jm_tb ∧ Jvm.Cond.instanceMethod (nm u) ∈ jm_tb ∧ Jvm.Cond.selects (jm_cn w) (nm u) (nm u) ∈ jm_tb ∧ jm_mk G nm cd rt u (v - 1)
  | .invokestatic i => len = 3 ∧ (w = 7 → Jvm.Cond.methodLink (nm y).cls i arraycopyName ∈ jm_tb) ∧ (w = 8 → Jvm.Cond.methodLink (nm y).cls i Lib.Math.max.name ∈ jm_tb) ∧ (w = 9 → Jvm.Cond.methodLink (nm y).cls i Lib.Math.min.name ∈ jm_tb) ∧ (w ≠ 7 → w ≠ 8 → w ≠ 9 → u ≠ lw ∧ Jvm.Cond.static (nm u) ∈ jm_tb ∧ (Jvm.Cond.methodLink (nm y).cls i (nm u) ∈ jm_tb ∨ ((nm y).cls, i, nm u, RX7) ∈ jm_nst) ∧ jm_mk G nm cd rt u v)
  | .invokespecial i => len = 3 ∧ (w = 7 → Jvm.Cond.methodLink (nm y).cls i objectInit ∈ jm_tb) ∧ (w ≠ 7 → 0 < v ∧ u ≠ lw ∧ (nm u).name = "<init>" ∧ Jvm.Cond.instanceMethod (nm u) ∈ jm_tb ∧ (Jvm.Cond.methodLink (nm y).cls i (nm u) ∈ jm_tb ∨ ((nm y).cls, i, nm u, RX7) ∈ jm_nst) ∧ (rt u = none) ∧ jm_mk G nm cd rt u (v - 1))
  | _ => len = 1
/-- what an activation of method y rests on -/
def jm_Cx (E : jm_Ev) (G : Nat → jm_M) (nm : Nat → MethodName) (cd : Nat → ByteArray) (lw y n0 : Nat) (p : Program) (s : State) (m : MethodId) (args : Array Value) (meth : Method) (c : Code) : Prop :=
  p.tables.exec = Jvm.exec ∧ c.code = cd y ∧ c.maxLocals = (G y).1 ∧ s.vm.findClass (nm y).cls = some m.cls ∧ (∀ w ∈ jm_tb, w.before args s = true) ∧ va_K E.2.2.1 jm_cl (jm_tys E) s ∧ jm_N s ∧ s.heap.size = E.2.1 + n0 ∧ ((nm y).name = "<init>" → meth.name = "<init>") ∧ (y = lw → va_X E.1 E.2.2.2.2.1 E.2.2.2.2.2 s s.heap ∧ E.1 < s.heap.size ∧ E.1 < E.2.1)
def jm_Wk (E : jm_Ev) (p : Program) (l : Launch) (e : Env) (R : Room) (s : State) (m : MethodId) (args : Array Value) (below : List Frame) (meth : Method) (c : Code) (Q : State → Prop) (nL n0 s0 pc : Nat) (ls : jm_V) (st : List Value) (t : jm_T) : Prop :=
  ∀ (H : Heap) (locs : List Loc) (lsA : Array Slot) (cells slots : Nat), jm_P E t H → va_S (jm_A E) s.heap H locs → jm_L E ls nL lsA → cells + n0 = t.1.1 → slots + s0 = t.1.2.1 → W p l e R s m args below meth c H locs cells slots Q (F0 m pc lsA (st.map (jm_mv E)))
/-- a return: its instruction, what it gives -/
def jm_rt (k : Nat) (op : Instr) (v : Option Value) : Prop :=
  (op = .ireturn ∧ ∃ x : Int32, v = some (.int x) ∧ (k = 1 ∨ (k = 2 ∧ (x = 0 ∨ x = 1)))) ∨ (op = .areturn ∧ k = 3 ∧ ∃ a : Nat, v = some (.ref a)) ∨ (op = .return_ ∧ k = 0 ∧ v = none)
section JS
variable {p : Program} {l : Launch} {e : Env} {R : Room} {s : State} {m : MethodId} {args : Array Value} {below : List Frame} {meth : Method} {c : Code} {H : Heap} {locs : List Loc} {cells slots : Nat} {Q : State → Prop}
theorem jm_sz {E : jm_Ev} {t : jm_T} {n0 : Nat} {g : JFrame} (hz : s.heap.size = E.2.1 + n0) (hP : jm_P E t H) (hS : va_S (jm_A E) s.heap H locs) (hc : cells + n0 = t.1.1) (k : H.size = E.2.1 + t.1.1 → W p l e R s m args below meth c H locs cells slots Q g) : W p l e R s m args below meth c H locs cells slots Q g := by
  intro T hT X
  have h1 := X.heapSize
  rw [hT] at h1
  have h2 : E.2.1 + t.1.1 ≤ H.size := by
    cases hn : t.1.1 with
    | zero =>
      have := hS.1
      omega
    | succ j =>
      have h3 := (hP.1 j _ (jm_ws_at E t (by omega))).lt
      dsimp only at h3
      omega
  exact k (by omega) T hT X
/-- a new cell's address -/
theorem jm_q {E : jm_Ev} {t : jm_T} {q : Nat} {x : va_E} {H1 : Heap} (hP : va_P E.2.2.1 jm_cl (jm_ws E t ++ [(q, x)]) H1) (hD : va_D (jm_A E) (jm_ws E t ++ [(q, x)])) (hz : H1.size ≤ E.2.1 + t.1.1 + 1) : q = E.2.1 + t.1.1 := by
  have hl : (jm_ws E t).length = t.1.1 := by simp [jm_ws]
  have hq : (jm_ws E t ++ [(q, x)])[t.1.1]? = some (q, x) := by
    rw [List.getElem?_append_right (by omega), hl, Nat.sub_self]; rfl
  have h1 := (hP _ _ hq).lt
  have h2 : E.2.1 ≤ q := hD.2 _ _ hq
  dsimp only at h1
  rcases Nat.lt_or_ge q (E.2.1 + t.1.1) with h | h
  · have hj : q - E.2.1 < t.1.1 := by omega
    have h3 : (jm_ws E t ++ [(q, x)])[q - E.2.1]? = some (E.2.1 + (q - E.2.1), jm_E E t (q - E.2.1 + 1)) := by
      rw [List.getElem?_append_left (by omega), jm_ws_at E t hj]
    have := hD.1 _ _ _ _ h3 hq (by dsimp only; omega)
    omega
  · omega
/-- the heap's size behind a new cell -/
theorem jm_sz1 {E : jm_Ev} {n0 k : Nat} {g : JFrame} (hz : s.heap.size = E.2.1 + n0) (hc : cells + n0 = k) (kk : H.size ≤ E.2.1 + k → W p l e R s m args below meth c H locs cells slots Q g) : W p l e R s m args below meth c H locs cells slots Q g := by
  intro T hT X
  have h1 := X.heapSize
  rw [hT] at h1
  exact kk (by omega) T hT X
theorem jm_E_off {E : jm_Ev} {t t' : jm_T} {b : Nat} (h1 : t'.1.2.2.1 b = t.1.2.2.1 b) (h2 : t'.1.2.2.2.1 b = t.1.2.2.2.1 b) (h3 : t'.1.2.2.2.2 b = t.1.2.2.2.2 b) (h4 : t'.2.1 b = t.2.1 b) (h5 : t'.2.2 b = t.2.2 b) : jm_E E t' b = jm_E E t b := by
  have hf : ∀ c, jm_fs E t' c b = jm_fs E t c b := fun c => by
    unfold jm_fs
    congr 1
    funext k
    simp only [jm_fv, h3, h4, h5]
  simp only [jm_E, h1, h2, h3, h4, hf]
theorem va_up_ne' {α : Type} {f : Nat → α} {k j : Nat} {v : α} (h : j ≠ k) : va_up f k v j = f j := by simp [va_up, h]
theorem va_up_eq' {α : Type} {f : Nat → α} {k : Nat} {v : α} : va_up f k v k = v := by simp [va_up]
end JS
