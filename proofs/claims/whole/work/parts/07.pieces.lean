/-! pieces of the one-step law -/
theorem jm_bt {b : Bool} {A B : Option jm_R} {r : jm_R} (hb : b = true) (h : (bif b then A else B) = some r) : A = some r := by subst hb; exact h
theorem jm_bf {b : Bool} {A B : Option jm_R} {r : jm_R} (hb : b = false) (h : (bif b then A else B) = some r) : B = some r := by subst hb; exact h
def jm_wm (G : Nat → jm_M) (nm : Nat → MethodName) (cd : Nat → ByteArray) (rt : Nat → Option FieldType) (u : Nat) : List Jvm.Cond := Jvm.Cond.code (nm u) (cd u) (G u).1 (rt u) :: jm_tb
def jm_pre (E : jm_Ev) (t : jm_T) (U : State) : Prop := U.heap.size = E.2.1 + t.1.1 ∧ jm_P E t U.heap ∧ va_K E.2.2.1 jm_cl (jm_tys E) U ∧ jm_N U
def jm_Q (E : jm_Ev) (r : jm_R) : Array Value → State → Outcome → State → Prop := fun _ st oc t => oc = .returned (r.1.map (jm_mv E)) ∧ jm_P E r.2 t.heap ∧ va_F (jm_A E) st t
def jm_rm (d mc ms : Nat) : Room := { frames := d, cells := mc, slots := ms, locals := 64 * d }
/-- the contract of a callee -/
def jm_Ct (l : Launch) (E : jm_Ev) (G : Nat → jm_M) (nm : Nat → MethodName) (cd : Nat → ByteArray) (rt : Nat → Option FieldType) (u d : Nat) (as : List Value) (t : jm_T) (r : jm_R) : Prop :=
  Met l (nm u) (jm_wm G nm cd rt u) (jm_rm d (r.2.1.1 - t.1.1) (r.2.1.2.1 - t.1.2.1)) (va_Pc (as.map (jm_mv E)) (jm_pre E t)) (jm_Q E r) (r.2.1.1 - t.1.1) (r.2.1.2.1 - t.1.2.1) (jm_A E)
theorem jm_N.vm {s U : State} (h : s.vm = U.vm) (hN : jm_N s) : jm_N U := ⟨fun q hq => (hN.1 q hq).same rfl h, fun c hc => (hN.2 c hc).moved (by rw [h]; exact Vm.Alike.refl U.vm)⟩
theorem jm_blind (E : jm_Ev) (t : jm_T) (av : List Value) : FrameBlind (va_Pc av (jm_pre E t)) := by
  intro a U g mk q
  obtain ⟨q0, q1, qP, qK, qN⟩ := q
  exact ⟨q0, q1, qP, va_K.moved (u := U) (U := U.calling g mk a) (Vm.Alike.refl U.vm) qK, jm_N.vm (s := U) (U := U.calling g mk a) rfl qN⟩
theorem jm_good (G : Nat → jm_M) (nm : Nat → MethodName) (cd : Nat → ByteArray) (rt : Nat → Option FieldType) (u : Nat) (h : Jvm.Cond.code (nm u) (cd u) (G u).1 (rt u) ∈ jm_tb) : GoodIn jm_tb (jm_wm G nm cd rt u) := by
  intro w hw
  have hm : w ∈ jm_tb := by
    rcases List.mem_cons.mp hw with rfl | hw
    · exact h
    · exact hw
  exact ⟨hm, good_of_word (jm_tb_of hm).2⟩
theorem jm_swt {k : Nat → Option jm_R} {x : Int32} {d pc : Nat} {r : jm_R} : ∀ {offs : List Int} {lo : Int} {ts : List (Int32 × Nat)}, jm_tsok pc lo offs ts = true → jm_sw k x d ts = some r → ((x.toInt < lo ∨ lo + offs.length ≤ x.toInt) ∧ k d = some r) ∨ ∃ (j : Nat) (o : Int) (q : Nat), x.toInt = lo + j ∧ offs[j]? = some o ∧ (pc : Int) + o = (q : Int) ∧ k q = some r
  | [], lo, [], _, h => Or.inl ⟨by simp; omega, h⟩
  | [], _, _ :: _, hk, _ => by simp [jm_tsok] at hk
  | _ :: _, _, [], hk, _ => by simp [jm_tsok] at hk
  | o :: os, lo, (c, q) :: ts, hk, h => by
    simp only [jm_tsok, Bool.and_eq_true, decide_eq_true_eq] at hk
    obtain ⟨⟨h1, h2⟩, h3⟩ := hk
    by_cases hx : x = c
    · subst hx
      exact Or.inr ⟨0, o, q, by omega, rfl, h2, jm_bt (decide_eq_true rfl) h⟩
    · have hne : x.toInt ≠ lo := fun e => hx (Int32.toInt_inj.mp (by rw [e, h1]))
      rcases jm_swt h3 (jm_bf (decide_eq_false hx) h) with ⟨a, b⟩ | ⟨j, o', q', a, b, c', e⟩
      · refine Or.inl ⟨?_, b⟩
        simp only [List.length_cons]
        omega
      · exact Or.inr ⟨j + 1, o', q', by omega, by simpa using b, c', e⟩
theorem jm_swl {k : Nat → Option jm_R} {x : Int32} {d pc : Nat} {df : Int} {r : jm_R} (hd : (pc : Int) + df = (d : Int)) : ∀ {ps : List (Int × Int)} {ts : List (Int32 × Nat)}, jm_lsok pc ps ts = true → jm_sw k x d ts = some r → ∃ q : Nat, (pc : Int) + Op.lookupswitch.offset ps df x.toInt = (q : Int) ∧ k q = some r
  | [], [], _, h => ⟨d, hd, h⟩
  | [], _ :: _, hk, _ => by simp [jm_lsok] at hk
  | _ :: _, [], hk, _ => by simp [jm_lsok] at hk
  | (a, o) :: os, (c, q) :: ts, hk, h => by
    simp only [jm_lsok, Bool.and_eq_true, decide_eq_true_eq] at hk
    obtain ⟨⟨h1, h2⟩, h3⟩ := hk
    by_cases hx : x = c
    · subst hx
      exact ⟨q, by rw [Op.lookupswitch.offset_cons, if_pos h1.symm]; exact h2, jm_bt (decide_eq_true rfl) h⟩
    · obtain ⟨q', e1, e2⟩ := jm_swl hd h3 (jm_bf (decide_eq_false hx) h)
      exact ⟨q', by rw [Op.lookupswitch.offset_cons, if_neg (fun e => hx (Int32.toInt_inj.mp (by rw [← e, h1])))]; exact e1, e2⟩
theorem jm_P_arr {E : jm_Ev} {t : jm_T} {H H1 : Heap} {j kd : Nat} {f : Nat → Int32} (hP : jm_P E t H) (hj : j < t.1.1) (hk : t.1.2.2.1 (j + 1) = kd) (h9 : 9 ≤ kd) (h11 : kd < 11)
    (hP1 : va_P E.2.2.1 jm_cl ((jm_ws E t).set j (E.2.1 + j, .inl (E.2.2.2.1 kd, t.1.2.2.2.1 (j + 1), .inl f))) H1) : jm_P E (t.1, va_up t.2.1 (j + 1) f, t.2.2) H1 := by
  refine ⟨?_, ?_, hP.2.2⟩
  · rw [jm_ws_set E t (t.1, va_up t.2.1 (j + 1) f, t.2.2) (j := j) (x := .inl (E.2.2.2.1 kd, t.1.2.2.2.1 (j + 1), .inl f)) rfl ?_ (fun b hb => jm_E_off rfl rfl rfl (va_up_ne' hb) rfl) hj]
    · exact hP1
    · rw [jm_E_int E (t.1, va_up t.2.1 (j + 1) f, t.2.2) hk h9 h11]
      dsimp only
      rw [va_up_eq']
  · show va_up t.2.1 (j + 1) f 0 = _
    rw [va_up_ne' (by omega)]
    exact hP.2.1
theorem jm_P_obj {E : jm_Ev} {t t' : jm_T} {H H1 : Heap} {j u k : Nat} {x : Value} (hP : jm_P E t H) (hj : j < t.1.1) (hk : t.1.2.2.1 (j + 1) = u) (hu : u < 9) (hkn : k < jm_nf u) (e1 : t'.1.1 = t.1.1) (e2 : t'.1.2.2.1 = t.1.2.2.1) (e3 : t'.1.2.2.2.1 = t.1.2.2.2.1)
    (o3 : ∀ b, b ≠ j + 1 → t'.1.2.2.2.2 b = t.1.2.2.2.2 b) (o4 : ∀ b, b ≠ j + 1 → t'.2.1 b = t.2.1 b) (o5 : ∀ b, b ≠ j + 1 → t'.2.2 b = t.2.2 b)
    (f1 : jm_fv E t' u (j + 1) k = x) (f2 : ∀ i, i ≠ k → jm_fv E t' u (j + 1) i = jm_fv E t u (j + 1) i)
    (hP1 : va_P E.2.2.1 jm_cl ((jm_ws E t).set j (E.2.1 + j, .inr (u, (jm_fs E t u (j + 1)).set k x))) H1) : jm_P E t' H1 := by
  refine ⟨?_, ?_, ?_⟩
  · rw [jm_ws_set E t t' (j := j) (x := .inr (u, (jm_fs E t u (j + 1)).set k x)) e1 ?_ (fun b hb => jm_E_off (by rw [e2]) (by rw [e3]) (o3 b hb) (o4 b hb) (o5 b hb)) hj]
    · exact hP1
    · rw [jm_E_obj E t' (show t'.1.2.2.1 (j + 1) = u by rw [e2]; exact hk) hu, jm_fs_set E t t' f1 f2 hkn]
  · rw [o4 0 (by omega)]
    exact hP.2.1
  · rw [e3]
    exact hP.2.2
theorem jm_P_ref {E : jm_Ev} {t : jm_T} {H H1 : Heap} {j kd i b : Nat} (hP : jm_P E t H) (hj : j < t.1.1) (hk : t.1.2.2.1 (j + 1) = kd) (h11 : 11 ≤ kd)
    (hP1 : va_P E.2.2.1 jm_cl ((jm_ws E t).set j (E.2.1 + j, .inl (E.2.2.2.1 kd, t.1.2.2.2.1 (j + 1), .inr (.inr (.inr (.inr (va_up (fun q => (t.1.2.2.2.2 (j + 1) q).map (jm_ad E)) i (some (jm_ad E b)))))))))  H1) : jm_P E ((t.1.1, t.1.2.1, t.1.2.2.1, t.1.2.2.2.1, jm_upR t.1.2.2.2.2 (j + 1) i (some b)), t.2.1, t.2.2) H1 := by
  refine ⟨?_, hP.2.1, hP.2.2⟩
  rw [jm_ws_set E t ((t.1.1, t.1.2.1, t.1.2.2.1, t.1.2.2.2.1, jm_upR t.1.2.2.2.2 (j + 1) i (some b)), t.2.1, t.2.2) (j := j) rfl rfl (fun b hb => jm_E_off rfl rfl (by show va_up _ _ _ b = _; rw [va_up_ne' hb]) rfl rfl) hj]
  rw [jm_E_ref E ((t.1.1, t.1.2.1, t.1.2.2.1, t.1.2.2.2.1, jm_upR t.1.2.2.2.2 (j + 1) i (some b)), t.2.1, t.2.2) (c := kd) hk h11]
  have e : (fun q => (jm_upR t.1.2.2.2.2 (j + 1) i (some b) (j + 1) q).map (jm_ad E)) = va_up (fun q => (t.1.2.2.2.2 (j + 1) q).map (jm_ad E)) i (some (jm_ad E b)) := by
    funext q
    unfold jm_upR
    rw [va_up_eq']
    by_cases hq : q = i
    · subst hq; rw [va_up_eq', va_up_eq']; rfl
    · rw [va_up_ne' hq, va_up_ne' hq]
  dsimp only
  rw [e]
  exact hP1
theorem jm_P_new {E : jm_Ev} {t : jm_T} {H H1 : Heap} {kd len slots : Nat} {x : va_E} (hP : jm_P E t H) (hx : jm_E E (jm_nw t kd len slots) (t.1.1 + 1) = x) (hP1 : va_P E.2.2.1 jm_cl (jm_ws E t ++ [(E.2.1 + t.1.1, x)]) H1) : jm_P E (jm_nw t kd len slots) H1 := by
  refine ⟨?_, ?_, ?_⟩
  · rw [jm_ws_push E t (jm_nw t kd len slots) rfl hx (fun b hb => jm_E_off (va_up_ne' hb) (va_up_ne' hb) (va_up_ne' hb) (va_up_ne' hb) (va_up_ne' hb))]
    exact hP1
  · show va_up t.2.1 (t.1.1 + 1) (fun _ => 0) 0 = _
    rw [va_up_ne' (by omega)]
    exact hP.2.1
  · show va_up t.1.2.2.2.1 (t.1.1 + 1) len 0 = _
    rw [va_up_ne' (by omega)]
    exact hP.2.2
theorem jm_tys_i {E : jm_Ev} {s : State} {D : va_G} {cl : List vw_C} {tys : List (ClassId × FieldType)} {a b : ClassId} {ty : FieldType} {i j : Nat} (hK : va_K D cl tys s) (hi : tys[i]? = some (a, ty)) (hj : tys[j]? = some (b, ty)) : a = b := by
  have h1 := (hK.2 i _ hi).2
  have h2 := (hK.2 j _ hj).2
  cases ty with
  | object C =>
    obtain ⟨_, _, _, _, _, f1⟩ := h1
    obtain ⟨_, _, _, _, _, f2⟩ := h2
    exact Option.some.inj (f1.symm.trans f2)
  | _ => exact Option.some.inj ((show s.vm.findClass _ = some a from h1).symm.trans (show s.vm.findClass _ = some b from h2))
theorem jm_nq {ty : FieldType} (h : jm_isq ty = true) (a : Nat) : narrow ty (.ref a) = .ref a ∧ fits ty (.ref a) = true := by
  cases ty <;> first | (simp [jm_isq] at h; done) | exact ⟨rfl, rfl⟩
theorem jm_tys_q (E : jm_Ev) {k : Nat} (h1 : 11 ≤ k) (h2 : k ≤ 13) : (jm_tys E)[k - 9]? = some (E.2.2.2.1 k, .object (jm_cn (jm_ec k))) := by
  rcases (show k = 11 ∨ k = 12 ∨ k = 13 by omega) with rfl | rfl | rfl <;> rfl
theorem jm_ec_lt (k : Nat) : jm_ec k < 9 := by
  unfold jm_ec
  split <;> omega
theorem jm_ec_in (k : Nat) : jm_cn (jm_ec k) ∈ [RX0, RX1, RX3] := by
  unfold jm_ec
  split <;> simp [jm_cn]
theorem jm_st_eq {st as : List Value} {v : Nat} {x : Value} (h : (st.take v).reverse = x :: as) : st = as.reverse ++ x :: st.drop v := by
  have h2 : st.take v = as.reverse ++ [x] := by
    have := congrArg List.reverse h
    simpa using this
  conv => lhs; rw [← List.take_append_drop v st, h2]
  simp
theorem jm_tl {f : Value → Value} (o : Option Value) (l : List Value) : (o.toList ++ l).map f = (o.map f).toList ++ l.map f := by
  cases o <;> simp
theorem jm_fs_new (E : jm_Ev) (t : jm_T) {u : Nat} (hu : u < 9) : ∀ j, j < jm_nf u → defaultValue (jm_ty u j) = vp_V (jm_fs E (jm_nw t u 0 (jm_nf u)) u (t.1.1 + 1)) j := by
  intro j hj
  have e : vp_V (jm_fs E (jm_nw t u 0 (jm_nf u)) u (t.1.1 + 1)) j = jm_fv E (jm_nw t u 0 (jm_nf u)) u (t.1.1 + 1) j := by
    unfold vp_V
    rw [List.getD_eq_getElem?_getD, jm_fs_at E _ hj]
    rfl
  rw [e]
  have hlt := jm_ft_lt u hu j hj
  rcases (show jm_ft u j = 0 ∨ jm_ft u j = 1 ∨ jm_ft u j = 2 ∨ jm_ft u j = 3 by omega) with h | h | h | h
  · rw [jm_ty0 u hu j hj h]
    simp [jm_fv, h, jm_nw, va_up, defaultValue]
  · have hq := jm_ty1 u hu j hj h
    cases hty : jm_ty u j <;> rw [hty] at hq <;> first | (simp [jm_isq] at hq; done) | simp [jm_fv, h, jm_nw, va_up, defaultValue, va_rf]
  · rw [jm_ty2 u hu j hj h]
    simp [jm_fv, h, jm_nw, va_up, defaultValue]
  · rw [jm_ty3 u hu j hj h]
    simp [jm_fv, h, jm_nw, va_up, defaultValue]
section JC
variable {p : Program} {l : Launch} {e : Env} {R : Room} {s : State} {m : MethodId} {args : Array Value} {below : List Frame} {meth : Method} {c : Code} {H : Heap} {locs : List Loc} {cells slots : Nat} {Q : State → Prop}
theorem jm_call {E : jm_Ev} {r : jm_R} {pc mc ms : Nat} {lsA : Array Slot} {st0 rest : List Value} {a : Array Value} (hr : va_Run p l e R s m args below meth c H locs cells slots mc ms (F0 m pc lsA st0) rest (jm_Q E r a) (jm_A E)) (hS : va_S (jm_A E) s.heap H locs)
    (kk : ∀ (H1 : Heap) (locs1 : List Loc), jm_P E r.2 H1 → va_S (jm_A E) s.heap H1 locs1 → W p l e R s m args below meth c H1 locs1 (cells + mc) (slots + ms) Q (F0 m (pc + 3) lsA ((r.1.map (jm_mv E)).toList ++ rest))) : W p l e R s m args below meth c H locs cells slots Q (F0 m pc lsA st0) := by
  intro T hT X
  obtain ⟨v, st₀, t, T', L, h0, X', hL, e1, e2, ⟨hv, hp, hz, hq⟩, st⟩ := hr T hT X
  have hv' : v = r.1.map (jm_mv E) := Outcome.returned.inj hv
  subst hv'
  rw [h0] at hz hq
  obtain ⟨t2, a1, b1⟩ := kk T'.heap (locs ++ L) (by rw [e1]; exact hp) ⟨Nat.le_trans hS.1 (by rw [e1]; exact hz), fun q h1 h2 => by rw [e1, hq q (Nat.lt_of_lt_of_le h1 hS.1) h2]; exact hS.2.1 q h1 h2, fun q hq => by
      rcases List.mem_append.mp hq with h | h
      · exact hS.2.2 q h
      · exact hL q h⟩ T' rfl X'
  exact ⟨t2, st t2 a1, b1⟩
end JC
