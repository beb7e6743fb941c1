/-! the shape behind the constructors is jm_S0 -/
def jm_hi (t : jm_T) : Prop := (∀ a, t.1.1 < a → t.1.2.2.1 a = 99 ∧ t.1.2.2.2.1 a = 0 ∧ ∀ j, t.1.2.2.2.2 a j = none) ∧ ∀ a j, 16 ≤ j → t.1.2.2.2.2 a j = none
theorem jm_hi_nw {t : jm_T} (h : jm_hi t) (k l s : Nat) : jm_hi (jm_nw t k l s) := by
  refine ⟨fun a ha => ?_, fun a j hj => ?_⟩
  · have ha' : t.1.1 + 1 < a := ha
    obtain ⟨h1, h2, h3⟩ := h.1 a (by omega)
    exact ⟨(va_up_ne' (by omega)).trans h1, (va_up_ne' (by omega)).trans h2, fun j => (congrFun (va_up_ne' (f := t.1.2.2.2.2) (by omega)) j).trans (h3 j)⟩
  · show va_up t.1.2.2.2.2 (t.1.1 + 1) (fun _ => none) a j = none
    by_cases ha : a = t.1.1 + 1
    · subst ha; rw [va_up_eq']
    · rw [va_up_ne' ha]; exact h.2 a j hj
theorem jm_hi_pi {t : jm_T} (h : jm_hi t) (a k : Nat) (v : Int32) : jm_hi (jm_pi t a k v) := h
theorem jm_hi_pj {t : jm_T} (h : jm_hi t) (a k : Nat) (v : Int64) : jm_hi (jm_pj t a k v) := h
theorem jm_hi_ff {t : jm_T} (h : jm_hi t) (a k : Nat) (v : Int32) : jm_hi (jm_ff t a k v) := h
theorem jm_hi_pr {t : jm_T} (h : jm_hi t) (a k b : Nat) (ha : a ≤ t.1.1) (hk : k < 16) : jm_hi (jm_pr t a k b) := by
  refine ⟨fun c hc => ?_, fun c j hj => ?_⟩
  · have hc' : t.1.1 < c := hc
    obtain ⟨h1, h2, h3⟩ := h.1 c hc'
    refine ⟨h1, h2, fun j => ?_⟩
    show va_up t.1.2.2.2.2 a _ c j = none
    rw [va_up_ne' (by omega)]
    exact h3 j
  · show va_up t.1.2.2.2.2 a (va_up (t.1.2.2.2.2 a) k (some b)) c j = none
    by_cases hca : c = a
    · subst hca
      rw [va_up_eq', va_up_ne' (by omega)]
      exact h.2 c j hj
    · rw [va_up_ne' hca]
      exact h.2 c j hj
theorem jm_hi_kF {t : jm_T} (h : jm_hi t) (a : Nat) (ha : a ≤ t.1.1) : jm_hi (jm_kF t a) := by
  refine jm_hi_ff (jm_hi_ff (jm_hi_pr (jm_hi_nw (jm_hi_pr (jm_hi_nw (jm_hi_pi (jm_hi_pi (jm_hi_pi h _ _ _) _ _ _) _ _ _) _ _ _) _ _ _ ?_ (by omega)) _ _ _) _ _ _ ?_ (by omega)) _ _ _) _ _ _
  · exact Nat.le_succ_of_le ha
  · exact Nat.le_succ_of_le (Nat.le_succ_of_le ha)
theorem hi0 (L : Nat) (xs : Nat → Int32) : jm_hi (kt0 L xs) := by
  refine ⟨fun a ha => ⟨rfl, ?_, fun j => rfl⟩, fun a j hj => rfl⟩
  show (bif Nat.beq a 0 then L else 0) = 0
  cases a with
  | zero => exact absurd ha (Nat.lt_irrefl 0)
  | succ a => rfl
theorem hi1 (L : Nat) (xs : Nat → Int32) : jm_hi (kt1 L xs) := jm_hi_nw (hi0 L xs) 7 0 8
theorem hi2 (L : Nat) (xs : Nat → Int32) : jm_hi (kt2 L xs) := jm_hi_nw (hi1 L xs) 1 0 5
theorem hi3 (L : Nat) (xs : Nat → Int32) : jm_hi (kt3 L xs) := jm_hi_kF (hi2 L xs) 2 (Nat.le_of_ble_eq_true rfl)
theorem hi4 (L : Nat) (xs : Nat → Int32) : jm_hi (kt4 L xs) := jm_hi_pr (hi3 L xs) 1 0 2 (Nat.le_of_ble_eq_true rfl) (Nat.le_of_ble_eq_true rfl)
theorem hi5 (L : Nat) (xs : Nat → Int32) : jm_hi (kt5 L xs) := jm_hi_nw (hi4 L xs) 5 0 3
theorem hi6 (L : Nat) (xs : Nat → Int32) : jm_hi (kt6 L xs) := jm_hi_nw (hi5 L xs) 12 8 8
theorem hi7 (L : Nat) (xs : Nat → Int32) : jm_hi (kt7 L xs) := jm_hi_pr (hi6 L xs) 5 0 6 (Nat.le_of_ble_eq_true rfl) (Nat.le_of_ble_eq_true rfl)
theorem hi8 (L : Nat) (xs : Nat → Int32) : jm_hi (kt8 L xs) := jm_hi_pi (hi7 L xs) 5 1 0
theorem hi9 (L : Nat) (xs : Nat → Int32) : jm_hi (kt9 L xs) := jm_hi_pi (hi8 L xs) 5 2 0
theorem hi10 (L : Nat) (xs : Nat → Int32) : jm_hi (kt10 L xs) := jm_hi_nw (hi9 L xs) 1 0 5
theorem hi11 (L : Nat) (xs : Nat → Int32) : jm_hi (kt11 L xs) := jm_hi_kF (hi10 L xs) 7 (Nat.le_of_ble_eq_true rfl)
theorem hi12 (L : Nat) (xs : Nat → Int32) : jm_hi (kt12 L xs) := jm_hi_pr (hi11 L xs) 6 0 7 (Nat.le_of_ble_eq_true rfl) (Nat.le_of_ble_eq_true rfl)
theorem hi13 (L : Nat) (xs : Nat → Int32) : jm_hi (kt13 L xs) := jm_hi_nw (hi12 L xs) 1 0 5
theorem hi14 (L : Nat) (xs : Nat → Int32) : jm_hi (kt14 L xs) := jm_hi_kF (hi13 L xs) 10 (Nat.le_of_ble_eq_true rfl)
theorem hi15 (L : Nat) (xs : Nat → Int32) : jm_hi (kt15 L xs) := jm_hi_pr (hi14 L xs) 6 1 10 (Nat.le_of_ble_eq_true rfl) (Nat.le_of_ble_eq_true rfl)
theorem hi16 (L : Nat) (xs : Nat → Int32) : jm_hi (kt16 L xs) := jm_hi_nw (hi15 L xs) 1 0 5
theorem hi17 (L : Nat) (xs : Nat → Int32) : jm_hi (kt17 L xs) := jm_hi_kF (hi16 L xs) 13 (Nat.le_of_ble_eq_true rfl)
theorem hi18 (L : Nat) (xs : Nat → Int32) : jm_hi (kt18 L xs) := jm_hi_pr (hi17 L xs) 6 2 13 (Nat.le_of_ble_eq_true rfl) (Nat.le_of_ble_eq_true rfl)
theorem hi19 (L : Nat) (xs : Nat → Int32) : jm_hi (kt19 L xs) := jm_hi_nw (hi18 L xs) 1 0 5
theorem hi20 (L : Nat) (xs : Nat → Int32) : jm_hi (kt20 L xs) := jm_hi_kF (hi19 L xs) 16 (Nat.le_of_ble_eq_true rfl)
theorem hi21 (L : Nat) (xs : Nat → Int32) : jm_hi (kt21 L xs) := jm_hi_pr (hi20 L xs) 6 3 16 (Nat.le_of_ble_eq_true rfl) (Nat.le_of_ble_eq_true rfl)
theorem hi22 (L : Nat) (xs : Nat → Int32) : jm_hi (kt22 L xs) := jm_hi_nw (hi21 L xs) 1 0 5
theorem hi23 (L : Nat) (xs : Nat → Int32) : jm_hi (kt23 L xs) := jm_hi_kF (hi22 L xs) 19 (Nat.le_of_ble_eq_true rfl)
theorem hi24 (L : Nat) (xs : Nat → Int32) : jm_hi (kt24 L xs) := jm_hi_pr (hi23 L xs) 6 4 19 (Nat.le_of_ble_eq_true rfl) (Nat.le_of_ble_eq_true rfl)
theorem hi25 (L : Nat) (xs : Nat → Int32) : jm_hi (kt25 L xs) := jm_hi_nw (hi24 L xs) 1 0 5
theorem hi26 (L : Nat) (xs : Nat → Int32) : jm_hi (kt26 L xs) := jm_hi_kF (hi25 L xs) 22 (Nat.le_of_ble_eq_true rfl)
theorem hi27 (L : Nat) (xs : Nat → Int32) : jm_hi (kt27 L xs) := jm_hi_pr (hi26 L xs) 6 5 22 (Nat.le_of_ble_eq_true rfl) (Nat.le_of_ble_eq_true rfl)
theorem hi28 (L : Nat) (xs : Nat → Int32) : jm_hi (kt28 L xs) := jm_hi_nw (hi27 L xs) 1 0 5
theorem hi29 (L : Nat) (xs : Nat → Int32) : jm_hi (kt29 L xs) := jm_hi_kF (hi28 L xs) 25 (Nat.le_of_ble_eq_true rfl)
theorem hi30 (L : Nat) (xs : Nat → Int32) : jm_hi (kt30 L xs) := jm_hi_pr (hi29 L xs) 6 6 25 (Nat.le_of_ble_eq_true rfl) (Nat.le_of_ble_eq_true rfl)
theorem hi31 (L : Nat) (xs : Nat → Int32) : jm_hi (kt31 L xs) := jm_hi_nw (hi30 L xs) 1 0 5
theorem hi32 (L : Nat) (xs : Nat → Int32) : jm_hi (kt32 L xs) := jm_hi_kF (hi31 L xs) 28 (Nat.le_of_ble_eq_true rfl)
theorem hi33 (L : Nat) (xs : Nat → Int32) : jm_hi (kt33 L xs) := jm_hi_pr (hi32 L xs) 6 7 28 (Nat.le_of_ble_eq_true rfl) (Nat.le_of_ble_eq_true rfl)
theorem hi34 (L : Nat) (xs : Nat → Int32) : jm_hi (kt34 L xs) := jm_hi_pr (hi33 L xs) 1 1 5 (Nat.le_of_ble_eq_true rfl) (Nat.le_of_ble_eq_true rfl)
theorem hi35 (L : Nat) (xs : Nat → Int32) : jm_hi (kt35 L xs) := jm_hi_nw (hi34 L xs) 12 2 2
theorem hi36 (L : Nat) (xs : Nat → Int32) : jm_hi (kt36 L xs) := jm_hi_pr (hi35 L xs) 1 2 31 (Nat.le_of_ble_eq_true rfl) (Nat.le_of_ble_eq_true rfl)
theorem hi37 (L : Nat) (xs : Nat → Int32) : jm_hi (kt37 L xs) := jm_hi_nw (hi36 L xs) 1 0 5
theorem hi38 (L : Nat) (xs : Nat → Int32) : jm_hi (kt38 L xs) := jm_hi_kF (hi37 L xs) 32 (Nat.le_of_ble_eq_true rfl)
theorem hi39 (L : Nat) (xs : Nat → Int32) : jm_hi (kt39 L xs) := jm_hi_pr (hi38 L xs) 31 0 32 (Nat.le_of_ble_eq_true rfl) (Nat.le_of_ble_eq_true rfl)
theorem hi40 (L : Nat) (xs : Nat → Int32) : jm_hi (kt40 L xs) := jm_hi_nw (hi39 L xs) 1 0 5
theorem hi41 (L : Nat) (xs : Nat → Int32) : jm_hi (kt41 L xs) := jm_hi_kF (hi40 L xs) 35 (Nat.le_of_ble_eq_true rfl)
theorem hi42 (L : Nat) (xs : Nat → Int32) : jm_hi (kt42 L xs) := jm_hi_pr (hi41 L xs) 31 1 35 (Nat.le_of_ble_eq_true rfl) (Nat.le_of_ble_eq_true rfl)
theorem hi43 (L : Nat) (xs : Nat → Int32) : jm_hi (kt43 L xs) := jm_hi_nw (hi42 L xs) 10 2 2
theorem hi44 (L : Nat) (xs : Nat → Int32) : jm_hi (kt44 L xs) := jm_hi_pr (hi43 L xs) 1 3 38 (Nat.le_of_ble_eq_true rfl) (Nat.le_of_ble_eq_true rfl)
theorem hi45 (L : Nat) (xs : Nat → Int32) : jm_hi (kt45 L xs) := jm_hi_nw (hi44 L xs) 2 0 4
theorem hi46 (L : Nat) (xs : Nat → Int32) : jm_hi (kt46 L xs) := jm_hi_pi (hi45 L xs) 39 0 0
theorem hi47 (L : Nat) (xs : Nat → Int32) : jm_hi (kt47 L xs) := jm_hi_pi (hi46 L xs) 39 1 0
theorem hi48 (L : Nat) (xs : Nat → Int32) : jm_hi (kt48 L xs) := jm_hi_nw (hi47 L xs) 11 6 6
theorem hi49 (L : Nat) (xs : Nat → Int32) : jm_hi (kt49 L xs) := jm_hi_pr (hi48 L xs) 39 2 40 (Nat.le_of_ble_eq_true rfl) (Nat.le_of_ble_eq_true rfl)
theorem hi50 (L : Nat) (xs : Nat → Int32) : jm_hi (kt50 L xs) := jm_hi_nw (hi49 L xs) 13 6 6
theorem hi51 (L : Nat) (xs : Nat → Int32) : jm_hi (kt51 L xs) := jm_hi_pr (hi50 L xs) 39 3 41 (Nat.le_of_ble_eq_true rfl) (Nat.le_of_ble_eq_true rfl)
theorem hi52 (L : Nat) (xs : Nat → Int32) : jm_hi (kt52 L xs) := jm_hi_nw (hi51 L xs) 0 0 4
theorem hi53 (L : Nat) (xs : Nat → Int32) : jm_hi (kt53 L xs) := jm_hi_pi (hi52 L xs) 42 0 0
theorem hi54 (L : Nat) (xs : Nat → Int32) : jm_hi (kt54 L xs) := jm_hi_pi (hi53 L xs) 42 1 0
theorem hi55 (L : Nat) (xs : Nat → Int32) : jm_hi (kt55 L xs) := jm_hi_nw (hi54 L xs) 9 24 24
theorem hi56 (L : Nat) (xs : Nat → Int32) : jm_hi (kt56 L xs) := jm_hi_pr (hi55 L xs) 42 2 43 (Nat.le_of_ble_eq_true rfl) (Nat.le_of_ble_eq_true rfl)
theorem hi57 (L : Nat) (xs : Nat → Int32) : jm_hi (kt57 L xs) := jm_hi_nw (hi56 L xs) 9 24 24
theorem hi58 (L : Nat) (xs : Nat → Int32) : jm_hi (kt58 L xs) := jm_hi_pr (hi57 L xs) 42 3 44 (Nat.le_of_ble_eq_true rfl) (Nat.le_of_ble_eq_true rfl)
theorem hi59 (L : Nat) (xs : Nat → Int32) : jm_hi (kt59 L xs) := jm_hi_pr (hi58 L xs) 40 0 42 (Nat.le_of_ble_eq_true rfl) (Nat.le_of_ble_eq_true rfl)
theorem hi60 (L : Nat) (xs : Nat → Int32) : jm_hi (kt60 L xs) := jm_hi_nw (hi59 L xs) 3 0 7
theorem hi61 (L : Nat) (xs : Nat → Int32) : jm_hi (kt61 L xs) := jm_hi_pi (hi60 L xs) 45 0 0
theorem hi62 (L : Nat) (xs : Nat → Int32) : jm_hi (kt62 L xs) := jm_hi_nw (hi61 L xs) 9 24 24
theorem hi63 (L : Nat) (xs : Nat → Int32) : jm_hi (kt63 L xs) := jm_hi_pr (hi62 L xs) 45 1 46 (Nat.le_of_ble_eq_true rfl) (Nat.le_of_ble_eq_true rfl)
theorem hi64 (L : Nat) (xs : Nat → Int32) : jm_hi (kt64 L xs) := jm_hi_nw (hi63 L xs) 9 24 24
theorem hi65 (L : Nat) (xs : Nat → Int32) : jm_hi (kt65 L xs) := jm_hi_pr (hi64 L xs) 45 2 47 (Nat.le_of_ble_eq_true rfl) (Nat.le_of_ble_eq_true rfl)
theorem hi66 (L : Nat) (xs : Nat → Int32) : jm_hi (kt66 L xs) := jm_hi_nw (hi65 L xs) 9 24 24
theorem hi67 (L : Nat) (xs : Nat → Int32) : jm_hi (kt67 L xs) := jm_hi_pr (hi66 L xs) 45 3 48 (Nat.le_of_ble_eq_true rfl) (Nat.le_of_ble_eq_true rfl)
theorem hi68 (L : Nat) (xs : Nat → Int32) : jm_hi (kt68 L xs) := jm_hi_nw (hi67 L xs) 9 24 24
theorem hi69 (L : Nat) (xs : Nat → Int32) : jm_hi (kt69 L xs) := jm_hi_pr (hi68 L xs) 45 4 49 (Nat.le_of_ble_eq_true rfl) (Nat.le_of_ble_eq_true rfl)
theorem hi70 (L : Nat) (xs : Nat → Int32) : jm_hi (kt70 L xs) := jm_hi_nw (hi69 L xs) 9 24 24
theorem hi71 (L : Nat) (xs : Nat → Int32) : jm_hi (kt71 L xs) := jm_hi_pr (hi70 L xs) 45 5 50 (Nat.le_of_ble_eq_true rfl) (Nat.le_of_ble_eq_true rfl)
theorem hi72 (L : Nat) (xs : Nat → Int32) : jm_hi (kt72 L xs) := jm_hi_nw (hi71 L xs) 9 24 24
theorem hi73 (L : Nat) (xs : Nat → Int32) : jm_hi (kt73 L xs) := jm_hi_pr (hi72 L xs) 45 6 51 (Nat.le_of_ble_eq_true rfl) (Nat.le_of_ble_eq_true rfl)
theorem hi74 (L : Nat) (xs : Nat → Int32) : jm_hi (kt74 L xs) := jm_hi_pr (hi73 L xs) 41 0 45 (Nat.le_of_ble_eq_true rfl) (Nat.le_of_ble_eq_true rfl)
theorem hi75 (L : Nat) (xs : Nat → Int32) : jm_hi (kt75 L xs) := jm_hi_nw (hi74 L xs) 0 0 4
theorem hi76 (L : Nat) (xs : Nat → Int32) : jm_hi (kt76 L xs) := jm_hi_pi (hi75 L xs) 52 0 0
theorem hi77 (L : Nat) (xs : Nat → Int32) : jm_hi (kt77 L xs) := jm_hi_pi (hi76 L xs) 52 1 0
theorem hi78 (L : Nat) (xs : Nat → Int32) : jm_hi (kt78 L xs) := jm_hi_nw (hi77 L xs) 9 24 24
theorem hi79 (L : Nat) (xs : Nat → Int32) : jm_hi (kt79 L xs) := jm_hi_pr (hi78 L xs) 52 2 53 (Nat.le_of_ble_eq_true rfl) (Nat.le_of_ble_eq_true rfl)
theorem hi80 (L : Nat) (xs : Nat → Int32) : jm_hi (kt80 L xs) := jm_hi_nw (hi79 L xs) 9 24 24
theorem hi81 (L : Nat) (xs : Nat → Int32) : jm_hi (kt81 L xs) := jm_hi_pr (hi80 L xs) 52 3 54 (Nat.le_of_ble_eq_true rfl) (Nat.le_of_ble_eq_true rfl)
theorem hi82 (L : Nat) (xs : Nat → Int32) : jm_hi (kt82 L xs) := jm_hi_pr (hi81 L xs) 40 1 52 (Nat.le_of_ble_eq_true rfl) (Nat.le_of_ble_eq_true rfl)
theorem hi83 (L : Nat) (xs : Nat → Int32) : jm_hi (kt83 L xs) := jm_hi_nw (hi82 L xs) 3 0 7
theorem hi84 (L : Nat) (xs : Nat → Int32) : jm_hi (kt84 L xs) := jm_hi_pi (hi83 L xs) 55 0 0
theorem hi85 (L : Nat) (xs : Nat → Int32) : jm_hi (kt85 L xs) := jm_hi_nw (hi84 L xs) 9 24 24
theorem hi86 (L : Nat) (xs : Nat → Int32) : jm_hi (kt86 L xs) := jm_hi_pr (hi85 L xs) 55 1 56 (Nat.le_of_ble_eq_true rfl) (Nat.le_of_ble_eq_true rfl)
theorem hi87 (L : Nat) (xs : Nat → Int32) : jm_hi (kt87 L xs) := jm_hi_nw (hi86 L xs) 9 24 24
theorem hi88 (L : Nat) (xs : Nat → Int32) : jm_hi (kt88 L xs) := jm_hi_pr (hi87 L xs) 55 2 57 (Nat.le_of_ble_eq_true rfl) (Nat.le_of_ble_eq_true rfl)
theorem hi89 (L : Nat) (xs : Nat → Int32) : jm_hi (kt89 L xs) := jm_hi_nw (hi88 L xs) 9 24 24
theorem hi90 (L : Nat) (xs : Nat → Int32) : jm_hi (kt90 L xs) := jm_hi_pr (hi89 L xs) 55 3 58 (Nat.le_of_ble_eq_true rfl) (Nat.le_of_ble_eq_true rfl)
theorem hi91 (L : Nat) (xs : Nat → Int32) : jm_hi (kt91 L xs) := jm_hi_nw (hi90 L xs) 9 24 24
theorem hi92 (L : Nat) (xs : Nat → Int32) : jm_hi (kt92 L xs) := jm_hi_pr (hi91 L xs) 55 4 59 (Nat.le_of_ble_eq_true rfl) (Nat.le_of_ble_eq_true rfl)
theorem hi93 (L : Nat) (xs : Nat → Int32) : jm_hi (kt93 L xs) := jm_hi_nw (hi92 L xs) 9 24 24
theorem hi94 (L : Nat) (xs : Nat → Int32) : jm_hi (kt94 L xs) := jm_hi_pr (hi93 L xs) 55 5 60 (Nat.le_of_ble_eq_true rfl) (Nat.le_of_ble_eq_true rfl)
theorem hi95 (L : Nat) (xs : Nat → Int32) : jm_hi (kt95 L xs) := jm_hi_nw (hi94 L xs) 9 24 24
theorem hi96 (L : Nat) (xs : Nat → Int32) : jm_hi (kt96 L xs) := jm_hi_pr (hi95 L xs) 55 6 61 (Nat.le_of_ble_eq_true rfl) (Nat.le_of_ble_eq_true rfl)
theorem hi97 (L : Nat) (xs : Nat → Int32) : jm_hi (kt97 L xs) := jm_hi_pr (hi96 L xs) 41 1 55 (Nat.le_of_ble_eq_true rfl) (Nat.le_of_ble_eq_true rfl)
theorem hi98 (L : Nat) (xs : Nat → Int32) : jm_hi (kt98 L xs) := jm_hi_nw (hi97 L xs) 0 0 4
theorem hi99 (L : Nat) (xs : Nat → Int32) : jm_hi (kt99 L xs) := jm_hi_pi (hi98 L xs) 62 0 0
theorem hi100 (L : Nat) (xs : Nat → Int32) : jm_hi (kt100 L xs) := jm_hi_pi (hi99 L xs) 62 1 0
theorem hi101 (L : Nat) (xs : Nat → Int32) : jm_hi (kt101 L xs) := jm_hi_nw (hi100 L xs) 9 24 24
theorem hi102 (L : Nat) (xs : Nat → Int32) : jm_hi (kt102 L xs) := jm_hi_pr (hi101 L xs) 62 2 63 (Nat.le_of_ble_eq_true rfl) (Nat.le_of_ble_eq_true rfl)
theorem hi103 (L : Nat) (xs : Nat → Int32) : jm_hi (kt103 L xs) := jm_hi_nw (hi102 L xs) 9 24 24
theorem hi104 (L : Nat) (xs : Nat → Int32) : jm_hi (kt104 L xs) := jm_hi_pr (hi103 L xs) 62 3 64 (Nat.le_of_ble_eq_true rfl) (Nat.le_of_ble_eq_true rfl)
theorem hi105 (L : Nat) (xs : Nat → Int32) : jm_hi (kt105 L xs) := jm_hi_pr (hi104 L xs) 40 2 62 (Nat.le_of_ble_eq_true rfl) (Nat.le_of_ble_eq_true rfl)
theorem hi106 (L : Nat) (xs : Nat → Int32) : jm_hi (kt106 L xs) := jm_hi_nw (hi105 L xs) 3 0 7
theorem hi107 (L : Nat) (xs : Nat → Int32) : jm_hi (kt107 L xs) := jm_hi_pi (hi106 L xs) 65 0 0
theorem hi108 (L : Nat) (xs : Nat → Int32) : jm_hi (kt108 L xs) := jm_hi_nw (hi107 L xs) 9 24 24
theorem hi109 (L : Nat) (xs : Nat → Int32) : jm_hi (kt109 L xs) := jm_hi_pr (hi108 L xs) 65 1 66 (Nat.le_of_ble_eq_true rfl) (Nat.le_of_ble_eq_true rfl)
theorem hi110 (L : Nat) (xs : Nat → Int32) : jm_hi (kt110 L xs) := jm_hi_nw (hi109 L xs) 9 24 24
theorem hi111 (L : Nat) (xs : Nat → Int32) : jm_hi (kt111 L xs) := jm_hi_pr (hi110 L xs) 65 2 67 (Nat.le_of_ble_eq_true rfl) (Nat.le_of_ble_eq_true rfl)
theorem hi112 (L : Nat) (xs : Nat → Int32) : jm_hi (kt112 L xs) := jm_hi_nw (hi111 L xs) 9 24 24
theorem hi113 (L : Nat) (xs : Nat → Int32) : jm_hi (kt113 L xs) := jm_hi_pr (hi112 L xs) 65 3 68 (Nat.le_of_ble_eq_true rfl) (Nat.le_of_ble_eq_true rfl)
theorem hi114 (L : Nat) (xs : Nat → Int32) : jm_hi (kt114 L xs) := jm_hi_nw (hi113 L xs) 9 24 24
theorem hi115 (L : Nat) (xs : Nat → Int32) : jm_hi (kt115 L xs) := jm_hi_pr (hi114 L xs) 65 4 69 (Nat.le_of_ble_eq_true rfl) (Nat.le_of_ble_eq_true rfl)
theorem hi116 (L : Nat) (xs : Nat → Int32) : jm_hi (kt116 L xs) := jm_hi_nw (hi115 L xs) 9 24 24
theorem hi117 (L : Nat) (xs : Nat → Int32) : jm_hi (kt117 L xs) := jm_hi_pr (hi116 L xs) 65 5 70 (Nat.le_of_ble_eq_true rfl) (Nat.le_of_ble_eq_true rfl)
theorem hi118 (L : Nat) (xs : Nat → Int32) : jm_hi (kt118 L xs) := jm_hi_nw (hi117 L xs) 9 24 24
theorem hi119 (L : Nat) (xs : Nat → Int32) : jm_hi (kt119 L xs) := jm_hi_pr (hi118 L xs) 65 6 71 (Nat.le_of_ble_eq_true rfl) (Nat.le_of_ble_eq_true rfl)
theorem hi120 (L : Nat) (xs : Nat → Int32) : jm_hi (kt120 L xs) := jm_hi_pr (hi119 L xs) 41 2 65 (Nat.le_of_ble_eq_true rfl) (Nat.le_of_ble_eq_true rfl)
theorem hi121 (L : Nat) (xs : Nat → Int32) : jm_hi (kt121 L xs) := jm_hi_nw (hi120 L xs) 0 0 4
theorem hi122 (L : Nat) (xs : Nat → Int32) : jm_hi (kt122 L xs) := jm_hi_pi (hi121 L xs) 72 0 0
theorem hi123 (L : Nat) (xs : Nat → Int32) : jm_hi (kt123 L xs) := jm_hi_pi (hi122 L xs) 72 1 0
theorem hi124 (L : Nat) (xs : Nat → Int32) : jm_hi (kt124 L xs) := jm_hi_nw (hi123 L xs) 9 24 24
theorem hi125 (L : Nat) (xs : Nat → Int32) : jm_hi (kt125 L xs) := jm_hi_pr (hi124 L xs) 72 2 73 (Nat.le_of_ble_eq_true rfl) (Nat.le_of_ble_eq_true rfl)
theorem hi126 (L : Nat) (xs : Nat → Int32) : jm_hi (kt126 L xs) := jm_hi_nw (hi125 L xs) 9 24 24
theorem hi127 (L : Nat) (xs : Nat → Int32) : jm_hi (kt127 L xs) := jm_hi_pr (hi126 L xs) 72 3 74 (Nat.le_of_ble_eq_true rfl) (Nat.le_of_ble_eq_true rfl)
theorem hi128 (L : Nat) (xs : Nat → Int32) : jm_hi (kt128 L xs) := jm_hi_pr (hi127 L xs) 40 3 72 (Nat.le_of_ble_eq_true rfl) (Nat.le_of_ble_eq_true rfl)
theorem hi129 (L : Nat) (xs : Nat → Int32) : jm_hi (kt129 L xs) := jm_hi_nw (hi128 L xs) 3 0 7
theorem hi130 (L : Nat) (xs : Nat → Int32) : jm_hi (kt130 L xs) := jm_hi_pi (hi129 L xs) 75 0 0
theorem hi131 (L : Nat) (xs : Nat → Int32) : jm_hi (kt131 L xs) := jm_hi_nw (hi130 L xs) 9 24 24
theorem hi132 (L : Nat) (xs : Nat → Int32) : jm_hi (kt132 L xs) := jm_hi_pr (hi131 L xs) 75 1 76 (Nat.le_of_ble_eq_true rfl) (Nat.le_of_ble_eq_true rfl)
theorem hi133 (L : Nat) (xs : Nat → Int32) : jm_hi (kt133 L xs) := jm_hi_nw (hi132 L xs) 9 24 24
theorem hi134 (L : Nat) (xs : Nat → Int32) : jm_hi (kt134 L xs) := jm_hi_pr (hi133 L xs) 75 2 77 (Nat.le_of_ble_eq_true rfl) (Nat.le_of_ble_eq_true rfl)
theorem hi135 (L : Nat) (xs : Nat → Int32) : jm_hi (kt135 L xs) := jm_hi_nw (hi134 L xs) 9 24 24
theorem hi136 (L : Nat) (xs : Nat → Int32) : jm_hi (kt136 L xs) := jm_hi_pr (hi135 L xs) 75 3 78 (Nat.le_of_ble_eq_true rfl) (Nat.le_of_ble_eq_true rfl)
theorem hi137 (L : Nat) (xs : Nat → Int32) : jm_hi (kt137 L xs) := jm_hi_nw (hi136 L xs) 9 24 24
theorem hi138 (L : Nat) (xs : Nat → Int32) : jm_hi (kt138 L xs) := jm_hi_pr (hi137 L xs) 75 4 79 (Nat.le_of_ble_eq_true rfl) (Nat.le_of_ble_eq_true rfl)
theorem hi139 (L : Nat) (xs : Nat → Int32) : jm_hi (kt139 L xs) := jm_hi_nw (hi138 L xs) 9 24 24
theorem hi140 (L : Nat) (xs : Nat → Int32) : jm_hi (kt140 L xs) := jm_hi_pr (hi139 L xs) 75 5 80 (Nat.le_of_ble_eq_true rfl) (Nat.le_of_ble_eq_true rfl)
theorem hi141 (L : Nat) (xs : Nat → Int32) : jm_hi (kt141 L xs) := jm_hi_nw (hi140 L xs) 9 24 24
theorem hi142 (L : Nat) (xs : Nat → Int32) : jm_hi (kt142 L xs) := jm_hi_pr (hi141 L xs) 75 6 81 (Nat.le_of_ble_eq_true rfl) (Nat.le_of_ble_eq_true rfl)
theorem hi143 (L : Nat) (xs : Nat → Int32) : jm_hi (kt143 L xs) := jm_hi_pr (hi142 L xs) 41 3 75 (Nat.le_of_ble_eq_true rfl) (Nat.le_of_ble_eq_true rfl)
theorem hi144 (L : Nat) (xs : Nat → Int32) : jm_hi (kt144 L xs) := jm_hi_nw (hi143 L xs) 0 0 4
theorem hi145 (L : Nat) (xs : Nat → Int32) : jm_hi (kt145 L xs) := jm_hi_pi (hi144 L xs) 82 0 0
theorem hi146 (L : Nat) (xs : Nat → Int32) : jm_hi (kt146 L xs) := jm_hi_pi (hi145 L xs) 82 1 0
theorem hi147 (L : Nat) (xs : Nat → Int32) : jm_hi (kt147 L xs) := jm_hi_nw (hi146 L xs) 9 24 24
theorem hi148 (L : Nat) (xs : Nat → Int32) : jm_hi (kt148 L xs) := jm_hi_pr (hi147 L xs) 82 2 83 (Nat.le_of_ble_eq_true rfl) (Nat.le_of_ble_eq_true rfl)
theorem hi149 (L : Nat) (xs : Nat → Int32) : jm_hi (kt149 L xs) := jm_hi_nw (hi148 L xs) 9 24 24
theorem hi150 (L : Nat) (xs : Nat → Int32) : jm_hi (kt150 L xs) := jm_hi_pr (hi149 L xs) 82 3 84 (Nat.le_of_ble_eq_true rfl) (Nat.le_of_ble_eq_true rfl)
theorem hi151 (L : Nat) (xs : Nat → Int32) : jm_hi (kt151 L xs) := jm_hi_pr (hi150 L xs) 40 4 82 (Nat.le_of_ble_eq_true rfl) (Nat.le_of_ble_eq_true rfl)
theorem hi152 (L : Nat) (xs : Nat → Int32) : jm_hi (kt152 L xs) := jm_hi_nw (hi151 L xs) 3 0 7
theorem hi153 (L : Nat) (xs : Nat → Int32) : jm_hi (kt153 L xs) := jm_hi_pi (hi152 L xs) 85 0 0
theorem hi154 (L : Nat) (xs : Nat → Int32) : jm_hi (kt154 L xs) := jm_hi_nw (hi153 L xs) 9 24 24
theorem hi155 (L : Nat) (xs : Nat → Int32) : jm_hi (kt155 L xs) := jm_hi_pr (hi154 L xs) 85 1 86 (Nat.le_of_ble_eq_true rfl) (Nat.le_of_ble_eq_true rfl)
theorem hi156 (L : Nat) (xs : Nat → Int32) : jm_hi (kt156 L xs) := jm_hi_nw (hi155 L xs) 9 24 24
theorem hi157 (L : Nat) (xs : Nat → Int32) : jm_hi (kt157 L xs) := jm_hi_pr (hi156 L xs) 85 2 87 (Nat.le_of_ble_eq_true rfl) (Nat.le_of_ble_eq_true rfl)
theorem hi158 (L : Nat) (xs : Nat → Int32) : jm_hi (kt158 L xs) := jm_hi_nw (hi157 L xs) 9 24 24
theorem hi159 (L : Nat) (xs : Nat → Int32) : jm_hi (kt159 L xs) := jm_hi_pr (hi158 L xs) 85 3 88 (Nat.le_of_ble_eq_true rfl) (Nat.le_of_ble_eq_true rfl)
theorem hi160 (L : Nat) (xs : Nat → Int32) : jm_hi (kt160 L xs) := jm_hi_nw (hi159 L xs) 9 24 24
theorem hi161 (L : Nat) (xs : Nat → Int32) : jm_hi (kt161 L xs) := jm_hi_pr (hi160 L xs) 85 4 89 (Nat.le_of_ble_eq_true rfl) (Nat.le_of_ble_eq_true rfl)
theorem hi162 (L : Nat) (xs : Nat → Int32) : jm_hi (kt162 L xs) := jm_hi_nw (hi161 L xs) 9 24 24
theorem hi163 (L : Nat) (xs : Nat → Int32) : jm_hi (kt163 L xs) := jm_hi_pr (hi162 L xs) 85 5 90 (Nat.le_of_ble_eq_true rfl) (Nat.le_of_ble_eq_true rfl)
theorem hi164 (L : Nat) (xs : Nat → Int32) : jm_hi (kt164 L xs) := jm_hi_nw (hi163 L xs) 9 24 24
theorem hi165 (L : Nat) (xs : Nat → Int32) : jm_hi (kt165 L xs) := jm_hi_pr (hi164 L xs) 85 6 91 (Nat.le_of_ble_eq_true rfl) (Nat.le_of_ble_eq_true rfl)
theorem hi166 (L : Nat) (xs : Nat → Int32) : jm_hi (kt166 L xs) := jm_hi_pr (hi165 L xs) 41 4 85 (Nat.le_of_ble_eq_true rfl) (Nat.le_of_ble_eq_true rfl)
theorem hi167 (L : Nat) (xs : Nat → Int32) : jm_hi (kt167 L xs) := jm_hi_nw (hi166 L xs) 0 0 4
theorem hi168 (L : Nat) (xs : Nat → Int32) : jm_hi (kt168 L xs) := jm_hi_pi (hi167 L xs) 92 0 0
theorem hi169 (L : Nat) (xs : Nat → Int32) : jm_hi (kt169 L xs) := jm_hi_pi (hi168 L xs) 92 1 0
theorem hi170 (L : Nat) (xs : Nat → Int32) : jm_hi (kt170 L xs) := jm_hi_nw (hi169 L xs) 9 24 24
theorem hi171 (L : Nat) (xs : Nat → Int32) : jm_hi (kt171 L xs) := jm_hi_pr (hi170 L xs) 92 2 93 (Nat.le_of_ble_eq_true rfl) (Nat.le_of_ble_eq_true rfl)
theorem hi172 (L : Nat) (xs : Nat → Int32) : jm_hi (kt172 L xs) := jm_hi_nw (hi171 L xs) 9 24 24
theorem hi173 (L : Nat) (xs : Nat → Int32) : jm_hi (kt173 L xs) := jm_hi_pr (hi172 L xs) 92 3 94 (Nat.le_of_ble_eq_true rfl) (Nat.le_of_ble_eq_true rfl)
theorem hi174 (L : Nat) (xs : Nat → Int32) : jm_hi (kt174 L xs) := jm_hi_pr (hi173 L xs) 40 5 92 (Nat.le_of_ble_eq_true rfl) (Nat.le_of_ble_eq_true rfl)
theorem hi175 (L : Nat) (xs : Nat → Int32) : jm_hi (kt175 L xs) := jm_hi_nw (hi174 L xs) 3 0 7
theorem hi176 (L : Nat) (xs : Nat → Int32) : jm_hi (kt176 L xs) := jm_hi_pi (hi175 L xs) 95 0 0
theorem hi177 (L : Nat) (xs : Nat → Int32) : jm_hi (kt177 L xs) := jm_hi_nw (hi176 L xs) 9 24 24
theorem hi178 (L : Nat) (xs : Nat → Int32) : jm_hi (kt178 L xs) := jm_hi_pr (hi177 L xs) 95 1 96 (Nat.le_of_ble_eq_true rfl) (Nat.le_of_ble_eq_true rfl)
theorem hi179 (L : Nat) (xs : Nat → Int32) : jm_hi (kt179 L xs) := jm_hi_nw (hi178 L xs) 9 24 24
theorem hi180 (L : Nat) (xs : Nat → Int32) : jm_hi (kt180 L xs) := jm_hi_pr (hi179 L xs) 95 2 97 (Nat.le_of_ble_eq_true rfl) (Nat.le_of_ble_eq_true rfl)
theorem hi181 (L : Nat) (xs : Nat → Int32) : jm_hi (kt181 L xs) := jm_hi_nw (hi180 L xs) 9 24 24
theorem hi182 (L : Nat) (xs : Nat → Int32) : jm_hi (kt182 L xs) := jm_hi_pr (hi181 L xs) 95 3 98 (Nat.le_of_ble_eq_true rfl) (Nat.le_of_ble_eq_true rfl)
theorem hi183 (L : Nat) (xs : Nat → Int32) : jm_hi (kt183 L xs) := jm_hi_nw (hi182 L xs) 9 24 24
theorem hi184 (L : Nat) (xs : Nat → Int32) : jm_hi (kt184 L xs) := jm_hi_pr (hi183 L xs) 95 4 99 (Nat.le_of_ble_eq_true rfl) (Nat.le_of_ble_eq_true rfl)
theorem hi185 (L : Nat) (xs : Nat → Int32) : jm_hi (kt185 L xs) := jm_hi_nw (hi184 L xs) 9 24 24
theorem hi186 (L : Nat) (xs : Nat → Int32) : jm_hi (kt186 L xs) := jm_hi_pr (hi185 L xs) 95 5 100 (Nat.le_of_ble_eq_true rfl) (Nat.le_of_ble_eq_true rfl)
theorem hi187 (L : Nat) (xs : Nat → Int32) : jm_hi (kt187 L xs) := jm_hi_nw (hi186 L xs) 9 24 24
theorem hi188 (L : Nat) (xs : Nat → Int32) : jm_hi (kt188 L xs) := jm_hi_pr (hi187 L xs) 95 6 101 (Nat.le_of_ble_eq_true rfl) (Nat.le_of_ble_eq_true rfl)
theorem hi189 (L : Nat) (xs : Nat → Int32) : jm_hi (kt189 L xs) := jm_hi_pr (hi188 L xs) 41 5 95 (Nat.le_of_ble_eq_true rfl) (Nat.le_of_ble_eq_true rfl)
theorem hi190 (L : Nat) (xs : Nat → Int32) : jm_hi (kt190 L xs) := jm_hi_pr (hi189 L xs) 1 4 39 (Nat.le_of_ble_eq_true rfl) (Nat.le_of_ble_eq_true rfl)
theorem hi191 (L : Nat) (xs : Nat → Int32) : jm_hi (kt191 L xs) := jm_hi_nw (hi190 L xs) 0 0 4
theorem hi192 (L : Nat) (xs : Nat → Int32) : jm_hi (kt192 L xs) := jm_hi_pi (hi191 L xs) 102 0 0
theorem hi193 (L : Nat) (xs : Nat → Int32) : jm_hi (kt193 L xs) := jm_hi_pi (hi192 L xs) 102 1 0
theorem hi194 (L : Nat) (xs : Nat → Int32) : jm_hi (kt194 L xs) := jm_hi_nw (hi193 L xs) 9 24 24
theorem hi195 (L : Nat) (xs : Nat → Int32) : jm_hi (kt195 L xs) := jm_hi_pr (hi194 L xs) 102 2 103 (Nat.le_of_ble_eq_true rfl) (Nat.le_of_ble_eq_true rfl)
theorem hi196 (L : Nat) (xs : Nat → Int32) : jm_hi (kt196 L xs) := jm_hi_nw (hi195 L xs) 9 24 24
theorem hi197 (L : Nat) (xs : Nat → Int32) : jm_hi (kt197 L xs) := jm_hi_pr (hi196 L xs) 102 3 104 (Nat.le_of_ble_eq_true rfl) (Nat.le_of_ble_eq_true rfl)
theorem hi198 (L : Nat) (xs : Nat → Int32) : jm_hi (kt198 L xs) := jm_hi_pr (hi197 L xs) 1 5 102 (Nat.le_of_ble_eq_true rfl) (Nat.le_of_ble_eq_true rfl)
theorem hi199 (L : Nat) (xs : Nat → Int32) : jm_hi (kt199 L xs) := jm_hi_nw (hi198 L xs) 6 0 8
theorem hi200 (L : Nat) (xs : Nat → Int32) : jm_hi (kt200 L xs) := jm_hi_pi (hi199 L xs) 105 0 (-1)
theorem hi201 (L : Nat) (xs : Nat → Int32) : jm_hi (kt201 L xs) := jm_hi_pi (hi200 L xs) 105 1 0
theorem hi202 (L : Nat) (xs : Nat → Int32) : jm_hi (kt202 L xs) := jm_hi_nw (hi201 L xs) 9 24 24
theorem hi203 (L : Nat) (xs : Nat → Int32) : jm_hi (kt203 L xs) := jm_hi_pr (hi202 L xs) 105 2 106 (Nat.le_of_ble_eq_true rfl) (Nat.le_of_ble_eq_true rfl)
theorem hi204 (L : Nat) (xs : Nat → Int32) : jm_hi (kt204 L xs) := jm_hi_nw (hi203 L xs) 9 24 24
theorem hi205 (L : Nat) (xs : Nat → Int32) : jm_hi (kt205 L xs) := jm_hi_pr (hi204 L xs) 105 3 107 (Nat.le_of_ble_eq_true rfl) (Nat.le_of_ble_eq_true rfl)
theorem hi206 (L : Nat) (xs : Nat → Int32) : jm_hi (kt206 L xs) := jm_hi_nw (hi205 L xs) 9 24 24
theorem hi207 (L : Nat) (xs : Nat → Int32) : jm_hi (kt207 L xs) := jm_hi_pr (hi206 L xs) 105 4 108 (Nat.le_of_ble_eq_true rfl) (Nat.le_of_ble_eq_true rfl)
theorem hi208 (L : Nat) (xs : Nat → Int32) : jm_hi (kt208 L xs) := jm_hi_nw (hi207 L xs) 9 24 24
theorem hi209 (L : Nat) (xs : Nat → Int32) : jm_hi (kt209 L xs) := jm_hi_pr (hi208 L xs) 105 5 109 (Nat.le_of_ble_eq_true rfl) (Nat.le_of_ble_eq_true rfl)
theorem hi210 (L : Nat) (xs : Nat → Int32) : jm_hi (kt210 L xs) := jm_hi_nw (hi209 L xs) 9 24 24
theorem hi211 (L : Nat) (xs : Nat → Int32) : jm_hi (kt211 L xs) := jm_hi_pr (hi210 L xs) 105 6 110 (Nat.le_of_ble_eq_true rfl) (Nat.le_of_ble_eq_true rfl)
theorem hi212 (L : Nat) (xs : Nat → Int32) : jm_hi (kt212 L xs) := jm_hi_nw (hi211 L xs) 9 24 24
theorem hi213 (L : Nat) (xs : Nat → Int32) : jm_hi (kt213 L xs) := jm_hi_pr (hi212 L xs) 105 7 111 (Nat.le_of_ble_eq_true rfl) (Nat.le_of_ble_eq_true rfl)
theorem hi214 (L : Nat) (xs : Nat → Int32) : jm_hi (kt214 L xs) := jm_hi_pr (hi213 L xs) 1 6 105 (Nat.le_of_ble_eq_true rfl) (Nat.le_of_ble_eq_true rfl)
theorem hi215 (L : Nat) (xs : Nat → Int32) : jm_hi (kt215 L xs) := jm_hi_nw (hi214 L xs) 4 0 1
theorem hi216 (L : Nat) (xs : Nat → Int32) : jm_hi (kt216 L xs) := jm_hi_pj (hi215 L xs) 112 0 1
theorem hi217 (L : Nat) (xs : Nat → Int32) : jm_hi (kt217 L xs) := jm_hi_pr (hi216 L xs) 1 7 112 (Nat.le_of_ble_eq_true rfl) (Nat.le_of_ble_eq_true rfl)
theorem hi218 (L : Nat) (xs : Nat → Int32) : jm_hi (kt218 L xs) := jm_hi_nw (hi217 L xs) 8 0 16
theorem hi219 (L : Nat) (xs : Nat → Int32) : jm_hi (kt219 L xs) := jm_hi_nw (hi218 L xs) 9 3531 3531
theorem hi220 (L : Nat) (xs : Nat → Int32) : jm_hi (kt220 L xs) := jm_hi_pr (hi219 L xs) 113 0 114 (Nat.le_of_ble_eq_true rfl) (Nat.le_of_ble_eq_true rfl)
theorem hi221 (L : Nat) (xs : Nat → Int32) : jm_hi (kt221 L xs) := jm_hi_nw (hi220 L xs) 10 2 2
theorem hi222 (L : Nat) (xs : Nat → Int32) : jm_hi (kt222 L xs) := jm_hi_pr (hi221 L xs) 113 1 115 (Nat.le_of_ble_eq_true rfl) (Nat.le_of_ble_eq_true rfl)
theorem hi223 (L : Nat) (xs : Nat → Int32) : jm_hi (kt223 L xs) := jm_hi_nw (hi222 L xs) 9 144 144
theorem hi224 (L : Nat) (xs : Nat → Int32) : jm_hi (kt224 L xs) := jm_hi_pr (hi223 L xs) 113 4 116 (Nat.le_of_ble_eq_true rfl) (Nat.le_of_ble_eq_true rfl)
theorem hi225 (L : Nat) (xs : Nat → Int32) : jm_hi (kt225 L xs) := jm_hi_nw (hi224 L xs) 9 6 6
theorem hi226 (L : Nat) (xs : Nat → Int32) : jm_hi (kt226 L xs) := jm_hi_pr (hi225 L xs) 113 5 117 (Nat.le_of_ble_eq_true rfl) (Nat.le_of_ble_eq_true rfl)
theorem hi227 (L : Nat) (xs : Nat → Int32) : jm_hi (kt227 L xs) := jm_hi_nw (hi226 L xs) 9 24 24
theorem hi228 (L : Nat) (xs : Nat → Int32) : jm_hi (kt228 L xs) := jm_hi_pr (hi227 L xs) 113 7 118 (Nat.le_of_ble_eq_true rfl) (Nat.le_of_ble_eq_true rfl)
theorem hi229 (L : Nat) (xs : Nat → Int32) : jm_hi (kt229 L xs) := jm_hi_nw (hi228 L xs) 9 24 24
theorem hi230 (L : Nat) (xs : Nat → Int32) : jm_hi (kt230 L xs) := jm_hi_pr (hi229 L xs) 113 8 119 (Nat.le_of_ble_eq_true rfl) (Nat.le_of_ble_eq_true rfl)
theorem hi231 (L : Nat) (xs : Nat → Int32) : jm_hi (kt231 L xs) := jm_hi_nw (hi230 L xs) 9 24 24
theorem hi232 (L : Nat) (xs : Nat → Int32) : jm_hi (kt232 L xs) := jm_hi_pr (hi231 L xs) 113 9 120 (Nat.le_of_ble_eq_true rfl) (Nat.le_of_ble_eq_true rfl)
theorem hi233 (L : Nat) (xs : Nat → Int32) : jm_hi (kt233 L xs) := jm_hi_nw (hi232 L xs) 9 24 24
theorem hi234 (L : Nat) (xs : Nat → Int32) : jm_hi (kt234 L xs) := jm_hi_pr (hi233 L xs) 113 10 121 (Nat.le_of_ble_eq_true rfl) (Nat.le_of_ble_eq_true rfl)
theorem hi235 (L : Nat) (xs : Nat → Int32) : jm_hi (kt235 L xs) := jm_hi_nw (hi234 L xs) 9 48 48
theorem hi236 (L : Nat) (xs : Nat → Int32) : jm_hi (kt236 L xs) := jm_hi_pr (hi235 L xs) 113 12 122 (Nat.le_of_ble_eq_true rfl) (Nat.le_of_ble_eq_true rfl)
theorem hi237 (L : Nat) (xs : Nat → Int32) : jm_hi (kt237 L xs) := jm_hi_nw (hi236 L xs) 9 48 48
theorem hi238 (L : Nat) (xs : Nat → Int32) : jm_hi (kt238 L xs) := jm_hi_pr (hi237 L xs) 113 13 123 (Nat.le_of_ble_eq_true rfl) (Nat.le_of_ble_eq_true rfl)
theorem hi239 (L : Nat) (xs : Nat → Int32) : jm_hi (kt239 L xs) := jm_hi_nw (hi238 L xs) 9 48 48
theorem hi240 (L : Nat) (xs : Nat → Int32) : jm_hi (kt240 L xs) := jm_hi_pr (hi239 L xs) 113 14 124 (Nat.le_of_ble_eq_true rfl) (Nat.le_of_ble_eq_true rfl)
theorem hi241 (L : Nat) (xs : Nat → Int32) : jm_hi (kt241 L xs) := jm_hi_nw (hi240 L xs) 9 48 48
theorem hi242 (L : Nat) (xs : Nat → Int32) : jm_hi (kt242 L xs) := jm_hi_pr (hi241 L xs) 113 15 125 (Nat.le_of_ble_eq_true rfl) (Nat.le_of_ble_eq_true rfl)
theorem hi243 (L : Nat) (xs : Nat → Int32) : jm_hi (kt243 L xs) := jm_hi_pi (hi242 L xs) 114 0 8
theorem hi244 (L : Nat) (xs : Nat → Int32) : jm_hi (kt244 L xs) := jm_hi_pi (hi243 L xs) 114 1 2
theorem hi245 (L : Nat) (xs : Nat → Int32) : jm_hi (kt245 L xs) := jm_hi_pi (hi244 L xs) 114 3 1
theorem hi246 (L : Nat) (xs : Nat → Int32) : jm_hi (kt246 L xs) := jm_hi_pi (hi245 L xs) 114 4 1
theorem hi247 (L : Nat) (xs : Nat → Int32) : jm_hi (kt247 L xs) := jm_hi_pi (hi246 L xs) 114 5 1
theorem hi248 (L : Nat) (xs : Nat → Int32) : jm_hi (kt248 L xs) := jm_hi_pi (hi247 L xs) 114 6 1
theorem hi249 (L : Nat) (xs : Nat → Int32) : jm_hi (kt249 L xs) := jm_hi_pi (hi248 L xs) 114 7 1
theorem hi250 (L : Nat) (xs : Nat → Int32) : jm_hi (kt250 L xs) := jm_hi_pi (hi249 L xs) 114 8 1
theorem hi251 (L : Nat) (xs : Nat → Int32) : jm_hi (kt251 L xs) := jm_hi_pi (hi250 L xs) 114 9 1
theorem hi252 (L : Nat) (xs : Nat → Int32) : jm_hi (kt252 L xs) := jm_hi_pi (hi251 L xs) 114 10 1
theorem hi253 (L : Nat) (xs : Nat → Int32) : jm_hi (kt253 L xs) := jm_hi_pi (hi252 L xs) 114 11 1
theorem hi254 (L : Nat) (xs : Nat → Int32) : jm_hi (kt254 L xs) := jm_hi_pi (hi253 L xs) 114 12 1
theorem hi255 (L : Nat) (xs : Nat → Int32) : jm_hi (kt255 L xs) := jm_hi_pi (hi254 L xs) 114 13 1
theorem hi256 (L : Nat) (xs : Nat → Int32) : jm_hi (kt256 L xs) := jm_hi_pi (hi255 L xs) 114 14 1
theorem hi257 (L : Nat) (xs : Nat → Int32) : jm_hi (kt257 L xs) := jm_hi_pi (hi256 L xs) 114 15 1
theorem hi258 (L : Nat) (xs : Nat → Int32) : jm_hi (kt258 L xs) := jm_hi_pi (hi257 L xs) 114 16 1
theorem hi259 (L : Nat) (xs : Nat → Int32) : jm_hi (kt259 L xs) := jm_hi_pi (hi258 L xs) 114 17 1
theorem hi260 (L : Nat) (xs : Nat → Int32) : jm_hi (kt260 L xs) := jm_hi_pi (hi259 L xs) 114 18 1
theorem hi261 (L : Nat) (xs : Nat → Int32) : jm_hi (kt261 L xs) := jm_hi_pi (hi260 L xs) 114 19 1
theorem hi262 (L : Nat) (xs : Nat → Int32) : jm_hi (kt262 L xs) := jm_hi_pi (hi261 L xs) 114 20 1
theorem hi263 (L : Nat) (xs : Nat → Int32) : jm_hi (kt263 L xs) := jm_hi_pi (hi262 L xs) 114 21 1
theorem hi264 (L : Nat) (xs : Nat → Int32) : jm_hi (kt264 L xs) := jm_hi_pi (hi263 L xs) 114 22 1
theorem hi265 (L : Nat) (xs : Nat → Int32) : jm_hi (kt265 L xs) := jm_hi_pi (hi264 L xs) 114 23 1
theorem hi266 (L : Nat) (xs : Nat → Int32) : jm_hi (kt266 L xs) := jm_hi_pi (hi265 L xs) 114 24 1
theorem hi267 (L : Nat) (xs : Nat → Int32) : jm_hi (kt267 L xs) := jm_hi_pi (hi266 L xs) 114 25 1
theorem hi268 (L : Nat) (xs : Nat → Int32) : jm_hi (kt268 L xs) := jm_hi_pi (hi267 L xs) 114 26 1
def jm_eqs (t t' : jm_T) : Prop := t.1.1 = t'.1.1 ∧ t.1.2.1 = t'.1.2.1 ∧ t.1.2.2.1 = t'.1.2.2.1 ∧ t.1.2.2.2.2 = t'.1.2.2.2.2 ∧ ∀ a, t.1.2.2.2.1 (a + 1) = t'.1.2.2.2.1 (a + 1)
theorem jm_eqs_nw {t t' : jm_T} (h : jm_eqs t t') (k l s : Nat) : jm_eqs (jm_nw t k l s) (jm_nw t' k l s) := by
  obtain ⟨h1, h2, h3, h4, h5⟩ := h
  refine ⟨?_, ?_, ?_, ?_, fun a => ?_⟩
  · show t.1.1 + 1 = t'.1.1 + 1
    rw [h1]
  · show t.1.2.1 + s = t'.1.2.1 + s
    rw [h2]
  · show va_up t.1.2.2.1 (t.1.1 + 1) k = va_up t'.1.2.2.1 (t'.1.1 + 1) k
    rw [h1, h3]
  · show va_up t.1.2.2.2.2 (t.1.1 + 1) (fun _ => none) = va_up t'.1.2.2.2.2 (t'.1.1 + 1) (fun _ => none)
    rw [h1, h4]
  · show va_up t.1.2.2.2.1 (t.1.1 + 1) l (a + 1) = va_up t'.1.2.2.2.1 (t'.1.1 + 1) l (a + 1)
    rw [h1]
    unfold va_up
    rw [h5 a]
theorem jm_eqs_pi {t t' : jm_T} (h : jm_eqs t t') (a k : Nat) (v : Int32) : jm_eqs (jm_pi t a k v) (jm_pi t' a k v) := h
theorem jm_eqs_pj {t t' : jm_T} (h : jm_eqs t t') (a k : Nat) (v : Int64) : jm_eqs (jm_pj t a k v) (jm_pj t' a k v) := h
theorem jm_eqs_ff {t t' : jm_T} (h : jm_eqs t t') (a k : Nat) (v : Int32) : jm_eqs (jm_ff t a k v) (jm_ff t' a k v) := h
theorem jm_eqs_pr {t t' : jm_T} (h : jm_eqs t t') (a k b : Nat) : jm_eqs (jm_pr t a k b) (jm_pr t' a k b) := by
  obtain ⟨h1, h2, h3, h4, h5⟩ := h
  refine ⟨h1, h2, h3, ?_, h5⟩
  show jm_upR t.1.2.2.2.2 a k (some b) = jm_upR t'.1.2.2.2.2 a k (some b)
  rw [h4]
theorem jm_eqs_kF {t t' : jm_T} (h : jm_eqs t t') (a : Nat) : jm_eqs (jm_kF t a) (jm_kF t' a) := by
  unfold jm_kF jm_kF2 jm_kF1
  rw [h.1]
  exact jm_eqs_ff (jm_eqs_ff (jm_eqs_pr (jm_eqs_nw (jm_eqs_pr (jm_eqs_nw (jm_eqs_pi (jm_eqs_pi (jm_eqs_pi h _ _ _) _ _ _) _ _ _) _ _ _) _ _ _) _ _ _) _ _ _) _ _ _) _ _ _
theorem eq0 (L : Nat) (xs : Nat → Int32) : jm_eqs (kt0 L xs) (kt0 0 (fun _ => 0)) := ⟨rfl, rfl, rfl, rfl, fun _ => rfl⟩
theorem eq1 (L : Nat) (xs : Nat → Int32) : jm_eqs (kt1 L xs) (kt1 0 (fun _ => 0)) := jm_eqs_nw (eq0 L xs) 7 0 8
theorem eq2 (L : Nat) (xs : Nat → Int32) : jm_eqs (kt2 L xs) (kt2 0 (fun _ => 0)) := jm_eqs_nw (eq1 L xs) 1 0 5
theorem eq3 (L : Nat) (xs : Nat → Int32) : jm_eqs (kt3 L xs) (kt3 0 (fun _ => 0)) := jm_eqs_kF (eq2 L xs) 2
theorem eq4 (L : Nat) (xs : Nat → Int32) : jm_eqs (kt4 L xs) (kt4 0 (fun _ => 0)) := jm_eqs_pr (eq3 L xs) 1 0 2
theorem eq5 (L : Nat) (xs : Nat → Int32) : jm_eqs (kt5 L xs) (kt5 0 (fun _ => 0)) := jm_eqs_nw (eq4 L xs) 5 0 3
theorem eq6 (L : Nat) (xs : Nat → Int32) : jm_eqs (kt6 L xs) (kt6 0 (fun _ => 0)) := jm_eqs_nw (eq5 L xs) 12 8 8
theorem eq7 (L : Nat) (xs : Nat → Int32) : jm_eqs (kt7 L xs) (kt7 0 (fun _ => 0)) := jm_eqs_pr (eq6 L xs) 5 0 6
theorem eq8 (L : Nat) (xs : Nat → Int32) : jm_eqs (kt8 L xs) (kt8 0 (fun _ => 0)) := jm_eqs_pi (eq7 L xs) 5 1 0
theorem eq9 (L : Nat) (xs : Nat → Int32) : jm_eqs (kt9 L xs) (kt9 0 (fun _ => 0)) := jm_eqs_pi (eq8 L xs) 5 2 0
theorem eq10 (L : Nat) (xs : Nat → Int32) : jm_eqs (kt10 L xs) (kt10 0 (fun _ => 0)) := jm_eqs_nw (eq9 L xs) 1 0 5
theorem eq11 (L : Nat) (xs : Nat → Int32) : jm_eqs (kt11 L xs) (kt11 0 (fun _ => 0)) := jm_eqs_kF (eq10 L xs) 7
theorem eq12 (L : Nat) (xs : Nat → Int32) : jm_eqs (kt12 L xs) (kt12 0 (fun _ => 0)) := jm_eqs_pr (eq11 L xs) 6 0 7
theorem eq13 (L : Nat) (xs : Nat → Int32) : jm_eqs (kt13 L xs) (kt13 0 (fun _ => 0)) := jm_eqs_nw (eq12 L xs) 1 0 5
theorem eq14 (L : Nat) (xs : Nat → Int32) : jm_eqs (kt14 L xs) (kt14 0 (fun _ => 0)) := jm_eqs_kF (eq13 L xs) 10
theorem eq15 (L : Nat) (xs : Nat → Int32) : jm_eqs (kt15 L xs) (kt15 0 (fun _ => 0)) := jm_eqs_pr (eq14 L xs) 6 1 10
theorem eq16 (L : Nat) (xs : Nat → Int32) : jm_eqs (kt16 L xs) (kt16 0 (fun _ => 0)) := jm_eqs_nw (eq15 L xs) 1 0 5
theorem eq17 (L : Nat) (xs : Nat → Int32) : jm_eqs (kt17 L xs) (kt17 0 (fun _ => 0)) := jm_eqs_kF (eq16 L xs) 13
theorem eq18 (L : Nat) (xs : Nat → Int32) : jm_eqs (kt18 L xs) (kt18 0 (fun _ => 0)) := jm_eqs_pr (eq17 L xs) 6 2 13
theorem eq19 (L : Nat) (xs : Nat → Int32) : jm_eqs (kt19 L xs) (kt19 0 (fun _ => 0)) := jm_eqs_nw (eq18 L xs) 1 0 5
theorem eq20 (L : Nat) (xs : Nat → Int32) : jm_eqs (kt20 L xs) (kt20 0 (fun _ => 0)) := jm_eqs_kF (eq19 L xs) 16
theorem eq21 (L : Nat) (xs : Nat → Int32) : jm_eqs (kt21 L xs) (kt21 0 (fun _ => 0)) := jm_eqs_pr (eq20 L xs) 6 3 16
theorem eq22 (L : Nat) (xs : Nat → Int32) : jm_eqs (kt22 L xs) (kt22 0 (fun _ => 0)) := jm_eqs_nw (eq21 L xs) 1 0 5
theorem eq23 (L : Nat) (xs : Nat → Int32) : jm_eqs (kt23 L xs) (kt23 0 (fun _ => 0)) := jm_eqs_kF (eq22 L xs) 19
theorem eq24 (L : Nat) (xs : Nat → Int32) : jm_eqs (kt24 L xs) (kt24 0 (fun _ => 0)) := jm_eqs_pr (eq23 L xs) 6 4 19
theorem eq25 (L : Nat) (xs : Nat → Int32) : jm_eqs (kt25 L xs) (kt25 0 (fun _ => 0)) := jm_eqs_nw (eq24 L xs) 1 0 5
theorem eq26 (L : Nat) (xs : Nat → Int32) : jm_eqs (kt26 L xs) (kt26 0 (fun _ => 0)) := jm_eqs_kF (eq25 L xs) 22
theorem eq27 (L : Nat) (xs : Nat → Int32) : jm_eqs (kt27 L xs) (kt27 0 (fun _ => 0)) := jm_eqs_pr (eq26 L xs) 6 5 22
theorem eq28 (L : Nat) (xs : Nat → Int32) : jm_eqs (kt28 L xs) (kt28 0 (fun _ => 0)) := jm_eqs_nw (eq27 L xs) 1 0 5
theorem eq29 (L : Nat) (xs : Nat → Int32) : jm_eqs (kt29 L xs) (kt29 0 (fun _ => 0)) := jm_eqs_kF (eq28 L xs) 25
theorem eq30 (L : Nat) (xs : Nat → Int32) : jm_eqs (kt30 L xs) (kt30 0 (fun _ => 0)) := jm_eqs_pr (eq29 L xs) 6 6 25
theorem eq31 (L : Nat) (xs : Nat → Int32) : jm_eqs (kt31 L xs) (kt31 0 (fun _ => 0)) := jm_eqs_nw (eq30 L xs) 1 0 5
theorem eq32 (L : Nat) (xs : Nat → Int32) : jm_eqs (kt32 L xs) (kt32 0 (fun _ => 0)) := jm_eqs_kF (eq31 L xs) 28
theorem eq33 (L : Nat) (xs : Nat → Int32) : jm_eqs (kt33 L xs) (kt33 0 (fun _ => 0)) := jm_eqs_pr (eq32 L xs) 6 7 28
theorem eq34 (L : Nat) (xs : Nat → Int32) : jm_eqs (kt34 L xs) (kt34 0 (fun _ => 0)) := jm_eqs_pr (eq33 L xs) 1 1 5
theorem eq35 (L : Nat) (xs : Nat → Int32) : jm_eqs (kt35 L xs) (kt35 0 (fun _ => 0)) := jm_eqs_nw (eq34 L xs) 12 2 2
theorem eq36 (L : Nat) (xs : Nat → Int32) : jm_eqs (kt36 L xs) (kt36 0 (fun _ => 0)) := jm_eqs_pr (eq35 L xs) 1 2 31
theorem eq37 (L : Nat) (xs : Nat → Int32) : jm_eqs (kt37 L xs) (kt37 0 (fun _ => 0)) := jm_eqs_nw (eq36 L xs) 1 0 5
theorem eq38 (L : Nat) (xs : Nat → Int32) : jm_eqs (kt38 L xs) (kt38 0 (fun _ => 0)) := jm_eqs_kF (eq37 L xs) 32
theorem eq39 (L : Nat) (xs : Nat → Int32) : jm_eqs (kt39 L xs) (kt39 0 (fun _ => 0)) := jm_eqs_pr (eq38 L xs) 31 0 32
theorem eq40 (L : Nat) (xs : Nat → Int32) : jm_eqs (kt40 L xs) (kt40 0 (fun _ => 0)) := jm_eqs_nw (eq39 L xs) 1 0 5
theorem eq41 (L : Nat) (xs : Nat → Int32) : jm_eqs (kt41 L xs) (kt41 0 (fun _ => 0)) := jm_eqs_kF (eq40 L xs) 35
theorem eq42 (L : Nat) (xs : Nat → Int32) : jm_eqs (kt42 L xs) (kt42 0 (fun _ => 0)) := jm_eqs_pr (eq41 L xs) 31 1 35
theorem eq43 (L : Nat) (xs : Nat → Int32) : jm_eqs (kt43 L xs) (kt43 0 (fun _ => 0)) := jm_eqs_nw (eq42 L xs) 10 2 2
theorem eq44 (L : Nat) (xs : Nat → Int32) : jm_eqs (kt44 L xs) (kt44 0 (fun _ => 0)) := jm_eqs_pr (eq43 L xs) 1 3 38
theorem eq45 (L : Nat) (xs : Nat → Int32) : jm_eqs (kt45 L xs) (kt45 0 (fun _ => 0)) := jm_eqs_nw (eq44 L xs) 2 0 4
theorem eq46 (L : Nat) (xs : Nat → Int32) : jm_eqs (kt46 L xs) (kt46 0 (fun _ => 0)) := jm_eqs_pi (eq45 L xs) 39 0 0
theorem eq47 (L : Nat) (xs : Nat → Int32) : jm_eqs (kt47 L xs) (kt47 0 (fun _ => 0)) := jm_eqs_pi (eq46 L xs) 39 1 0
theorem eq48 (L : Nat) (xs : Nat → Int32) : jm_eqs (kt48 L xs) (kt48 0 (fun _ => 0)) := jm_eqs_nw (eq47 L xs) 11 6 6
theorem eq49 (L : Nat) (xs : Nat → Int32) : jm_eqs (kt49 L xs) (kt49 0 (fun _ => 0)) := jm_eqs_pr (eq48 L xs) 39 2 40
theorem eq50 (L : Nat) (xs : Nat → Int32) : jm_eqs (kt50 L xs) (kt50 0 (fun _ => 0)) := jm_eqs_nw (eq49 L xs) 13 6 6
theorem eq51 (L : Nat) (xs : Nat → Int32) : jm_eqs (kt51 L xs) (kt51 0 (fun _ => 0)) := jm_eqs_pr (eq50 L xs) 39 3 41
theorem eq52 (L : Nat) (xs : Nat → Int32) : jm_eqs (kt52 L xs) (kt52 0 (fun _ => 0)) := jm_eqs_nw (eq51 L xs) 0 0 4
theorem eq53 (L : Nat) (xs : Nat → Int32) : jm_eqs (kt53 L xs) (kt53 0 (fun _ => 0)) := jm_eqs_pi (eq52 L xs) 42 0 0
theorem eq54 (L : Nat) (xs : Nat → Int32) : jm_eqs (kt54 L xs) (kt54 0 (fun _ => 0)) := jm_eqs_pi (eq53 L xs) 42 1 0
theorem eq55 (L : Nat) (xs : Nat → Int32) : jm_eqs (kt55 L xs) (kt55 0 (fun _ => 0)) := jm_eqs_nw (eq54 L xs) 9 24 24
theorem eq56 (L : Nat) (xs : Nat → Int32) : jm_eqs (kt56 L xs) (kt56 0 (fun _ => 0)) := jm_eqs_pr (eq55 L xs) 42 2 43
theorem eq57 (L : Nat) (xs : Nat → Int32) : jm_eqs (kt57 L xs) (kt57 0 (fun _ => 0)) := jm_eqs_nw (eq56 L xs) 9 24 24
theorem eq58 (L : Nat) (xs : Nat → Int32) : jm_eqs (kt58 L xs) (kt58 0 (fun _ => 0)) := jm_eqs_pr (eq57 L xs) 42 3 44
theorem eq59 (L : Nat) (xs : Nat → Int32) : jm_eqs (kt59 L xs) (kt59 0 (fun _ => 0)) := jm_eqs_pr (eq58 L xs) 40 0 42
theorem eq60 (L : Nat) (xs : Nat → Int32) : jm_eqs (kt60 L xs) (kt60 0 (fun _ => 0)) := jm_eqs_nw (eq59 L xs) 3 0 7
theorem eq61 (L : Nat) (xs : Nat → Int32) : jm_eqs (kt61 L xs) (kt61 0 (fun _ => 0)) := jm_eqs_pi (eq60 L xs) 45 0 0
theorem eq62 (L : Nat) (xs : Nat → Int32) : jm_eqs (kt62 L xs) (kt62 0 (fun _ => 0)) := jm_eqs_nw (eq61 L xs) 9 24 24
theorem eq63 (L : Nat) (xs : Nat → Int32) : jm_eqs (kt63 L xs) (kt63 0 (fun _ => 0)) := jm_eqs_pr (eq62 L xs) 45 1 46
theorem eq64 (L : Nat) (xs : Nat → Int32) : jm_eqs (kt64 L xs) (kt64 0 (fun _ => 0)) := jm_eqs_nw (eq63 L xs) 9 24 24
theorem eq65 (L : Nat) (xs : Nat → Int32) : jm_eqs (kt65 L xs) (kt65 0 (fun _ => 0)) := jm_eqs_pr (eq64 L xs) 45 2 47
theorem eq66 (L : Nat) (xs : Nat → Int32) : jm_eqs (kt66 L xs) (kt66 0 (fun _ => 0)) := jm_eqs_nw (eq65 L xs) 9 24 24
theorem eq67 (L : Nat) (xs : Nat → Int32) : jm_eqs (kt67 L xs) (kt67 0 (fun _ => 0)) := jm_eqs_pr (eq66 L xs) 45 3 48
theorem eq68 (L : Nat) (xs : Nat → Int32) : jm_eqs (kt68 L xs) (kt68 0 (fun _ => 0)) := jm_eqs_nw (eq67 L xs) 9 24 24
theorem eq69 (L : Nat) (xs : Nat → Int32) : jm_eqs (kt69 L xs) (kt69 0 (fun _ => 0)) := jm_eqs_pr (eq68 L xs) 45 4 49
theorem eq70 (L : Nat) (xs : Nat → Int32) : jm_eqs (kt70 L xs) (kt70 0 (fun _ => 0)) := jm_eqs_nw (eq69 L xs) 9 24 24
theorem eq71 (L : Nat) (xs : Nat → Int32) : jm_eqs (kt71 L xs) (kt71 0 (fun _ => 0)) := jm_eqs_pr (eq70 L xs) 45 5 50
theorem eq72 (L : Nat) (xs : Nat → Int32) : jm_eqs (kt72 L xs) (kt72 0 (fun _ => 0)) := jm_eqs_nw (eq71 L xs) 9 24 24
theorem eq73 (L : Nat) (xs : Nat → Int32) : jm_eqs (kt73 L xs) (kt73 0 (fun _ => 0)) := jm_eqs_pr (eq72 L xs) 45 6 51
theorem eq74 (L : Nat) (xs : Nat → Int32) : jm_eqs (kt74 L xs) (kt74 0 (fun _ => 0)) := jm_eqs_pr (eq73 L xs) 41 0 45
theorem eq75 (L : Nat) (xs : Nat → Int32) : jm_eqs (kt75 L xs) (kt75 0 (fun _ => 0)) := jm_eqs_nw (eq74 L xs) 0 0 4
theorem eq76 (L : Nat) (xs : Nat → Int32) : jm_eqs (kt76 L xs) (kt76 0 (fun _ => 0)) := jm_eqs_pi (eq75 L xs) 52 0 0
theorem eq77 (L : Nat) (xs : Nat → Int32) : jm_eqs (kt77 L xs) (kt77 0 (fun _ => 0)) := jm_eqs_pi (eq76 L xs) 52 1 0
theorem eq78 (L : Nat) (xs : Nat → Int32) : jm_eqs (kt78 L xs) (kt78 0 (fun _ => 0)) := jm_eqs_nw (eq77 L xs) 9 24 24
theorem eq79 (L : Nat) (xs : Nat → Int32) : jm_eqs (kt79 L xs) (kt79 0 (fun _ => 0)) := jm_eqs_pr (eq78 L xs) 52 2 53
theorem eq80 (L : Nat) (xs : Nat → Int32) : jm_eqs (kt80 L xs) (kt80 0 (fun _ => 0)) := jm_eqs_nw (eq79 L xs) 9 24 24
theorem eq81 (L : Nat) (xs : Nat → Int32) : jm_eqs (kt81 L xs) (kt81 0 (fun _ => 0)) := jm_eqs_pr (eq80 L xs) 52 3 54
theorem eq82 (L : Nat) (xs : Nat → Int32) : jm_eqs (kt82 L xs) (kt82 0 (fun _ => 0)) := jm_eqs_pr (eq81 L xs) 40 1 52
theorem eq83 (L : Nat) (xs : Nat → Int32) : jm_eqs (kt83 L xs) (kt83 0 (fun _ => 0)) := jm_eqs_nw (eq82 L xs) 3 0 7
theorem eq84 (L : Nat) (xs : Nat → Int32) : jm_eqs (kt84 L xs) (kt84 0 (fun _ => 0)) := jm_eqs_pi (eq83 L xs) 55 0 0
theorem eq85 (L : Nat) (xs : Nat → Int32) : jm_eqs (kt85 L xs) (kt85 0 (fun _ => 0)) := jm_eqs_nw (eq84 L xs) 9 24 24
theorem eq86 (L : Nat) (xs : Nat → Int32) : jm_eqs (kt86 L xs) (kt86 0 (fun _ => 0)) := jm_eqs_pr (eq85 L xs) 55 1 56
theorem eq87 (L : Nat) (xs : Nat → Int32) : jm_eqs (kt87 L xs) (kt87 0 (fun _ => 0)) := jm_eqs_nw (eq86 L xs) 9 24 24
theorem eq88 (L : Nat) (xs : Nat → Int32) : jm_eqs (kt88 L xs) (kt88 0 (fun _ => 0)) := jm_eqs_pr (eq87 L xs) 55 2 57
theorem eq89 (L : Nat) (xs : Nat → Int32) : jm_eqs (kt89 L xs) (kt89 0 (fun _ => 0)) := jm_eqs_nw (eq88 L xs) 9 24 24
theorem eq90 (L : Nat) (xs : Nat → Int32) : jm_eqs (kt90 L xs) (kt90 0 (fun _ => 0)) := jm_eqs_pr (eq89 L xs) 55 3 58
theorem eq91 (L : Nat) (xs : Nat → Int32) : jm_eqs (kt91 L xs) (kt91 0 (fun _ => 0)) := jm_eqs_nw (eq90 L xs) 9 24 24
theorem eq92 (L : Nat) (xs : Nat → Int32) : jm_eqs (kt92 L xs) (kt92 0 (fun _ => 0)) := jm_eqs_pr (eq91 L xs) 55 4 59
theorem eq93 (L : Nat) (xs : Nat → Int32) : jm_eqs (kt93 L xs) (kt93 0 (fun _ => 0)) := jm_eqs_nw (eq92 L xs) 9 24 24
theorem eq94 (L : Nat) (xs : Nat → Int32) : jm_eqs (kt94 L xs) (kt94 0 (fun _ => 0)) := jm_eqs_pr (eq93 L xs) 55 5 60
theorem eq95 (L : Nat) (xs : Nat → Int32) : jm_eqs (kt95 L xs) (kt95 0 (fun _ => 0)) := jm_eqs_nw (eq94 L xs) 9 24 24
theorem eq96 (L : Nat) (xs : Nat → Int32) : jm_eqs (kt96 L xs) (kt96 0 (fun _ => 0)) := jm_eqs_pr (eq95 L xs) 55 6 61
theorem eq97 (L : Nat) (xs : Nat → Int32) : jm_eqs (kt97 L xs) (kt97 0 (fun _ => 0)) := jm_eqs_pr (eq96 L xs) 41 1 55
theorem eq98 (L : Nat) (xs : Nat → Int32) : jm_eqs (kt98 L xs) (kt98 0 (fun _ => 0)) := jm_eqs_nw (eq97 L xs) 0 0 4
theorem eq99 (L : Nat) (xs : Nat → Int32) : jm_eqs (kt99 L xs) (kt99 0 (fun _ => 0)) := jm_eqs_pi (eq98 L xs) 62 0 0
theorem eq100 (L : Nat) (xs : Nat → Int32) : jm_eqs (kt100 L xs) (kt100 0 (fun _ => 0)) := jm_eqs_pi (eq99 L xs) 62 1 0
theorem eq101 (L : Nat) (xs : Nat → Int32) : jm_eqs (kt101 L xs) (kt101 0 (fun _ => 0)) := jm_eqs_nw (eq100 L xs) 9 24 24
theorem eq102 (L : Nat) (xs : Nat → Int32) : jm_eqs (kt102 L xs) (kt102 0 (fun _ => 0)) := jm_eqs_pr (eq101 L xs) 62 2 63
theorem eq103 (L : Nat) (xs : Nat → Int32) : jm_eqs (kt103 L xs) (kt103 0 (fun _ => 0)) := jm_eqs_nw (eq102 L xs) 9 24 24
theorem eq104 (L : Nat) (xs : Nat → Int32) : jm_eqs (kt104 L xs) (kt104 0 (fun _ => 0)) := jm_eqs_pr (eq103 L xs) 62 3 64
theorem eq105 (L : Nat) (xs : Nat → Int32) : jm_eqs (kt105 L xs) (kt105 0 (fun _ => 0)) := jm_eqs_pr (eq104 L xs) 40 2 62
theorem eq106 (L : Nat) (xs : Nat → Int32) : jm_eqs (kt106 L xs) (kt106 0 (fun _ => 0)) := jm_eqs_nw (eq105 L xs) 3 0 7
theorem eq107 (L : Nat) (xs : Nat → Int32) : jm_eqs (kt107 L xs) (kt107 0 (fun _ => 0)) := jm_eqs_pi (eq106 L xs) 65 0 0
theorem eq108 (L : Nat) (xs : Nat → Int32) : jm_eqs (kt108 L xs) (kt108 0 (fun _ => 0)) := jm_eqs_nw (eq107 L xs) 9 24 24
theorem eq109 (L : Nat) (xs : Nat → Int32) : jm_eqs (kt109 L xs) (kt109 0 (fun _ => 0)) := jm_eqs_pr (eq108 L xs) 65 1 66
theorem eq110 (L : Nat) (xs : Nat → Int32) : jm_eqs (kt110 L xs) (kt110 0 (fun _ => 0)) := jm_eqs_nw (eq109 L xs) 9 24 24
theorem eq111 (L : Nat) (xs : Nat → Int32) : jm_eqs (kt111 L xs) (kt111 0 (fun _ => 0)) := jm_eqs_pr (eq110 L xs) 65 2 67
theorem eq112 (L : Nat) (xs : Nat → Int32) : jm_eqs (kt112 L xs) (kt112 0 (fun _ => 0)) := jm_eqs_nw (eq111 L xs) 9 24 24
theorem eq113 (L : Nat) (xs : Nat → Int32) : jm_eqs (kt113 L xs) (kt113 0 (fun _ => 0)) := jm_eqs_pr (eq112 L xs) 65 3 68
theorem eq114 (L : Nat) (xs : Nat → Int32) : jm_eqs (kt114 L xs) (kt114 0 (fun _ => 0)) := jm_eqs_nw (eq113 L xs) 9 24 24
theorem eq115 (L : Nat) (xs : Nat → Int32) : jm_eqs (kt115 L xs) (kt115 0 (fun _ => 0)) := jm_eqs_pr (eq114 L xs) 65 4 69
theorem eq116 (L : Nat) (xs : Nat → Int32) : jm_eqs (kt116 L xs) (kt116 0 (fun _ => 0)) := jm_eqs_nw (eq115 L xs) 9 24 24
theorem eq117 (L : Nat) (xs : Nat → Int32) : jm_eqs (kt117 L xs) (kt117 0 (fun _ => 0)) := jm_eqs_pr (eq116 L xs) 65 5 70
theorem eq118 (L : Nat) (xs : Nat → Int32) : jm_eqs (kt118 L xs) (kt118 0 (fun _ => 0)) := jm_eqs_nw (eq117 L xs) 9 24 24
theorem eq119 (L : Nat) (xs : Nat → Int32) : jm_eqs (kt119 L xs) (kt119 0 (fun _ => 0)) := jm_eqs_pr (eq118 L xs) 65 6 71
theorem eq120 (L : Nat) (xs : Nat → Int32) : jm_eqs (kt120 L xs) (kt120 0 (fun _ => 0)) := jm_eqs_pr (eq119 L xs) 41 2 65
theorem eq121 (L : Nat) (xs : Nat → Int32) : jm_eqs (kt121 L xs) (kt121 0 (fun _ => 0)) := jm_eqs_nw (eq120 L xs) 0 0 4
theorem eq122 (L : Nat) (xs : Nat → Int32) : jm_eqs (kt122 L xs) (kt122 0 (fun _ => 0)) := jm_eqs_pi (eq121 L xs) 72 0 0
theorem eq123 (L : Nat) (xs : Nat → Int32) : jm_eqs (kt123 L xs) (kt123 0 (fun _ => 0)) := jm_eqs_pi (eq122 L xs) 72 1 0
theorem eq124 (L : Nat) (xs : Nat → Int32) : jm_eqs (kt124 L xs) (kt124 0 (fun _ => 0)) := jm_eqs_nw (eq123 L xs) 9 24 24
theorem eq125 (L : Nat) (xs : Nat → Int32) : jm_eqs (kt125 L xs) (kt125 0 (fun _ => 0)) := jm_eqs_pr (eq124 L xs) 72 2 73
theorem eq126 (L : Nat) (xs : Nat → Int32) : jm_eqs (kt126 L xs) (kt126 0 (fun _ => 0)) := jm_eqs_nw (eq125 L xs) 9 24 24
theorem eq127 (L : Nat) (xs : Nat → Int32) : jm_eqs (kt127 L xs) (kt127 0 (fun _ => 0)) := jm_eqs_pr (eq126 L xs) 72 3 74
theorem eq128 (L : Nat) (xs : Nat → Int32) : jm_eqs (kt128 L xs) (kt128 0 (fun _ => 0)) := jm_eqs_pr (eq127 L xs) 40 3 72
theorem eq129 (L : Nat) (xs : Nat → Int32) : jm_eqs (kt129 L xs) (kt129 0 (fun _ => 0)) := jm_eqs_nw (eq128 L xs) 3 0 7
theorem eq130 (L : Nat) (xs : Nat → Int32) : jm_eqs (kt130 L xs) (kt130 0 (fun _ => 0)) := jm_eqs_pi (eq129 L xs) 75 0 0
theorem eq131 (L : Nat) (xs : Nat → Int32) : jm_eqs (kt131 L xs) (kt131 0 (fun _ => 0)) := jm_eqs_nw (eq130 L xs) 9 24 24
theorem eq132 (L : Nat) (xs : Nat → Int32) : jm_eqs (kt132 L xs) (kt132 0 (fun _ => 0)) := jm_eqs_pr (eq131 L xs) 75 1 76
theorem eq133 (L : Nat) (xs : Nat → Int32) : jm_eqs (kt133 L xs) (kt133 0 (fun _ => 0)) := jm_eqs_nw (eq132 L xs) 9 24 24
theorem eq134 (L : Nat) (xs : Nat → Int32) : jm_eqs (kt134 L xs) (kt134 0 (fun _ => 0)) := jm_eqs_pr (eq133 L xs) 75 2 77
theorem eq135 (L : Nat) (xs : Nat → Int32) : jm_eqs (kt135 L xs) (kt135 0 (fun _ => 0)) := jm_eqs_nw (eq134 L xs) 9 24 24
theorem eq136 (L : Nat) (xs : Nat → Int32) : jm_eqs (kt136 L xs) (kt136 0 (fun _ => 0)) := jm_eqs_pr (eq135 L xs) 75 3 78
theorem eq137 (L : Nat) (xs : Nat → Int32) : jm_eqs (kt137 L xs) (kt137 0 (fun _ => 0)) := jm_eqs_nw (eq136 L xs) 9 24 24
theorem eq138 (L : Nat) (xs : Nat → Int32) : jm_eqs (kt138 L xs) (kt138 0 (fun _ => 0)) := jm_eqs_pr (eq137 L xs) 75 4 79
theorem eq139 (L : Nat) (xs : Nat → Int32) : jm_eqs (kt139 L xs) (kt139 0 (fun _ => 0)) := jm_eqs_nw (eq138 L xs) 9 24 24
theorem eq140 (L : Nat) (xs : Nat → Int32) : jm_eqs (kt140 L xs) (kt140 0 (fun _ => 0)) := jm_eqs_pr (eq139 L xs) 75 5 80
theorem eq141 (L : Nat) (xs : Nat → Int32) : jm_eqs (kt141 L xs) (kt141 0 (fun _ => 0)) := jm_eqs_nw (eq140 L xs) 9 24 24
theorem eq142 (L : Nat) (xs : Nat → Int32) : jm_eqs (kt142 L xs) (kt142 0 (fun _ => 0)) := jm_eqs_pr (eq141 L xs) 75 6 81
theorem eq143 (L : Nat) (xs : Nat → Int32) : jm_eqs (kt143 L xs) (kt143 0 (fun _ => 0)) := jm_eqs_pr (eq142 L xs) 41 3 75
theorem eq144 (L : Nat) (xs : Nat → Int32) : jm_eqs (kt144 L xs) (kt144 0 (fun _ => 0)) := jm_eqs_nw (eq143 L xs) 0 0 4
theorem eq145 (L : Nat) (xs : Nat → Int32) : jm_eqs (kt145 L xs) (kt145 0 (fun _ => 0)) := jm_eqs_pi (eq144 L xs) 82 0 0
theorem eq146 (L : Nat) (xs : Nat → Int32) : jm_eqs (kt146 L xs) (kt146 0 (fun _ => 0)) := jm_eqs_pi (eq145 L xs) 82 1 0
theorem eq147 (L : Nat) (xs : Nat → Int32) : jm_eqs (kt147 L xs) (kt147 0 (fun _ => 0)) := jm_eqs_nw (eq146 L xs) 9 24 24
theorem eq148 (L : Nat) (xs : Nat → Int32) : jm_eqs (kt148 L xs) (kt148 0 (fun _ => 0)) := jm_eqs_pr (eq147 L xs) 82 2 83
theorem eq149 (L : Nat) (xs : Nat → Int32) : jm_eqs (kt149 L xs) (kt149 0 (fun _ => 0)) := jm_eqs_nw (eq148 L xs) 9 24 24
theorem eq150 (L : Nat) (xs : Nat → Int32) : jm_eqs (kt150 L xs) (kt150 0 (fun _ => 0)) := jm_eqs_pr (eq149 L xs) 82 3 84
theorem eq151 (L : Nat) (xs : Nat → Int32) : jm_eqs (kt151 L xs) (kt151 0 (fun _ => 0)) := jm_eqs_pr (eq150 L xs) 40 4 82
theorem eq152 (L : Nat) (xs : Nat → Int32) : jm_eqs (kt152 L xs) (kt152 0 (fun _ => 0)) := jm_eqs_nw (eq151 L xs) 3 0 7
theorem eq153 (L : Nat) (xs : Nat → Int32) : jm_eqs (kt153 L xs) (kt153 0 (fun _ => 0)) := jm_eqs_pi (eq152 L xs) 85 0 0
theorem eq154 (L : Nat) (xs : Nat → Int32) : jm_eqs (kt154 L xs) (kt154 0 (fun _ => 0)) := jm_eqs_nw (eq153 L xs) 9 24 24
theorem eq155 (L : Nat) (xs : Nat → Int32) : jm_eqs (kt155 L xs) (kt155 0 (fun _ => 0)) := jm_eqs_pr (eq154 L xs) 85 1 86
theorem eq156 (L : Nat) (xs : Nat → Int32) : jm_eqs (kt156 L xs) (kt156 0 (fun _ => 0)) := jm_eqs_nw (eq155 L xs) 9 24 24
theorem eq157 (L : Nat) (xs : Nat → Int32) : jm_eqs (kt157 L xs) (kt157 0 (fun _ => 0)) := jm_eqs_pr (eq156 L xs) 85 2 87
theorem eq158 (L : Nat) (xs : Nat → Int32) : jm_eqs (kt158 L xs) (kt158 0 (fun _ => 0)) := jm_eqs_nw (eq157 L xs) 9 24 24
theorem eq159 (L : Nat) (xs : Nat → Int32) : jm_eqs (kt159 L xs) (kt159 0 (fun _ => 0)) := jm_eqs_pr (eq158 L xs) 85 3 88
theorem eq160 (L : Nat) (xs : Nat → Int32) : jm_eqs (kt160 L xs) (kt160 0 (fun _ => 0)) := jm_eqs_nw (eq159 L xs) 9 24 24
theorem eq161 (L : Nat) (xs : Nat → Int32) : jm_eqs (kt161 L xs) (kt161 0 (fun _ => 0)) := jm_eqs_pr (eq160 L xs) 85 4 89
theorem eq162 (L : Nat) (xs : Nat → Int32) : jm_eqs (kt162 L xs) (kt162 0 (fun _ => 0)) := jm_eqs_nw (eq161 L xs) 9 24 24
theorem eq163 (L : Nat) (xs : Nat → Int32) : jm_eqs (kt163 L xs) (kt163 0 (fun _ => 0)) := jm_eqs_pr (eq162 L xs) 85 5 90
theorem eq164 (L : Nat) (xs : Nat → Int32) : jm_eqs (kt164 L xs) (kt164 0 (fun _ => 0)) := jm_eqs_nw (eq163 L xs) 9 24 24
theorem eq165 (L : Nat) (xs : Nat → Int32) : jm_eqs (kt165 L xs) (kt165 0 (fun _ => 0)) := jm_eqs_pr (eq164 L xs) 85 6 91
theorem eq166 (L : Nat) (xs : Nat → Int32) : jm_eqs (kt166 L xs) (kt166 0 (fun _ => 0)) := jm_eqs_pr (eq165 L xs) 41 4 85
theorem eq167 (L : Nat) (xs : Nat → Int32) : jm_eqs (kt167 L xs) (kt167 0 (fun _ => 0)) := jm_eqs_nw (eq166 L xs) 0 0 4
theorem eq168 (L : Nat) (xs : Nat → Int32) : jm_eqs (kt168 L xs) (kt168 0 (fun _ => 0)) := jm_eqs_pi (eq167 L xs) 92 0 0
theorem eq169 (L : Nat) (xs : Nat → Int32) : jm_eqs (kt169 L xs) (kt169 0 (fun _ => 0)) := jm_eqs_pi (eq168 L xs) 92 1 0
theorem eq170 (L : Nat) (xs : Nat → Int32) : jm_eqs (kt170 L xs) (kt170 0 (fun _ => 0)) := jm_eqs_nw (eq169 L xs) 9 24 24
theorem eq171 (L : Nat) (xs : Nat → Int32) : jm_eqs (kt171 L xs) (kt171 0 (fun _ => 0)) := jm_eqs_pr (eq170 L xs) 92 2 93
theorem eq172 (L : Nat) (xs : Nat → Int32) : jm_eqs (kt172 L xs) (kt172 0 (fun _ => 0)) := jm_eqs_nw (eq171 L xs) 9 24 24
theorem eq173 (L : Nat) (xs : Nat → Int32) : jm_eqs (kt173 L xs) (kt173 0 (fun _ => 0)) := jm_eqs_pr (eq172 L xs) 92 3 94
theorem eq174 (L : Nat) (xs : Nat → Int32) : jm_eqs (kt174 L xs) (kt174 0 (fun _ => 0)) := jm_eqs_pr (eq173 L xs) 40 5 92
theorem eq175 (L : Nat) (xs : Nat → Int32) : jm_eqs (kt175 L xs) (kt175 0 (fun _ => 0)) := jm_eqs_nw (eq174 L xs) 3 0 7
theorem eq176 (L : Nat) (xs : Nat → Int32) : jm_eqs (kt176 L xs) (kt176 0 (fun _ => 0)) := jm_eqs_pi (eq175 L xs) 95 0 0
theorem eq177 (L : Nat) (xs : Nat → Int32) : jm_eqs (kt177 L xs) (kt177 0 (fun _ => 0)) := jm_eqs_nw (eq176 L xs) 9 24 24
theorem eq178 (L : Nat) (xs : Nat → Int32) : jm_eqs (kt178 L xs) (kt178 0 (fun _ => 0)) := jm_eqs_pr (eq177 L xs) 95 1 96
theorem eq179 (L : Nat) (xs : Nat → Int32) : jm_eqs (kt179 L xs) (kt179 0 (fun _ => 0)) := jm_eqs_nw (eq178 L xs) 9 24 24
theorem eq180 (L : Nat) (xs : Nat → Int32) : jm_eqs (kt180 L xs) (kt180 0 (fun _ => 0)) := jm_eqs_pr (eq179 L xs) 95 2 97
theorem eq181 (L : Nat) (xs : Nat → Int32) : jm_eqs (kt181 L xs) (kt181 0 (fun _ => 0)) := jm_eqs_nw (eq180 L xs) 9 24 24
theorem eq182 (L : Nat) (xs : Nat → Int32) : jm_eqs (kt182 L xs) (kt182 0 (fun _ => 0)) := jm_eqs_pr (eq181 L xs) 95 3 98
theorem eq183 (L : Nat) (xs : Nat → Int32) : jm_eqs (kt183 L xs) (kt183 0 (fun _ => 0)) := jm_eqs_nw (eq182 L xs) 9 24 24
theorem eq184 (L : Nat) (xs : Nat → Int32) : jm_eqs (kt184 L xs) (kt184 0 (fun _ => 0)) := jm_eqs_pr (eq183 L xs) 95 4 99
theorem eq185 (L : Nat) (xs : Nat → Int32) : jm_eqs (kt185 L xs) (kt185 0 (fun _ => 0)) := jm_eqs_nw (eq184 L xs) 9 24 24
theorem eq186 (L : Nat) (xs : Nat → Int32) : jm_eqs (kt186 L xs) (kt186 0 (fun _ => 0)) := jm_eqs_pr (eq185 L xs) 95 5 100
theorem eq187 (L : Nat) (xs : Nat → Int32) : jm_eqs (kt187 L xs) (kt187 0 (fun _ => 0)) := jm_eqs_nw (eq186 L xs) 9 24 24
theorem eq188 (L : Nat) (xs : Nat → Int32) : jm_eqs (kt188 L xs) (kt188 0 (fun _ => 0)) := jm_eqs_pr (eq187 L xs) 95 6 101
theorem eq189 (L : Nat) (xs : Nat → Int32) : jm_eqs (kt189 L xs) (kt189 0 (fun _ => 0)) := jm_eqs_pr (eq188 L xs) 41 5 95
theorem eq190 (L : Nat) (xs : Nat → Int32) : jm_eqs (kt190 L xs) (kt190 0 (fun _ => 0)) := jm_eqs_pr (eq189 L xs) 1 4 39
theorem eq191 (L : Nat) (xs : Nat → Int32) : jm_eqs (kt191 L xs) (kt191 0 (fun _ => 0)) := jm_eqs_nw (eq190 L xs) 0 0 4
theorem eq192 (L : Nat) (xs : Nat → Int32) : jm_eqs (kt192 L xs) (kt192 0 (fun _ => 0)) := jm_eqs_pi (eq191 L xs) 102 0 0
theorem eq193 (L : Nat) (xs : Nat → Int32) : jm_eqs (kt193 L xs) (kt193 0 (fun _ => 0)) := jm_eqs_pi (eq192 L xs) 102 1 0
theorem eq194 (L : Nat) (xs : Nat → Int32) : jm_eqs (kt194 L xs) (kt194 0 (fun _ => 0)) := jm_eqs_nw (eq193 L xs) 9 24 24
theorem eq195 (L : Nat) (xs : Nat → Int32) : jm_eqs (kt195 L xs) (kt195 0 (fun _ => 0)) := jm_eqs_pr (eq194 L xs) 102 2 103
theorem eq196 (L : Nat) (xs : Nat → Int32) : jm_eqs (kt196 L xs) (kt196 0 (fun _ => 0)) := jm_eqs_nw (eq195 L xs) 9 24 24
theorem eq197 (L : Nat) (xs : Nat → Int32) : jm_eqs (kt197 L xs) (kt197 0 (fun _ => 0)) := jm_eqs_pr (eq196 L xs) 102 3 104
theorem eq198 (L : Nat) (xs : Nat → Int32) : jm_eqs (kt198 L xs) (kt198 0 (fun _ => 0)) := jm_eqs_pr (eq197 L xs) 1 5 102
theorem eq199 (L : Nat) (xs : Nat → Int32) : jm_eqs (kt199 L xs) (kt199 0 (fun _ => 0)) := jm_eqs_nw (eq198 L xs) 6 0 8
theorem eq200 (L : Nat) (xs : Nat → Int32) : jm_eqs (kt200 L xs) (kt200 0 (fun _ => 0)) := jm_eqs_pi (eq199 L xs) 105 0 (-1)
theorem eq201 (L : Nat) (xs : Nat → Int32) : jm_eqs (kt201 L xs) (kt201 0 (fun _ => 0)) := jm_eqs_pi (eq200 L xs) 105 1 0
theorem eq202 (L : Nat) (xs : Nat → Int32) : jm_eqs (kt202 L xs) (kt202 0 (fun _ => 0)) := jm_eqs_nw (eq201 L xs) 9 24 24
theorem eq203 (L : Nat) (xs : Nat → Int32) : jm_eqs (kt203 L xs) (kt203 0 (fun _ => 0)) := jm_eqs_pr (eq202 L xs) 105 2 106
theorem eq204 (L : Nat) (xs : Nat → Int32) : jm_eqs (kt204 L xs) (kt204 0 (fun _ => 0)) := jm_eqs_nw (eq203 L xs) 9 24 24
theorem eq205 (L : Nat) (xs : Nat → Int32) : jm_eqs (kt205 L xs) (kt205 0 (fun _ => 0)) := jm_eqs_pr (eq204 L xs) 105 3 107
theorem eq206 (L : Nat) (xs : Nat → Int32) : jm_eqs (kt206 L xs) (kt206 0 (fun _ => 0)) := jm_eqs_nw (eq205 L xs) 9 24 24
theorem eq207 (L : Nat) (xs : Nat → Int32) : jm_eqs (kt207 L xs) (kt207 0 (fun _ => 0)) := jm_eqs_pr (eq206 L xs) 105 4 108
theorem eq208 (L : Nat) (xs : Nat → Int32) : jm_eqs (kt208 L xs) (kt208 0 (fun _ => 0)) := jm_eqs_nw (eq207 L xs) 9 24 24
theorem eq209 (L : Nat) (xs : Nat → Int32) : jm_eqs (kt209 L xs) (kt209 0 (fun _ => 0)) := jm_eqs_pr (eq208 L xs) 105 5 109
theorem eq210 (L : Nat) (xs : Nat → Int32) : jm_eqs (kt210 L xs) (kt210 0 (fun _ => 0)) := jm_eqs_nw (eq209 L xs) 9 24 24
theorem eq211 (L : Nat) (xs : Nat → Int32) : jm_eqs (kt211 L xs) (kt211 0 (fun _ => 0)) := jm_eqs_pr (eq210 L xs) 105 6 110
theorem eq212 (L : Nat) (xs : Nat → Int32) : jm_eqs (kt212 L xs) (kt212 0 (fun _ => 0)) := jm_eqs_nw (eq211 L xs) 9 24 24
theorem eq213 (L : Nat) (xs : Nat → Int32) : jm_eqs (kt213 L xs) (kt213 0 (fun _ => 0)) := jm_eqs_pr (eq212 L xs) 105 7 111
theorem eq214 (L : Nat) (xs : Nat → Int32) : jm_eqs (kt214 L xs) (kt214 0 (fun _ => 0)) := jm_eqs_pr (eq213 L xs) 1 6 105
theorem eq215 (L : Nat) (xs : Nat → Int32) : jm_eqs (kt215 L xs) (kt215 0 (fun _ => 0)) := jm_eqs_nw (eq214 L xs) 4 0 1
theorem eq216 (L : Nat) (xs : Nat → Int32) : jm_eqs (kt216 L xs) (kt216 0 (fun _ => 0)) := jm_eqs_pj (eq215 L xs) 112 0 1
theorem eq217 (L : Nat) (xs : Nat → Int32) : jm_eqs (kt217 L xs) (kt217 0 (fun _ => 0)) := jm_eqs_pr (eq216 L xs) 1 7 112
theorem eq218 (L : Nat) (xs : Nat → Int32) : jm_eqs (kt218 L xs) (kt218 0 (fun _ => 0)) := jm_eqs_nw (eq217 L xs) 8 0 16
theorem eq219 (L : Nat) (xs : Nat → Int32) : jm_eqs (kt219 L xs) (kt219 0 (fun _ => 0)) := jm_eqs_nw (eq218 L xs) 9 3531 3531
theorem eq220 (L : Nat) (xs : Nat → Int32) : jm_eqs (kt220 L xs) (kt220 0 (fun _ => 0)) := jm_eqs_pr (eq219 L xs) 113 0 114
theorem eq221 (L : Nat) (xs : Nat → Int32) : jm_eqs (kt221 L xs) (kt221 0 (fun _ => 0)) := jm_eqs_nw (eq220 L xs) 10 2 2
theorem eq222 (L : Nat) (xs : Nat → Int32) : jm_eqs (kt222 L xs) (kt222 0 (fun _ => 0)) := jm_eqs_pr (eq221 L xs) 113 1 115
theorem eq223 (L : Nat) (xs : Nat → Int32) : jm_eqs (kt223 L xs) (kt223 0 (fun _ => 0)) := jm_eqs_nw (eq222 L xs) 9 144 144
theorem eq224 (L : Nat) (xs : Nat → Int32) : jm_eqs (kt224 L xs) (kt224 0 (fun _ => 0)) := jm_eqs_pr (eq223 L xs) 113 4 116
theorem eq225 (L : Nat) (xs : Nat → Int32) : jm_eqs (kt225 L xs) (kt225 0 (fun _ => 0)) := jm_eqs_nw (eq224 L xs) 9 6 6
theorem eq226 (L : Nat) (xs : Nat → Int32) : jm_eqs (kt226 L xs) (kt226 0 (fun _ => 0)) := jm_eqs_pr (eq225 L xs) 113 5 117
theorem eq227 (L : Nat) (xs : Nat → Int32) : jm_eqs (kt227 L xs) (kt227 0 (fun _ => 0)) := jm_eqs_nw (eq226 L xs) 9 24 24
theorem eq228 (L : Nat) (xs : Nat → Int32) : jm_eqs (kt228 L xs) (kt228 0 (fun _ => 0)) := jm_eqs_pr (eq227 L xs) 113 7 118
theorem eq229 (L : Nat) (xs : Nat → Int32) : jm_eqs (kt229 L xs) (kt229 0 (fun _ => 0)) := jm_eqs_nw (eq228 L xs) 9 24 24
theorem eq230 (L : Nat) (xs : Nat → Int32) : jm_eqs (kt230 L xs) (kt230 0 (fun _ => 0)) := jm_eqs_pr (eq229 L xs) 113 8 119
theorem eq231 (L : Nat) (xs : Nat → Int32) : jm_eqs (kt231 L xs) (kt231 0 (fun _ => 0)) := jm_eqs_nw (eq230 L xs) 9 24 24
theorem eq232 (L : Nat) (xs : Nat → Int32) : jm_eqs (kt232 L xs) (kt232 0 (fun _ => 0)) := jm_eqs_pr (eq231 L xs) 113 9 120
theorem eq233 (L : Nat) (xs : Nat → Int32) : jm_eqs (kt233 L xs) (kt233 0 (fun _ => 0)) := jm_eqs_nw (eq232 L xs) 9 24 24
theorem eq234 (L : Nat) (xs : Nat → Int32) : jm_eqs (kt234 L xs) (kt234 0 (fun _ => 0)) := jm_eqs_pr (eq233 L xs) 113 10 121
theorem eq235 (L : Nat) (xs : Nat → Int32) : jm_eqs (kt235 L xs) (kt235 0 (fun _ => 0)) := jm_eqs_nw (eq234 L xs) 9 48 48
theorem eq236 (L : Nat) (xs : Nat → Int32) : jm_eqs (kt236 L xs) (kt236 0 (fun _ => 0)) := jm_eqs_pr (eq235 L xs) 113 12 122
theorem eq237 (L : Nat) (xs : Nat → Int32) : jm_eqs (kt237 L xs) (kt237 0 (fun _ => 0)) := jm_eqs_nw (eq236 L xs) 9 48 48
theorem eq238 (L : Nat) (xs : Nat → Int32) : jm_eqs (kt238 L xs) (kt238 0 (fun _ => 0)) := jm_eqs_pr (eq237 L xs) 113 13 123
theorem eq239 (L : Nat) (xs : Nat → Int32) : jm_eqs (kt239 L xs) (kt239 0 (fun _ => 0)) := jm_eqs_nw (eq238 L xs) 9 48 48
theorem eq240 (L : Nat) (xs : Nat → Int32) : jm_eqs (kt240 L xs) (kt240 0 (fun _ => 0)) := jm_eqs_pr (eq239 L xs) 113 14 124
theorem eq241 (L : Nat) (xs : Nat → Int32) : jm_eqs (kt241 L xs) (kt241 0 (fun _ => 0)) := jm_eqs_nw (eq240 L xs) 9 48 48
theorem eq242 (L : Nat) (xs : Nat → Int32) : jm_eqs (kt242 L xs) (kt242 0 (fun _ => 0)) := jm_eqs_pr (eq241 L xs) 113 15 125
theorem eq243 (L : Nat) (xs : Nat → Int32) : jm_eqs (kt243 L xs) (kt243 0 (fun _ => 0)) := jm_eqs_pi (eq242 L xs) 114 0 8
theorem eq244 (L : Nat) (xs : Nat → Int32) : jm_eqs (kt244 L xs) (kt244 0 (fun _ => 0)) := jm_eqs_pi (eq243 L xs) 114 1 2
theorem eq245 (L : Nat) (xs : Nat → Int32) : jm_eqs (kt245 L xs) (kt245 0 (fun _ => 0)) := jm_eqs_pi (eq244 L xs) 114 3 1
theorem eq246 (L : Nat) (xs : Nat → Int32) : jm_eqs (kt246 L xs) (kt246 0 (fun _ => 0)) := jm_eqs_pi (eq245 L xs) 114 4 1
theorem eq247 (L : Nat) (xs : Nat → Int32) : jm_eqs (kt247 L xs) (kt247 0 (fun _ => 0)) := jm_eqs_pi (eq246 L xs) 114 5 1
theorem eq248 (L : Nat) (xs : Nat → Int32) : jm_eqs (kt248 L xs) (kt248 0 (fun _ => 0)) := jm_eqs_pi (eq247 L xs) 114 6 1
theorem eq249 (L : Nat) (xs : Nat → Int32) : jm_eqs (kt249 L xs) (kt249 0 (fun _ => 0)) := jm_eqs_pi (eq248 L xs) 114 7 1
theorem eq250 (L : Nat) (xs : Nat → Int32) : jm_eqs (kt250 L xs) (kt250 0 (fun _ => 0)) := jm_eqs_pi (eq249 L xs) 114 8 1
theorem eq251 (L : Nat) (xs : Nat → Int32) : jm_eqs (kt251 L xs) (kt251 0 (fun _ => 0)) := jm_eqs_pi (eq250 L xs) 114 9 1
theorem eq252 (L : Nat) (xs : Nat → Int32) : jm_eqs (kt252 L xs) (kt252 0 (fun _ => 0)) := jm_eqs_pi (eq251 L xs) 114 10 1
theorem eq253 (L : Nat) (xs : Nat → Int32) : jm_eqs (kt253 L xs) (kt253 0 (fun _ => 0)) := jm_eqs_pi (eq252 L xs) 114 11 1
theorem eq254 (L : Nat) (xs : Nat → Int32) : jm_eqs (kt254 L xs) (kt254 0 (fun _ => 0)) := jm_eqs_pi (eq253 L xs) 114 12 1
theorem eq255 (L : Nat) (xs : Nat → Int32) : jm_eqs (kt255 L xs) (kt255 0 (fun _ => 0)) := jm_eqs_pi (eq254 L xs) 114 13 1
theorem eq256 (L : Nat) (xs : Nat → Int32) : jm_eqs (kt256 L xs) (kt256 0 (fun _ => 0)) := jm_eqs_pi (eq255 L xs) 114 14 1
theorem eq257 (L : Nat) (xs : Nat → Int32) : jm_eqs (kt257 L xs) (kt257 0 (fun _ => 0)) := jm_eqs_pi (eq256 L xs) 114 15 1
theorem eq258 (L : Nat) (xs : Nat → Int32) : jm_eqs (kt258 L xs) (kt258 0 (fun _ => 0)) := jm_eqs_pi (eq257 L xs) 114 16 1
theorem eq259 (L : Nat) (xs : Nat → Int32) : jm_eqs (kt259 L xs) (kt259 0 (fun _ => 0)) := jm_eqs_pi (eq258 L xs) 114 17 1
theorem eq260 (L : Nat) (xs : Nat → Int32) : jm_eqs (kt260 L xs) (kt260 0 (fun _ => 0)) := jm_eqs_pi (eq259 L xs) 114 18 1
theorem eq261 (L : Nat) (xs : Nat → Int32) : jm_eqs (kt261 L xs) (kt261 0 (fun _ => 0)) := jm_eqs_pi (eq260 L xs) 114 19 1
theorem eq262 (L : Nat) (xs : Nat → Int32) : jm_eqs (kt262 L xs) (kt262 0 (fun _ => 0)) := jm_eqs_pi (eq261 L xs) 114 20 1
theorem eq263 (L : Nat) (xs : Nat → Int32) : jm_eqs (kt263 L xs) (kt263 0 (fun _ => 0)) := jm_eqs_pi (eq262 L xs) 114 21 1
theorem eq264 (L : Nat) (xs : Nat → Int32) : jm_eqs (kt264 L xs) (kt264 0 (fun _ => 0)) := jm_eqs_pi (eq263 L xs) 114 22 1
theorem eq265 (L : Nat) (xs : Nat → Int32) : jm_eqs (kt265 L xs) (kt265 0 (fun _ => 0)) := jm_eqs_pi (eq264 L xs) 114 23 1
theorem eq266 (L : Nat) (xs : Nat → Int32) : jm_eqs (kt266 L xs) (kt266 0 (fun _ => 0)) := jm_eqs_pi (eq265 L xs) 114 24 1
theorem eq267 (L : Nat) (xs : Nat → Int32) : jm_eqs (kt267 L xs) (kt267 0 (fun _ => 0)) := jm_eqs_pi (eq266 L xs) 114 25 1
theorem eq268 (L : Nat) (xs : Nat → Int32) : jm_eqs (kt268 L xs) (kt268 0 (fun _ => 0)) := jm_eqs_pi (eq267 L xs) 114 26 1
theorem kt_k0 (L : Nat) (xs : Nat → Int32) : (kt268 L xs).1.2.2.1 = (kt268 0 (fun _ => 0)).1.2.2.1 := (eq268 L xs).2.2.1
theorem kt_r0 (L : Nat) (xs : Nat → Int32) : (kt268 L xs).1.2.2.2.2 = (kt268 0 (fun _ => 0)).1.2.2.2.2 := (eq268 L xs).2.2.2.1
set_option maxRecDepth 100000 in
theorem kt_k1 : ∀ a, a < 126 → (kt268 0 (fun _ => 0)).1.2.2.1 a = sh_k.getD a 99 := by decide +kernel
set_option maxRecDepth 100000 in
theorem kt_l1 : ∀ a, a < 126 → (kt268 0 (fun _ => 0)).1.2.2.2.1 a = sh_l.getD a 0 := by decide +kernel
set_option maxRecDepth 100000 in
theorem kt_r1 : ∀ a, a < 126 → ∀ j, j < 16 → (kt268 0 (fun _ => 0)).1.2.2.2.2 a j = (sh_r.getD a []).getD j none := by decide +kernel
set_option maxRecDepth 100000 in
theorem kt_r2 : ∀ a, a < 126 → (sh_r.getD a []).length ≤ 16 := by decide +kernel
set_option maxRecDepth 100000 in
theorem kt_l0 (L : Nat) (xs : Nat → Int32) : (kt268 L xs).1.2.2.2.1 0 = L := rfl
set_option maxRecDepth 100000 in
theorem kt_l2 (L : Nat) (xs : Nat → Int32) (a : Nat) : (kt268 L xs).1.2.2.2.1 (a + 1) = (kt268 0 (fun _ => 0)).1.2.2.2.1 (a + 1) := (eq268 L xs).2.2.2.2 a
set_option maxRecDepth 100000 in
theorem kt_n (L : Nat) (xs : Nat → Int32) : (kt268 L xs).1.1 = 125 := rfl
set_option maxRecDepth 100000 in
theorem kt_s (L : Nat) (xs : Nat → Int32) : (kt268 L xs).1.2.1 = 7352 := rfl
theorem kt_shape (L : Nat) (xs : Nat → Int32) : (kt268 L xs).1 = jm_S0 L := by
  have hh := hi268 L xs
  have e1 : sh_k.length = 126 := by decide
  have e2 : sh_l.length = 126 := by decide
  have e3 : sh_r.length = 126 := by decide
  have hn := kt_n L xs
  have k1 : (kt268 L xs).1.2.2.1 = fun a => sh_k.getD a 99 := by
    funext a
    by_cases ha : a < 126
    · rw [kt_k0]; exact kt_k1 a ha
    · rw [(hh.1 a (by omega)).1, List.getD_eq_getElem?_getD, List.getElem?_eq_none (by omega)]; rfl
  have k2 : (kt268 L xs).1.2.2.2.1 = fun a => bif Nat.beq a 0 then L else sh_l.getD a 0 := by
    funext a
    cases a with
    | zero => exact kt_l0 L xs
    | succ a =>
      show _ = sh_l.getD (a + 1) 0
      by_cases ha : a + 1 < 126
      · rw [kt_l2]; exact kt_l1 (a + 1) ha
      · rw [(hh.1 (a + 1) (by omega)).2.1, List.getD_eq_getElem?_getD, List.getElem?_eq_none (by omega)]; rfl
  have k3 : (kt268 L xs).1.2.2.2.2 = fun a j => (sh_r.getD a []).getD j none := by
    funext a j
    by_cases ha : a < 126
    · by_cases hj : j < 16
      · rw [kt_r0]; exact kt_r1 a ha j hj
      · have := kt_r2 a ha
        rw [hh.2 a j (by omega), List.getD_eq_getElem?_getD (l := sh_r.getD a []), List.getElem?_eq_none (by omega)]; rfl
    · rw [(hh.1 a (by omega)).2.2 j, List.getD_eq_getElem?_getD (l := sh_r), List.getElem?_eq_none (by omega)]; rfl
  have e : (kt268 L xs).1 = ((kt268 L xs).1.1, (kt268 L xs).1.2.1, (kt268 L xs).1.2.2.1, (kt268 L xs).1.2.2.2.1, (kt268 L xs).1.2.2.2.2) := rfl
  rw [e, hn, kt_s, k1, k2, k3]
  rfl
