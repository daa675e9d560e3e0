/-! PURE PART: leaves of the class -/
theorem sv_app (V : vS) (c j a b : Nat) (x : Int32) : (sv V c j x).1 a b = if a = c then (if b = j then x else V.1 a b) else V.1 a b := by
  by_cases h : a = c
  · subst h
    rw [sv_self, if_pos rfl]
    rfl
  · rw [sv_ne V h, if_neg h]
theorem sj_app (V : vS) (x : Int64) (a b : Nat) : (sj V x).1 a b = V.1 a b := rfl
theorem sj_2 (V : vS) (x : Int64) : (sj V x).2 = x := rfl
theorem nt_nI {n : Nat} (h : n < 2 ^ 31) : nt (nI n) = n := nI_clamp h
theorem vin {n N : Nat} (h : n < N) (hN : N < 2 ^ 31 := by omega) : vp_in (nI n) N := vp_in_nI h hN
theorem nI_m1 (n : Nat) : nI (n + 1) + (-1) = nI n := pk_m1 n
/-- a number's test against another, as Nat -/
theorem lt_iff {a b : Nat} (ha : a < 2 ^ 31 := by omega) (hb : b < 2 ^ 31 := by omega) : nI a < nI b ↔ a < b := nI_ltI ha hb
theorem le_iff {a b : Nat} (ha : a < 2 ^ 31 := by omega) (hb : b < 2 ^ 31 := by omega) : nI a ≤ nI b ↔ a ≤ b := nI_leI ha hb
theorem eq_iff {a b : Nat} (ha : a < 2 ^ 31 := by omega) (hb : b < 2 ^ 31 := by omega) : nI a = nI b ↔ a = b := nI_eq ha hb
theorem k0 : (0 : Int32) = nI 0 := rfl
theorem k1 : (1 : Int32) = nI 1 := rfl
theorem k2 : (2 : Int32) = nI 2 := rfl
theorem k3 : (3 : Int32) = nI 3 := rfl
theorem k4 : (4 : Int32) = nI 4 := rfl
theorem k5 : (5 : Int32) = nI 5 := rfl
theorem k6 : (6 : Int32) = nI 6 := rfl
theorem k24 : (24 : Int32) = nI 24 := rfl
theorem k31 : (31 : Int32) = nI 31 := rfl
theorem k40 : (40 : Int32) = nI 40 := rfl
theorem e_stopWaiting {k : vS → Prop} {V : vS} (h : k (sv (sv V 17 7 (-1)) 17 8 0)) : p_Mc_stopWaiting k V := by
  unfold p_Mc_stopWaiting
  rintro _ rfl _ rfl
  exact h
def vDrop (V : vS) : vS := sv (sv (sv (sv V 17 5 0) 17 6 0) 17 7 (-1)) 17 8 0
theorem e_dropRun {k : vS → Prop} {V : vS} (h : k (vDrop V)) : p_Mc_dropRun k V := by
  unfold p_Mc_dropRun
  rintro _ rfl _ rfl
  exact e_stopWaiting h
def vTrap (V : vS) : vS := vDrop (sv V 17 11 (V.1 17 11 + 1))
theorem e_endTrapped {k : vS → Prop} {V : vS} (h : k (vTrap V)) : p_Mc_endTrapped k V := by
  unfold p_Mc_endTrapped
  rintro _ rfl
  exact e_dropRun h
/-- a step's answer and what is left once go has ended a trapped run: r.1 answered at V, where V (or, at a trap, V with its run ended) is r.2 -/
def At (k : Int32 → vS → Prop) (r : Int32 × vS) : Prop := ∀ V, r.2 = (if r.1 = 0 ∨ r.1 = 3 then V else vTrap V) → k r.1 V
theorem At.ok {k : Int32 → vS → Prop} {V : vS} (h : At k (0, V)) : k 0 V := h V (if_pos (Or.inl rfl)).symm
theorem At.wait {k : Int32 → vS → Prop} {V : vS} (h : At k (3, V)) : k 3 V := h V (if_pos (Or.inr rfl)).symm
theorem At.trap {k : Int32 → vS → Prop} {V : vS} {t : Int32} (h : At k (t, vTrap V)) (ht : ¬ (t = 0 ∨ t = 3)) : k t V := h V (if_neg ht).symm
def vPut (V : vS) (v : Nat) (x : Int32) : vS := sv (sv V 31 v x) 17 6 (nI (v + 1))
theorem e_put {k : Int32 → vS → Prop} {V : vS} {x : Int32} {v : Nat} (hv : V.1 17 6 = nI v) (h4 : v ≤ 40) (h1 : v < 40 → k 0 (vPut V v x)) (h2 : v = 40 → k 13 V) : p_Mc_put k V x := by
  unfold p_Mc_put
  refine ⟨fun c => h2 ?_, fun c => ?_⟩
  · rw [hv, k40, eq_iff] at c; exact c
  · rw [hv, k40, eq_iff] at c
    have hl : v < 40 := by omega
    refine ⟨by rw [hv]; exact vin hl, ?_⟩
    rintro _ rfl _ rfl
    have := h1 hl
    rw [hv, nt_nI (by omega), sv_app, if_neg (by decide), hv, nI_1]
    exact this
def vTake (V : vS) (v : Nat) : vS := sv V 17 6 (nI v)
theorem e_take {k : Int32 → vS → Prop} {V : vS} {v : Nat} (hv : V.1 17 6 = nI (v + 1)) (h4 : v < 40) (h : k (V.1 31 v) (vTake V v)) : p_Mc_take k V := by
  unfold p_Mc_take
  rintro _ rfl
  rw [hv, nI_pred]
  refine ⟨by rw [sv_eq]; exact vin h4, ?_⟩
  rw [sv_eq, nt_nI (by omega), sv_ne V (by decide)]
  exact h
theorem e_innermost {k : Nat → vS → Prop} {V : vS} {d : Nat} (hd : V.1 17 5 = nI (d + 1)) (h6 : d < 6) (h : k (19 + d) V) : p_Mc_innermost k V := by
  unfold p_Mc_innermost
  rw [hd, nI_pred, nt_nI (by omega)]
  exact ⟨vin h6, h⟩
theorem e_isUnderWay {k : Int32 → vS → Prop} {V : vS} {d : Nat} (hd : V.1 17 5 = nI d) (h6 : d ≤ 6) (h : k (if d = 0 then 0 else 1) V) : p_Mc_isUnderWay k V := by
  unfold p_Mc_isUnderWay p_Mc_isUnderWay_b12
  rw [hd, k0, le_iff]
  refine ⟨fun c => ⟨by decide, ?_⟩, fun c => ⟨by decide, ?_⟩⟩
  · rw [if_pos (by omega)] at h; exact h
  · rw [if_neg (by omega)] at h; exact h
theorem e_isWaiting {k : Int32 → vS → Prop} {V : vS} (h : k (if V.1 17 7 = -1 then 0 else 1) V) : p_Mc_isWaiting k V := by
  unfold p_Mc_isWaiting p_Mc_isWaiting_b13
  refine ⟨fun c => ⟨by decide, ?_⟩, fun c => ⟨by decide, ?_⟩⟩
  · rw [if_pos c] at h; exact h
  · rw [if_neg c] at h; exact h
theorem e_within {k : Int32 → vS → Prop} {V : vS} {x y : Int32} (h : k (if x < 0 ∨ y < x then 0 else 1) V) : p_PR_within k V x y := by
  unfold p_PR_within p_PR_within_b13 p_PR_within_b14
  refine ⟨fun c => ⟨by decide, ?_⟩, fun c => ⟨fun c2 => ⟨by decide, ?_⟩, fun c2 => ⟨by decide, ?_⟩⟩⟩
  · rw [if_pos (Or.inl c)] at h; exact h
  · rw [if_pos (Or.inr c2)] at h; exact h
  · rw [if_neg (not_or.mpr ⟨c, c2⟩)] at h; exact h
theorem e_has {k : Int32 → vS → Prop} {V : vS} {x : Int32} (h : k (if x < 0 ∨ V.1 1 1 ≤ x then 0 else 1) V) : p_Pg_has k V x := by
  unfold p_Pg_has p_Pg_has_b16 p_Pg_has_b17
  refine ⟨fun c => ⟨by decide, ?_⟩, fun c => ⟨fun c2 => ⟨by decide, ?_⟩, fun c2 => ⟨by decide, ?_⟩⟩⟩
  · rw [if_pos (Or.inl c)] at h; exact h
  · rw [if_pos (Or.inr c2)] at h; exact h
  · rw [if_neg (not_or.mpr ⟨c, c2⟩)] at h; exact h
theorem e_opensPart {k : Int32 → vS → Prop} {V : vS} {x : Int32} (h : k (if x = 12 ∨ x = 13 then 1 else 0) V) : p_Op_opensPart k V x := by
  unfold p_Op_opensPart p_Op_opensPart_b12 p_Op_opensPart_b17
  refine ⟨fun c => ⟨by decide, ?_⟩, fun c => ⟨fun c2 => ⟨by decide, ?_⟩, fun c2 => ⟨by decide, ?_⟩⟩⟩
  · rw [if_pos (Or.inl c)] at h; exact h
  · rw [if_pos (Or.inr c2)] at h; exact h
  · rw [if_neg (not_or.mpr ⟨c, c2⟩)] at h; exact h
theorem e_neverGoesOn {k : Int32 → vS → Prop} {V : vS} {x : Int32} (h : k (if x = 15 ∨ x = 19 then 1 else 0) V) : p_Op_neverGoesOn k V x := by
  unfold p_Op_neverGoesOn p_Op_neverGoesOn_b12 p_Op_neverGoesOn_b17
  refine ⟨fun c => ⟨by decide, ?_⟩, fun c => ⟨fun c2 => ⟨by decide, ?_⟩, fun c2 => ⟨by decide, ?_⟩⟩⟩
  · rw [if_pos (Or.inl c)] at h; exact h
  · rw [if_pos (Or.inr c2)] at h; exact h
  · rw [if_neg (not_or.mpr ⟨c, c2⟩)] at h; exact h
theorem cmp_lt0 (x y : Int64) : lg_cmp x y < 0 ↔ x < y := by
  have h := lg_cmp_ge x y
  constructor
  · intro c
    have : ¬ y ≤ x := fun q => by have := h.mpr q; exact absurd c (by rw [Int32.not_lt]; exact this)
    rwa [Int64.not_le] at this
  · intro c
    have : ¬ 0 ≤ lg_cmp x y := fun q => by have := h.mp q; exact absurd c (by rw [Int64.not_lt]; exact this)
    rwa [Int32.not_le] at this
theorem div64 {x y : Int32} (h : ¬ (x = -2147483648 ∧ y = -1)) : x.toInt64 / y.toInt64 = (x / y).toInt64 := by
  by_cases c : x = -2147483648
  · exact (Int32.toInt64_div_of_ne_right _ _ (fun q => h ⟨c, q⟩)).symm
  · exact (Int32.toInt64_div_of_ne_left _ _ c).symm
theorem div64_min : ¬ (-2147483648 : Int32).toInt64 / (-1 : Int32).toInt64 = ((-2147483648 : Int32).toInt64 / (-1 : Int32).toInt64).toInt32.toInt64 := by decide
theorem to64_0 {y : Int32} (h : ¬ y = 0) : ¬ y.toInt64 = 0 := fun q => h (by rw [← Int32.toInt32_toInt64 y, q]; rfl)
theorem e_isCell {k : Int32 → vS → Prop} {V : vS} {x : Int64} (h : k (if x < 0 ∨ 32 ≤ x then 0 else 1) V) : p_Mc_isCell k V x := by
  unfold p_Mc_isCell p_Mc_isCell_b18 p_Mc_isCell_b19
  rw [cmp_lt0, lg_cmp_ge]
  refine ⟨fun c => ⟨by decide, ?_⟩, fun c => ⟨fun c2 => ⟨by decide, ?_⟩, fun c2 => ⟨by decide, ?_⟩⟩⟩
  · rw [if_pos (Or.inl c)] at h; exact h
  · rw [if_pos (Or.inr c2)] at h; exact h
  · rw [if_neg (not_or.mpr ⟨c, c2⟩)] at h; exact h
theorem e_taken {k : Int32 → vS → Prop} {V : vS} {x y : Int32} (h1 : x = 17 → vp_in y 4) (h2 : ¬ x = 17 → vp_in x 20) (h : k (if x = 17 then V.1 (3 + nt y) 3 else tTakes (nt x)) V) : p_Pg_taken k V x y := by
  unfold p_Pg_taken p_Pg_taken_b23
  refine ⟨fun c => ⟨h1 c, ?_⟩, fun c => ⟨h2 c, ?_⟩⟩
  · rw [if_pos c] at h; exact h
  · rw [if_neg c] at h; exact h
theorem e_Pgput {k : Int32 → vS → Prop} {V : vS} {x y : Int32} (h1 : x = 17 → vp_in y 4) (h2 : ¬ x = 17 → vp_in x 20) (h : k (if x = 17 then V.1 (3 + nt y) 4 else tPuts (nt x)) V) : p_Pg_put k V x y := by
  unfold p_Pg_put p_Pg_put_b23
  refine ⟨fun c => ⟨h1 c, ?_⟩, fun c => ⟨h2 c, ?_⟩⟩
  · rw [if_pos c] at h; exact h
  · rw [if_neg c] at h; exact h
