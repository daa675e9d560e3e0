/-! PURE PART: the reference's run, against the class's state A -/
def ME (V A : vS) : Prop := (∀ i, i < 32 → V.1 47 i = A.1 32 i) ∧ (∀ h, h < 4 → V.1 48 h = A.1 33 h) ∧ V.1 34 27 = A.1 17 9 ∧ V.1 34 28 = A.1 17 10 ∧ V.1 34 29 = A.1 17 11 ∧ A.2 = (if V.1 34 25 = 0 then -1000000000000 else (V.1 34 26).toInt64)
def MRun (V A : vS) (dp sz : Nat) : Prop := V.1 34 18 = nI dp ∧ V.1 34 19 = nI sz ∧ (∀ d, d < dp → V.1 43 d = A.1 (19 + d) 1 ∧ V.1 44 d = A.1 (19 + d) 2 ∧ ∀ j, j < 5 → V.1 45 (d * 5 + j) = A.1 (25 + d) j) ∧ (∀ i, i < sz → V.1 46 i = A.1 31 i) ∧ ME V A
/-- what the reference's run leaves as it was -/
def MF (V V1 : vS) : Prop := (∀ c, c < 34 → V1.1 c = V.1 c) ∧ V1.2 = V.2 ∧ (∀ c, 35 ≤ c → c ≤ 40 → V1.1 c = V.1 c) ∧ (∀ j, j = 6 ∨ j = 7 ∨ j = 8 → V1.1 34 j = V.1 34 j)
theorem MF.rf (V : vS) : MF V V := ⟨fun _ _ => rfl, rfl, fun _ _ _ => rfl, fun _ _ => rfl⟩
theorem MF.tr {U V W : vS} (h1 : MF U V) (h2 : MF V W) : MF U W := ⟨fun c q => (h2.1 c q).trans (h1.1 c q), h2.2.1.trans h1.2.1, fun c q1 q2 => (h2.2.2.1 c q1 q2).trans (h1.2.2.1 c q1 q2), fun j q => (h2.2.2.2 j q).trans (h1.2.2.2 j q)⟩
theorem MF.sv (V : vS) {c j : Nat} (x : Int32) (h : c = 34 ∧ 9 ≤ j ∨ 41 ≤ c) : MF V (sv V c j x) := by
  refine ⟨fun a q => sv_ne _ (by omega), rfl, fun a q1 q2 => sv_ne _ (by omega), fun i q => ?_⟩
  by_cases e : c = 34
  · subst e; exact sv_at _ (by omega)
  · simp (disch := omega) only [sv_ne, sv_at, sv_eq]
theorem RK.mf {V V1 A : vS} (h : RK V A) (g : MF V V1) : RK V1 A := h.of (g.2.2.2 6 (Or.inl rfl)) (fun c a b => g.2.2.1 c a b)
def mPut (V : vS) (v : Nat) (x : Int32) : vS := sv (sv V 46 v x) 34 19 (nI (v + 1))
def mTake (V : vS) (v : Nat) : vS := sv V 34 19 (nI v)
theorem MF.put (V : vS) (v : Nat) (x : Int32) : MF V (mPut V v x) := (MF.sv V x (Or.inr (by decide))).tr (MF.sv _ _ (Or.inl ⟨rfl, by decide⟩))
theorem MF.take (V : vS) (v : Nat) : MF V (mTake V v) := MF.sv _ _ (Or.inl ⟨rfl, by decide⟩)
theorem e_Mpush {k : vS → Prop} {V : vS} {x : Int32} {v : Nat} (hv : V.1 34 19 = nI v) (h4 : v ≤ 40) (h1 : v < 40 → k (mPut V v x)) (h2 : v = 40 → k (sv V 34 22 13)) : p_Mo_push k V x := by
  unfold p_Mo_push
  rw [hv, k40, eq_iff, nt_nI (by omega)]
  refine ⟨fun c => ?_, fun c => ⟨vin (by omega), ?_⟩⟩
  · rintro _ rfl
    exact h2 c
  · rintro _ rfl _ rfl
    have := h1 (by omega)
    rw [sv_ne _ (by decide), hv, nI_1]
    exact this
theorem e_Mpop {k : Int32 → vS → Prop} {V : vS} {v : Nat} (hv : V.1 34 19 = nI (v + 1)) (h4 : v < 42) (h : k (V.1 46 v) (mTake V v)) : p_Mo_pop k V := by
  unfold p_Mo_pop
  rintro _ rfl
  rw [hv, nI_pred]
  refine ⟨by rw [sv_eq]; exact vin h4, ?_⟩
  rw [sv_eq, nt_nI (by omega), sv_ne V (by decide)]
  exact h
theorem ME.put {V A : vS} (h : ME V A) (v w : Nat) (x y : Int32) : ME (mPut V v x) (vPut A w y) := by
  obtain ⟨h1, h2, h3, h4, h5, h6⟩ := h
  unfold mPut vPut
  refine ⟨fun i hi => ?_, fun i hi => ?_, ?_, ?_, ?_, ?_⟩
  · simp (disch := omega) only [sv_ne, sv_at, sv_eq]; exact h1 i hi
  · simp (disch := omega) only [sv_ne, sv_at, sv_eq]; exact h2 i hi
  · simp (disch := omega) only [sv_ne, sv_at, sv_eq]; exact h3
  · simp (disch := omega) only [sv_ne, sv_at, sv_eq]; exact h4
  · simp (disch := omega) only [sv_ne, sv_at, sv_eq]; exact h5
  · simp (disch := omega) only [sv_ne, sv_at, sv_eq]; exact h6
theorem MRun.put {V A : vS} {dp sz : Nat} (h : MRun V A dp sz) (hd : dp ≤ 6) (x : Int32) : MRun (mPut V sz x) (vPut A sz x) dp (sz + 1) := by
  obtain ⟨h1, h2, h3, h4, h5⟩ := h
  refine ⟨?_, sv_eq _ _ _ _, fun d hd => ?_, fun i hi => ?_, h5.put _ _ _ _⟩
  · show (sv (sv V 46 sz x) 34 19 _).1 34 18 = _
    simp (disch := omega) only [sv_ne, sv_at, sv_eq]; exact h1
  · unfold mPut vPut
    simp (disch := omega) only [sv_ne, sv_at, sv_eq]; exact h3 d hd
  · unfold mPut vPut
    simp (disch := omega) only [sv_ne, sv_at, sv_eq]
    by_cases c : i = sz
    · subst c; rw [sv_eq, sv_eq]
    · simp (disch := omega) only [sv_ne, sv_at, sv_eq]; exact h4 i (by omega)
theorem ME.sv {V A V1 A1 : vS} (h : ME V A) (hV : ∀ c, c = 47 ∨ c = 48 → V1.1 c = V.1 c) (hA : ∀ c, c = 32 ∨ c = 33 → A1.1 c = A.1 c) (hV3 : ∀ j, j = 25 ∨ j = 26 ∨ j = 27 ∨ j = 28 ∨ j = 29 → V1.1 34 j = V.1 34 j) (hA3 : ∀ j, j = 9 ∨ j = 10 ∨ j = 11 → A1.1 17 j = A.1 17 j) (h2 : A1.2 = A.2) : ME V1 A1 := by
  obtain ⟨h1, g2, h3, h4, h5, h6⟩ := h
  refine ⟨fun i hi => ?_, fun i hi => ?_, ?_, ?_, ?_, ?_⟩
  · rw [hV 47 (Or.inl rfl), hA 32 (Or.inl rfl)]; exact h1 i hi
  · rw [hV 48 (Or.inr rfl), hA 33 (Or.inr rfl)]; exact g2 i hi
  · rw [hV3 27 (by decide), hA3 9 (by decide)]; exact h3
  · rw [hV3 28 (by decide), hA3 10 (by decide)]; exact h4
  · rw [hV3 29 (by decide), hA3 11 (by decide)]; exact h5
  · rw [h2, hV3 25 (by decide), hV3 26 (by decide)]; exact h6
theorem MRun.take {V A : vS} {dp sz : Nat} (h : MRun V A dp sz) (hd : dp ≤ 6) {v : Nat} (hv : v ≤ sz) : MRun (mTake V v) (vTake A v) dp v := by
  obtain ⟨h1, h2, h3, h4, h5⟩ := h
  unfold mTake vTake
  refine ⟨?_, sv_eq _ _ _ _, fun d hd => ?_, fun i hi => ?_, h5.sv (fun c q => sv_ne _ (by omega)) (fun c q => sv_ne _ (by omega)) (fun j q => sv_at _ (by omega)) (fun j q => sv_at _ (by omega)) rfl⟩
  · simp (disch := omega) only [sv_ne, sv_at, sv_eq]; exact h1
  · simp (disch := omega) only [sv_ne, sv_at, sv_eq]; exact h3 d hd
  · simp (disch := omega) only [sv_ne, sv_at, sv_eq]; exact h4 i (by omega)
/-- the place in the code -/
theorem MRun.next {V A : vS} {dp sz d : Nat} (h : MRun V A dp sz) (hd : dp ≤ 6) (x : Int32) : MRun (sv V 44 d x) (sv A (19 + d) 2 x) dp sz ∨ 6 ≤ d := by
  by_cases c6 : 6 ≤ d
  · exact Or.inr c6
  left
  obtain ⟨h1, h2, h3, h4, h5⟩ := h
  refine ⟨?_, ?_, fun e he => ?_, fun i hi => ?_, h5.sv (fun c q => sv_ne _ (by omega)) (fun c q => sv_ne _ (by omega)) (fun j q => by simp (disch := omega) only [sv_ne, sv_at, sv_eq]) (fun j q => by simp (disch := omega) only [sv_ne, sv_at, sv_eq]) rfl⟩
  · simp (disch := omega) only [sv_ne, sv_at, sv_eq]; exact h1
  · simp (disch := omega) only [sv_ne, sv_at, sv_eq]; exact h2
  · obtain ⟨a1, a2, a3⟩ := h3 e he
    by_cases c : e = d
    · subst c
      simp (disch := omega) only [sv_ne, sv_at, sv_eq]
      exact ⟨a1, trivial, a3⟩
    · simp (disch := omega) only [sv_ne, sv_at, sv_eq]
      exact ⟨a1, a2, a3⟩
  · simp (disch := omega) only [sv_ne, sv_at, sv_eq]; exact h4 i hi
/-- a local -/
theorem MRun.loc {V A : vS} {dp sz d j : Nat} (h : MRun V A dp sz) (hd : dp ≤ 6) (hd6 : d < 6) (hj : j < 5) (x : Int32) : MRun (sv V 45 (d * 5 + j) x) (sv A (25 + d) j x) dp sz := by
  obtain ⟨h1, h2, h3, h4, h5⟩ := h
  refine ⟨?_, ?_, fun e he => ?_, fun i hi => ?_, h5.sv (fun c q => sv_ne _ (by omega)) (fun c q => sv_ne _ (by omega)) (fun j q => by simp (disch := omega) only [sv_ne, sv_at, sv_eq]) (fun j q => by simp (disch := omega) only [sv_ne, sv_at, sv_eq]) rfl⟩
  · simp (disch := omega) only [sv_ne, sv_at, sv_eq]; exact h1
  · simp (disch := omega) only [sv_ne, sv_at, sv_eq]; exact h2
  · obtain ⟨a1, a2, a3⟩ := h3 e he
    refine ⟨by simp (disch := omega) only [sv_ne, sv_at, sv_eq]; exact a1, by simp (disch := omega) only [sv_ne, sv_at, sv_eq]; exact a2, fun i hi => ?_⟩
    by_cases c : e = d
    · subst c
      by_cases c2 : i = j
      · subst c2; rw [sv_eq, sv_eq]
      · simp (disch := omega) only [sv_ne, sv_at, sv_eq]; exact a3 i hi
    · rw [sv_ne A (show 25 + e ≠ 25 + d by omega), sv_at _ (show e * 5 + i ≠ d * 5 + j by omega)]; exact a3 i hi
  · simp (disch := omega) only [sv_ne, sv_at, sv_eq]; exact h4 i hi
/-- a cell of the memory -/
theorem MRun.mem {V A : vS} {dp sz j : Nat} (h : MRun V A dp sz) (hd : dp ≤ 6) (x : Int32) : MRun (sv V 47 j x) (sv A 32 j x) dp sz := by
  obtain ⟨h1, h2, h3, h4, ⟨g1, g2, g3, g4, g5, g6⟩⟩ := h
  refine ⟨?_, ?_, fun e he => ?_, fun i hi => ?_, ⟨fun i hi => ?_, fun i hi => ?_, ?_, ?_, ?_, ?_⟩⟩
  · simp (disch := omega) only [sv_ne, sv_at, sv_eq]; exact h1
  · simp (disch := omega) only [sv_ne, sv_at, sv_eq]; exact h2
  · simp (disch := omega) only [sv_ne, sv_at, sv_eq]; exact h3 e he
  · simp (disch := omega) only [sv_ne, sv_at, sv_eq]; exact h4 i hi
  · by_cases c : i = j
    · subst c; rw [sv_eq, sv_eq]
    · simp (disch := omega) only [sv_ne, sv_at, sv_eq]; exact g1 i hi
  · simp (disch := omega) only [sv_ne, sv_at, sv_eq]; exact g2 i hi
  · simp (disch := omega) only [sv_ne, sv_at, sv_eq]; exact g3
  · simp (disch := omega) only [sv_ne, sv_at, sv_eq]; exact g4
  · simp (disch := omega) only [sv_ne, sv_at, sv_eq]; exact g5
  · rw [sv_2, sv_ne _ (by decide)]; exact g6
/-- numbers of the reference's own that nobody compares -/
theorem MRun.own {V A V1 : vS} {dp sz : Nat} (h : MRun V A dp sz) (hc : ∀ c, 43 ≤ c → V1.1 c = V.1 c) (h34 : ∀ j, j = 18 ∨ j = 19 ∨ j = 25 ∨ j = 26 ∨ j = 27 ∨ j = 28 ∨ j = 29 → V1.1 34 j = V.1 34 j) : MRun V1 A dp sz := by
  obtain ⟨h1, h2, h3, h4, h5⟩ := h
  refine ⟨?_, ?_, fun e he => ?_, fun i hi => ?_, h5.sv (fun c q => hc c (by omega)) (fun _ _ => rfl) (fun j q => h34 j (by omega)) (fun _ _ => rfl) rfl⟩
  · rw [h34 18 (by decide)]; exact h1
  · rw [h34 19 (by decide)]; exact h2
  · rw [hc 43 (by decide), hc 44 (by decide), hc 45 (by decide)]; exact h3 e he
  · rw [hc 46 (by decide)]; exact h4 i hi
theorem e_Menter {k : vS → Prop} {V A : vS} {dp sz : Nat} {x : Int32} (h : MRun V A dp sz) (hd : dp < 6) (hk : ∀ V1, MF V V1 → MRun V1 (vEnter A dp x) (dp + 1) sz → (∀ j, j = 20 ∨ j = 21 ∨ j = 22 → V1.1 34 j = V.1 34 j) → k V1) : p_Mo_enter k V x := by
  have h0 := h
  obtain ⟨h1, h2, h3, h4, h5⟩ := h
  unfold p_Mo_enter
  rw [h1, nt_nI (by omega)]
  refine ⟨vin (by omega), ?_⟩
  rintro _ rfl
  rw [sv_ne _ (by decide), h1, nt_nI (by omega)]
  refine ⟨vin (by omega), ?_⟩
  rintro _ rfl
  refine ⟨6, ?_⟩
  have loop : ∀ (m j : Nat) (W : vS), j + m = 5 → W.1 34 18 = nI dp → (∀ W1, MF W W1 → (∀ c, c ≠ 34 → c ≠ 45 → W1.1 c = W.1 c) → (∀ i, i ≠ 18 → W1.1 34 i = W.1 34 i) → W1.1 34 18 = nI (dp + 1) → (∀ i, (i < dp * 5 + j) → W1.1 45 i = W.1 45 i) → (∀ i, j ≤ i → i < 5 → W1.1 45 (dp * 5 + i) = 0) → k W1) → p_Mo_enter_b22 k (m + 1) W (nI j) := by
    intro m
    induction m with
    | zero =>
      intro j W hj hW hh
      unfold p_Mo_enter_b22
      have : j = 5 := by omega
      subst this
      rw [hW]
      refine ⟨fun _ => ?_, fun q => absurd (by decide) q⟩
      rintro _ rfl
      rw [nI_1]
      exact hh _ (MF.sv _ _ (Or.inl ⟨rfl, by decide⟩)) (fun c c1 _ => sv_ne _ c1) (fun i hi => sv_at _ hi) (sv_eq _ _ _ _) (fun i _ => by simp (disch := omega) only [sv_ne, sv_at, sv_eq]) (fun i a b => by omega)
    | succ m ih =>
      intro j W hj hW hh
      unfold p_Mo_enter_b22
      have ei : W.1 34 18 * 5 + nI j = nI (dp * 5 + j) := by rw [hW, k5, pk_mul, nI_add]
      rw [ei, nt_nI (by omega), k5, le_iff]
      refine ⟨fun q => absurd q (by omega), fun _ => ⟨vin (by omega), ?_⟩⟩
      rintro _ rfl _ rfl
      rw [nI_1]
      refine ih (j + 1) _ (by omega) (by simp (disch := omega) only [sv_ne, sv_at, sv_eq]; exact hW) (fun W1 g1 g2 g3 g4 g5 g6 => hh W1 ((MF.sv _ _ (Or.inr (by decide))).tr g1) (fun c c1 c2 => by rw [g2 c c1 c2, sv_ne _ c2]) (fun i hi => by rw [g3 i hi, sv_ne _ (by decide)]) g4 (fun i hi => by rw [g5 i (by omega), sv_at _ (by omega)]) (fun i a b => ?_))
      by_cases c : i = j
      · subst c; rw [g5 _ (by omega), sv_eq]
      · exact g6 i (by omega) b
  refine loop 5 0 _ (by omega) (by simp (disch := omega) only [sv_ne, sv_at, sv_eq]; exact h1) (fun W1 g1 g2 g3 g4 g5 g6 => hk W1 (((MF.sv _ _ (Or.inr (by decide))).tr (MF.sv _ _ (Or.inr (by decide)))).tr g1) ?_ (fun j q => by rw [g3 j (by omega), sv_ne _ (by decide), sv_ne _ (by decide)]))
  refine ⟨g4, ?_, fun e he => ?_, fun i hi => ?_, h5.sv (fun c q => ?_) (fun c q => vEnter_ne _ _ (by omega) (by omega) (by omega)) (fun j q => ?_) (fun j q => vEnter_17 _ _ (by omega)) ?_⟩
  · rw [g3 19 (by decide), sv_ne _ (by decide), sv_ne _ (by decide)]; exact h2
  · rw [g2 43 (by decide) (by decide), g2 44 (by decide) (by decide), sv_ne _ (by decide)]
    by_cases c : e = dp
    · subst c
      rw [sv_eq, sv_eq, vEnter_1, vEnter_2]
      refine ⟨rfl, rfl, fun j hj => ?_⟩
      rw [g6 j (by omega) hj]
      unfold vEnter
      rw [sv_ne _ (by omega), zero5_at _ _ hj]
    · obtain ⟨a1, a2, a3⟩ := h3 e (by omega)
      rw [sv_at V c, sv_at _ c, sv_ne V (by decide), vEnter_ne _ _ (by omega) (by omega) (by omega), vEnter_ne _ _ (by omega) (by omega) (by omega)]
      refine ⟨a1, a2, fun j hj => ?_⟩
      rw [g5 _ (by omega), sv_ne _ (by decide), sv_ne _ (by decide)]
      exact a3 j hj
  · rw [g2 46 (by decide) (by decide), sv_ne _ (by decide), sv_ne _ (by decide), vEnter_ne _ _ (by omega) (by omega) (by omega)]; exact h4 i hi
  · rw [g2 c (by omega) (by omega), sv_ne _ (by omega), sv_ne _ (by omega)]
  · rw [g3 j (by omega), sv_ne _ (by decide), sv_ne _ (by decide)]
  · rfl
