/-! PURE PART: function, emit, erase -/
def mCh (V : vS) : vS := sv (sv (sv (sv V 34 8 0) 34 18 0) 34 19 0) 34 20 (-1)
theorem e_changed {k : vS → Prop} {V : vS} (h : k (mCh V)) : p_Mo_changed k V := by
  unfold p_Mo_changed
  rintro _ rfl _ rfl _ rfl _ rfl
  exact h
def vFg (V : vS) : vS := vDrop (sv V 0 3 0)
theorem e_forget {k : vS → Prop} {V : vS} (h : k (vFg V)) : p_PR_forgetCheckAndRun k V := by
  unfold p_PR_forgetCheckAndRun
  rintro _ rfl
  exact e_dropRun h
theorem vFg_ne (V : vS) {c : Nat} (h0 : c ≠ 0) (h : c ≠ 17) : (vFg V).1 c = V.1 c := by
  unfold vFg vDrop
  rw [sv_ne _ h, sv_ne _ h, sv_ne _ h, sv_ne _ h, sv_ne _ h0]
theorem mCh_ne (V : vS) {c : Nat} (h : c ≠ 34) : (mCh V).1 c = V.1 c := by
  unfold mCh
  rw [sv_ne _ h, sv_ne _ h, sv_ne _ h, sv_ne _ h]
/-- the code was changed in both: what the rest of the state looks like -/
theorem Inv_code {V W X : vS} (hI : Inv V) (hX : ∀ c, c = 0 ∨ (15 ≤ c ∧ c < 34) ∨ 41 ≤ c → X.1 c = (vFg V).1 c) (hX34 : ∀ j, j ≠ 6 → X.1 34 j = V.1 34 j) (hX2 : X.2 = V.2) (hW : W = mCh X) (hC : Cwf W) (hK : RK W W) : Inv W := by
  have g : ∀ c, c = 0 ∨ (15 ≤ c ∧ c < 34) ∨ 41 ≤ c → W.1 c = (vFg V).1 c := fun c q => by rw [hW, mCh_ne _ (by omega)]; exact hX c q
  have g34 : ∀ j, j ≠ 6 → j ≠ 8 → j ≠ 18 → j ≠ 19 → j ≠ 20 → W.1 34 j = V.1 34 j := by
    intro j a b d e z
    rw [hW]
    unfold mCh
    simp (disch := omega) only [sv_ne, sv_at, sv_eq]
    exact hX34 j a
  refine Inv_fresh hI hC hK ?_ ?_ ?_ ?_ ?_ ?_ ?_ ?_ ?_ ?_ ?_ (g34 7 (by decide) (by decide) (by decide) (by decide) (by decide)) ?_ ?_ ?_ ?_
  · rw [g 17 (by omega)]; unfold vFg vDrop; simp (disch := omega) only [sv_ne, sv_at, sv_eq]; rfl
  · rw [g 17 (by omega)]; unfold vFg vDrop; simp (disch := omega) only [sv_ne, sv_at, sv_eq]; rfl
  · rw [g 17 (by omega)]; unfold vFg vDrop; simp (disch := omega) only [sv_ne, sv_at, sv_eq]
  · rw [g 17 (by omega)]; unfold vFg vDrop; simp (disch := omega) only [sv_ne, sv_at, sv_eq]
  · rw [g 0 (by omega)]; unfold vFg vDrop; simp (disch := omega) only [sv_ne, sv_at, sv_eq]
  · rw [hW]; unfold mCh; simp (disch := omega) only [sv_ne, sv_at, sv_eq]
  · rw [hW]; unfold mCh; simp (disch := omega) only [sv_ne, sv_at, sv_eq]; rfl
  · rw [hW]; unfold mCh; simp (disch := omega) only [sv_ne, sv_at, sv_eq]; rfl
  · rw [hW]; unfold mCh; simp (disch := omega) only [sv_ne, sv_at, sv_eq]
  · rw [g 16 (by omega), vFg_ne _ (by decide) (by decide)]
  · rw [g 15 (by omega), vFg_ne _ (by decide) (by decide)]
  · intro c q
    rw [g c (by omega), vFg_ne _ (by omega) (by omega)]
  · intro j q
    rw [g 17 (by omega)]
    unfold vFg vDrop
    simp (disch := omega) only [sv_ne, sv_at, sv_eq]
  · intro j q
    exact g34 j (by omega) (by omega) (by omega) (by omega) (by omega)
  · rw [hW]
    exact hX2
theorem e_Mno {k : Int32 → vS → Prop} {V : vS} {x : Int32} {n : Nat} (h6 : V.1 34 6 = nI n) (h : k (if x < 0 ∨ nI n ≤ x then 1 else 0) V) : p_Mo_no k V x := by
  unfold p_Mo_no p_Mo_no_b12 p_Mo_no_b17
  rw [h6]
  refine ⟨fun c => ⟨by decide, ?_⟩, fun c => ⟨fun c2 => ⟨by decide, ?_⟩, fun c2 => ⟨by decide, ?_⟩⟩⟩
  · rw [if_pos (Or.inl c)] at h; exact h
  · rw [if_neg (fun q => by rcases q with q | q; exact c q; exact absurd c2 (Int32.not_lt.mpr q))] at h; exact h
  · rw [if_pos (Or.inr (Int32.not_lt.mp c2))] at h; exact h
theorem fnum {x : Int32} {n : Nat} (hn : n ≤ 4) (c : ¬ (x < 0 ∨ nI n ≤ x)) : ∃ f, f < n ∧ x = nI f := by
  rcases pk_ix x (n := n) (by omega) with q | q | q
  · exact absurd (Or.inl q) c
  · exact absurd (Or.inr q) c
  · exact q
theorem q_function {k : Int32 → vS → Prop} {V : vS} {x1 x2 x3 : Int32} (hI : Inv V) (h : ∀ (r : Int32) (V1 : vS), (∀ k2 : Int32 → vS → Prop, (∀ W, Inv W → k2 r W) → p_Mo_function k2 V1 x1 x2 x3) → k r V1) : p_PR_function k V x1 x2 x3 := by
  obtain ⟨K, i1, i2, i3, i4, i5, i6, i7, i8, i9, i10⟩ := id hI
  have hn4 := i2.1.2
  have v11 : V.1 1 1 = nI (nFA K) := by rw [i1 1 (by omega)]; exact i2.1.1
  have v6 : V.1 34 6 = nI (nFA K) := by rw [i3.1]; exact i2.1.1
  have mbad : (x1 < 0 ∨ 2 < x1 ∨ x2 < 0 ∨ 1 < x2 ∨ x3 < 0 ∨ 3 < x3) → k (-1) V := by
    intro b
    refine h _ V (fun k2 h2 => ?_)
    have hk := h2 V hI
    unfold p_Mo_function p_Mo_function_b27
    refine ⟨fun _ => hk, fun c1 => ⟨fun _ => hk, fun c2 => ⟨fun _ => hk, fun c3 => ⟨fun _ => hk, fun c4 => ⟨fun _ => hk, fun c5 => ⟨fun c6 => ?_, fun _ => hk⟩⟩⟩⟩⟩⟩
    exfalso
    rcases b with b | b | b | b | b | b
    · exact c1 b
    · exact c2 b
    · exact c3 b
    · exact c4 b
    · exact c5 b
    · exact absurd b (Int32.not_lt.mpr c6)
  unfold p_PR_function p_PR_function_b24
  refine e_within ?_
  by_cases b1 : x1 < 0 ∨ 2 < x1
  · rw [if_pos b1]
    exact ⟨fun _ => mbad (by rcases b1 with b | b; exact Or.inl b; exact Or.inr (Or.inl b)), fun q => absurd rfl q⟩
  rw [if_neg b1]
  refine ⟨fun q => absurd q (by decide), fun _ => e_within ?_⟩
  by_cases b2 : x2 < 0 ∨ 1 < x2
  · rw [if_pos b2]
    exact ⟨fun _ => mbad (Or.inr (Or.inr (by rcases b2 with b | b; exact Or.inl b; exact Or.inr (Or.inl b)))), fun q => absurd rfl q⟩
  rw [if_neg b2]
  refine ⟨fun q => absurd q (by decide), fun _ => e_within ?_⟩
  by_cases b3 : x3 < 0 ∨ 3 < x3
  · rw [if_pos b3]
    exact ⟨fun _ => mbad (Or.inr (Or.inr (Or.inr (Or.inr b3)))), fun q => absurd rfl q⟩
  rw [if_neg b3]
  refine ⟨fun q => absurd q (by decide), fun _ => ?_⟩
  obtain ⟨a, ha, ea⟩ := rng (n := 2) rfl b1
  obtain ⟨b, hb, eb⟩ := rng (n := 1) rfl b2
  obtain ⟨c, hc, ec⟩ := rng (n := 3) rfl b3
  rw [not_or] at b1 b2 b3
  rw [v11, k4, eq_iff]
  refine ⟨fun c4 => h _ V (fun k2 h2 => ?_), fun c4 => e_forget ?_⟩
  · unfold p_Mo_function
    rw [v6]
    refine ⟨fun q => absurd q b1.1, fun _ => ⟨fun q => absurd q b1.2, fun _ => ⟨fun q => absurd q b2.1, fun _ => ⟨fun q => absurd q b2.2, fun _ => ⟨fun q => absurd q b3.1, fun _ => ⟨fun _ => ⟨fun _ => h2 V hI, fun q => ?_⟩, fun q => absurd (Int32.not_lt.mp b3.2) q⟩⟩⟩⟩⟩⟩
    rw [k4, eq_iff] at q
    exact absurd c4 q
  · have f1 : ∀ c, c ≠ 0 → c ≠ 17 → (vFg V).1 c = V.1 c := fun c a b => vFg_ne V a b
    have u11 : (vFg V).1 1 1 = nI (nFA K) := by rw [f1 1 (by decide) (by decide)]; exact v11
    unfold p_Pg_add
    rw [u11]
    generalize hn : nFA K = n at *
    intro y ey
    subst ey
    rw [nt_nI (by omega), nI_1]
    refine ⟨vin (by omega), ?_⟩
    intro U3 eU3
    refine ⟨vin (by omega), ?_⟩
    intro U5 eU5
    refine ⟨vin (by omega), ?_⟩
    intro U7 eU7 U8 eU8
    refine h _ U8 (fun k2 h2 => ?_)
    have g8 : ∀ c, c ≠ 1 → c ≠ 3 + n → U8.1 c = (vFg V).1 c := fun c a b => by rw [eU8, sv_ne _ a, eU7, sv_ne _ b, eU5, sv_ne _ b, eU3, sv_ne _ b]
    have g82 : U8.2 = V.2 := by rw [eU8, eU7, eU5, eU3]; rfl
    have g11 : U8.1 1 1 = nI (n + 1) := by rw [eU8, sv_eq]
    have g2 : U8.1 (3 + n) 2 = V.1 (3 + n) 2 := by rw [← f1 (3 + n) (by omega) (by omega), eU8, eU7, eU5, eU3]; simp (disch := omega) only [sv_ne, sv_at, sv_eq]
    have g3 : U8.1 (3 + n) 3 = x1 := by rw [eU8, eU7, eU5, eU3]; simp (disch := omega) only [sv_ne, sv_at, sv_eq]
    have g4 : U8.1 (3 + n) 4 = x2 := by rw [eU8, eU7, eU5, eU3]; simp (disch := omega) only [sv_ne, sv_at, sv_eq]
    have g5 : U8.1 (3 + n) 5 = x3 := by rw [eU8, eU7, eU5, eU3]; simp (disch := omega) only [sv_ne, sv_at, sv_eq]
    have g6 : U8.1 34 6 = nI n := by rw [g8 34 (by omega) (by omega), f1 34 (by decide) (by decide)]; exact v6
    clear eU8 eU7 eU5 eU3
    unfold p_Mo_function
    refine ⟨fun q => absurd q b1.1, fun _ => ⟨fun q => absurd q b1.2, fun _ => ⟨fun q => absurd q b2.1, fun _ => ⟨fun q => absurd q b2.2, fun _ => ⟨fun q => absurd q b3.1, fun _ => ⟨fun _ => ⟨fun q => ?_, fun q => ?_⟩, fun q => absurd (Int32.not_lt.mp b3.2) q⟩⟩⟩⟩⟩⟩
    · rw [g6, k4, eq_iff] at q
      exact absurd q c4
    · rw [g6, nt_nI (by omega)]
      refine ⟨vin (by omega), ?_⟩
      intro V9 eV9
      have e9 : V9.1 34 6 = nI n := by rw [eV9, sv_ne _ (by decide)]; exact g6
      rw [e9, nt_nI (by omega)]
      refine ⟨vin (by omega), ?_⟩
      intro V11 eV11
      have e11 : V11.1 34 6 = nI n := by rw [eV11, sv_ne _ (by decide)]; exact e9
      rw [e11, nt_nI (by omega)]
      refine ⟨vin (by omega), ?_⟩
      intro V13 eV13
      have e13 : V13.1 34 6 = nI n := by rw [eV13, sv_ne _ (by decide)]; exact e11
      rw [e13, nI_1]
      intro V14 eV14
      refine e_changed ?_
      have m6 : (mCh V14).1 34 6 = nI (n + 1) := by rw [eV14]; unfold mCh; simp (disch := omega) only [sv_ne, sv_at, sv_eq]
      rw [m6, nI_pred]
      have d14 : ∀ c, c ≠ 34 → c ≠ 35 → c ≠ 36 → c ≠ 37 → V14.1 c = U8.1 c := fun c a b d e => by rw [eV14, sv_ne _ a, eV13, sv_ne _ e, eV11, sv_ne _ d, eV9, sv_ne _ b]
      have e35 : V14.1 35 = upd (V.1 35) n x1 := by rw [eV14, sv_ne _ (by decide), eV13, sv_ne _ (by decide), eV11, sv_ne _ (by decide), eV9, sv_self, g8 35 (by omega) (by omega), f1 35 (by decide) (by decide)]
      have e36 : V14.1 36 = upd (V.1 36) n x2 := by rw [eV14, sv_ne _ (by decide), eV13, sv_ne _ (by decide), eV11, sv_self, eV9, sv_ne _ (by decide), g8 36 (by omega) (by omega), f1 36 (by decide) (by decide)]
      have e37 : V14.1 37 = upd (V.1 37) n x3 := by rw [eV14, sv_ne _ (by decide), eV13, sv_self, eV11, sv_ne _ (by decide), eV9, sv_ne _ (by decide), g8 37 (by omega) (by omega), f1 37 (by decide) (by decide)]
      have w : ∀ c, c ≠ 34 → (mCh V14).1 c = V14.1 c := fun c q => mCh_ne _ q
      have hold : ∀ f, f < 4 → f ≠ n → (mCh V14).1 (3 + f) = V.1 (3 + f) := fun f a b => by rw [w _ (by omega), d14 _ (by omega) (by omega) (by omega) (by omega), g8 _ (by omega) (by omega), f1 _ (by omega) (by omega)]
      have hcod : ∀ c, 7 ≤ c ∧ c < 15 → (mCh V14).1 c = V.1 c := fun c q => by rw [w _ (by omega), d14 _ (by omega) (by omega) (by omega) (by omega), g8 _ (by omega) (by omega), f1 _ (by omega) (by omega)]
      have hnew : (mCh V14).1 (3 + n) = U8.1 (3 + n) := by rw [w _ (by omega), d14 _ (by omega) (by omega) (by omega) (by omega)]
      have w11 : (mCh V14).1 1 1 = nI (n + 1) := by rw [w _ (by omega), d14 _ (by omega) (by omega) (by omega) (by omega)]; exact g11
      refine h2 _ (Inv_code (X := V14) hI (fun c q => ?_) (fun j q => ?_) ?_ rfl ?_ ?_)
      · rw [d14 _ (by omega) (by omega) (by omega) (by omega), g8 _ (by omega) (by omega)]
      · rw [eV14, sv_at _ q, eV13, sv_ne _ (by decide), eV11, sv_ne _ (by decide), eV9, sv_ne _ (by decide), g8 34 (by omega) (by omega), f1 34 (by decide) (by decide)]
      · rw [eV14, eV13, eV11, eV9]; exact g82
      · refine Cwf.mk ⟨n + 1, by omega, w11⟩ (fun f hf => ?_)
        obtain ⟨⟨t1, t2⟩, ⟨t3, t4⟩, ⟨t5, t6⟩, ⟨t7, t8⟩, t9⟩ := i2.2 f hf
        refine ⟨?_, ?_, ?_, ?_, fun i hi => ⟨_, (t9 i hi).2, by rw [hcod _ (by omega), i1 _ (by omega)]; exact (t9 i hi).1⟩⟩
        · by_cases e : f = n
          · subst e
            exact ⟨_, t2, by rw [hnew, g2, i1 _ (by omega)]; exact t1⟩
          · exact ⟨_, t2, by rw [hold f hf e, i1 _ (by omega)]; exact t1⟩
        · by_cases e : f = n
          · subst e
            exact ⟨a, ha, by rw [hnew, g3]; exact ea⟩
          · exact ⟨_, t4, by rw [hold f hf e, i1 _ (by omega)]; exact t3⟩
        · by_cases e : f = n
          · subst e
            exact ⟨b, hb, by rw [hnew, g4]; exact eb⟩
          · exact ⟨_, t6, by rw [hold f hf e, i1 _ (by omega)]; exact t5⟩
        · by_cases e : f = n
          · subst e
            exact ⟨c, hc, by rw [hnew, g5]; exact ec⟩
          · exact ⟨_, t8, by rw [hold f hf e, i1 _ (by omega)]; exact t7⟩
      · refine ⟨by rw [m6, w11], fun f hf => ?_⟩
        obtain ⟨s1, s2, s3, s4, s5⟩ := i3.2 f hf
        rw [w 35 (by decide), w 36 (by decide), w 37 (by decide), w 38 (by decide), w 39 (by decide), w 40 (by decide), e35, e36, e37, d14 38 (by decide) (by decide) (by decide) (by decide), d14 39 (by decide) (by decide) (by decide) (by decide), d14 40 (by decide) (by decide) (by decide) (by decide), g8 38 (by omega) (by omega), g8 39 (by omega) (by omega), g8 40 (by omega) (by omega), f1 38 (by decide) (by decide), f1 39 (by decide) (by decide), f1 40 (by decide) (by decide), hcod (7 + f) (by omega), hcod (11 + f) (by omega), i1 (7 + f) (by omega), i1 (11 + f) (by omega)]
        by_cases e : f = n
        · subst e
          rw [hnew, g2, g3, g4, g5, i1 (3 + f) (by omega)]
          exact ⟨pk_us, pk_us, pk_us, s4, s5⟩
        · rw [hold f hf e, i1 (3 + f) (by omega)]
          exact ⟨by rw [pk_un e]; exact s1, by rw [pk_un e]; exact s2, by rw [pk_un e]; exact s3, s4, s5⟩
