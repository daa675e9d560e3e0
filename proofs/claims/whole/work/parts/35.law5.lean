/-! PURE PART: emit, erase -/
theorem q_erase {k : Int32 → vS → Prop} {V : vS} {x : Int32} (hI : Inv V) (h : ∀ (r : Int32) (V1 : vS), (∀ k2 : Int32 → vS → Prop, (∀ W, Inv W → k2 r W) → p_Mo_erase k2 V1 x) → k r V1) : p_PR_erase k V x := by
  obtain ⟨K, i1, i2, i3, i4, i5, i6, i7, i8, i9, i10⟩ := id hI
  have hn4 := i2.1.2
  have v11 : V.1 1 1 = nI (nFA K) := by rw [i1 1 (by omega)]; exact i2.1.1
  have v6 : V.1 34 6 = nI (nFA K) := by rw [i3.1]; exact i2.1.1
  unfold p_PR_erase
  refine e_has ?_
  rw [v11]
  by_cases c : x < 0 ∨ nI (nFA K) ≤ x
  · rw [if_pos c]
    refine ⟨fun _ => h _ V (fun k2 h2 => ?_), fun q => absurd rfl q⟩
    unfold p_Mo_erase
    refine e_Mno v6 ?_
    rw [if_pos c]
    exact ⟨fun q => absurd q (by decide), fun _ => h2 V hI⟩
  · rw [if_neg c]
    obtain ⟨f, hf, ef⟩ := fnum hn4 c
    refine ⟨fun q => absurd q (by decide), fun _ => e_forget ?_⟩
    have f1 : ∀ c, c ≠ 0 → c ≠ 17 → (vFg V).1 c = V.1 c := fun c a b => vFg_ne V a b
    rw [ef, nt_nI (by omega)]
    refine ⟨vin (by omega), ?_⟩
    intro U eU
    refine h _ U (fun k2 h2 => ?_)
    have g8 : ∀ c, c ≠ 3 + f → U.1 c = (vFg V).1 c := fun c a => by rw [eU, sv_ne _ a]
    have gf : ∀ j, j ≠ 2 → U.1 (3 + f) j = V.1 (3 + f) j := fun j a => by rw [eU, sv_at _ a, f1 _ (by omega) (by omega)]
    have g2 : U.1 (3 + f) 2 = 0 := by rw [eU, sv_eq]
    have g6 : U.1 34 6 = nI (nFA K) := by rw [g8 34 (by omega), f1 34 (by decide) (by decide)]; exact v6
    have gu : U.2 = V.2 := by rw [eU]; rfl
    clear eU
    unfold p_Mo_erase
    refine e_Mno g6 ?_
    rw [if_neg c]
    refine ⟨fun _ => ?_, fun q => absurd rfl q⟩
    rw [ef, nt_nI (by omega)]
    refine ⟨vin (by omega), ?_⟩
    intro V6 eV6
    refine e_changed (h2 _ ?_)
    have d14 : ∀ c, c ≠ 38 → V6.1 c = U.1 c := fun c a => by rw [eV6, sv_ne _ a]
    have e38 : V6.1 38 = upd (V.1 38) f 0 := by rw [eV6, sv_self, g8 38 (by omega), f1 38 (by decide) (by decide)]
    have w : ∀ c, c ≠ 34 → (mCh V6).1 c = V6.1 c := fun c q => mCh_ne _ q
    have hold : ∀ g, g < 4 → g ≠ f → (mCh V6).1 (3 + g) = V.1 (3 + g) := fun g a b => by rw [w _ (by omega), d14 _ (by omega), g8 _ (by omega), f1 _ (by omega) (by omega)]
    have hcod : ∀ c, (7 ≤ c ∧ c < 15) ∨ c = 1 ∨ (35 ≤ c ∧ c ≠ 38 ∧ c ≤ 40) → (mCh V6).1 c = V.1 c := fun c q => by rw [w _ (by omega), d14 _ (by omega), g8 _ (by omega), f1 _ (by omega) (by omega)]
    have hnew : (mCh V6).1 (3 + f) = U.1 (3 + f) := by rw [w _ (by omega), d14 _ (by omega)]
    have m6 : (mCh V6).1 34 6 = V.1 34 6 := by rw [v6, ← g6, ← d14 34 (by decide)]; unfold mCh; simp (disch := omega) only [sv_ne, sv_at, sv_eq]
    refine Inv_code (X := V6) hI (fun c q => ?_) (fun j q => ?_) ?_ rfl ?_ ?_
    · rw [d14 _ (by omega), g8 _ (by omega)]
    · rw [d14 34 (by decide), g8 34 (by omega), f1 34 (by decide) (by decide)]
    · rw [eV6]; exact gu
    · refine Cwf.mk ⟨nFA K, hn4, by rw [hcod 1 (by omega)]; exact v11⟩ (fun g hg => ?_)
      obtain ⟨⟨t1, t2⟩, ⟨t3, t4⟩, ⟨t5, t6⟩, ⟨t7, t8⟩, t9⟩ := i2.2 g hg
      have t9' : ∀ i, i < 24 → ∃ n, n < 20 ∧ (mCh V6).1 (7 + g) i = nI n := fun i hi => ⟨_, (t9 i hi).2, by rw [hcod _ (by omega), i1 _ (by omega)]; exact (t9 i hi).1⟩
      by_cases e : g = f
      · subst e
        rw [hnew, g2, gf 3 (by decide), gf 4 (by decide), gf 5 (by decide), i1 (3 + g) (by omega)]
        exact ⟨⟨0, by omega, rfl⟩, ⟨_, t4, t3⟩, ⟨_, t6, t5⟩, ⟨_, t8, t7⟩, t9'⟩
      · rw [hold g hg e, i1 (3 + g) (by omega)]
        exact ⟨⟨_, t2, t1⟩, ⟨_, t4, t3⟩, ⟨_, t6, t5⟩, ⟨_, t8, t7⟩, t9'⟩
    · refine ⟨by rw [m6, hcod 1 (by omega), v6, v11], fun g hg => ?_⟩
      obtain ⟨s1, s2, s3, s4, s5⟩ := i3.2 g hg
      rw [hcod 35 (by omega), hcod 36 (by omega), hcod 37 (by omega), hcod 39 (by omega), hcod 40 (by omega), w 38 (by decide), e38, hcod (7 + g) (by omega), hcod (11 + g) (by omega), i1 (7 + g) (by omega), i1 (11 + g) (by omega)]
      by_cases e : g = f
      · subst e
        rw [hnew, g2, gf 3 (by decide), gf 4 (by decide), gf 5 (by decide), i1 (3 + g) (by omega)]
        exact ⟨s1, s2, s3, pk_us, s5⟩
      · rw [hold g hg e, i1 (3 + g) (by omega)]
        exact ⟨s1, s2, s3, by rw [pk_un e]; exact s4, s5⟩
theorem q_emit {k : Int32 → vS → Prop} {V : vS} {x x2 x3 : Int32} (hI : Inv V) (h : ∀ (r : Int32) (V1 : vS), (∀ k2 : Int32 → vS → Prop, (∀ W, Inv W → k2 r W) → p_Mo_emit k2 V1 x x2 x3) → k r V1) : p_PR_emit k V x x2 x3 := by
  obtain ⟨K, i1, i2, i3, i4, i5, i6, i7, i8, i9, i10⟩ := id hI
  have hn4 := i2.1.2
  have v11 : V.1 1 1 = nI (nFA K) := by rw [i1 1 (by omega)]; exact i2.1.1
  have v6 : V.1 34 6 = nI (nFA K) := by rw [i3.1]; exact i2.1.1
  unfold p_PR_emit p_PR_emit_b20
  refine e_has ?_
  rw [v11]
  by_cases c : x < 0 ∨ nI (nFA K) ≤ x
  · rw [if_pos c]
    refine ⟨fun _ => h _ V (fun k2 h2 => ?_), fun q => absurd rfl q⟩
    unfold p_Mo_emit p_Mo_emit_b18
    refine e_Mno v6 ?_
    rw [if_pos c]
    exact ⟨fun q => absurd q (by decide), fun _ => h2 V hI⟩
  rw [if_neg c]
  refine ⟨fun q => absurd q (by decide), fun _ => e_within ?_⟩
  by_cases b : x2 < 0 ∨ 19 < x2
  · rw [if_pos b]
    refine ⟨fun _ => h _ V (fun k2 h2 => ?_), fun q => absurd rfl q⟩
    unfold p_Mo_emit p_Mo_emit_b18
    refine e_Mno v6 ?_
    rw [if_neg c]
    refine ⟨fun _ => ⟨fun _ => h2 V hI, fun b1 => ⟨fun b2 => ?_, fun _ => h2 V hI⟩⟩, fun q => absurd rfl q⟩
    exfalso
    rcases b with b | b
    · exact b1 b
    · exact absurd b (Int32.not_lt.mpr b2)
  rw [if_neg b]
  refine ⟨fun q => absurd q (by decide), fun _ => ?_⟩
  obtain ⟨f, hf, ef⟩ := fnum hn4 c
  obtain ⟨o, ho, eo⟩ := rng (n := 19) rfl b
  rw [not_or] at b
  have hln := (i2.2 f (by omega)).1
  have vl : V.1 (3 + f) 2 = nI (lnA K f) := by rw [i1 _ (by omega)]; exact hln.1
  have v38 : V.1 38 f = nI (lnA K f) := by rw [(i3.2 f (by omega)).2.2.2.1]; exact hln.1
  have hl24 := hln.2
  clear hln
  rw [ef, nt_nI (by omega), vl, k24, eq_iff]
  refine ⟨vin (by omega), fun c4 => h _ V (fun k2 h2 => ?_), fun c4 => e_forget ?_⟩
  · unfold p_Mo_emit
    refine e_Mno v6 ?_
    rw [if_neg c]
    refine ⟨fun _ => ⟨fun q => absurd q b.1, fun _ => ⟨fun _ => ⟨by rw [ef]; exact vin (by omega), ?_⟩, fun q => absurd (Int32.not_lt.mp b.2) q⟩⟩, fun q => absurd rfl q⟩
    refine ⟨fun _ => h2 V hI, fun q => ?_⟩
    rw [ef, nt_nI (by omega), v38, k24, eq_iff] at q
    exact absurd c4 q
  · have f1 : ∀ c, c ≠ 0 → c ≠ 17 → (vFg V).1 c = V.1 c := fun c a b => vFg_ne V a b
    have ul : (vFg V).1 (3 + f) 2 = nI (lnA K f) := by rw [f1 _ (by omega) (by omega)]; exact vl
    generalize hl : lnA K f = l at *
    unfold p_Fn_add
    rw [ul]
    intro y ey
    subst ey
    rw [nt_nI (by omega), nI_1]
    refine ⟨vin (by omega), ?_⟩
    intro U3 eU3
    refine ⟨vin (by omega), ?_⟩
    intro U5 eU5 U eU
    refine h _ U (fun k2 h2 => ?_)
    rw [show 3 + f + 4 = 7 + f by omega] at eU3
    rw [show 3 + f + 8 = 11 + f by omega] at eU5
    have g8 : ∀ c, c ≠ 3 + f → c ≠ 7 + f → c ≠ 11 + f → U.1 c = (vFg V).1 c := fun c a b d => by rw [eU, sv_ne _ a, eU5, sv_ne _ d, eU3, sv_ne _ b]
    have gf : ∀ j, j ≠ 2 → U.1 (3 + f) j = V.1 (3 + f) j := fun j a => by rw [eU, sv_at _ a, eU5, sv_ne _ (by omega), eU3, sv_ne _ (by omega), f1 _ (by omega) (by omega)]
    have g2 : U.1 (3 + f) 2 = nI (l + 1) := by rw [eU, sv_eq]
    have g7 : U.1 (7 + f) = upd (V.1 (7 + f)) l x2 := by rw [eU, sv_ne _ (by omega), eU5, sv_ne _ (by omega), eU3, sv_self, f1 _ (by omega) (by omega)]
    have g11 : U.1 (11 + f) = upd (V.1 (11 + f)) l x3 := by rw [eU, sv_ne _ (by omega), eU5, sv_self, eU3, sv_ne _ (by omega), f1 _ (by omega) (by omega)]
    have gu : U.2 = V.2 := by rw [eU, eU5, eU3]; rfl
    have g6 : U.1 34 6 = nI (nFA K) := by rw [g8 34 (by omega) (by omega) (by omega), f1 34 (by decide) (by decide)]; exact v6
    have g38 : U.1 38 f = nI l := by rw [g8 38 (by omega) (by omega) (by omega), f1 38 (by decide) (by decide)]; exact v38
    clear eU eU5 eU3
    unfold p_Mo_emit
    refine e_Mno g6 ?_
    rw [if_neg c]
    refine ⟨fun _ => ⟨fun q => absurd q b.1, fun _ => ⟨fun _ => ⟨by rw [ef]; exact vin (by omega), ?_⟩, fun q => absurd (Int32.not_lt.mp b.2) q⟩⟩, fun q => absurd rfl q⟩
    rw [ef, nt_nI (by omega), g38]
    refine ⟨fun q => ?_, fun _ => ⟨vin (by omega), ?_⟩⟩
    · rw [k24, eq_iff] at q
      exact absurd q c4
    rw [ix24, nt_nI (by omega)]
    refine ⟨vin (by omega), ?_⟩
    intro V11 eV11
    have e1 : V11.1 38 f = nI l := by rw [eV11, sv_ne _ (by decide)]; exact g38
    rw [e1, ix24, nt_nI (by omega)]
    refine ⟨vin (by omega), vin (by omega), ?_⟩
    intro V14 eV14
    have e2 : V14.1 38 f = nI l := by rw [eV14, sv_ne _ (by decide)]; exact e1
    rw [e2, nI_1]
    refine ⟨vin (by omega), vin (by omega), ?_⟩
    intro V6 eV6
    refine e_changed ⟨vin (by omega), ?_⟩
    have d14 : ∀ c, c ≠ 38 → c ≠ 39 → c ≠ 40 → V6.1 c = U.1 c := fun c a b d => by rw [eV6, sv_ne _ a, eV14, sv_ne _ d, eV11, sv_ne _ b]
    have u39 : ∀ c, 34 ≤ c → U.1 c = V.1 c := fun c q => by rw [g8 c (by omega) (by omega) (by omega), f1 c (by omega) (by omega)]
    have e38 : V6.1 38 = upd (V.1 38) f (nI (l + 1)) := by rw [eV6, sv_self, eV14, sv_ne _ (by decide), eV11, sv_ne _ (by decide), u39 38 (by omega)]
    have e39 : V6.1 39 = upd (V.1 39) (f * 24 + l) x2 := by rw [eV6, sv_ne _ (by decide), eV14, sv_ne _ (by decide), eV11, sv_self, u39 39 (by omega)]
    have e40 : V6.1 40 = upd (V.1 40) (f * 24 + l) x3 := by rw [eV6, sv_ne _ (by decide), eV14, sv_self, eV11, sv_ne _ (by decide), u39 40 (by omega)]
    have w : ∀ c, c ≠ 34 → (mCh V6).1 c = V6.1 c := fun c q => mCh_ne _ q
    have hold : ∀ g, g < 4 → g ≠ f → (mCh V6).1 (3 + g) = V.1 (3 + g) ∧ (mCh V6).1 (7 + g) = V.1 (7 + g) ∧ (mCh V6).1 (11 + g) = V.1 (11 + g) := by
      intro g a b
      refine ⟨?_, ?_, ?_⟩
      · rw [w _ (by omega), d14 _ (by omega) (by omega) (by omega), g8 _ (by omega) (by omega) (by omega), f1 _ (by omega) (by omega)]
      · rw [w _ (by omega), d14 _ (by omega) (by omega) (by omega), g8 _ (by omega) (by omega) (by omega), f1 _ (by omega) (by omega)]
      · rw [w _ (by omega), d14 _ (by omega) (by omega) (by omega), g8 _ (by omega) (by omega) (by omega), f1 _ (by omega) (by omega)]
    have hcod : ∀ c, c = 1 ∨ (35 ≤ c ∧ c ≤ 37) → (mCh V6).1 c = V.1 c := fun c q => by rw [w _ (by omega), d14 _ (by omega) (by omega) (by omega), g8 _ (by omega) (by omega) (by omega), f1 _ (by omega) (by omega)]
    have hnew : ∀ c, c = 3 + f ∨ c = 7 + f ∨ c = 11 + f → (mCh V6).1 c = U.1 c := fun c q => by rw [w _ (by omega), d14 _ (by omega) (by omega) (by omega)]
    have m6 : (mCh V6).1 34 6 = V.1 34 6 := by rw [v6, ← g6, ← d14 34 (by decide) (by decide) (by decide)]; unfold mCh; simp (disch := omega) only [sv_ne, sv_at, sv_eq]
    have m38 : (mCh V6).1 38 f = nI (l + 1) := by rw [w 38 (by decide), e38]; exact pk_us
    rw [m38, nI_pred]
    refine h2 _ (Inv_code (X := V6) hI (fun c q => ?_) (fun j q => ?_) ?_ rfl ?_ ?_)
    · rw [d14 _ (by omega) (by omega) (by omega), g8 _ (by omega) (by omega) (by omega)]
    · rw [d14 34 (by decide) (by decide) (by decide), u39 34 (by omega)]
    · rw [eV6, eV14, eV11]; exact gu
    · refine Cwf.mk ⟨nFA K, hn4, by rw [hcod 1 (by omega)]; exact v11⟩ (fun g hg => ?_)
      obtain ⟨⟨t1, t2⟩, ⟨t3, t4⟩, ⟨t5, t6⟩, ⟨t7, t8⟩, t9⟩ := i2.2 g hg
      by_cases e : g = f
      · subst e
        rw [hnew (3 + g) (by omega), g2, gf 3 (by decide), gf 4 (by decide), gf 5 (by decide), i1 (3 + g) (by omega), hnew (7 + g) (by omega), g7, i1 (7 + g) (by omega)]
        refine ⟨⟨l + 1, by omega, rfl⟩, ⟨_, t4, t3⟩, ⟨_, t6, t5⟩, ⟨_, t8, t7⟩, fun i hi => ?_⟩
        by_cases ei : i = l
        · subst ei
          exact ⟨o, by omega, by rw [pk_us]; exact eo⟩
        · exact ⟨_, (t9 i hi).2, by rw [pk_un ei]; exact (t9 i hi).1⟩
      · obtain ⟨z1, z2, z3⟩ := hold g hg e
        rw [z1, z2, i1 (3 + g) (by omega), i1 (7 + g) (by omega)]
        exact ⟨⟨_, t2, t1⟩, ⟨_, t4, t3⟩, ⟨_, t6, t5⟩, ⟨_, t8, t7⟩, fun i hi => ⟨_, (t9 i hi).2, (t9 i hi).1⟩⟩
    · refine ⟨by rw [m6, hcod 1 (by omega), v6, v11], fun g hg => ?_⟩
      obtain ⟨s1, s2, s3, s4, s5⟩ := i3.2 g hg
      rw [hcod 35 (by omega), hcod 36 (by omega), hcod 37 (by omega), w 38 (by decide), w 39 (by decide), w 40 (by decide), e38, e39, e40]
      by_cases e : g = f
      · subst e
        rw [hnew (3 + g) (by omega), g2, gf 3 (by decide), gf 4 (by decide), gf 5 (by decide), i1 (3 + g) (by omega), hnew (7 + g) (by omega), hnew (11 + g) (by omega), g7, g11, i1 (7 + g) (by omega), i1 (11 + g) (by omega)]
        refine ⟨s1, s2, s3, pk_us, fun i hi => ?_⟩
        by_cases ei : i = l
        · subst ei
          exact ⟨by rw [pk_us, pk_us], by rw [pk_us, pk_us]⟩
        · rw [pk_un (show g * 24 + i ≠ g * 24 + l by omega), pk_un (show g * 24 + i ≠ g * 24 + l by omega), pk_un ei, pk_un ei]
          exact s5 i hi
      · obtain ⟨z1, z2, z3⟩ := hold g hg e
        rw [z1, z2, z3, i1 (3 + g) (by omega), i1 (7 + g) (by omega), i1 (11 + g) (by omega)]
        refine ⟨s1, s2, s3, by rw [pk_un e]; exact s4, fun i hi => ?_⟩
        rw [pk_un (show g * 24 + i ≠ f * 24 + l by omega), pk_un (show g * 24 + i ≠ f * 24 + l by omega)]
        exact s5 i hi
