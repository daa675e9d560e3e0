/-! PURE PART: start, resume, reply -/
def vAr2 (E : vS) (c tk : Nat) (x y : Int32) : vS := if tk = 0 then E else if tk = 1 then sv E c 0 x else sv (sv E c 0 x) c 1 y
theorem vAr2_ne (E : vS) {c a tk : Nat} (x y : Int32) (h : a ≠ c) : (vAr2 E c tk x y).1 a = E.1 a := by
  unfold vAr2
  by_cases c0 : tk = 0
  · rw [if_pos c0]
  · rw [if_neg c0]
    by_cases c1 : tk = 1
    · rw [if_pos c1, sv_ne _ h]
    · rw [if_neg c1, sv_ne _ h, sv_ne _ h]
theorem vAr2_2 (E : vS) (c tk : Nat) (x y : Int32) : (vAr2 E c tk x y).2 = E.2 := by
  unfold vAr2
  by_cases c0 : tk = 0
  · rw [if_pos c0]
  · rw [if_neg c0]
    by_cases c1 : tk = 1
    · rw [if_pos c1]; rfl
    · rw [if_neg c1]; rfl
theorem e_Mcbegin {k : vS → Prop} {V : vS} {f tk : Nat} {x y : Int32} (hf : f < 4) (htk : V.1 (3 + f) 3 = nI tk) (h2 : tk ≤ 2) (h : k (vAr2 (vEnter (vDrop V) 0 (nI f)) 25 tk x y)) : p_Mc_begin k V (nI f) x y := by
  unfold p_Mc_begin
  refine e_dropRun (e_enter (dp := 0) (by unfold vDrop; simp (disch := omega) only [sv_ne, sv_at, sv_eq]; rfl) (by omega) ⟨vin hf, ?_⟩)
  have e3 : (vEnter (vDrop V) 0 (nI f)).1 (3 + f) 3 = nI tk := by
    rw [vEnter_ne _ _ (by omega) (by omega) (by omega), ← htk]
    unfold vDrop
    simp (disch := omega) only [sv_ne, sv_at, sv_eq]
  rw [nt_nI (by omega), e3]
  generalize vEnter (vDrop V) 0 (nI f) = E at *
  intro y7 ey
  subst ey
  unfold p_Mc_begin_b38 p_Mc_begin_b52
  unfold vAr2 at h
  rw [k0, le_iff]
  refine ⟨fun c => ⟨fun _ => ?_, fun q => ?_⟩, fun c => ⟨by unfold vp_in; decide, ?_⟩⟩
  · rw [if_pos (by omega)] at h; exact h
  · rw [k1, le_iff] at q; omega
  · rintro _ rfl
    rw [if_neg (by omega)] at h
    rw [k1, le_iff]
    refine ⟨fun c1 => ?_, fun c1 => ⟨by unfold vp_in; decide, ?_⟩⟩
    · rw [if_pos (by omega)] at h; exact h
    · rintro _ rfl
      rw [if_neg (by omega)] at h
      exact h
theorem e_Mb56 {k : Int32 → vS → Prop} {V : vS} {f tk : Nat} {x y : Int32} (hf : f < 4) (htk : V.1 35 f = nI tk) (h2 : tk ≤ 2) (h : k 0 (vAr2 V 45 tk x y)) : vp_in (nI f) 4 ∧ (((V.1 35 (nt (nI f))) ≤ 0 → (p_Mo_start_b56 k V (nI f) y)) ∧ (¬ (V.1 35 (nt (nI f))) ≤ 0 → (vp_in 0 35 ∧ ∀ V14 : vS, V14 = sv V 45 (nt 0) x → (p_Mo_start_b56 k V14 (nI f) y)))) := by
  refine ⟨vin hf, ?_⟩
  rw [nt_nI (by omega), htk, k0, le_iff]
  unfold vAr2 at h
  unfold p_Mo_start_b56 p_Mo_start_b73
  rw [nt_nI (by omega), htk]
  refine ⟨fun c => ⟨vin hf, fun _ => ?_, fun q => ?_⟩, fun c => ⟨by unfold vp_in; decide, ?_⟩⟩
  · rw [if_pos (by omega)] at h; exact h
  · rw [k1, le_iff] at q; omega
  · intro V14 eV
    have e35 : V14.1 35 f = nI tk := by rw [eV, sv_ne _ (by decide)]; exact htk
    rw [if_neg (by omega)] at h
    rw [e35, k1, le_iff]
    refine ⟨vin hf, fun c1 => ?_, fun c1 => ⟨by unfold vp_in; decide, ?_⟩⟩
    · rw [if_pos (by omega)] at h
      rw [eV]
      exact h
    · rintro _ rfl
      rw [if_neg (by omega)] at h
      rw [eV]
      exact h
theorem MRun.ar2 {V A : vS} {tk : Nat} {x y : Int32} (h : MRun V A 1 0) : MRun (vAr2 V 45 tk x y) (vAr2 A 25 tk x y) 1 0 := by
  unfold vAr2
  by_cases c0 : tk = 0
  · rw [if_pos c0, if_pos c0]; exact h
  · rw [if_neg c0, if_neg c0]
    have h1 : MRun (sv V 45 0 x) (sv A 25 0 x) 1 0 := h.loc (d := 0) (j := 0) (by omega) (by omega) (by omega) x
    by_cases c1 : tk = 1
    · rw [if_pos c1, if_pos c1]; exact h1
    · rw [if_neg c1, if_neg c1]
      exact h1.loc (d := 0) (j := 1) (by omega) (by omega) (by omega) y
theorem q_start {k : Int32 → vS → Prop} {V : vS} {x1 x2 x3 : Int32} (hI : Inv V) (h : ∀ (r : Int32) (V1 : vS), (∀ k2 : Int32 → vS → Prop, (∀ W, Inv W → k2 r W) → p_Mo_start k2 V1 x1 x2 x3) → k r V1) : p_PR_start k V x1 x2 x3 := by
  obtain ⟨K, i1, i2, i3, i4, i5, i6, i7, ⟨dp, sz, q1, q2, q3, q4, q5, q6, q7⟩, i9, i10⟩ := id hI
  have hn4 := i2.1.2
  have v11 : V.1 1 1 = nI (nFA K) := by rw [i1 1 (by omega)]; exact i2.1.1
  have v6 : V.1 34 6 = nI (nFA K) := by rw [i3.1]; exact i2.1.1
  unfold p_PR_start
  refine ⟨fun c => h _ V (fun k2 h2 => ?_), fun c3 => e_has ?_⟩
  · unfold p_Mo_start
    exact ⟨fun _ => h2 V hI, fun q => absurd (i10.trans c) q⟩
  have c38 : ¬ V.1 34 8 = 0 := by rw [i10]; exact c3
  rw [v11]
  by_cases c : x1 < 0 ∨ nI (nFA K) ≤ x1
  · rw [if_pos c]
    refine ⟨fun _ => h _ V (fun k2 h2 => ?_), fun q => absurd rfl q⟩
    unfold p_Mo_start
    refine ⟨fun q => absurd q c38, fun _ => e_Mno v6 ?_⟩
    rw [if_pos c]
    exact ⟨fun q => absurd q (by decide), fun _ => h2 V hI⟩
  rw [if_neg c]
  refine ⟨fun q => absurd q (by decide), fun _ => ?_⟩
  obtain ⟨f, hf, ef⟩ := fnum hn4 c
  obtain ⟨hn, hVl⟩ := i7 (Or.inr c3)
  have tk := (i2.2 f (by omega)).2.1
  rw [ef]
  refine e_Mcbegin (by omega) (by rw [i1 _ (by omega)]; exact tk.1) tk.2 (h _ _ (fun k2 h2 => ?_))
  have aE : ∀ c, c ≠ 17 → c ≠ 19 → c ≠ 25 → (vEnter (vDrop V) 0 (nI f)).1 c = V.1 c := by
    intro c a b d
    rw [vEnter_ne _ _ a (by omega) (by omega)]
    unfold vDrop
    rw [sv_ne _ a, sv_ne _ a, sv_ne _ a, sv_ne _ a]
  have aA : ∀ c, c ≠ 17 → c ≠ 19 → c ≠ 25 → (vAr2 (vEnter (vDrop V) 0 (nI f)) 25 (tkA K f) x2 x3).1 c = V.1 c := by
    intro c a b d
    rw [vAr2_ne _ _ _ d]
    exact aE c a b d
  have e17 : ∀ j, j ≠ 5 → (vAr2 (vEnter (vDrop V) 0 (nI f)) 25 (tkA K f) x2 x3).1 17 j = (vDrop V).1 17 j := fun j a => by rw [vAr2_ne _ _ _ (by decide), vEnter_17 _ _ a]
  have e5 : (vAr2 (vEnter (vDrop V) 0 (nI f)) 25 (tkA K f) x2 x3).1 17 5 = nI 1 := by rw [vAr2_ne _ _ _ (by decide)]; exact vEnter_5 _ _ _
  have e19 : (vAr2 (vEnter (vDrop V) 0 (nI f)) 25 (tkA K f) x2 x3).1 19 1 = nI f ∧ (vAr2 (vEnter (vDrop V) 0 (nI f)) 25 (tkA K f) x2 x3).1 19 2 = 0 := by
    rw [vAr2_ne _ _ _ (by decide)]
    exact ⟨vEnter_1 _ _, vEnter_2 _ _⟩
  have e2 : (vAr2 (vEnter (vDrop V) 0 (nI f)) 25 (tkA K f) x2 x3).2 = V.2 := by rw [vAr2_2]; rfl
  have hAR : ∀ V9, MRun V9 (vEnter (vDrop V) 0 (nI f)) 1 0 → MRun (vAr2 V9 45 (tkA K f) x2 x3) (vAr2 (vEnter (vDrop V) 0 (nI f)) 25 (tkA K f) x2 x3) 1 0 := fun V9 g => g.ar2
  generalize vAr2 (vEnter (vDrop V) 0 (nI f)) 25 (tkA K f) x2 x3 = A at *
  unfold p_Mo_start
  rw [aA 34 (by decide) (by decide) (by decide)]
  refine ⟨fun q => absurd q c38, fun _ => e_Mno (by rw [aA 34 (by decide) (by decide) (by decide)]; exact v6) ?_⟩
  rw [if_neg c]
  refine ⟨fun _ => ?_, fun q => absurd rfl q⟩
  intro V6 eV6 V7 eV7 V8 eV8
  have e8 : ∀ c, c ≠ 34 → V8.1 c = A.1 c := fun c q => by rw [eV8, sv_ne _ q, eV7, sv_ne _ q, eV6, sv_ne _ q]
  have e834 : ∀ j, j ≠ 18 → j ≠ 19 → j ≠ 20 → V8.1 34 j = V.1 34 j := fun j a b d => by rw [eV8, sv_at _ d, eV7, sv_at _ b, eV6, sv_at _ a, aA 34 (by decide) (by decide) (by decide)]
  have hM8 : MRun V8 (vDrop V) 0 0 := by
    refine ⟨by rw [eV8, eV7, eV6]; simp (disch := omega) only [sv_ne, sv_at, sv_eq]; rfl, by rw [eV8, eV7, eV6]; simp (disch := omega) only [sv_ne, sv_at, sv_eq]; rfl, fun d hd => by omega, fun i hi => by omega, q5.2.2.2.2.sv (fun c q => by rw [e8 c (by omega), aA c (by omega) (by omega) (by omega)]) (fun c q => ?_) (fun j q => e834 j (by omega) (by omega) (by omega)) (fun j q => ?_) rfl⟩
    · unfold vDrop
      simp (disch := omega) only [sv_ne, sv_at, sv_eq]
    · unfold vDrop
      simp (disch := omega) only [sv_ne, sv_at, sv_eq]
  have e820 : V8.1 34 20 = -1 := by rw [eV8, sv_eq]
  have e82 : V8.2 = A.2 := by rw [eV8, eV7, eV6]; rfl
  rw [ef]
  refine e_Menter hM8 (by omega) (fun V9 g9 hM9 s9 => ?_)
  have rk9 : V9.1 35 f = nI (tkA K f) := by
    rw [g9.2.2.1 35 (by omega) (by omega), e8 35 (by decide), aA 35 (by decide) (by decide) (by decide), (i3.2 f (by omega)).1]
    exact tk.1
  refine e_Mb56 (by omega) rk9 tk.2 (h2 _ ?_)
  have hMW := hAR V9 hM9
  have w9 : ∀ c, c ≠ 45 → (vAr2 V9 45 (tkA K f) x2 x3).1 c = V9.1 c := fun c q => vAr2_ne _ _ _ q
  have w2 : (vAr2 V9 45 (tkA K f) x2 x3).2 = V9.2 := vAr2_2 _ _ _ _ _
  generalize vAr2 V9 45 (tkA K f) x2 x3 = W at *
  have wA : ∀ c, c < 34 → W.1 c = A.1 c := fun c q => by rw [w9 c (by omega), g9.1 c q, e8 c (by omega)]
  have wV : ∀ c, c < 17 → W.1 c = V.1 c := fun c q => by rw [wA c (by omega), aA c (by omega) (by omega) (by omega)]
  have w34 : ∀ j, j = 6 ∨ j = 7 ∨ j = 8 → W.1 34 j = V.1 34 j := fun j q => by rw [w9 34 (by decide), g9.2.2.2 j q, e834 j (by omega) (by omega) (by omega)]
  have d7 : (vDrop V).1 17 7 = -1 := by unfold vDrop; simp (disch := omega) only [sv_ne, sv_at, sv_eq]
  have d8 : (vDrop V).1 17 8 = 0 := by unfold vDrop; simp (disch := omega) only [sv_ne, sv_at, sv_eq]
  have d6 : (vDrop V).1 17 6 = nI 0 := by unfold vDrop; simp (disch := omega) only [sv_ne, sv_at, sv_eq]; rfl
  have x7 : W.1 17 7 = -1 := by rw [wA 17 (by omega), e17 7 (by decide)]; exact d7
  have x20 : W.1 34 20 = -1 := by rw [w9 34 (by decide), s9 20 (by decide)]; exact e820
  have x5 : W.1 17 5 = nI 1 := by rw [wA 17 (by omega)]; exact e5
  have x6 : W.1 17 6 = nI 0 := by rw [wA 17 (by omega), e17 6 (by decide)]; exact d6
  refine ⟨K, fun c q => by rw [wV c (by omega)]; exact i1 c q, i2, i3.of (w34 6 (by decide)) (fun c a b => by rw [w9 c (by omega), g9.2.2.1 c a b, e8 c (by omega), aA c (by omega) (by omega) (by omega)]), by rw [wV 16 (by omega)]; exact i4, ?_, by rw [wV 0 (by omega)]; exact i6, fun _ => ⟨hn, hVl⟩, ⟨1, 0, x5, by omega, x6, by omega, hMW.of (by omega) (fun _ _ => rfl) (fun c q => wA c (by omega)) (by rw [w2, g9.2.1, e82]), by rw [x20, x7], fun q => absurd x7 q⟩, by rw [w34 7 (by decide), wV 15 (by omega)]; exact i9, by rw [w34 8 (by decide), wV 0 (by omega)]; exact i10⟩
  refine ⟨1, 0, 0, fun _ => f, fun _ => 0, ⟨fun c q => by rw [wV c (by omega)]; exact i1 c q, x5, by omega, x6, by omega, fun d hd => ?_, fun d hd => by omega, fun d hd => ?_⟩, Or.inl ⟨rfl, x7, by rw [wA 17 (by omega), e17 8 (by decide)]; exact d8⟩⟩
  · have d0 : d = 0 := by omega
    subst d0
    rw [wA (19 + 0) (by omega)]
    exact ⟨e19.1, hf, e19.2, Nat.zero_le _⟩
  · have d0 : d = 0 := by omega
    subst d0
    exact top_ok (hVl f hf) rfl rfl
theorem wait_n {h : Nat} (hh : h < 4) : nI h ≠ -1 := by
  intro q
  have := nI_pos (n := h) (by omega)
  rw [q] at this
  exact this (by decide)
theorem q_resume {k : Int32 → vS → Prop} {V : vS} {x : Int32} (hI : Inv V) (h : ∀ (r : Int32) (V1 : vS), (∀ k2 : Int32 → vS → Prop, (∀ W, Inv W → k2 r W) → p_Mo_resume k2 V1 x) → k r V1) : p_PR_resume k V x := by
  obtain ⟨K, i1, i2, i3, i4, i5, i6, i7, ⟨dp, sz, q1, q2, q3, q4, q5, q6, q7⟩, i9, i10⟩ := id hI
  obtain ⟨dp', sz', wt, fn, nx, hR, hw⟩ := id i5
  have edp : dp' = dp := by
    have := hR.2.1
    have l := hR.2.2.1
    rw [q1, eq_iff] at this
    exact this.symm
  have esz : sz' = sz := by
    have := hR.2.2.2.1
    have l := hR.2.2.2.2.1
    rw [q3, eq_iff] at this
    exact this.symm
  subst edp
  subst esz
  have m1 := q5.1
  unfold p_PR_resume p_PR_resume_b12 p_PR_resume_b34
  refine ⟨fun c1 => h _ V (fun k2 h2 => ?_), fun c1 => ⟨fun c2 => e_isUnderWay q1 q2 ?_, fun c2 => h _ V (fun k2 h2 => ?_)⟩⟩
  · unfold p_Mo_resume p_Mo_resume_b12
    exact ⟨fun _ => h2 V hI, fun q => absurd c1 q⟩
  · by_cases d0 : dp' = 0
    · rw [if_pos d0]
      refine ⟨fun _ => h _ V (fun k2 h2 => ?_), fun q => absurd rfl q⟩
      unfold p_Mo_resume p_Mo_resume_b28
      exact ⟨fun q => absurd q c1, fun _ => ⟨fun _ => ⟨fun _ => h2 V hI, fun q => absurd (by rw [m1, d0]; rfl) q⟩, fun q => absurd c2 q⟩⟩
    · rw [if_neg d0]
      have v18 : ¬ V.1 34 18 = 0 := by rw [m1, k0, eq_iff]; exact d0
      refine ⟨fun q => absurd q (by decide), fun _ => e_isWaiting ?_⟩
      rcases hw with ⟨w0, w7, w8⟩ | ⟨w1, -, -, hh, hh4, w7⟩
      · rw [if_pos w7]
        refine ⟨fun _ => ?_, fun q => absurd rfl q⟩
        subst w0
        obtain ⟨n, hn2, en⟩ := rng (x := x) (M := 200) (n := 200) rfl (by
          intro q
          rcases q with q | q
          · exact c1 (Int32.lt_trans q (by decide))
          · exact absurd q (Int32.not_lt.mpr c2))
        obtain ⟨hn, hVl⟩ := i7 (Or.inl (by rw [q1, k0]; intro q; rw [eq_iff] at q; exact d0 q))
        unfold p_Mc_go
        rw [en]
        refine ⟨_, e_go i2 hn hVl n V dp' sz' fn nx hn2 hR (h _ _ (fun k2 h2 => ?_))⟩
        have hoth := cgo_oth i2 hn hVl n V dp' sz' fn nx hR
        have hWI := cgo_WI i2 hn hVl n V dp' sz' fn nx hR w7 w8
        have oth34 : (cgo K n V).2.1 34 = V.1 34 := hoth 34 (by omega)
        unfold p_Mo_resume
        rw [oth34]
        refine ⟨fun q => absurd q c1, fun _ => ⟨fun _ => ⟨fun q => absurd q v18, fun _ => ⟨fun _ => ?_, fun q => absurd (by rw [q6, w7]; decide) q⟩⟩, fun q => absurd c2 q⟩⟩
        intro V5 eV5
        have e5 : ∀ c, c ≠ 34 → V5.1 c = (cgo K n V).2.1 c := fun c q => by rw [eV5, sv_ne _ q]
        have e534 : ∀ j, j ≠ 22 → V5.1 34 j = V.1 34 j := fun j q => by rw [eV5, sv_at _ q, oth34]
        have hM5 : MRun V5 V dp' sz' := q5.own (fun c q => by rw [e5 c (by omega), hoth c (by omega)]) (fun j q => e534 j (by omega))
        have hK5 : RK V5 K := i3.of (e534 6 (by decide)) (fun c a b => by rw [e5 c (by omega), hoth c (by omega)])
        rw [en]
        refine ⟨_, e_Mgo i2 hn hVl n dp' (n * 8 + dp' + 2) V5 V sz' fn nx hn2 (Nat.le_refl _) hR hM5 hK5 (by rw [eV5, sv_eq]) (by rw [e534 20 (by decide), q6]; exact w7) w7 w8 (fun V1 g1 hM1 => h2 V1 ?_)⟩
        have f1 : ∀ c, c < 34 → V1.1 c = (cgo K n V).2.1 c := fun c q => by rw [g1.1 c q, e5 c (by omega)]
        have f2 : ∀ c, c < 17 → V1.1 c = V.1 c := fun c q => by rw [f1 c (by omega), hoth c (by omega)]
        have f34 : ∀ j, j = 6 ∨ j = 7 ∨ j = 8 → V1.1 34 j = V.1 34 j := fun j q => by rw [g1.2.2.2 j q, e534 j (by omega)]
        refine ⟨K, fun c q => by rw [f2 c (by omega)]; exact i1 c q, i2, hK5.mf g1, by rw [f2 16 (by omega)]; exact i4, hWI.of (fun c q => f1 c (by omega)) (fun j q => by rw [f1 17 (by omega)]) (fun c q => f1 c (by omega)), by rw [f2 0 (by omega)]; exact i6, fun _ => ⟨hn, hVl⟩, hM1.of (fun _ _ => rfl) (fun c q => f1 c (by omega)) ?_, by rw [f34 7 (by decide), f2 15 (by omega)]; exact i9, by rw [f34 8 (by decide), f2 0 (by omega)]; exact i10⟩
        rw [g1.2.1, eV5]
        rfl
      · rw [if_neg (by rw [w7]; exact wait_n hh4)]
        refine ⟨fun q => absurd q (by decide), fun _ => h _ V (fun k2 h2 => ?_)⟩
        unfold p_Mo_resume p_Mo_resume_b28
        exact ⟨fun q => absurd q c1, fun _ => ⟨fun _ => ⟨fun q => absurd q v18, fun _ => ⟨fun q => absurd q (by rw [q6, w7]; exact nI_pos (by omega)), fun _ => h2 V hI⟩⟩, fun q => absurd c2 q⟩⟩
  · unfold p_Mo_resume p_Mo_resume_b12
    exact ⟨fun q => absurd q c1, fun _ => ⟨fun q => absurd q c2, fun _ => h2 V hI⟩⟩
theorem q_reply {k : Int32 → vS → Prop} {V : vS} {x : Int32} (hI : Inv V) (h : ∀ (r : Int32) (V1 : vS), (∀ k2 : Int32 → vS → Prop, (∀ W, Inv W → k2 r W) → p_Mo_reply k2 V1 x) → k r V1) : p_PR_reply k V x := by
  obtain ⟨K, i1, i2, i3, i4, i5, i6, i7, ⟨dp, sz, q1, q2, q3, q4, q5, q6, q7⟩, i9, i10⟩ := id hI
  obtain ⟨dp', sz', wt, fn, nx, hR, hw⟩ := id i5
  have edp : dp' = dp := by
    have := hR.2.1
    have l := hR.2.2.1
    rw [q1, eq_iff] at this
    exact this.symm
  have esz : sz' = sz := by
    have := hR.2.2.2.1
    have l := hR.2.2.2.2.1
    rw [q3, eq_iff] at this
    exact this.symm
  subst edp
  subst esz
  unfold p_PR_reply
  refine e_isWaiting ?_
  rcases hw with ⟨w0, w7, w8⟩ | ⟨w1, w2, w3, hh, hh4, w7⟩
  · rw [if_pos w7]
    refine ⟨fun _ => h _ V (fun k2 h2 => ?_), fun q => absurd rfl q⟩
    unfold p_Mo_reply
    exact ⟨fun q => absurd q (by rw [q6, w7]; decide), fun _ => h2 V hI⟩
  · rw [if_neg (by rw [w7]; exact wait_n hh4)]
    refine ⟨fun q => absurd q (by decide), fun _ => ?_⟩
    subst w1
    unfold p_Mc_takeAnswer
    refine e_stopWaiting (e_put (v := sz') (by simp (disch := omega) only [sv_ne, sv_at, sv_eq]; exact q3) (by omega) (fun _ => h _ _ (fun k2 h2 => ?_)) (fun q => absurd q (by omega)))
    have aA : ∀ c, c ≠ 17 → c ≠ 31 → (vPut (sv (sv V 17 7 (-1)) 17 8 0) sz' x).1 c = V.1 c := fun c a b => by unfold vPut; simp (disch := omega) only [sv_ne, sv_at, sv_eq]
    have a5 : (vPut (sv (sv V 17 7 (-1)) 17 8 0) sz' x).1 17 5 = nI dp' := by unfold vPut; simp (disch := omega) only [sv_ne, sv_at, sv_eq]; exact q1
    have a6 : (vPut (sv (sv V 17 7 (-1)) 17 8 0) sz' x).1 17 6 = nI (sz' + 1) := put_6 _ _ _
    have a7 : (vPut (sv (sv V 17 7 (-1)) 17 8 0) sz' x).1 17 7 = -1 := by unfold vPut; simp (disch := omega) only [sv_ne, sv_at, sv_eq]
    have a8 : (vPut (sv (sv V 17 7 (-1)) 17 8 0) sz' x).1 17 8 = 0 := by unfold vPut; simp (disch := omega) only [sv_ne, sv_at, sv_eq]
    have hMA : MRun (mPut (sv V 34 20 (-1)) sz' x) (vPut (sv (sv V 17 7 (-1)) 17 8 0) sz' x) dp' (sz' + 1) := by
      refine MRun.put ?_ q2 x
      exact (q5.own (V1 := sv V 34 20 (-1)) (fun c q => sv_ne _ (by omega)) (fun j q => sv_at _ (by omega))).cA (fun c q => by rw [sv_ne _ (by omega), sv_ne _ (by omega)]) (fun j q => by simp (disch := omega) only [sv_ne, sv_at, sv_eq]) rfl
    have a2 : (vPut (sv (sv V 17 7 (-1)) 17 8 0) sz' x).2 = V.2 := rfl
    generalize vPut (sv (sv V 17 7 (-1)) 17 8 0) sz' x = A at *
    unfold p_Mo_reply
    refine ⟨fun _ => ?_, fun q => absurd (by rw [aA 34 (by decide) (by decide), q6, w7]; exact nI_pos' (by omega)) q⟩
    intro V2 eV2
    have e19 : V2.1 34 19 = nI sz' := by rw [eV2, sv_at _ (by decide), aA 34 (by decide) (by decide)]; exact q5.2.1
    rw [e19, nt_nI (by omega)]
    refine ⟨vin (by omega), ?_⟩
    intro V4 eV4
    have e419 : V4.1 34 19 = nI sz' := by rw [eV4, sv_ne _ (by decide)]; exact e19
    rw [e419, nI_1]
    intro W eW
    refine h2 W ?_
    have wA : ∀ c, c < 34 → W.1 c = A.1 c := fun c q => by rw [eW, sv_ne _ (by omega), eV4, sv_ne _ (by omega), eV2, sv_ne _ (by omega)]
    have wV : ∀ c, c ≠ 17 → c ≠ 31 → c ≠ 34 → c ≠ 46 → W.1 c = V.1 c := fun c a b d e => by rw [eW, sv_ne _ d, eV4, sv_ne _ e, eV2, sv_ne _ d, aA c a b]
    have w34 : ∀ j, j ≠ 19 → j ≠ 20 → W.1 34 j = V.1 34 j := fun j a b => by rw [eW, sv_at _ a, eV4, sv_ne _ (by decide), eV2, sv_at _ b, aA 34 (by decide) (by decide)]
    have w20 : W.1 34 20 = -1 := by rw [eW, sv_at _ (by decide), eV4, sv_ne _ (by decide), eV2, sv_eq]
    have w2' : W.2 = A.2 := by rw [eW, eV4, eV2]; rfl
    have hMW : MRun W W dp' (sz' + 1) := by
      refine MRun.of (V := W) (A := A) ?_ q2 (fun _ _ => rfl) (fun c q => wA c (by omega)) w2'
      refine hMA.own (fun c q => ?_) (fun j q => ?_)
      · unfold mPut
        by_cases e46 : c = 46
        · subst e46
          rw [eW, sv_ne _ (by decide), eV4, sv_self, eV2, sv_ne _ (by decide), aA 46 (by decide) (by decide), sv_ne _ (by decide), sv_self, sv_ne _ (by decide)]
        · rw [wV c (by omega) (by omega) (by omega) e46, sv_ne _ (by omega), sv_ne _ (by omega), sv_ne _ (by omega)]
      · unfold mPut
        by_cases e : j = 19
        · subst e
          rw [eW, sv_eq, sv_eq]
        · rw [w34 j e (by omega), sv_at _ e, sv_ne _ (by decide), sv_at _ (by omega)]
    have x5 : W.1 17 5 = nI dp' := by rw [wA 17 (by omega)]; exact a5
    have x6 : W.1 17 6 = nI (sz' + 1) := by rw [wA 17 (by omega)]; exact a6
    have x7 : W.1 17 7 = -1 := by rw [wA 17 (by omega)]; exact a7
    have x8 : W.1 17 8 = 0 := by rw [wA 17 (by omega)]; exact a8
    obtain ⟨r1, r2, r3, r4, r5, r6, r7, r8⟩ := hR
    have hvl := i7 (Or.inl (by rw [q1, k0]; intro q; rw [eq_iff] at q; omega))
    refine ⟨K, fun c q => by rw [wV c (by omega) (by omega) (by omega) (by omega)]; exact i1 c q, i2, i3.of (w34 6 (by decide) (by decide)) (fun c a b => wV c (by omega) (by omega) (by omega) (by omega)), by rw [wV 16 (by omega) (by omega) (by omega) (by omega)]; exact i4, ?_, by rw [wV 0 (by omega) (by omega) (by omega) (by omega)]; exact i6, fun _ => hvl, ⟨dp', sz' + 1, x5, q2, x6, by omega, hMW, by rw [w20, x7], fun q => absurd x7 q⟩, by rw [w34 7 (by decide) (by decide), wV 15 (by omega) (by omega) (by omega) (by omega)]; exact i9, by rw [w34 8 (by decide) (by decide), wV 0 (by omega) (by omega) (by omega) (by omega)]; exact i10⟩
    refine ⟨dp', sz' + 1, 0, fn, nx, ⟨fun c q => by rw [wV c (by omega) (by omega) (by omega) (by omega)]; exact i1 c q, x5, r3, x6, by omega, fun d hd => by rw [wV (19 + d) (by omega) (by omega) (by omega) (by omega)]; exact r6 d hd, r7, fun d hd => ?_⟩, Or.inl ⟨rfl, x7, x8⟩⟩
    obtain ⟨z1, z2⟩ := r8 d hd
    exact ⟨fun q => ⟨(z1 q).1, by have := (z1 q).2; omega⟩, fun q => by have := z2 q; omega⟩
