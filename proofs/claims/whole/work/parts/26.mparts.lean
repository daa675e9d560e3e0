/-! PURE PART: the reference's leave, branch, call -/
/-- besides: waits, askedWith, trap stay -/
def MG (V V1 : vS) : Prop := MF V V1 ∧ ∀ j, j = 20 ∨ j = 21 ∨ j = 22 → V1.1 34 j = V.1 34 j
theorem MG.rf (V : vS) : MG V V := ⟨MF.rf V, fun _ _ => rfl⟩
theorem MG.tr {U V W : vS} (h1 : MG U V) (h2 : MG V W) : MG U W := ⟨h1.1.tr h2.1, fun j q => (h2.2 j q).trans (h1.2 j q)⟩
theorem MG.sv (V : vS) {c j : Nat} (x : Int32) (h : c = 34 ∧ 9 ≤ j ∧ j ≠ 20 ∧ j ≠ 21 ∧ j ≠ 22 ∨ 41 ≤ c) : MG V (sv V c j x) := by
  refine ⟨MF.sv V x (by omega), fun i q => ?_⟩
  by_cases e : c = 34
  · subst e; exact sv_at _ (by omega)
  · rw [sv_ne _ (Ne.symm e)]
theorem MG.put (V : vS) (v : Nat) (x : Int32) : MG V (mPut V v x) := (MG.sv V x (Or.inr (by decide))).tr (MG.sv _ _ (Or.inl (by decide)))
theorem MG.take (V : vS) (v : Nat) : MG V (mTake V v) := MG.sv _ _ (Or.inl (by decide))
theorem popF_0 (K A : vS) (f : Nat) : (popF K A 0 f).1 17 10 = A.1 17 10 + 1 ∧ (popF K A 0 f).2 = (if gvA K f = 0 then -1000000000000 else (A.1 31 0).toInt64) := by
  unfold popF
  rw [if_pos rfl]
  exact ⟨by simp (disch := omega) only [sv_ne, sv_at, sv_eq], rfl⟩
theorem popF_s (K A : vS) {d : Nat} (f : Nat) (h : d ≠ 0) : popF K A d f = sv A 17 5 (nI d) := by
  unfold popF
  rw [if_neg h]
theorem e_Mleave {k : vS → Prop} {K A A' V : vS} {d sz f : Nat} (hA : Cwf K) (hM : MRun V A (d + 1) sz) (hd : d < 6) (hf : f < 4) (hfn : A.1 (19 + d) 1 = nI f) (hz : d = 0 → sz = gvA K f) (hK : RK V K) (hc : ∀ c, c ≠ 19 + d → A'.1 c = A.1 c) (h2 : A'.2 = A.2) (h : ∀ V1, MG V V1 → MRun V1 (popF K A' d f) d (if d = 0 then 0 else sz) → k V1) : p_Mo_leave k V := by
  obtain ⟨m1, m2, m3, m4, ⟨n1, n2, n3, n4, n5, n6⟩⟩ := id hM
  have e43 : V.1 43 d = nI f := by rw [(m3 d (by omega)).1, hfn]
  have eg : V.1 36 f = nI (gvA K f) := by rw [(hK.2 f hf).2.1, (hA.2 f hf).2.2.1.1]
  have hg1 := (hA.2 f hf).2.2.1.2
  obtain ⟨p1, p2, p3, p4⟩ := popF_sT K A' d f
  unfold p_Mo_leave
  rw [m1, nI_pred, nt_nI (by omega), e43]
  refine ⟨vin (by omega), ?_⟩
  intro y2 ey V3 eV3
  have e18 : V3.1 34 18 = nI d := by rw [eV3, sv_eq]
  subst ey
  rw [e18]
  refine ⟨fun c => ?_, fun c => ?_⟩
  · rw [k0, le_iff] at c
    have d0 : d = 0 := by omega
    subst d0
    have hz := hz rfl
    rw [if_pos rfl] at h
    intro V5 eV5
    have e5 : V5.1 36 f = nI (gvA K f) := by rw [eV5, eV3]; simp (disch := omega) only [sv_ne, sv_at, sv_eq]; exact eg
    have f28 : V5.1 34 28 = V.1 34 28 + 1 := by rw [eV5, eV3]; simp (disch := omega) only [sv_ne, sv_at, sv_eq]
    have gm : ∀ (V6 : vS) (r : Int64), MG V5 V6 → V6.1 34 18 = nI 0 → V6.1 34 19 = nI 0 → (∀ c, c = 47 ∨ c = 48 → V6.1 c = V.1 c) → (∀ j, j = 27 ∨ j = 29 → V6.1 34 j = V.1 34 j) → V6.1 34 28 = V.1 34 28 + 1 → (if gvA K f = 0 then -1000000000000 else (A'.1 31 0).toInt64) = (if V6.1 34 25 = 0 then -1000000000000 else (V6.1 34 26).toInt64) → k V6 := by
      intro V6 r g s18 s19 s47 s27 s28 sr
      refine h V6 ?_ ⟨s18, s19, fun d hd => by omega, fun i hi => by omega, ⟨fun i hi => ?_, fun i hi => ?_, ?_, ?_, ?_, ?_⟩⟩
      · refine MG.tr ?_ g
        rw [eV5, eV3]
        exact (MG.sv V _ (Or.inl (by decide))).tr (MG.sv _ _ (Or.inl (by decide)))
      · rw [s47 47 (by omega), n1 i hi, p2 32 (by omega), hc 32 (by omega)]
      · rw [s47 48 (by omega), n2 i hi, p2 33 (by omega), hc 33 (by omega)]
      · rw [s27 27 (by omega), n3, p3 9 (by omega), hc 17 (by omega)]
      · rw [s28, n4, (popF_0 K A' f).1, hc 17 (by omega)]
      · rw [s27 29 (by omega), n5, p3 11 (by omega), hc 17 (by omega)]
      · rw [(popF_0 K A' f).2, sr]
    rw [nt_nI (by omega), e5]
    refine ⟨vin hf, fun c => ?_, fun c => ?_⟩
    · rw [k1, eq_iff] at c
      unfold p_Mo_leave_b56 p_Mo_leave_b74
      refine ⟨Or.inr rfl, ?_⟩
      intro W eW
      have w25 : W.1 34 25 = 1 := by rw [eW, sv_eq]
      rw [w25]
      refine ⟨fun q => absurd q (by decide), fun _ => ?_⟩
      have w19 : W.1 34 19 = nI (0 + 1) := by rw [eW, eV5, eV3]; simp (disch := omega) only [sv_ne, sv_at, sv_eq]; rw [m2, hz, c]
      refine e_Mpop w19 (by omega) ?_
      intro W7 eW7
      have w46 : W.1 46 0 = A.1 31 0 := by rw [eW, eV5, eV3]; simp (disch := omega) only [sv_ne, sv_at, sv_eq]; exact m4 0 (by omega)
      refine gm W7 0 ?_ ?_ ?_ ?_ ?_ ?_ ?_
      · rw [eW7, eW]
        exact ((MG.sv _ _ (Or.inl (by decide))).tr (MG.take _ _)).tr (MG.sv _ _ (Or.inl (by decide)))
      · rw [eW7, eW, eV5, eV3]; unfold mTake; simp (disch := omega) only [sv_ne, sv_at, sv_eq]
      · rw [eW7]; unfold mTake; simp (disch := omega) only [sv_ne, sv_at, sv_eq]
      · intro c hcc; rw [eW7, eW, eV5, eV3]; unfold mTake; simp (disch := omega) only [sv_ne, sv_at, sv_eq]
      · intro j hj; rw [eW7, eW, eV5, eV3]; unfold mTake; simp (disch := omega) only [sv_ne, sv_at, sv_eq]
      · rw [eW7, eW, ← f28]; unfold mTake; simp (disch := omega) only [sv_ne, sv_at, sv_eq]
      · have a25 : W7.1 34 25 = 1 := by rw [eW7, ← w25]; unfold mTake; simp (disch := omega) only [sv_ne, sv_at, sv_eq]
        have a26 : W7.1 34 26 = A.1 31 0 := by rw [eW7, sv_eq, w46]
        rw [if_neg (by omega), a25, a26, if_neg (by decide), hc 31 (by omega)]
    · rw [k1, eq_iff] at c
      unfold p_Mo_leave_b56 p_Mo_leave_b74
      refine ⟨Or.inl rfl, ?_⟩
      intro W eW
      have w25 : W.1 34 25 = 0 := by rw [eW, sv_eq]
      rw [w25]
      refine ⟨fun _ => ?_, fun q => absurd rfl q⟩
      refine gm W 0 ?_ ?_ ?_ ?_ ?_ ?_ ?_
      · rw [eW]; exact MG.sv _ _ (Or.inl (by decide))
      · rw [eW, eV5, eV3]; simp (disch := omega) only [sv_ne, sv_at, sv_eq]
      · rw [eW, eV5, eV3]; simp (disch := omega) only [sv_ne, sv_at, sv_eq]; rw [m2, hz, show gvA K f = 0 by omega]
      · intro c hcc; rw [eW, eV5, eV3]; simp (disch := omega) only [sv_ne, sv_at, sv_eq]
      · intro j hj; rw [eW, eV5, eV3]; simp (disch := omega) only [sv_ne, sv_at, sv_eq]
      · rw [eW, ← f28]; simp (disch := omega) only [sv_ne, sv_at, sv_eq]
      · rw [w25, if_pos (by omega), if_pos rfl]
  · rw [k0, le_iff] at c
    rw [if_neg (by omega)] at h
    refine h V3 (by rw [eV3]; exact MG.sv _ _ (Or.inl (by decide))) ⟨e18, by rw [eV3]; simp (disch := omega) only [sv_ne, sv_at, sv_eq]; exact m2, fun e he => ?_, fun i hi => ?_, ME.sv (V := V) (A := A) ⟨n1, n2, n3, n4, n5, n6⟩ (fun c q => by rw [eV3]; simp (disch := omega) only [sv_ne, sv_at, sv_eq]) (fun c q => by rw [p2 c (by omega), hc c (by omega)]) (fun j q => by rw [eV3]; simp (disch := omega) only [sv_ne, sv_at, sv_eq]) (fun j q => ?_) ?_⟩
    · rw [p2 (19 + e) (by omega), p2 (25 + e) (by omega), hc (19 + e) (by omega), hc (25 + e) (by omega), eV3]
      simp (disch := omega) only [sv_ne, sv_at, sv_eq]
      exact m3 e (by omega)
    · rw [p2 31 (by omega), hc 31 (by omega), eV3]
      simp (disch := omega) only [sv_ne, sv_at, sv_eq]
      exact m4 i hi
    · rw [popF_s _ _ _ (by omega), ← hc 17 (by omega)]
      simp (disch := omega) only [sv_ne, sv_at, sv_eq]
    · rw [popF_s _ _ _ (by omega), ← h2]; rfl
theorem e_Mcall {k : vS → Prop} {dp : Nat} (hd : dp < 6) : ∀ (t : Nat) (V A : vS) (sz : Nat), MRun V A (dp + 1) sz → t ≤ sz → sz ≤ 40 → t ≤ 5 → (∀ V1, MG V V1 → MRun V1 (vArgs t A (25 + dp) sz) (dp + 1) (sz - t) → k V1) → p_Mo_call_b30 k (t + 1) V (nI t - 1) := by
  intro t
  induction t with
  | zero =>
    intro V A sz hM _ _ _ h
    unfold p_Mo_call_b30
    exact ⟨fun _ => h V (MG.rf V) hM, fun q => absurd (show nI 0 - 1 < (0 : Int32) by decide) q⟩
  | succ t ih =>
    intro V A sz hM hts h40 h5 h
    obtain ⟨v, rfl⟩ : ∃ v, sz = v + 1 := ⟨sz - 1, by omega⟩
    unfold p_Mo_call_b30
    rw [nI_pred]
    refine ⟨fun q => absurd q (nI_pos (by omega)), fun _ => e_Mpop hM.2.1 (by omega) ?_⟩
    have ei : V.1 34 18 * 5 - 5 + nI t = nI (dp * 5 + t) := by
      rw [hM.1, k5, pk_mul, pk_sub (by omega), nI_add]
      congr 1
      omega
    rw [ei, nt_nI (by omega)]
    refine ⟨vin (by omega), ?_⟩
    rintro _ rfl _ rfl
    rw [show nI t + (-1) = nI t - 1 from (Int32.sub_eq_add_neg _ _).symm]
    refine ih _ _ v ((hM.take (by omega) (show v ≤ v + 1 by omega)).loc (by omega) hd (show t < 5 by omega) _) (by omega) (by omega) (by omega) (fun V1 g1 g2 => h V1 (((MG.take _ _).tr (MG.sv _ _ (Or.inr (by decide)))).tr g1) ?_)
    unfold vArgs
    rw [show v + 1 - 1 = v by omega, show v + 1 - (t + 1) = v - t by omega, ← hM.2.2.2.1 v (by omega)]
    exact g2
