/-! PURE PART: the reference's resume against the class's go -/
theorem cgo_congr {K A B : vS} (h : lfn K (dpA A) A = lfn K (dpA B) B) (n : Nat) : cgo K n A = cgo K n B := by
  cases n with
  | zero => unfold cgo; rw [h]
  | succ n => unfold cgo; rw [h]
theorem lfn_top {K A : vS} {d sz : Nat} {fn nx : Nat → Nat} (hA : Cwf K) (hR : RI K A (d + 1) sz 0 fn nx) (hi : nx d < lnA K (fn d)) : lfn K (dpA A) A = A := by
  obtain ⟨v1, v2, v3⟩ := RI_view hA hR
  obtain ⟨w1, w2⟩ := v3 d (by omega)
  rw [v1]
  show (if nxA A d < lnA K (fnA A d) then A else _) = A
  rw [w1, w2, if_pos hi]
theorem cgo_top0 {K A : vS} {d sz : Nat} {fn nx : Nat → Nat} (hA : Cwf K) (hR : RI K A (d + 1) sz 0 fn nx) (hi : nx d < lnA K (fn d)) : cgo K 0 A = (2, A) := by
  unfold cgo
  rw [lfn_top hA hR hi, (RI_view hA hR).1, if_neg (by omega)]
theorem cgo_top {K A : vS} {d sz : Nat} {fn nx : Nat → Nat} (hA : Cwf K) (hR : RI K A (d + 1) sz 0 fn nx) (hi : nx d < lnA K (fn d)) (n : Nat) : cgo K (n + 1) A = (if (cst K (sv A 17 9 (A.1 17 9 + 1)) d sz (fn d) (nx d)).1 = 0 then cgo K n (cst K (sv A 17 9 (A.1 17 9 + 1)) d sz (fn d) (nx d)).2 else cst K (sv A 17 9 (A.1 17 9 + 1)) d sz (fn d) (nx d)) := by
  obtain ⟨v1, v2, v3⟩ := RI_view hA hR
  obtain ⟨w1, w2⟩ := v3 d (by omega)
  conv => lhs; unfold cgo
  rw [lfn_top hA hR hi, v1, v2, if_neg (by omega), show d + 1 - 1 = d by omega, w1, w2]
theorem cgo_end {K A : vS} {sz : Nat} {fn nx : Nat → Nat} (hA : Cwf K) (hR : RI K A 0 sz 0 fn nx) (n : Nat) : cgo K n A = (1, A) := by
  have e : dpA A = 0 := (RI_view hA hR).1
  have e2 : lfn K (dpA A) A = A := by rw [e]; rfl
  cases n with
  | zero => unfold cgo; rw [e2, e, if_pos rfl]
  | succ n => unfold cgo; rw [e2, e, if_pos rfl]
/-- the two runs, between two calls -/
def MR2 (V A : vS) : Prop := ∃ dp sz, A.1 17 5 = nI dp ∧ dp ≤ 6 ∧ A.1 17 6 = nI sz ∧ sz ≤ 40 ∧ MRun V A dp sz ∧ V.1 34 20 = A.1 17 7 ∧ (A.1 17 7 ≠ -1 → V.1 34 21 = A.1 17 8)
theorem e_Mend {k : Int32 → vS → Prop} {V : vS} {N : Nat} {x : Int32} (h22 : V.1 34 22 = 0) (h20 : V.1 34 20 = -1) (h18 : V.1 34 18 = nI 0) (h : k 1 V) : p_Mo_resume_b38 k (N + 1) V x := by
  unfold p_Mo_resume_b38 p_Mo_resume_b122
  rw [h22, h20, h18]
  exact ⟨fun _ => ⟨fun q => absurd q (by decide), fun _ => ⟨fun _ => ⟨fun _ => ⟨fun _ => h, fun q => absurd rfl q⟩, fun q => absurd (by decide) q⟩, fun q => absurd (by decide) q⟩⟩, fun q => absurd rfl q⟩
theorem e_Mtop {k : Int32 → vS → Prop} {K A V : vS} {d sz N : Nat} {fn nx : Nat → Nat} {x : Int32} (hA : Cwf K) (hR : RI K A (d + 1) sz 0 fn nx) (hM : MRun V A (d + 1) sz) (hK : RK V K) (h22 : V.1 34 22 = 0) (h20 : V.1 34 20 = -1)
    (hl : nx d = lnA K (fn d) → ∀ V1, MG V V1 → MRun V1 (popF K A d (fn d)) d (if d = 0 then 0 else sz) → p_Mo_resume_b38 k N V1 x)
    (hs : nx d < lnA K (fn d) → (x = 0 → k 2 V) ∧ (¬ x = 0 → p_Mo_step (fun V11 => p_Mo_resume_b38 k N V11 (x + (-1))) (sv V 34 27 (V.1 34 27 + 1)))) : p_Mo_resume_b38 k (N + 1) V x := by
  obtain ⟨r1, r2, r3, r4, r5, r6, r7, r8⟩ := id hR
  obtain ⟨a1, a2, a3, a4⟩ := r6 d (by omega)
  have h4 := hA.1.2
  have hl24 := (hA.2 (fn d) (by omega)).1.2
  obtain ⟨m1, m2, m3, m4, m5⟩ := id hM
  have v43 : V.1 43 d = nI (fn d) := by rw [(m3 d (by omega)).1, a1]
  have v44 : V.1 44 d = nI (nx d) := by rw [(m3 d (by omega)).2.1, a3]
  have v38 : V.1 38 (fn d) = nI (lnA K (fn d)) := by rw [(hK.2 (fn d) (by omega)).2.2.2.1, (hA.2 (fn d) (by omega)).1.1]
  unfold p_Mo_resume_b38
  rw [h22, h20, m1, nI_pred, nt_nI (by omega), v43, v44, nt_nI (by omega), v38, eq_iff]
  refine ⟨fun _ => ⟨fun q => absurd q (by decide), fun _ => ⟨fun q => ?_, fun _ => ⟨vin (by omega), vin (by omega), vin (by omega), fun c => ?_, fun c => ?_⟩⟩⟩, fun q => absurd rfl q⟩
  · rw [k0, le_iff] at q; omega
  · refine e_Mleave hA hM (by omega) (by omega) a1 (fun d0 => ?_) hK (fun _ _ => rfl) rfl (hl c)
    subst d0
    have htop := (r8 0 rfl).2 c
    have : bel K fn nx 0 = 0 := rfl
    omega
  · obtain ⟨s1, s2⟩ := hs (by omega)
    refine ⟨s1, fun c0 => ?_⟩
    rintro _ rfl _ rfl
    exact s2 c0
theorem e_Mgo {k : Int32 → vS → Prop} {K : vS} (hA : Cwf K) (hn : 0 < nFA K) (hVl : ∀ g, g < nFA K → Vld K g) : ∀ (n dp N : Nat) (V A : vS) (sz : Nat) (fn nx : Nat → Nat), n ≤ 200 → n * 8 + dp + 2 ≤ N → RI K A dp sz 0 fn nx → MRun V A dp sz → RK V K → V.1 34 22 = 0 → V.1 34 20 = -1 → A.1 17 7 = -1 → A.1 17 8 = 0 → (∀ V1, MF V V1 → MR2 V1 (cgo K n A).2 → k (cgo K n A).1 V1) → p_Mo_resume_b38 k N V (nI n) := by
  have fin : ∀ (n N : Nat) (V A : vS) (sz : Nat) (fn nx : Nat → Nat), 0 < N → RI K A 0 sz 0 fn nx → MRun V A 0 sz → V.1 34 22 = 0 → V.1 34 20 = -1 → A.1 17 7 = -1 → (∀ V1, MF V V1 → MR2 V1 (cgo K n A).2 → k (cgo K n A).1 V1) → p_Mo_resume_b38 k N V (nI n) := by
    intro n N V A sz fn nx hN hR hM h22 h20 h7 h
    obtain ⟨M, rfl⟩ : ∃ M, N = M + 1 := ⟨N - 1, by omega⟩
    rw [cgo_end hA hR] at h
    exact e_Mend h22 h20 hM.1 (h V (MF.rf V) ⟨0, sz, hR.2.1, by omega, hR.2.2.2.1, hR.2.2.2.2.1, hM, by rw [h20, h7], fun q => absurd h7 q⟩)
  have leave : ∀ (n d N : Nat) (V A : vS) (sz : Nat) (fn nx : Nat → Nat), RI K A (d + 1) sz 0 fn nx → nx d = lnA K (fn d) → RK V K → V.1 34 22 = 0 → V.1 34 20 = -1 → A.1 17 7 = -1 → A.1 17 8 = 0 → (∀ V1, MF V V1 → MR2 V1 (cgo K n A).2 → k (cgo K n A).1 V1) → ∀ V1, MG V V1 → MRun V1 (popF K A d (fn d)) d (if d = 0 then 0 else sz) →
      (∀ (V : vS) (A : vS) (sz : Nat), RI K A d sz 0 fn nx → MRun V A d sz → RK V K → V.1 34 22 = 0 → V.1 34 20 = -1 → A.1 17 7 = -1 → A.1 17 8 = 0 → (∀ V1, MF V V1 → MR2 V1 (cgo K n A).2 → k (cgo K n A).1 V1) → p_Mo_resume_b38 k N V (nI n)) → p_Mo_resume_b38 k N V1 (nI n) := by
    intro n d N V A sz fn nx hR hx hK h22 h20 h7 h8 h V1 g1 hM1 ih
    obtain ⟨-, v2, v3⟩ := RI_view hA hR
    obtain ⟨w1, w2⟩ := v3 d (by omega)
    obtain ⟨-, -, p3, -⟩ := popF_sT K A d (fn d)
    have r3 := hR.2.2.1
    have e : cgo K n (popF K A d (fn d)) = cgo K n A := cgo_congr (lfn_pop hR.2.1 (by omega) w1 (by rw [w2]; omega)) n
    refine ih V1 _ _ (RI_pop hVl hR hx) hM1 (hK.mf g1.1) (by rw [g1.2 22 (by decide)]; exact h22) (by rw [g1.2 20 (by decide)]; exact h20) (by rw [p3 7 (by decide)]; exact h7) (by rw [p3 8 (by decide)]; exact h8) ?_
    rw [e]
    exact fun V2 g2 q => h V2 (g1.1.tr g2) q
  intro n
  induction n with
  | zero =>
    intro dp
    induction dp with
    | zero =>
      intro N V A sz fn nx _ hN hR hM _ h22 h20 h7 _ h
      exact fin 0 N V A sz fn nx (by omega) hR hM h22 h20 h7 h
    | succ d ihd =>
      intro N V A sz fn nx hn2 hN hR hM hK h22 h20 h7 h8 h
      obtain ⟨M, rfl⟩ : ∃ M, N = M + 1 := ⟨N - 1, by omega⟩
      refine e_Mtop hA hR hM hK h22 h20 (fun c V1 g1 hM1 => leave 0 d M V A sz fn nx hR c hK h22 h20 h7 h8 h V1 g1 hM1 (fun V A sz => ihd M V A sz fn nx hn2 (by omega))) (fun c => ⟨fun _ => ?_, fun q => absurd rfl q⟩)
      rw [cgo_top0 hA hR c] at h
      exact h V (MF.rf V) ⟨d + 1, sz, hR.2.1, hR.2.2.1, hR.2.2.2.1, hR.2.2.2.2.1, hM, by rw [h20, h7], fun q => absurd h7 q⟩
  | succ n ihn =>
    intro dp
    induction dp with
    | zero =>
      intro N V A sz fn nx _ hN hR hM _ h22 h20 h7 _ h
      exact fin (n + 1) N V A sz fn nx (by omega) hR hM h22 h20 h7 h
    | succ d ihd =>
      intro N V A sz fn nx hn2 hN hR hM hK h22 h20 h7 h8 h
      obtain ⟨M, rfl⟩ : ∃ M, N = M + 1 := ⟨N - 1, by omega⟩
      refine e_Mtop hA hR hM hK h22 h20 (fun c V1 g1 hM1 => leave (n + 1) d M V A sz fn nx hR c hK h22 h20 h7 h8 h V1 g1 hM1 (fun V A sz => ihd M V A sz fn nx hn2 (by omega))) (fun c => ⟨fun q => ?_, fun _ => ?_⟩)
      · rw [k0, eq_iff] at q; omega
      · rw [nI_m1]
        rw [cgo_top hA hR c] at h
        have gV : MG V (sv V 34 27 (V.1 34 27 + 1)) := MG.sv _ _ (Or.inl (by decide))
        have hM10 : MRun (sv V 34 27 (V.1 34 27 + 1)) (sv A 17 9 (A.1 17 9 + 1)) (d + 1) sz := by
          obtain ⟨m1, m2, m3, m4, ⟨n1, n2, n3, n4, n5, n6⟩⟩ := id hM
          refine ⟨by simp (disch := omega) only [sv_ne, sv_at, sv_eq]; exact m1, by simp (disch := omega) only [sv_ne, sv_at, sv_eq]; exact m2, fun e he => ?_, fun i hi => by simp (disch := omega) only [sv_ne, sv_at, sv_eq]; exact m4 i hi, ⟨fun i hi => by simp (disch := omega) only [sv_ne, sv_at, sv_eq]; exact n1 i hi, fun i hi => by simp (disch := omega) only [sv_ne, sv_at, sv_eq]; exact n2 i hi, by simp (disch := omega) only [sv_ne, sv_at, sv_eq]; rw [n3], by simp (disch := omega) only [sv_ne, sv_at, sv_eq]; exact n4, by simp (disch := omega) only [sv_ne, sv_at, sv_eq]; exact n5, ?_⟩⟩
          · have := hR.2.2.1
            simp (disch := omega) only [sv_ne, sv_at, sv_eq]
            exact m3 e he
          · rw [sv_2]; simp (disch := omega) only [sv_ne, sv_at, sv_eq]; exact n6
        have f22 : (sv V 34 27 (V.1 34 27 + 1)).1 34 22 = 0 := by simp (disch := omega) only [sv_ne, sv_at, sv_eq]; exact h22
        have f20 : (sv V 34 27 (V.1 34 27 + 1)).1 34 20 = -1 := by simp (disch := omega) only [sv_ne, sv_at, sv_eq]; exact h20
        have f7 : (sv A 17 9 (A.1 17 9 + 1)).1 17 7 = -1 := by simp (disch := omega) only [sv_ne, sv_at, sv_eq]; exact h7
        have f8 : (sv A 17 9 (A.1 17 9 + 1)).1 17 8 = 0 := by simp (disch := omega) only [sv_ne, sv_at, sv_eq]; exact h8
        have hR10 := RI_fuel (x := A.1 17 9 + 1) hR
        have hO := RI_step hA hn hVl hR10 c
        generalize sv A 17 9 (A.1 17 9 + 1) = A10 at *
        generalize sv V 34 27 (V.1 34 27 + 1) = V10 at *
        have r3 := hR.2.2.1
        refine e_Mstep hA hn hVl hR10 c (hK.mf gV.1) hM10 f22 f20 (fun V1 A1 dp1 sz1 fn1 nx1 g1 s22 s20 e0 hR1 hM1 el e7 e8 => ?_) (fun V1 sz1 l1 e6 g1 s22 e3 hM1 s20 s21 => ?_) (fun V1 t g1 t1 t2 et s22 s20 hE hT => ?_)
        · rw [if_pos e0, ← cgo_congr el n] at h
          have := hR1.2.2.1
          exact ihn dp1 M V1 A1 sz1 fn1 nx1 (by omega) (by omega) hR1 hM1 (hK.mf (gV.1.tr g1)) s22 s20 (e7.trans f7) (e8.trans f8) (fun V2 g2 q => h V2 ((gV.1.tr g1).tr g2) q)
        · generalize cst K A10 d sz (fn d) (nx d) = r at *
          rw [if_neg (by rw [e3]; decide), e3] at h
          rcases hO with ⟨q1, -⟩ | ⟨-, sz2, nx2, hh, q2, q3, q4, q5⟩ | ⟨t, t1, t2, t3, -⟩
          · rw [e3] at q1; exact absurd q1 (by decide)
          · obtain ⟨M2, rfl⟩ : ∃ M2, M = M2 + 1 := ⟨M - 1, by omega⟩
            have s20' : V1.1 34 20 = nI hh := by rw [s20, q5]
            unfold p_Mo_resume_b38 p_Mo_resume_b122
            rw [s22, s20']
            refine ⟨fun _ => ⟨fun _ => ⟨fun q => absurd q (nI_pos (by omega)), fun _ => ?_⟩, fun q => absurd (nI_pos' (by omega)) q⟩, fun q => absurd rfl q⟩
            refine h V1 (gV.1.tr g1) ⟨d + 1, sz2, q2.2.1, r3, q2.2.2.2.1, q2.2.2.2.2.1, ?_, s20, fun _ => s21⟩
            have hs : sz1 = sz2 := by
              have e2 := q2.2.2.2.1
              have l2 := q2.2.2.2.2.1
              rw [e6, eq_iff] at e2
              exact e2
            rw [← hs]
            exact hM1
          · rw [e3] at t3
            have t3 : nI 3 = nI t := t3
            rw [eq_iff] at t3
            omega
        · generalize cst K A10 d sz (fn d) (nx d) = r at *
          rw [if_neg (by rw [et, k0, eq_iff]; omega), et] at h
          obtain ⟨M2, rfl⟩ : ∃ M2, M = M2 + 1 := ⟨M - 1, by omega⟩
          unfold p_Mo_resume_b38 p_Mo_resume_b122
          rw [s22, s20]
          have tn : ¬ nI t = 0 := by rw [k0, eq_iff]; omega
          refine ⟨fun q => absurd q tn, fun _ => ⟨fun _ => ⟨fun q => absurd q tn, fun _ => ?_⟩, fun q => absurd (by decide) q⟩⟩
          intro V3 eV3 V4 eV4 V5 eV5
          have e5 : V5.1 34 22 = nI t := by rw [eV5, eV4, eV3]; simp (disch := omega) only [sv_ne, sv_at, sv_eq]; exact s22
          rw [e5]
          refine h V5 ?_ ?_
          · rw [eV5, eV4, eV3]
            exact (((gV.1.tr g1).tr (MF.sv _ _ (Or.inl (by decide)))).tr (MF.sv _ _ (Or.inl (by decide)))).tr (MF.sv _ _ (Or.inl (by decide)))
          · obtain ⟨u1, u2, u3, u4, u5, u6, u7, u8, u9⟩ := hT
            obtain ⟨n1, n2, n3, n4, n5, n6⟩ := hE
            refine ⟨0, 0, u1, by omega, u2, by omega, ⟨?_, ?_, fun e he => by omega, fun i hi => by omega, ⟨fun i hi => ?_, fun i hi => ?_, ?_, ?_, ?_, ?_⟩⟩, ?_, fun q => absurd u3 q⟩
            · rw [eV5, eV4]; simp (disch := omega) only [sv_ne, sv_at, sv_eq]; rfl
            · rw [eV5]; simp (disch := omega) only [sv_ne, sv_at, sv_eq]; rfl
            · rw [eV5, eV4, eV3, u8 32 (by decide)]; simp (disch := omega) only [sv_ne, sv_at, sv_eq]; exact n1 i hi
            · rw [eV5, eV4, eV3, u8 33 (by decide)]; simp (disch := omega) only [sv_ne, sv_at, sv_eq]; exact n2 i hi
            · rw [eV5, eV4, eV3, u6 9 (by decide)]; simp (disch := omega) only [sv_ne, sv_at, sv_eq]; exact n3
            · rw [eV5, eV4, eV3, u6 10 (by decide)]; simp (disch := omega) only [sv_ne, sv_at, sv_eq]; exact n4
            · rw [eV5, eV4, eV3, u5, ← n5]; simp (disch := omega) only [sv_ne, sv_at, sv_eq]
            · rw [eV5, eV4, eV3, u9]; simp (disch := omega) only [sv_ne, sv_at, sv_eq]; exact n6
            · rw [eV5, eV4, eV3, u3]; simp (disch := omega) only [sv_ne, sv_at, sv_eq]; exact s20
