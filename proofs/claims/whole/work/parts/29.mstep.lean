/-! PURE PART: the reference's step against the class's -/
theorem lfn_pop {K A : vS} {d f : Nat} (hd : A.1 17 5 = nI (d + 1)) (h6 : d < 6) (hf : fnA A d = f) (hx : ¬ nxA A d < lnA K f) : lfn K (dpA (popF K A d f)) (popF K A d f) = lfn K (dpA A) A := by
  obtain ⟨-, -, -, p4⟩ := popF_sT K A d f
  have e1 : dpA (popF K A d f) = d := by unfold dpA; rw [p4, nt_nI (by omega)]
  have e2 : dpA A = d + 1 := by unfold dpA; rw [hd, nt_nI (by omega)]
  rw [e1, e2]
  show _ = (if nxA A d < lnA K (fnA A d) then A else lfn K d (popF K A d (fnA A d)))
  rw [hf, if_neg hx]
theorem e_Mstep {k : vS → Prop} {K A V : vS} {d sz : Nat} {fn nx : Nat → Nat} (hA : Cwf K) (hn : 0 < nFA K) (hVl : ∀ g, g < nFA K → Vld K g) (hR : RI K A (d + 1) sz 0 fn nx) (hi : nx d < lnA K (fn d)) (hK : RK V K) (hM : MRun V A (d + 1) sz) (h22 : V.1 34 22 = 0) (h20 : V.1 34 20 = -1)
    (hgo : ∀ V1 A1 dp1 sz1 fn1 nx1, MF V V1 → V1.1 34 22 = 0 → V1.1 34 20 = -1 → (cst K A d sz (fn d) (nx d)).1 = 0 → RI K A1 dp1 sz1 0 fn1 nx1 → MRun V1 A1 dp1 sz1 → lfn K (dpA A1) A1 = lfn K (dpA (cst K A d sz (fn d) (nx d)).2) (cst K A d sz (fn d) (nx d)).2 → A1.1 17 7 = A.1 17 7 → A1.1 17 8 = A.1 17 8 → k V1)
    (hwait : ∀ V1 sz', sz' ≤ 40 → (cst K A d sz (fn d) (nx d)).2.1 17 6 = nI sz' → MF V V1 → V1.1 34 22 = 0 → (cst K A d sz (fn d) (nx d)).1 = 3 → MRun V1 (cst K A d sz (fn d) (nx d)).2 (d + 1) sz' → V1.1 34 20 = (cst K A d sz (fn d) (nx d)).2.1 17 7 → V1.1 34 21 = (cst K A d sz (fn d) (nx d)).2.1 17 8 → k V1)
    (htrap : ∀ V1 t, MF V V1 → 10 ≤ t → t ≤ 14 → (cst K A d sz (fn d) (nx d)).1 = nI t → V1.1 34 22 = nI t → V1.1 34 20 = -1 → ME V1 A → isTrap A (cst K A d sz (fn d) (nx d)).2 → k V1) : p_Mo_step k V := by
  have hO := RI_step hA hn hVl hR hi
  obtain ⟨r1, r2, r3, r4, r5, r6, r7, r8⟩ := id hR
  obtain ⟨a1, a2, a3, a4⟩ := r6 d (by omega)
  have h4 := hA.1.2
  have hV := hVl _ a2
  obtain ⟨hdd, hsz⟩ := (r8 d rfl).1 hi
  obtain ⟨hok, htk, hnorm, hbr, hret⟩ := st_facts hV hi hdd
  have hl24 := (hA.2 (fn d) (by omega)).1.2
  have hlen := sts_len K (fn d) (nx d)
  obtain ⟨m1, m2, m3, m4, m5⟩ := id hM
  obtain ⟨hoc, ho⟩ := (hA.2 (fn d) (by omega)).2.2.2.2 (nx d) (by omega)
  obtain ⟨q39, q40⟩ := RK_op hA hK (show fn d < 4 by omega) (show nx d < 24 by omega)
  have v43 : V.1 43 d = nI (fn d) := by rw [(m3 d (by omega)).1, a1]
  have v44 : V.1 44 d = nI (nx d) := by rw [(m3 d (by omega)).2.1, a3]
  generalize hr : cst K A d sz (fn d) (nx d) = r at *
  unfold cst at hr
  generalize hB : sv A (19 + d) 2 (nI (nx d + 1)) = B at hr
  have hMB : MRun (sv V 44 d (nI (nx d + 1))) B (d + 1) sz := by
    rw [← hB]
    rcases hM.next (d := d) (by omega) (nI (nx d + 1)) with q | q
    · exact q
    · omega
  have gW : MG V (sv V 44 d (nI (nx d + 1))) := MG.sv _ _ (Or.inr (by decide))
  have tB : sT A B := by rw [← hB]; exact sT.sv A _ (by omega) (Or.inl (by omega))
  have b5 : B.1 17 5 = nI (d + 1) := by rw [← hB, sv_ne _ (by omega)]; exact r2
  have b6 : B.1 17 6 = nI sz := by rw [← hB, sv_ne _ (by omega)]; exact r4
  have b1 : B.1 (19 + d) 1 = nI (fn d) := by rw [← hB, sv_at _ (by decide)]; exact a1
  have bo : ∀ c, c ≠ 19 + d → B.1 c = A.1 c := fun c q => by rw [← hB, sv_ne _ q]
  generalize hW : sv V 44 d (nI (nx d + 1)) = W at hMB gW
  -- it goes on
  have go : ∀ V1 A1 dpx szx, r = (0, A1) → MG V V1 → A1.1 17 5 = nI dpx → dpx ≤ 6 → A1.1 17 6 = nI szx → szx ≤ 40 → MRun V1 A1 dpx szx → k V1 := by
    intro V1 A1 dpx szx er g e5 h6 e6 h40 hM1
    rcases hO with ⟨q1, q7, q8, dp2, sz2, fn2, nx2, -, q5⟩ | ⟨q1, -⟩ | ⟨t, t1, t2, t3, -⟩
    · rw [er] at q7 q8 q5
      have e1 := q5.2.1
      have e2 := q5.2.2.2.1
      have l1 := q5.2.2.1
      have l2 := q5.2.2.2.2.1
      dsimp only at e1 e2
      rw [e5, eq_iff] at e1
      rw [e6, eq_iff] at e2
      rw [← e1, ← e2] at q5
      exact hgo V1 A1 dpx szx fn2 nx2 g.1 (by rw [g.2 22 (by decide)]; exact h22) (by rw [g.2 20 (by decide)]; exact h20) q1 q5 hM1 (by rw [er]) q7 q8
    · rw [er] at q1
      exact absurd (show (0 : Int32) = 3 from q1) (by decide)
    · rw [er] at t3
      have t3 : nI 0 = nI t := t3
      rw [eq_iff] at t3
      omega
  -- a trap
  have tr : ∀ V2 t C, 10 ≤ t → t ≤ 14 → r = (nI t, vTrap C) → sT A C → MG V V2 → ME V2 C → k (sv V2 34 22 (nI t)) := by
    intro V2 t C t1 t2 er gT g hE
    refine htrap _ t (g.1.tr (MF.sv _ _ (Or.inl (by decide)))) t1 t2 (by rw [er]) (sv_eq _ _ _ _) (by rw [sv_at _ (by decide), g.2 20 (by decide)]; exact h20) ?_ (by rw [er]; exact gT.trap)
    exact hE.sv (fun c q => sv_ne _ (by omega)) (fun c q => (gT.2.2.1 c q).symm) (fun j q => sv_at _ (by omega)) (fun j q => (gT.1 j (by omega)).symm) gT.2.2.2.symm
  -- it leaves
  have lv : ∀ W' C szx, r = (0, sv C (19 + d) 2 (nI (lnA K (fn d)))) → MG V W' → MRun W' C (d + 1) szx → C.1 17 5 = nI (d + 1) → C.1 17 6 = nI szx → szx ≤ 40 → C.1 (19 + d) 1 = nI (fn d) → p_Mo_leave k W' := by
    intro W' C szx er g hMC c5 c6 h40 c1
    rcases hO with ⟨q1, q7, q8, dp2, sz2, fn2, nx2, -, q5⟩ | ⟨q1, -⟩ | ⟨t, t1, t2, t3, -⟩
    · rw [er] at q7 q8 q5
      dsimp only at q7 q8 q5
      have f5 : (sv C (19 + d) 2 (nI (lnA K (fn d)))).1 17 5 = nI (d + 1) := by rw [sv_ne _ (by omega)]; exact c5
      have f6 : (sv C (19 + d) 2 (nI (lnA K (fn d)))).1 17 6 = nI szx := by rw [sv_ne _ (by omega)]; exact c6
      have e1 := q5.2.1
      have e2 := q5.2.2.2.1
      have l1 := q5.2.2.1
      have l2 := q5.2.2.2.2.1
      rw [f5, eq_iff] at e1
      rw [f6, eq_iff] at e2
      rw [← e1, ← e2] at q5
      obtain ⟨-, -, hv⟩ := RI_view hA q5
      obtain ⟨v1, v2⟩ := hv d (by omega)
      have w1 : fnA (sv C (19 + d) 2 (nI (lnA K (fn d)))) d = fn d := by unfold fnA; rw [sv_at _ (by decide), c1, nt_nI (by omega)]
      have w2 : nxA (sv C (19 + d) 2 (nI (lnA K (fn d)))) d = lnA K (fn d) := by unfold nxA; rw [sv_eq, nt_nI (by omega)]
      have x1 : fn2 d = fn d := by rw [← v1, w1]
      have x2 : nx2 d = lnA K (fn2 d) := by rw [← v2, w2, x1]
      have hpop := RI_pop hVl q5 x2
      have htop := (q5.2.2.2.2.2.2.2 d rfl).2 x2
      rw [x1] at hpop htop
      refine e_Mleave (A' := sv C (19 + d) 2 (nI (lnA K (fn d)))) hA hMC (by omega) (by omega) c1 ?_ (hK.mf g.1) (fun c q => sv_ne _ q) rfl (fun V1 g1 hM1 => ?_)
      · intro d0
        subst d0
        have : bel K fn2 nx2 0 = 0 := rfl
        omega
      · have g2 := g.tr g1
        obtain ⟨-, -, p3, -⟩ := popF_sT K (sv C (19 + d) 2 (nI (lnA K (fn d)))) d (fn d)
        refine hgo V1 _ d _ fn2 nx2 g2.1 (by rw [g2.2 22 (by decide)]; exact h22) (by rw [g2.2 20 (by decide)]; exact h20) q1 hpop hM1 ?_ ?_ ?_
        · rw [er]
          exact lfn_pop f5 (by omega) w1 (by rw [w2]; omega)
        · rw [p3 7 (by decide)]; exact q7
        · rw [p3 8 (by decide)]; exact q8
    · rw [er] at q1
      exact absurd (show (0 : Int32) = 3 from q1) (by decide)
    · rw [er] at t3
      have t3 : nI 0 = nI t := t3
      rw [eq_iff] at t3
      omega
  -- it branches
  have brn : (ocA K (fn d) (nx d) = 15 ∨ ocA K (fn d) (nx d) = 16) → ∀ W' C szx, r = (0, sv C (19 + d) 2 (nI (tgt K (fn d) (nx d) (nt (agA K (fn d) (nx d)))))) → MG V W' → MRun W' C (d + 1) szx → C.1 17 5 = nI (d + 1) → C.1 17 6 = nI szx → szx ≤ 40 → C.1 (19 + d) 1 = nI (fn d) → p_Mo_branch (fun V => p_Mo_step_b263 k V) W' (nI (fn d)) (nI (nx d)) (agA K (fn d) (nx d)) := by
    intro q W' C szx er g hMC c5 c6 h40 c1
    obtain ⟨j, hj, e⟩ := arg_15 q (by omega) hok
    rw [← opn_len] at hj
    rw [e, nt_nI (by rw [opn_len] at hj; omega)] at er
    rw [e]
    refine e_Mbranch hA (hK.mf g.1) (by omega) hV (by omega) hMC.1 hi hj (fun c W2 g2 => ?_) (fun c W2 g2 => ?_)
    · have et : tgt K (fn d) (nx d) j = lnA K (fn d) := by unfold tgt; rw [if_neg (by omega)]
      rw [et] at er
      exact lv W2 C szx er (g.tr g2.mg) (g2.run hMC) c5 c6 h40 c1
    · refine go _ _ (d + 1) szx er ((g.tr g2.mg).tr (MG.sv _ _ (Or.inr (by decide)))) (by rw [sv_ne _ (by omega)]; exact c5) (by omega) (by rw [sv_ne _ (by omega)]; exact c6) h40 ?_
      rcases (g2.run hMC).next (d := d) (by omega) (nI (tgt K (fn d) (nx d) j)) with z | z
      · exact z
      · omega
  have psh : ∀ x, r = cPut B sz x → p_Mo_push (fun V => p_Mo_step_b263 k V) W x := by
    intro x er
    unfold cPut at er
    refine e_Mpush hMB.2.1 r5 (fun c => ?_) (fun c => ?_)
    · rw [if_neg (by omega)] at er
      exact go _ _ (d + 1) (sz + 1) er (gW.tr (MG.put _ _ _)) (by unfold vPut; simp (disch := omega) only [sv_ne, sv_at, sv_eq]; exact b5) (by omega) (put_6 _ _ _) (by omega) (hMB.put (by omega) x)
    · rw [if_pos c] at er
      exact tr W 13 B (by omega) (by omega) er tB gW hMB.2.2.2.2
  have idx : ∀ j, W.1 34 18 * 5 - 5 + nI j = nI (d * 5 + j) := by
    intro j
    rw [hMB.1, k5, pk_mul, pk_sub (by omega), nI_add]
    congr 1
    omega
  have a5 : (ocA K (fn d) (nx d) = 1 ∨ ocA K (fn d) (nx d) = 2) → ∃ j, j < 5 ∧ agA K (fn d) (nx d) = nI j := by
    intro q
    have := (hA.2 (fn d) (by omega)).2.1.2
    have := (hA.2 (fn d) (by omega)).2.2.2.1.2
    obtain ⟨j, hj, e⟩ := arg_1 q (by omega) hok
    exact ⟨j, by omega, e⟩
  have t5 : ∀ (C : vS) (v : Nat), C.1 17 5 = nI (d + 1) → (vTake C v).1 17 5 = nI (d + 1) := fun C v q => by unfold vTake; simp (disch := omega) only [sv_ne, sv_at, sv_eq]; exact q
  have t1 : ∀ (C : vS) (v : Nat), C.1 (19 + d) 1 = nI (fn d) → (vTake C v).1 (19 + d) 1 = nI (fn d) := fun C v q => by unfold vTake; simp (disch := omega) only [sv_ne, sv_at, sv_eq]; exact q
  have p5 : ∀ (C : vS) (v : Nat) (x : Int32), C.1 17 5 = nI (d + 1) → (vPut C v x).1 17 5 = nI (d + 1) := fun C v x q => by unfold vPut; simp (disch := omega) only [sv_ne, sv_at, sv_eq]; exact q
  unfold p_Mo_step p_Mo_step_b223
  rw [m1, nI_pred, nt_nI (by omega), v43, v44]
  refine ⟨vin (by omega), ?_⟩
  intro y2 ey2
  subst ey2
  refine ⟨vin (by omega), ?_⟩
  intro y4 ey4
  subst ey4
  rw [ix24, nt_nI (by omega), q39, q40]
  refine ⟨vin (by omega), ?_⟩
  intro y6 ey6
  refine ⟨vin (by omega), ?_⟩
  intro y8 ey8
  subst ey8
  refine ⟨vin (by omega), vin (by omega), ?_⟩
  rw [nI_1]
  intro V11 eV11
  rw [hW] at eV11
  subst eV11
  subst ey6
  have mar : 3 ≤ ocA K (fn d) (nx d) ∧ ocA K (fn d) (nx d) ≤ 8 → 2 ≤ sz → r = cCal B sz (ocA K (fn d) (nx d)) → p_Mo_arithmetic (fun V => p_Mo_step_b263 k V) V11 (nI (ocA K (fn d) (nx d))) := by
    intro q h2 er
    refine e_Marith hMB (by omega) h2 r5 q (fun V1 A1 g1 e1 e2 hM1 => ?_) (fun V2 g2 e2 hM2 => ?_)
    · exact go V1 A1 (d + 1) (sz - 2 + 1) (by rw [er, e1]) (gW.tr g1) (by rw [e2]; exact p5 _ _ _ (t5 _ _ (t5 _ _ b5))) (by omega) (by rw [e2]; exact put_6 _ _ _) (by omega) hM1
    · exact tr V2 10 _ (by omega) (by omega) (by rw [er, e2]) ((tB.tr (sT.take _ _)).tr (sT.take _ _)) (gW.tr g2) hM2.2.2.2.2
  generalize hoo : ocA K (fn d) (nx d) = oo at *
  generalize haa : agA K (fn d) (nx d) = aa at *
  rcases ops20 ho with rfl | rfl | rfl | rfl | rfl | rfl | rfl | rfl | rfl | rfl | rfl | rfl | rfl | rfl | rfl | rfl | rfl | rfl | rfl | rfl
  · rw [if_pos (by decide)] at hr
    refine br_t (by decide) (?_)
    exact psh _ hr.symm
  · rw [if_neg (by decide), if_pos (by decide)] at hr
    refine br_f (by decide) (br_t (by decide) (?_))
    obtain ⟨j, hj, e⟩ := a5 (Or.inl rfl)
    rw [e, idx, nt_nI (by omega)]
    rw [e, nt_nI (by omega)] at hr
    refine ⟨vin (by omega), psh _ ?_⟩
    rw [(hMB.2.2.1 d (by omega)).2.2 j hj, bo (25 + d) (by omega)]
    exact hr.symm
  · rw [if_neg (by decide), if_neg (by decide), if_pos (by decide)] at hr
    refine br_f (by decide) (br_f (by decide) (br_t (by decide) (?_)))
    obtain ⟨j, hj, e⟩ := a5 (Or.inr rfl)
    have z1 : 1 ≤ sz := by
      have : tkn K 2 aa = 1 := rfl
      omega
    rw [e, idx, nt_nI (by omega)]
    rw [e, nt_nI (by omega)] at hr
    refine e_Mpop1 hMB z1 r5 ⟨vin (by omega), ?_⟩
    rintro _ rfl
    rw [bo 31 (by omega)]
    exact go _ _ (d + 1) (sz - 1) hr.symm ((gW.tr (MG.take _ _)).tr (MG.sv _ _ (Or.inr (by decide)))) (by rw [sv_ne _ (by omega)]; exact t5 _ _ b5) (by omega) (by rw [sv_ne _ (by omega)]; exact take_6 _ _) (by omega) ((hMB.take (by omega) (by omega)).loc (by omega) (by omega) hj _)
  · rw [if_neg (by decide), if_neg (by decide), if_neg (by decide), if_pos (by decide)] at hr
    refine br_f (by decide) (br_f (by decide) (br_f (by decide) (br_f (by decide) (?_))))
    have z1 : 2 ≤ sz := by
      have : tkn K 3 aa = 2 := rfl
      omega
    exact mar (by omega) z1 hr.symm
  · rw [if_neg (by decide), if_neg (by decide), if_neg (by decide), if_pos (by decide)] at hr
    refine br_f (by decide) (br_f (by decide) (br_f (by decide) (br_f (by decide) (?_))))
    have z1 : 2 ≤ sz := by
      have : tkn K 4 aa = 2 := rfl
      omega
    exact mar (by omega) z1 hr.symm
  · rw [if_neg (by decide), if_neg (by decide), if_neg (by decide), if_pos (by decide)] at hr
    refine br_f (by decide) (br_f (by decide) (br_f (by decide) (br_f (by decide) (?_))))
    have z1 : 2 ≤ sz := by
      have : tkn K 5 aa = 2 := rfl
      omega
    exact mar (by omega) z1 hr.symm
  · rw [if_neg (by decide), if_neg (by decide), if_neg (by decide), if_pos (by decide)] at hr
    refine br_f (by decide) (br_f (by decide) (br_f (by decide) (br_f (by decide) (?_))))
    have z1 : 2 ≤ sz := by
      have : tkn K 6 aa = 2 := rfl
      omega
    exact mar (by omega) z1 hr.symm
  · rw [if_neg (by decide), if_neg (by decide), if_neg (by decide), if_pos (by decide)] at hr
    refine br_f (by decide) (br_f (by decide) (br_f (by decide) (br_f (by decide) (?_))))
    have z1 : 2 ≤ sz := by
      have : tkn K 7 aa = 2 := rfl
      omega
    exact mar (by omega) z1 hr.symm
  · rw [if_neg (by decide), if_neg (by decide), if_neg (by decide), if_pos (by decide)] at hr
    refine br_f (by decide) (br_f (by decide) (br_f (by decide) (br_f (by decide) (?_))))
    have z1 : 2 ≤ sz := by
      have : tkn K 8 aa = 2 := rfl
      omega
    exact mar (by omega) z1 hr.symm
  · rw [if_neg (by decide), if_neg (by decide), if_neg (by decide), if_neg (by decide), if_pos (by decide)] at hr
    refine br_f (by decide) (br_f (by decide) (br_f (by decide) (br_t (by decide) (br_t (by decide) (?_)))))
    have z1 : 1 ≤ sz := by
      have : tkn K 9 aa = 1 := rfl
      omega
    intro V30 eV30
    rw [hMB.2.1, k1, pk_sub z1] at eV30
    rw [eV30]
    exact go _ _ (d + 1) (sz - 1) hr.symm (gW.tr (MG.take _ _)) (t5 _ _ b5) (by omega) (take_6 _ _) (by omega) (hMB.take (by omega) (by omega))
  · rw [if_neg (by decide), if_neg (by decide), if_neg (by decide), if_neg (by decide), if_neg (by decide), if_pos (by decide)] at hr
    refine br_f (by decide) (br_f (by decide) (br_f (by decide) (br_t (by decide) (br_f (by decide) (br_f (by decide) (?_))))))
    have z1 : 1 ≤ sz := by
      have : tkn K 10 aa = 1 := rfl
      omega
    refine e_Mload hMB (by omega) z1 r5 (fun V1 x g1 e1 hM1 => ?_) (fun V2 g2 e2 hM2 => ?_)
    · exact go V1 _ (d + 1) (sz - 1 + 1) (by rw [← hr, e1]) (gW.tr g1) (p5 _ _ _ (t5 _ _ b5)) (by omega) (put_6 _ _ _) (by omega) hM1
    · exact tr V2 11 _ (by omega) (by omega) (by rw [← hr, e2]) (tB.tr (sT.take _ _)) (gW.tr g2) hM2.2.2.2.2
  · rw [if_neg (by decide), if_neg (by decide), if_neg (by decide), if_neg (by decide), if_neg (by decide), if_neg (by decide), if_pos (by decide)] at hr
    refine br_f (by decide) (br_f (by decide) (br_f (by decide) (br_t (by decide) (br_f (by decide) (br_f (by decide) (?_))))))
    have z1 : 2 ≤ sz := by
      have : tkn K 11 aa = 2 := rfl
      omega
    refine e_Mstore hMB (by omega) z1 r5 (fun V1 j x g1 e1 hM1 => ?_) (fun V2 g2 e2 hM2 => ?_)
    · exact go V1 _ (d + 1) (sz - 2) (by rw [← hr, e1]) (gW.tr g1) (by rw [sv_ne _ (by decide)]; exact t5 _ _ (t5 _ _ b5)) (by omega) (by rw [sv_ne _ (by decide)]; exact take_6 _ _) (by omega) hM1
    · exact tr V2 11 _ (by omega) (by omega) (by rw [← hr, e2]) ((tB.tr (sT.take _ _)).tr (sT.take _ _)) (gW.tr g2) hM2.2.2.2.2
  · rw [if_neg (by decide), if_neg (by decide), if_neg (by decide), if_neg (by decide), if_neg (by decide), if_neg (by decide), if_neg (by decide), if_pos (by decide)] at hr
    refine br_f (by decide) (br_f (by decide) (br_f (by decide) (br_t (by decide) (br_f (by decide) (br_t (by decide) (br_f (by decide) (br_f (by decide) (br_f (by decide) (br_f (by decide) (br_f (by decide) (?_)))))))))))
    exact go _ _ (d + 1) sz hr.symm gW b5 (by omega) b6 r5 hMB
  · rw [if_neg (by decide), if_neg (by decide), if_neg (by decide), if_neg (by decide), if_neg (by decide), if_neg (by decide), if_neg (by decide), if_pos (by decide)] at hr
    refine br_f (by decide) (br_f (by decide) (br_f (by decide) (br_t (by decide) (br_f (by decide) (br_t (by decide) (br_f (by decide) (br_f (by decide) (br_f (by decide) (br_f (by decide) (br_f (by decide) (?_)))))))))))
    exact go _ _ (d + 1) sz hr.symm gW b5 (by omega) b6 r5 hMB
  · rw [if_neg (by decide), if_neg (by decide), if_neg (by decide), if_neg (by decide), if_neg (by decide), if_neg (by decide), if_neg (by decide), if_pos (by decide)] at hr
    refine br_f (by decide) (br_f (by decide) (br_f (by decide) (br_t (by decide) (br_f (by decide) (br_t (by decide) (br_f (by decide) (br_f (by decide) (br_f (by decide) (br_f (by decide) (br_f (by decide) (?_)))))))))))
    exact go _ _ (d + 1) sz hr.symm gW b5 (by omega) b6 r5 hMB
  · rw [if_neg (by decide), if_neg (by decide), if_neg (by decide), if_neg (by decide), if_neg (by decide), if_neg (by decide), if_neg (by decide), if_neg (by decide), if_pos (by decide)] at hr
    refine br_f (by decide) (br_f (by decide) (br_f (by decide) (br_t (by decide) (br_f (by decide) (br_t (by decide) (br_t (by decide) (?_)))))))
    exact brn (Or.inl rfl) _ B sz hr.symm gW hMB b5 b6 r5 b1
  · rw [if_neg (by decide), if_neg (by decide), if_neg (by decide), if_neg (by decide), if_neg (by decide), if_neg (by decide), if_neg (by decide), if_neg (by decide), if_neg (by decide), if_pos (by decide)] at hr
    refine br_f (by decide) (br_f (by decide) (br_f (by decide) (br_t (by decide) (br_f (by decide) (br_t (by decide) (br_f (by decide) (br_t (by decide) (?_))))))))
    have z1 : 1 ≤ sz := by
      have : tkn K 16 aa = 1 := rfl
      omega
    refine e_Mpop1 hMB z1 r5 ?_
    rw [bo 31 (by omega)]
    refine ⟨fun c => ?_, fun c => ?_⟩
    · rw [if_pos c] at hr
      refine br_f (by decide) (br_f (by decide) (br_f (by decide) ?_))
      exact go _ _ (d + 1) (sz - 1) hr.symm (gW.tr (MG.take _ _)) (t5 _ _ b5) (by omega) (take_6 _ _) (by omega) (hMB.take (by omega) (by omega))
    · rw [if_neg c] at hr
      exact brn (Or.inr rfl) _ (vTake B (sz - 1)) (sz - 1) hr.symm (gW.tr (MG.take _ _)) (hMB.take (by omega) (by omega)) (t5 _ _ b5) (take_6 _ _) (by omega) (t1 _ _ b1)
  · rw [if_neg (by decide), if_neg (by decide), if_neg (by decide), if_neg (by decide), if_neg (by decide), if_neg (by decide), if_neg (by decide), if_neg (by decide), if_neg (by decide), if_neg (by decide), if_pos (by decide)] at hr
    refine br_f (by decide) (br_f (by decide) (br_f (by decide) (br_t (by decide) (br_f (by decide) (br_t (by decide) (br_f (by decide) (br_f (by decide) (br_t (by decide) (?_)))))))))
    obtain ⟨j, hj, e⟩ := arg_17 hn h4 hok
    have z1 : tkA K j ≤ sz := by
      have : tkn K 17 aa = tkA K j := by show tkA K (nt aa) = _; rw [e, nt_nI (by omega)]
      omega
    have z2 := (hA.2 j (by omega)).2.1.2
    rw [e, nt_nI (by omega)] at hr
    rw [e]
    unfold cCall at hr
    unfold p_Mo_call
    rw [hMB.1, k6, eq_iff]
    refine ⟨fun c => ?_, fun c => ?_⟩
    · rw [if_pos c] at hr
      rintro _ rfl
      exact tr _ 12 B (by omega) (by omega) hr.symm tB gW hMB.2.2.2.2
    · rw [if_neg c] at hr
      refine e_Menter hMB (by omega) (fun V2 g2 hM2 s2 => ?_)
      have gg : MG V V2 := gW.tr ⟨g2, s2⟩
      refine ⟨vin (by omega), ?_⟩
      intro y5 ey5
      rw [nt_nI (by omega), ((hK.mf gg.1).2 j (by omega)).1, (hA.2 j (by omega)).2.1.1] at ey5
      rw [ey5]
      refine ⟨_, e_Mcall (by omega) (tkA K j) V2 _ sz hM2 z1 r5 (by omega) (fun V3 g3 hM3 => ?_)⟩
      exact go V3 _ (d + 1 + 1) (sz - tkA K j) hr.symm (gg.tr g3) (by rw [vArgs_17 _ _ _ _ _ (by omega) (by decide)]; exact vEnter_5 _ _ _) (by omega) (vArgs_6 _ _ _ _ (by omega) (by rw [vEnter_17 _ _ (by decide)]; exact b6) z1) (by omega) hM3
  · rw [if_neg (by decide), if_neg (by decide), if_neg (by decide), if_neg (by decide), if_neg (by decide), if_neg (by decide), if_neg (by decide), if_neg (by decide), if_neg (by decide), if_neg (by decide), if_neg (by decide), if_pos (by decide)] at hr
    refine br_f (by decide) (br_f (by decide) (br_f (by decide) (br_t (by decide) (br_f (by decide) (br_t (by decide) (br_f (by decide) (br_f (by decide) (br_f (by decide) (br_t (by decide) (?_))))))))))
    obtain ⟨j, hj, e⟩ := arg_18 hok
    have z1 : 1 ≤ sz := by
      have : tkn K 18 aa = 1 := rfl
      omega
    rw [e, nt_nI (by omega)] at hr
    rw [e]
    refine e_Mask hMB (by omega) z1 r5 hj (fun V1 g1 s22 s20 s21 e1 hM1 => ?_) (fun e1 => ?_)
    · rw [e1] at hr
      refine hwait V1 (sz - 1) (by omega) (by rw [← hr]; show (sv (sv _ _ _ _) _ _ _).1 17 6 = _; rw [sv_at _ (by decide), sv_at _ (by decide)]; exact take_6 _ _) (gW.1.tr g1) ?_ (by rw [← hr]) (by rw [← hr]; exact hM1) ?_ ?_
      · rw [s22, gW.2 22 (by decide)]; exact h22
      · rw [s20, ← hr]; exact (sv_eq _ _ _ _).symm
      · rw [s21, ← hr]
        simp (disch := omega) only [sv_ne, sv_at, sv_eq]
    · rw [e1] at hr
      exact tr _ 14 B (by omega) (by omega) hr.symm tB gW hMB.2.2.2.2
  · rw [if_neg (by decide), if_neg (by decide), if_neg (by decide), if_neg (by decide), if_neg (by decide), if_neg (by decide), if_neg (by decide), if_neg (by decide), if_neg (by decide), if_neg (by decide), if_neg (by decide), if_neg (by decide)] at hr
    refine br_f (by decide) (br_f (by decide) (br_f (by decide) (br_t (by decide) (br_f (by decide) (br_t (by decide) (br_f (by decide) (br_f (by decide) (br_f (by decide) (br_f (by decide) (br_t (by decide) (?_)))))))))))
    exact lv _ B sz hr.symm gW hMB b5 b6 r5 b1
