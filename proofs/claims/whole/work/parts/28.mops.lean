/-! PURE PART: the reference's arithmetic, store, ask -/
theorem e_Mpop1 {k : Int32 → vS → Prop} {V C : vS} {dp sz : Nat} (hM : MRun V C dp sz) (h1 : 1 ≤ sz) (h40 : sz ≤ 40) (h : k (C.1 31 (sz - 1)) (mTake V (sz - 1))) : p_Mo_pop k V := by
  obtain ⟨v, rfl⟩ : ∃ v, sz = v + 1 := ⟨sz - 1, by omega⟩
  refine e_Mpop hM.2.1 (by omega) ?_
  rw [hM.2.2.2.1 v (by omega)]
  exact h
theorem e_Mpush1 {k : vS → Prop} {V C : vS} {dp sz : Nat} {x : Int32} (hM : MRun V C dp sz) (hd : dp ≤ 6) (h40 : sz < 40) (h : ∀ V1, MG V V1 → MRun V1 (vPut C sz x) dp (sz + 1) → k V1) : p_Mo_push k V x :=
  e_Mpush hM.2.1 (by omega) (fun _ => h _ (MG.put _ _ _) (hM.put hd x)) (fun c => absurd c (by omega))
theorem e_Marith {k : vS → Prop} {V B : vS} {dp sz o : Nat} (hM : MRun V B dp sz) (hd : dp ≤ 6) (h2 : 2 ≤ sz) (h40 : sz ≤ 40) (ho : 3 ≤ o ∧ o ≤ 8)
    (hgo : ∀ V1 A1, MG V V1 → cCal B sz o = (0, A1) → A1 = vPut (vTake (vTake B (sz - 1)) (sz - 2)) (sz - 2) (cVal o (B.1 31 (sz - 2)) (B.1 31 (sz - 1))) → MRun V1 A1 dp (sz - 2 + 1) → k V1)
    (htr : ∀ V2, MG V V2 → cCal B sz o = (nI 10, vTrap (vTake (vTake B (sz - 1)) (sz - 2))) → MRun V2 (vTake (vTake B (sz - 1)) (sz - 2)) dp (sz - 2) → k (sv V2 34 22 (nI 10))) : p_Mo_arithmetic k V (nI o) := by
  have hM1 := hM.take hd (show sz - 1 ≤ sz by omega)
  have hM2 := hM1.take hd (show sz - 2 ≤ sz - 1 by omega)
  have gg : MG V (mTake (mTake V (sz - 1)) (sz - 2)) := (MG.take _ _).tr (MG.take _ _)
  unfold p_Mo_arithmetic
  refine e_Mpop1 hM (by omega) h40 (e_Mpop1 hM1 (by omega) (by omega) ?_)
  rw [take_31, show sz - 1 - 1 = sz - 2 by omega]
  unfold cCal at hgo htr
  generalize mTake (mTake V (sz - 1)) (sz - 2) = V4 at *
  generalize vTake (vTake B (sz - 1)) (sz - 2) = C at *
  generalize B.1 31 (sz - 1) = y at *
  generalize B.1 31 (sz - 2) = x at *
  have b31 : o = 6 ∧ (y = 0 ∨ (x = -2147483648 ∧ y = -1)) → p_Mo_arithmetic_b31 k V4 := by
    intro c
    unfold p_Mo_arithmetic_b31
    rintro _ rfl
    exact htr V4 gg (by rw [if_pos c]; rfl) hM2
  have b38 : ¬ (o = 6 ∧ (y = 0 ∨ (x = -2147483648 ∧ y = -1))) → p_Mo_arithmetic_b38 k V4 (nI o) y x := by
    intro c
    have hp : ∀ z, z = cVal o x y → p_Mo_push (fun V1 => k V1) V4 z := by
      intro z ez
      refine e_Mpush1 hM2 hd (by omega) (fun V1 g1 g2 => hgo V1 _ (gg.tr g1) (by rw [if_neg c]) rfl ?_)
      rw [← ez]
      exact g2
    unfold p_Mo_arithmetic_b38 p_Mo_arithmetic_b113
    rcases (show o = 3 ∨ o = 4 ∨ o = 5 ∨ o = 6 ∨ o = 7 ∨ o = 8 by omega) with rfl | rfl | rfl | rfl | rfl | rfl
    · exact br_t rfl (hp _ rfl)
    · exact br_f (by decide) (br_t rfl (hp _ rfl))
    · exact br_f (by decide) (br_f (by decide) (br_t rfl (hp _ rfl)))
    · exact br_f (by decide) (br_f (by decide) (br_f (by decide) (br_t rfl ⟨fun q => c ⟨rfl, Or.inl q⟩, hp _ rfl⟩)))
    · refine br_f (by decide) (br_f (by decide) (br_f (by decide) (br_f (by decide) (br_t rfl ?_))))
      refine ⟨fun c => hp _ ?_, fun c => hp _ ?_⟩
      · show _ = (if x < y then (1 : Int32) else 0)
        rw [if_neg (Int32.not_lt.mpr c)]
      · show _ = (if x < y then (1 : Int32) else 0)
        rw [if_pos (Int32.not_le.mp c)]
    · refine br_f (by decide) (br_f (by decide) (br_f (by decide) (br_f (by decide) (br_f (by decide) ?_))))
      refine ⟨fun c => hp _ ?_, fun c => hp _ ?_⟩
      · show _ = (if x = y then (1 : Int32) else 0)
        rw [if_pos c]
      · show _ = (if x = y then (1 : Int32) else 0)
        rw [if_neg c]
  have o6 : (nI o = 6) ↔ o = 6 := o_eq (c := 6) (by omega) (by omega)
  rw [o6]
  refine ⟨fun c => ⟨fun c1 => b31 ⟨c, Or.inl c1⟩, fun c1 => ⟨fun c2 => ⟨fun c3 => b31 ⟨c, Or.inr ⟨c2, c3⟩⟩, fun c3 => b38 (fun q => ?_)⟩, fun c2 => b38 (fun q => ?_)⟩⟩, fun c => b38 (fun q => c q.1)⟩
  · rcases q.2 with q | q
    · exact c1 q
    · exact c3 q.2
  · rcases q.2 with q | q
    · exact c1 q
    · exact c2 q.1
theorem le31 (y : Int64) : y ≤ 31 ↔ ¬ 32 ≤ y := by
  rw [Int64.not_le, Int64.le_iff_toInt_le, Int64.lt_iff_toInt_lt]
  have e1 : (31 : Int64).toInt = 31 := by decide
  have e2 : (32 : Int64).toInt = 32 := by decide
  omega
theorem e_Mb14 {k : vS → Prop} {V B : vS} {dp sz : Nat} {o a s : Int32} (hM : MRun V B dp sz) (hd : dp ≤ 6) (h1 : 1 ≤ sz) (h40 : sz ≤ 40)
    (hbad : cAdr (B.1 31 (sz - 1)) a < 0 ∨ 32 ≤ cAdr (B.1 31 (sz - 1)) a → k (sv (mTake V (sz - 1)) 34 22 (nI 11)))
    (h11 : ∀ j : Nat, j < 32 → (cAdr (B.1 31 (sz - 1)) a).toInt32 = nI j → ¬ (cAdr (B.1 31 (sz - 1)) a < 0 ∨ 32 ≤ cAdr (B.1 31 (sz - 1)) a) → o = 11 → k (sv (mTake V (sz - 1)) 47 j s))
    (h10 : ∀ j : Nat, j < 32 → (cAdr (B.1 31 (sz - 1)) a).toInt32 = nI j → ¬ (cAdr (B.1 31 (sz - 1)) a < 0 ∨ 32 ≤ cAdr (B.1 31 (sz - 1)) a) → ¬ o = 11 → p_Mo_push (fun V => k V) (mTake V (sz - 1)) ((mTake V (sz - 1)).1 47 j)) : p_Mo_store_b14 k V o a s := by
  unfold p_Mo_store_b14 p_Mo_store_b41 p_Mo_store_b78
  refine e_Mpop1 hM h1 h40 ?_
  intro y ey
  have ey : y = cAdr (B.1 31 (sz - 1)) a := ey
  rw [← ey] at hbad h11 h10
  rw [lg_cmp_lt, lg_cmp_le, le31]
  refine ⟨fun c => ?_, fun c => ⟨fun c2 => ?_, fun c2 => ?_⟩⟩
  · rintro _ rfl
    exact hbad (Or.inl c)
  · have c3 : ¬ (y < 0 ∨ 32 ≤ y) := not_or.mpr ⟨c, c2⟩
    obtain ⟨j, hj, e⟩ := adr_in c3
    rw [e, nt_nI (by omega)]
    refine ⟨fun c4 => ⟨vin hj, ?_⟩, fun c4 => ⟨vin hj, h10 j hj e c3 c4⟩⟩
    rintro _ rfl
    exact h11 j hj e c3 c4
  · rintro _ rfl
    exact hbad (Or.inr (Decidable.byContradiction fun q => c2 q))
theorem e_Mload {k : vS → Prop} {V B : vS} {dp sz : Nat} {a : Int32} (hM : MRun V B dp sz) (hd : dp ≤ 6) (h1 : 1 ≤ sz) (h40 : sz ≤ 40)
    (hgo : ∀ V1 x, MG V V1 → cLoad B sz a = (0, vPut (vTake B (sz - 1)) (sz - 1) x) → MRun V1 (vPut (vTake B (sz - 1)) (sz - 1) x) dp (sz - 1 + 1) → k V1)
    (htr : ∀ V2, MG V V2 → cLoad B sz a = (nI 11, vTrap (vTake B (sz - 1))) → MRun V2 (vTake B (sz - 1)) dp (sz - 1) → k (sv V2 34 22 (nI 11))) : p_Mo_store k V 10 a := by
  have hM1 := hM.take hd (show sz - 1 ≤ sz by omega)
  unfold p_Mo_store
  refine br_f (by decide) (e_Mb14 hM hd h1 h40 (fun c => htr _ (MG.take _ _) (by unfold cLoad; rw [if_pos c]; rfl) hM1) (fun j hj e c q => absurd q (by decide)) (fun j hj e c _ => ?_))
  refine e_Mpush1 hM1 hd (by omega) (fun V1 g1 g2 => hgo V1 _ ((MG.take _ _).tr g1) ?_ g2)
  unfold cLoad
  rw [if_neg c, e, nt_nI (by omega)]
  have : (mTake V (sz - 1)).1 47 j = B.1 32 j := by rw [hM1.2.2.2.2.1 j hj]; unfold vTake; simp (disch := omega) only [sv_ne, sv_at, sv_eq]
  rw [this]
theorem e_Mstore {k : vS → Prop} {V B : vS} {dp sz : Nat} {a : Int32} (hM : MRun V B dp sz) (hd : dp ≤ 6) (h2 : 2 ≤ sz) (h40 : sz ≤ 40)
    (hgo : ∀ V1 j x, MG V V1 → cStore B sz a = (0, sv (vTake (vTake B (sz - 1)) (sz - 2)) 32 j x) → MRun V1 (sv (vTake (vTake B (sz - 1)) (sz - 2)) 32 j x) dp (sz - 2) → k V1)
    (htr : ∀ V2, MG V V2 → cStore B sz a = (nI 11, vTrap (vTake (vTake B (sz - 1)) (sz - 2))) → MRun V2 (vTake (vTake B (sz - 1)) (sz - 2)) dp (sz - 2) → k (sv V2 34 22 (nI 11))) : p_Mo_store k V 11 a := by
  have hM1 := hM.take hd (show sz - 1 ≤ sz by omega)
  have hM2 := hM1.take hd (show sz - 2 ≤ sz - 1 by omega)
  have gg : MG V (mTake (mTake V (sz - 1)) (sz - 2)) := (MG.take _ _).tr (MG.take _ _)
  unfold p_Mo_store
  refine br_t rfl (e_Mpop1 hM (by omega) h40 (e_Mb14 hM1 hd (by omega) (by omega) ?_ ?_ ?_))
  · rw [take_31, show sz - 1 - 1 = sz - 2 by omega]
    exact fun c => htr _ gg (by unfold cStore; rw [if_pos c]; rfl) hM2
  · rw [take_31, show sz - 1 - 1 = sz - 2 by omega]
    intro j hj e c _
    refine hgo _ j (B.1 31 (sz - 1)) (gg.tr (MG.sv _ _ (Or.inr (by decide)))) (by unfold cStore; rw [if_neg c, e, nt_nI (by omega)]) (hM2.mem hd _)
  · intro j hj e c q
    exact absurd rfl q
theorem MRun.cA {V A A1 : vS} {dp sz : Nat} (h : MRun V A dp sz) (hc : ∀ c, 19 ≤ c → A1.1 c = A.1 c) (h9 : ∀ j, 9 ≤ j ∧ j ≤ 11 → A1.1 17 j = A.1 17 j) (h2 : A1.2 = A.2) : MRun V A1 dp sz := by
  obtain ⟨m1, m2, m3, m4, m5⟩ := h
  refine ⟨m1, m2, fun d hd => ?_, fun i hi => ?_, m5.sv (fun _ _ => rfl) (fun c q => hc c (by omega)) (fun _ _ => rfl) (fun j q => h9 j (by omega)) h2⟩
  · rw [hc (19 + d) (by omega), hc (25 + d) (by omega)]; exact m3 d hd
  · rw [hc 31 (by omega)]; exact m4 i hi
theorem e_Mask {k : vS → Prop} {V B : vS} {dp sz g : Nat} (hM : MRun V B dp sz) (hd : dp ≤ 6) (h1 : 1 ≤ sz) (h40 : sz ≤ 40) (hg : g < 4)
    (hw : ∀ V1, MF V V1 → V1.1 34 22 = V.1 34 22 → V1.1 34 20 = nI g → V1.1 34 21 = B.1 31 (sz - 1) → cAsk B sz g = (3, sv (sv (vTake B (sz - 1)) 17 8 (B.1 31 (sz - 1))) 17 7 (nI g)) → MRun V1 (sv (sv (vTake B (sz - 1)) 17 8 (B.1 31 (sz - 1))) 17 7 (nI g)) dp (sz - 1) → k V1)
    (htr : cAsk B sz g = (nI 14, vTrap B) → k (sv V 34 22 (nI 14))) : p_Mo_ask k V (nI g) := by
  have e48 := hM.2.2.2.2.2.1 g hg
  unfold p_Mo_ask
  rw [nt_nI (by omega), e48]
  refine ⟨vin hg, fun c => ?_, fun c => ?_⟩
  · rintro _ rfl
    exact htr (by unfold cAsk; rw [if_pos c]; rfl)
  · intro V3 eV3
    have hM3 : MRun V3 B dp sz := by
      rw [eV3]
      exact hM.own (fun c q => sv_ne _ (by omega)) (fun j q => sv_at _ (by omega))
    refine e_Mpop1 hM3 h1 h40 ?_
    intro V7 eV7
    refine hw V7 ?_ ?_ ?_ ?_ ?_ ?_
    · rw [eV7, eV3]
      exact ((MF.sv _ _ (Or.inl (by decide))).tr (MF.take _ _)).tr (MF.sv _ _ (Or.inl (by decide)))
    · rw [eV7, eV3]; unfold mTake; simp (disch := omega) only [sv_ne, sv_at, sv_eq]
    · rw [eV7, eV3]; unfold mTake; simp (disch := omega) only [sv_ne, sv_at, sv_eq]
    · rw [eV7, sv_eq]
    · unfold cAsk; rw [if_neg c]
    · rw [eV7]
      refine MRun.cA ((hM3.take hd (show sz - 1 ≤ sz by omega)).own (fun c q => sv_ne _ (by omega)) (fun j q => sv_at _ (by omega))) (fun c q => ?_) (fun j q => ?_) rfl
      · rw [sv_ne _ (by omega), sv_ne _ (by omega)]
      · simp (disch := omega) only [sv_ne, sv_at, sv_eq]
