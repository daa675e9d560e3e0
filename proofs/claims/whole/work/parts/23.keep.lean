/-! PURE PART: a step keeps the invariant -/
theorem sv_sv (A : vS) (c j : Nat) (x y : Int32) : sv (sv A c j x) c j y = sv A c j y := by
  unfold sv
  congr 1
  funext a
  by_cases h : a = c
  · subst h
    simp only [if_true]
    funext b
    unfold upd
    by_cases h2 : b = j <;> simp [h2]
  · simp [h]
theorem sF_over {A C : vS} {c0 : Nat} {x y : Int32} (h0 : 19 ≤ c0 ∧ c0 < 25) (h : sF (sv A c0 2 x) C) : sF (sv A c0 2 y) (sv C c0 2 y) := by
  refine ⟨fun c hc => ?_, ?_⟩
  · by_cases e : c = c0
    · subst e
      rw [sv_self, sv_self, h.1 c (Or.inr h0), sv_self]
      funext b
      unfold upd
      by_cases h2 : b = 2 <;> simp [h2]
    · rw [sv_ne _ e, sv_ne _ e, h.1 c hc, sv_ne _ e]
  · have n : (17 : Nat) ≠ c0 := by omega
    rw [sv_ne _ n, sv_ne _ n, h.2, sv_ne _ n]
def sT (A B : vS) : Prop := (∀ j, (9 ≤ j ∧ j ≤ 11) → B.1 17 j = A.1 17 j) ∧ (∀ c, c < 17 → B.1 c = A.1 c) ∧ (∀ c, c = 32 ∨ c = 33 → B.1 c = A.1 c) ∧ B.2 = A.2
theorem sT.tr {A B C : vS} (h1 : sT A B) (h2 : sT B C) : sT A C := ⟨fun j q => (h2.1 j q).trans (h1.1 j q), fun c q => (h2.2.1 c q).trans (h1.2.1 c q), fun c q => (h2.2.2.1 c q).trans (h1.2.2.1 c q), h2.2.2.2.trans h1.2.2.2⟩
theorem sT.sv (A : vS) {c j : Nat} (x : Int32) (h : 17 ≤ c ∧ c ≠ 32 ∧ c ≠ 33) (h9 : c ≠ 17 ∨ j < 9) : sT A (sv A c j x) := by
  refine ⟨fun i q => ?_, fun a q => sv_ne _ (by omega), fun a q => sv_ne _ (by omega), rfl⟩
  by_cases e : c = 17
  · subst e; exact sv_at _ (by omega)
  · rw [sv_ne _ (Ne.symm e)]
theorem sT.take (A : vS) (v : Nat) : sT A (vTake A v) := sT.sv A _ (by decide) (by decide)
theorem sT.trap {A B : vS} (h : sT A B) : isTrap A (vTrap B) := isTrap_of h.1 h.2.1 h.2.2.1 h.2.2.2
theorem RI_trap {K A A' : vS} (hK : ∀ c, 1 ≤ c ∧ c < 15 → A.1 c = K.1 c) (h : isTrap A A') (fn nx : Nat → Nat) : RI K A' 0 0 0 fn nx := ⟨fun c hc => (h.2.2.2.2.2.2.1 c (by omega)).trans (hK c hc), h.1, by omega, h.2.1, by omega, fun d hd => by omega, fun d hd => by omega, fun d hd => by omega⟩
theorem sts_len (K : vS) (f : Nat) : ∀ i, (sts K f i).1.length ≤ i := by
  intro i
  induction i with
  | zero => exact Nat.le_refl _
  | succ i ih =>
    show (nxs _ _ _ _).1.length ≤ _
    unfold nxs
    split
    · simp; exact ih
    · split
      · simp; omega
      · exact Nat.le_succ_of_le ih
/-- what a step comes to: it goes on, waits, or is a trap -/
def Outc (K A : vS) (d : Nat) (fn : Nat → Nat) (r : Int32 × vS) : Prop :=
  (r.1 = 0 ∧ r.2.1 17 7 = A.1 17 7 ∧ r.2.1 17 8 = A.1 17 8 ∧ ∃ dp' sz' fn' nx', 0 < dp' ∧ RI K r.2 dp' sz' 0 fn' nx') ∨
  (r.1 = 3 ∧ ∃ sz' nx' h, RI K r.2 (d + 1) sz' 1 fn nx' ∧ sz' ≤ 39 ∧ h < 4 ∧ r.2.1 17 7 = nI h) ∨
  (∃ t : Nat, 10 ≤ t ∧ t ≤ 14 ∧ r.1 = nI t ∧ isTrap A r.2)
theorem RI_step {K A : vS} {d sz : Nat} {fn nx : Nat → Nat} (hA : Cwf K) (hn : 0 < nFA K) (hVl : ∀ g, g < nFA K → Vld K g) (hR : RI K A (d + 1) sz 0 fn nx) (hi : nx d < lnA K (fn d)) : Outc K A d fn (cst K A d sz (fn d) (nx d)) := by
  have hR0 := hR
  obtain ⟨r1, r2, r3, r4, r5, r6, r7, r8⟩ := hR
  obtain ⟨a1, a2, a3, a4⟩ := r6 d (by omega)
  have hV := hVl _ a2
  have h4 := hA.1.2
  obtain ⟨hdd, hsz⟩ := (r8 d rfl).1 hi
  obtain ⟨hok, htk, hnorm, hbr, hret⟩ := st_facts hV hi hdd
  obtain ⟨hoc, ho⟩ := (hA.2 (fn d) (by omega)).2.2.2.2 (nx d) (by have := (hA.2 (fn d) (by omega)).1.2; omega)
  unfold cst
  generalize hB : sv A (19 + d) 2 (nI (nx d + 1)) = B
  have gB : sF (sv A (19 + d) 2 (nI (nx d + 1))) B := by rw [hB]; exact sF.rf _
  have tB : sT A B := by rw [← hB]; exact sT.sv A _ (by omega) (Or.inl (by omega))
  have b6 : B.1 17 6 = nI sz := by rw [← hB, sv_ne _ (by omega)]; exact r4
  have b78 : ∀ j, B.1 17 j = A.1 17 j := fun j => by rw [← hB, sv_ne _ (by omega)]
  have norm : ∀ (A' : vS) (sz' : Nat), ocA K (fn d) (nx d) ≠ 15 → ocA K (fn d) (nx d) ≠ 19 → sF B A' → A'.1 17 6 = nI sz' → sz' ≤ 40 → sz' = sz - tkn K (ocA K (fn d) (nx d)) (agA K (fn d) (nx d)) + ptn K (ocA K (fn d) (nx d)) (agA K (fn d) (nx d)) → A'.1 17 7 = A.1 17 7 → A'.1 17 8 = A.1 17 8 → Outc K A d fn (0, A') := by
    intro A' sz' n15 n19 g h6 h40 he e7 e8
    obtain ⟨f1, f2⟩ := hnorm n15 n19
    exact Or.inl ⟨rfl, e7, e8, d + 1, sz', fn, va_up nx d (nx d + 1), by omega, RI_op hR0 (gB.tr g) h6 h40 (by omega) (top_ok hV f2 (by rw [f1]; omega))⟩
  have trap : ∀ (C : vS) (t : Nat), 10 ≤ t → t ≤ 14 → sT A C → Outc K A d fn (nI t, vTrap C) := fun C t t1 t2 g => Or.inr (Or.inr ⟨t, t1, t2, rfl, g.trap⟩)
  have t78 : ∀ (C : vS) (v j : Nat), (j = 7 ∨ j = 8) → (vTake C v).1 17 j = C.1 17 j := fun C v j hj => sv_at _ (by omega)
  have p78 : ∀ (C : vS) (v j : Nat) (x : Int32), (j = 7 ∨ j = 8) → (vPut C v x).1 17 j = C.1 17 j := fun C v j x hj => by
    show (sv (sv C 31 v x) 17 6 _).1 17 j = _
    rw [sv_at _ (by omega), sv_ne _ (by decide)]
  have put : ∀ (x : Int32), ocA K (fn d) (nx d) ≠ 15 → ocA K (fn d) (nx d) ≠ 19 → tkn K (ocA K (fn d) (nx d)) (agA K (fn d) (nx d)) = 0 → ptn K (ocA K (fn d) (nx d)) (agA K (fn d) (nx d)) = 1 → Outc K A d fn (cPut B sz x) := by
    intro x n15 n19 z1 z2
    unfold cPut
    by_cases c : sz = 40
    · rw [if_pos c]; exact trap B 13 (by omega) (by omega) tB
    · rw [if_neg c]
      exact norm _ (sz + 1) n15 n19 (sF.put _ _ _) (put_6 _ _ _) (by omega) (by rw [z1, z2]; omega) (by rw [p78 _ _ _ _ (by decide), b78]) (by rw [p78 _ _ _ _ (by decide), b78])
  have branch : (ocA K (fn d) (nx d) = 15 ∨ ocA K (fn d) (nx d) = 16) → ∀ (C : vS), sF B C → C.1 17 6 = nI (sz - tkn K (ocA K (fn d) (nx d)) (agA K (fn d) (nx d))) → (∀ j, (j = 7 ∨ j = 8) → C.1 17 j = A.1 17 j) → Outc K A d fn (0, sv C (19 + d) 2 (nI (tgt K (fn d) (nx d) (nt (agA K (fn d) (nx d)))))) := by
    intro q C g h6 e78
    have hlen := sts_len K (fn d) (nx d)
    have hl24 := (hA.2 (fn d) (by omega)).1.2
    obtain ⟨j, hj, e⟩ := arg_15 q (by omega) hok
    have hh := hbr q
    rw [e, nt_nI (by omega)] at hh ⊢
    have gg : sF (sv A (19 + d) 2 (nI (tgt K (fn d) (nx d) j))) (sv C (19 + d) 2 (nI (tgt K (fn d) (nx d) j))) := sF_over (by omega) (gB.tr g)
    have h6' : (sv C (19 + d) 2 (nI (tgt K (fn d) (nx d) j))).1 17 6 = nI (sz - tkn K (ocA K (fn d) (nx d)) (agA K (fn d) (nx d))) := by rw [sv_ne _ (by omega)]; exact h6
    refine Or.inl ⟨rfl, by show (sv C _ _ _).1 17 7 = _; rw [sv_ne _ (by omega)]; exact e78 7 (by decide), by show (sv C _ _ _).1 17 8 = _; rw [sv_ne _ (by omega)]; exact e78 8 (by decide), d + 1, _, fn, va_up nx d (tgt K (fn d) (nx d) j), by omega, RI_op hR0 gg h6' (by omega) ?_ ?_⟩
    · by_cases c : j < (opn K (fn d) (nx d)).length
      · exact (tgt_ok hV hi c).1
      · unfold tgt; rw [if_neg c]; exact Nat.le_refl _
    · by_cases c : j < (opn K (fn d) (nx d)).length
      · obtain ⟨-, q2, q3, -⟩ := tgt_ok hV hi c
        refine top_ok hV q3 ?_
        rw [q2]
        have e2 : (sts K (fn d) (nx d)).1.getD j (gvA K (fn d)) = (sts K (fn d) (nx d)).1.getD j 0 := by
          rw [opn_len] at c
          simp [List.getD, List.getElem?_eq_getElem c]
        rw [e] at htk
        rw [e2] at hh
        rw [e]
        omega
      · have e2 : tgt K (fn d) (nx d) j = lnA K (fn d) := by unfold tgt; rw [if_neg c]
        rw [e2]
        refine ⟨fun q => absurd q (by omega), fun _ => ?_⟩
        have e3 : (sts K (fn d) (nx d)).1.getD j (gvA K (fn d)) = gvA K (fn d) := by
          rw [opn_len] at c
          simp [List.getD, List.getElem?_eq_none (show (sts K (fn d) (nx d)).1.length ≤ j by omega)]
        rw [e] at htk
        rw [e3] at hh
        rw [e]
        omega
  rcases ops20 ho with eo | eo | eo | eo | eo | eo | eo | eo | eo | eo | eo | eo | eo | eo | eo | eo | eo | eo | eo | eo
  · rw [if_pos (by omega)]
    have z1 : tkn K (ocA K (fn d) (nx d)) (agA K (fn d) (nx d)) = 0 := by rw [eo]; rfl
    have z2 : ptn K (ocA K (fn d) (nx d)) (agA K (fn d) (nx d)) = 1 := by rw [eo]; rfl
    rw [z1] at htk
    exact put _ (by omega) (by omega) z1 z2
  · rw [if_neg (by omega), if_pos (by omega)]
    have z1 : tkn K (ocA K (fn d) (nx d)) (agA K (fn d) (nx d)) = 0 := by rw [eo]; rfl
    have z2 : ptn K (ocA K (fn d) (nx d)) (agA K (fn d) (nx d)) = 1 := by rw [eo]; rfl
    rw [z1] at htk
    exact put _ (by omega) (by omega) z1 z2
  · rw [if_neg (by omega), if_neg (by omega), if_pos (by omega)]
    have z1 : tkn K (ocA K (fn d) (nx d)) (agA K (fn d) (nx d)) = 1 := by rw [eo]; rfl
    have z2 : ptn K (ocA K (fn d) (nx d)) (agA K (fn d) (nx d)) = 0 := by rw [eo]; rfl
    rw [z1] at htk
    exact norm _ (sz - 1) (by omega) (by omega) ((sF.take _ _).tr (sF.sv _ _ (by omega) (Or.inl (by omega)))) (by rw [sv_ne _ (by omega)]; exact take_6 _ _) (by omega) (by omega) (by rw [sv_ne _ (by omega), t78 _ _ _ (by decide), b78]) (by rw [sv_ne _ (by omega), t78 _ _ _ (by decide), b78])
  · rw [if_neg (by omega), if_neg (by omega), if_neg (by omega), if_pos (by omega)]
    have z1 : tkn K (ocA K (fn d) (nx d)) (agA K (fn d) (nx d)) = 2 := by rw [eo]; rfl
    have z2 : ptn K (ocA K (fn d) (nx d)) (agA K (fn d) (nx d)) = 1 := by rw [eo]; rfl
    rw [z1] at htk
    unfold cCal
    split
    · exact trap _ 10 (by omega) (by omega) ((tB.tr (sT.take _ _)).tr (sT.take _ _))
    · exact norm _ (sz - 2 + 1) (by omega) (by omega) (((sF.take _ _).tr (sF.take _ _)).tr (sF.put _ _ _)) (put_6 _ _ _) (by omega) (by omega) (by rw [p78 _ _ _ _ (by decide), t78 _ _ _ (by decide), t78 _ _ _ (by decide), b78]) (by rw [p78 _ _ _ _ (by decide), t78 _ _ _ (by decide), t78 _ _ _ (by decide), b78])
  · rw [if_neg (by omega), if_neg (by omega), if_neg (by omega), if_pos (by omega)]
    have z1 : tkn K (ocA K (fn d) (nx d)) (agA K (fn d) (nx d)) = 2 := by rw [eo]; rfl
    have z2 : ptn K (ocA K (fn d) (nx d)) (agA K (fn d) (nx d)) = 1 := by rw [eo]; rfl
    rw [z1] at htk
    unfold cCal
    split
    · exact trap _ 10 (by omega) (by omega) ((tB.tr (sT.take _ _)).tr (sT.take _ _))
    · exact norm _ (sz - 2 + 1) (by omega) (by omega) (((sF.take _ _).tr (sF.take _ _)).tr (sF.put _ _ _)) (put_6 _ _ _) (by omega) (by omega) (by rw [p78 _ _ _ _ (by decide), t78 _ _ _ (by decide), t78 _ _ _ (by decide), b78]) (by rw [p78 _ _ _ _ (by decide), t78 _ _ _ (by decide), t78 _ _ _ (by decide), b78])
  · rw [if_neg (by omega), if_neg (by omega), if_neg (by omega), if_pos (by omega)]
    have z1 : tkn K (ocA K (fn d) (nx d)) (agA K (fn d) (nx d)) = 2 := by rw [eo]; rfl
    have z2 : ptn K (ocA K (fn d) (nx d)) (agA K (fn d) (nx d)) = 1 := by rw [eo]; rfl
    rw [z1] at htk
    unfold cCal
    split
    · exact trap _ 10 (by omega) (by omega) ((tB.tr (sT.take _ _)).tr (sT.take _ _))
    · exact norm _ (sz - 2 + 1) (by omega) (by omega) (((sF.take _ _).tr (sF.take _ _)).tr (sF.put _ _ _)) (put_6 _ _ _) (by omega) (by omega) (by rw [p78 _ _ _ _ (by decide), t78 _ _ _ (by decide), t78 _ _ _ (by decide), b78]) (by rw [p78 _ _ _ _ (by decide), t78 _ _ _ (by decide), t78 _ _ _ (by decide), b78])
  · rw [if_neg (by omega), if_neg (by omega), if_neg (by omega), if_pos (by omega)]
    have z1 : tkn K (ocA K (fn d) (nx d)) (agA K (fn d) (nx d)) = 2 := by rw [eo]; rfl
    have z2 : ptn K (ocA K (fn d) (nx d)) (agA K (fn d) (nx d)) = 1 := by rw [eo]; rfl
    rw [z1] at htk
    unfold cCal
    split
    · exact trap _ 10 (by omega) (by omega) ((tB.tr (sT.take _ _)).tr (sT.take _ _))
    · exact norm _ (sz - 2 + 1) (by omega) (by omega) (((sF.take _ _).tr (sF.take _ _)).tr (sF.put _ _ _)) (put_6 _ _ _) (by omega) (by omega) (by rw [p78 _ _ _ _ (by decide), t78 _ _ _ (by decide), t78 _ _ _ (by decide), b78]) (by rw [p78 _ _ _ _ (by decide), t78 _ _ _ (by decide), t78 _ _ _ (by decide), b78])
  · rw [if_neg (by omega), if_neg (by omega), if_neg (by omega), if_pos (by omega)]
    have z1 : tkn K (ocA K (fn d) (nx d)) (agA K (fn d) (nx d)) = 2 := by rw [eo]; rfl
    have z2 : ptn K (ocA K (fn d) (nx d)) (agA K (fn d) (nx d)) = 1 := by rw [eo]; rfl
    rw [z1] at htk
    unfold cCal
    split
    · exact trap _ 10 (by omega) (by omega) ((tB.tr (sT.take _ _)).tr (sT.take _ _))
    · exact norm _ (sz - 2 + 1) (by omega) (by omega) (((sF.take _ _).tr (sF.take _ _)).tr (sF.put _ _ _)) (put_6 _ _ _) (by omega) (by omega) (by rw [p78 _ _ _ _ (by decide), t78 _ _ _ (by decide), t78 _ _ _ (by decide), b78]) (by rw [p78 _ _ _ _ (by decide), t78 _ _ _ (by decide), t78 _ _ _ (by decide), b78])
  · rw [if_neg (by omega), if_neg (by omega), if_neg (by omega), if_pos (by omega)]
    have z1 : tkn K (ocA K (fn d) (nx d)) (agA K (fn d) (nx d)) = 2 := by rw [eo]; rfl
    have z2 : ptn K (ocA K (fn d) (nx d)) (agA K (fn d) (nx d)) = 1 := by rw [eo]; rfl
    rw [z1] at htk
    unfold cCal
    split
    · exact trap _ 10 (by omega) (by omega) ((tB.tr (sT.take _ _)).tr (sT.take _ _))
    · exact norm _ (sz - 2 + 1) (by omega) (by omega) (((sF.take _ _).tr (sF.take _ _)).tr (sF.put _ _ _)) (put_6 _ _ _) (by omega) (by omega) (by rw [p78 _ _ _ _ (by decide), t78 _ _ _ (by decide), t78 _ _ _ (by decide), b78]) (by rw [p78 _ _ _ _ (by decide), t78 _ _ _ (by decide), t78 _ _ _ (by decide), b78])
  · rw [if_neg (by omega), if_neg (by omega), if_neg (by omega), if_neg (by omega), if_pos (by omega)]
    have z1 : tkn K (ocA K (fn d) (nx d)) (agA K (fn d) (nx d)) = 1 := by rw [eo]; rfl
    have z2 : ptn K (ocA K (fn d) (nx d)) (agA K (fn d) (nx d)) = 0 := by rw [eo]; rfl
    rw [z1] at htk
    exact norm _ (sz - 1) (by omega) (by omega) (sF.take _ _) (take_6 _ _) (by omega) (by omega) (by rw [t78 _ _ _ (by decide), b78]) (by rw [t78 _ _ _ (by decide), b78])
  · rw [if_neg (by omega), if_neg (by omega), if_neg (by omega), if_neg (by omega), if_neg (by omega), if_pos (by omega)]
    have z1 : tkn K (ocA K (fn d) (nx d)) (agA K (fn d) (nx d)) = 1 := by rw [eo]; rfl
    have z2 : ptn K (ocA K (fn d) (nx d)) (agA K (fn d) (nx d)) = 1 := by rw [eo]; rfl
    rw [z1] at htk
    unfold cLoad
    split
    · exact trap _ 11 (by omega) (by omega) (tB.tr (sT.take _ _))
    · exact norm _ (sz - 1 + 1) (by omega) (by omega) ((sF.take _ _).tr (sF.put _ _ _)) (put_6 _ _ _) (by omega) (by omega) (by rw [p78 _ _ _ _ (by decide), t78 _ _ _ (by decide), b78]) (by rw [p78 _ _ _ _ (by decide), t78 _ _ _ (by decide), b78])
  · rw [if_neg (by omega), if_neg (by omega), if_neg (by omega), if_neg (by omega), if_neg (by omega), if_neg (by omega), if_pos (by omega)]
    have z1 : tkn K (ocA K (fn d) (nx d)) (agA K (fn d) (nx d)) = 2 := by rw [eo]; rfl
    have z2 : ptn K (ocA K (fn d) (nx d)) (agA K (fn d) (nx d)) = 0 := by rw [eo]; rfl
    rw [z1] at htk
    unfold cStore
    split
    · exact trap _ 11 (by omega) (by omega) ((tB.tr (sT.take _ _)).tr (sT.take _ _))
    · exact norm _ (sz - 2) (by omega) (by omega) (((sF.take _ _).tr (sF.take _ _)).tr (sF.sv _ _ (by decide) (Or.inl (by decide)))) (by rw [sv_ne _ (by decide)]; exact take_6 _ _) (by omega) (by omega) (by rw [sv_ne _ (by decide), t78 _ _ _ (by decide), t78 _ _ _ (by decide), b78]) (by rw [sv_ne _ (by decide), t78 _ _ _ (by decide), t78 _ _ _ (by decide), b78])
  · rw [if_neg (by omega), if_neg (by omega), if_neg (by omega), if_neg (by omega), if_neg (by omega), if_neg (by omega), if_neg (by omega), if_pos (by omega)]
    have z1 : tkn K (ocA K (fn d) (nx d)) (agA K (fn d) (nx d)) = 0 := by rw [eo]; rfl
    have z2 : ptn K (ocA K (fn d) (nx d)) (agA K (fn d) (nx d)) = 0 := by rw [eo]; rfl
    rw [z1] at htk
    exact norm _ sz (by omega) (by omega) (sF.rf _) b6 (by omega) (by omega) (b78 7) (b78 8)
  · rw [if_neg (by omega), if_neg (by omega), if_neg (by omega), if_neg (by omega), if_neg (by omega), if_neg (by omega), if_neg (by omega), if_pos (by omega)]
    have z1 : tkn K (ocA K (fn d) (nx d)) (agA K (fn d) (nx d)) = 0 := by rw [eo]; rfl
    have z2 : ptn K (ocA K (fn d) (nx d)) (agA K (fn d) (nx d)) = 0 := by rw [eo]; rfl
    rw [z1] at htk
    exact norm _ sz (by omega) (by omega) (sF.rf _) b6 (by omega) (by omega) (b78 7) (b78 8)
  · rw [if_neg (by omega), if_neg (by omega), if_neg (by omega), if_neg (by omega), if_neg (by omega), if_neg (by omega), if_neg (by omega), if_pos (by omega)]
    have z1 : tkn K (ocA K (fn d) (nx d)) (agA K (fn d) (nx d)) = 0 := by rw [eo]; rfl
    have z2 : ptn K (ocA K (fn d) (nx d)) (agA K (fn d) (nx d)) = 0 := by rw [eo]; rfl
    rw [z1] at htk
    exact norm _ sz (by omega) (by omega) (sF.rf _) b6 (by omega) (by omega) (b78 7) (b78 8)
  · rw [if_neg (by omega), if_neg (by omega), if_neg (by omega), if_neg (by omega), if_neg (by omega), if_neg (by omega), if_neg (by omega), if_neg (by omega), if_pos (by omega)]
    have z1 : tkn K (ocA K (fn d) (nx d)) (agA K (fn d) (nx d)) = 0 := by rw [eo]; rfl
    have z2 : ptn K (ocA K (fn d) (nx d)) (agA K (fn d) (nx d)) = 0 := by rw [eo]; rfl
    rw [z1] at htk
    exact branch (by omega) B (sF.rf _) (by rw [z1]; exact b6) (fun j _ => b78 j)
  · rw [if_neg (by omega), if_neg (by omega), if_neg (by omega), if_neg (by omega), if_neg (by omega), if_neg (by omega), if_neg (by omega), if_neg (by omega), if_neg (by omega), if_pos (by omega)]
    have z1 : tkn K (ocA K (fn d) (nx d)) (agA K (fn d) (nx d)) = 1 := by rw [eo]; rfl
    have z2 : ptn K (ocA K (fn d) (nx d)) (agA K (fn d) (nx d)) = 0 := by rw [eo]; rfl
    rw [z1] at htk
    split
    · exact norm _ (sz - 1) (by omega) (by omega) (sF.take _ _) (take_6 _ _) (by omega) (by omega) (by rw [t78 _ _ _ (by decide), b78]) (by rw [t78 _ _ _ (by decide), b78])
    · exact branch (by omega) _ (sF.take _ _) (by rw [z1]; exact take_6 _ _) (fun j hj => by rw [t78 _ _ _ hj, b78])
  · rw [if_neg (by omega), if_neg (by omega), if_neg (by omega), if_neg (by omega), if_neg (by omega), if_neg (by omega), if_neg (by omega), if_neg (by omega), if_neg (by omega), if_neg (by omega), if_pos (by omega)]
    rw [eo] at hok
    obtain ⟨j, hj, e⟩ := arg_17 hn h4 hok
    have z1 : tkn K (ocA K (fn d) (nx d)) (agA K (fn d) (nx d)) = tkA K j := by rw [eo]; show tkA K (nt _) = _; rw [e, nt_nI (by omega)]
    have z2 : ptn K (ocA K (fn d) (nx d)) (agA K (fn d) (nx d)) = gvA K j := by rw [eo]; show gvA K (nt _) = _; rw [e, nt_nI (by omega)]
    obtain ⟨f1, f2⟩ := hnorm (by omega) (by omega)
    rw [z1] at htk f1
    rw [z2] at f1
    rw [e, nt_nI (by omega)]
    unfold cCall
    split
    · exact trap _ 12 (by omega) (by omega) tB
    · rw [← hB]
      refine Or.inl ⟨rfl, ?_, ?_, d + 1 + 1, sz - tkA K j, _, _, by omega, RI_call hA (hVl j hj) hR0 (by omega) hj (by omega) f2 (by omega) (by rw [f1]; omega) (by rw [f1]; omega)⟩
      · show (vArgs _ _ _ _).1 17 7 = _
        rw [vArgs_17 _ _ _ _ _ (by omega) (by decide), vEnter_17 _ _ (by decide), sv_ne _ (by omega)]
      · show (vArgs _ _ _ _).1 17 8 = _
        rw [vArgs_17 _ _ _ _ _ (by omega) (by decide), vEnter_17 _ _ (by decide), sv_ne _ (by omega)]
  · rw [if_neg (by omega), if_neg (by omega), if_neg (by omega), if_neg (by omega), if_neg (by omega), if_neg (by omega), if_neg (by omega), if_neg (by omega), if_neg (by omega), if_neg (by omega), if_neg (by omega), if_pos (by omega)]
    have z1 : tkn K (ocA K (fn d) (nx d)) (agA K (fn d) (nx d)) = 1 := by rw [eo]; rfl
    have z2 : ptn K (ocA K (fn d) (nx d)) (agA K (fn d) (nx d)) = 1 := by rw [eo]; rfl
    rw [z1] at htk
    rw [eo] at hok
    obtain ⟨j, hj, e⟩ := arg_18 hok
    obtain ⟨f1, f2⟩ := hnorm (by omega) (by omega)
    rw [z1, z2] at f1
    rw [e, nt_nI (by omega)]
    unfold cAsk
    split
    · exact trap _ 14 (by omega) (by omega) tB
    · refine Or.inr (Or.inl ⟨rfl, sz - 1, va_up nx d (nx d + 1), j, RI_op hR0 (gB.tr (((sF.take _ _).tr (sF.sv _ _ (by decide) (by decide))).tr (sF.sv _ _ (by decide) (by decide)))) ?_ (by omega) (by omega) (top_ok hV f2 (by rw [f1]; omega)), by omega, hj, sv_eq _ _ _ _⟩)
      rw [sv_at _ (by decide), sv_at _ (by decide)]
      exact take_6 _ _
  · rw [if_neg (by omega), if_neg (by omega), if_neg (by omega), if_neg (by omega), if_neg (by omega), if_neg (by omega), if_neg (by omega), if_neg (by omega), if_neg (by omega), if_neg (by omega), if_neg (by omega), if_neg (by omega)]
    have z1 : tkn K (ocA K (fn d) (nx d)) (agA K (fn d) (nx d)) = 0 := by rw [eo]; rfl
    have z2 : ptn K (ocA K (fn d) (nx d)) (agA K (fn d) (nx d)) = 0 := by rw [eo]; rfl
    rw [z1] at htk
    rw [← hB, sv_sv]
    refine Or.inl ⟨rfl, ?_, ?_, d + 1, sz, fn, va_up nx d (lnA K (fn d)), by omega, RI_op hR0 (sF.rf _) (by rw [sv_ne _ (by omega)]; exact r4) r5 (Nat.le_refl _) ⟨fun q => absurd q (by omega), fun _ => ?_⟩⟩
    · show (sv _ _ _ _).1 17 7 = _
      rw [sv_ne _ (by omega)]
    · show (sv _ _ _ _).1 17 8 = _
      rw [sv_ne _ (by omega)]
    · have := hret eo
      omega
