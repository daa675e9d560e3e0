/-! PURE PART: the reference's examine, checkOne, check -/
/-- what the reference's check leaves as it was -/
def sM (V V1 : vS) : Prop := (∀ c, c ≠ 34 → c ≠ 41 → c ≠ 42 → V1.1 c = V.1 c) ∧ V1.2 = V.2 ∧ ∀ j, j ≠ 7 → j ≠ 11 → j ≠ 12 → j ≠ 13 → V1.1 34 j = V.1 34 j
theorem sM.rf (V : vS) : sM V V := ⟨fun _ _ _ _ => rfl, rfl, fun _ _ _ _ _ => rfl⟩
theorem sM.tr {U V W : vS} (h1 : sM U V) (h2 : sM V W) : sM U W := ⟨fun c a b d => (h2.1 c a b d).trans (h1.1 c a b d), h2.2.1.trans h1.2.1, fun j a b d e => (h2.2.2 j a b d e).trans (h1.2.2 j a b d e)⟩
theorem sM.p34 (V : vS) {j : Nat} (x : Int32) (h : j = 7 ∨ j = 11 ∨ j = 12 ∨ j = 13) : sM V (sv V 34 j x) := ⟨fun c a _ _ => sv_ne V a, rfl, fun i a b d e => sv_at V (by omega)⟩
theorem sM.p41 (V : vS) (j : Nat) (x : Int32) : sM V (sv V 41 j x) := ⟨fun c _ b _ => sv_ne V b, rfl, fun i a b d e => by rw [sv_ne V (by decide)]⟩
theorem sM.p42 (V : vS) (j : Nat) (x : Int32) : sM V (sv V 42 j x) := ⟨fun c _ _ d => sv_ne V d, rfl, fun i a b d e => by rw [sv_ne V (by decide)]⟩
theorem RK.sM {V V1 A : vS} (h : RK V A) (g : sM V V1) : RK V1 A := h.of (g.2.2 6 (by decide) (by decide) (by decide) (by decide)) (fun c a b => g.1 c (by omega) (by omega) (by omega))
theorem e_b305 {k : Int32 → vS → Prop} {V : vS} {o : Nat} (ho : o < 20) (h : k 0 (sv V 34 13 (if o = 15 ∨ o = 19 then 1 else 0))) : p_Mo_examine_b305 k V (nI o) := by
  unfold p_Mo_examine_b305 p_Mo_examine_b318 p_Mo_examine_b323
  refine ⟨fun c => ⟨by decide, ?_⟩, fun c => ⟨fun c2 => ⟨by decide, ?_⟩, fun c2 => ⟨by decide, ?_⟩⟩⟩
  · rintro _ rfl
    rw [if_pos (Or.inl ((o_eq (c := 15) ho (by omega)).mp c))] at h
    exact h
  · rintro _ rfl
    rw [if_pos (Or.inr ((o_eq (c := 19) ho (by omega)).mp c2))] at h
    exact h
  · rintro _ rfl
    rw [if_neg (not_or.mpr ⟨fun q => c ((o_eq (c := 15) ho (by omega)).mpr q), fun q => c2 ((o_eq (c := 19) ho (by omega)).mpr q)⟩)] at h
    exact h
theorem e_b244 {k : Int32 → vS → Prop} {A V W : vS} {f o i : Nat} {a : Int32} {bs : List Nat} {hh : Nat} {dd : Bool} (hA : Cwf A) (hn : 0 < nFA A) (hR : RK V A) (g : sM V W) (hM : MR V (bs, hh, dd)) (h12 : W.1 34 12 = nI (hh - tkn A o a)) (h11 : W.1 34 11 = nI bs.length) (h42 : W.1 42 = V.1 42) (hl : bs.length ≤ i) (hh24 : hh ≤ i) (hi : i < 24) (ho : o < 20) (h14 : o ≠ 14) (hok : aOk A f bs.length o a = true)
    (h : ∀ V1 : vS, sM V V1 → MR V1 (nxs A o a (bs, hh, dd)) → k 0 V1) : p_Mo_examine_b244 k W (nI i) (nI o) a := by
  obtain ⟨m1, m2, m3, m4⟩ := hM
  dsimp only at m1 m2 m3 m4
  unfold p_Mo_examine_b244
  refine e_Mput hA hn (hR.sM g) ho hok ?_
  rintro _ rfl
  rw [h12, nI_add]
  generalize hW1 : sv W 34 12 (nI (hh - tkn A o a + ptn A o a)) = W1
  have g1 : sM V W1 := by rw [← hW1]; exact g.tr (sM.p34 _ _ (by decide))
  have w12 : W1.1 34 12 = nI (hh - tkn A o a + ptn A o a) := by rw [← hW1, sv_eq]
  have w11 : W1.1 34 11 = nI bs.length := by rw [← hW1, sv_at _ (by decide)]; exact h11
  have w42 : W1.1 42 = V.1 42 := by rw [← hW1, sv_ne _ (by decide)]; exact h42
  unfold nxs at h
  dsimp only at h
  have hopen : (o = 12 ∨ o = 13) → p_Mo_examine_b272 k W1 (nI i) (nI o) := by
    intro d
    rw [if_pos d] at h
    unfold p_Mo_examine_b272
    rw [w11, nt_nI (by omega)]
    refine ⟨vin (by omega), ?_⟩
    rintro _ rfl
    have e1 : (sv W1 41 bs.length (nI i)).1 34 11 = nI bs.length := by rw [sv_ne _ (by decide)]; exact w11
    have e2 : (sv W1 41 bs.length (nI i)).1 34 12 = nI (hh - tkn A o a + ptn A o a) := by rw [sv_ne _ (by decide)]; exact w12
    rw [e1, e2, nt_nI (by omega)]
    refine ⟨vin (by omega), ?_⟩
    rintro _ rfl _ rfl
    have e3 : (sv (sv W1 41 bs.length (nI i)) 42 bs.length (nI (hh - tkn A o a + ptn A o a))).1 34 11 = nI bs.length := by rw [sv_ne _ (by decide)]; exact e1
    rw [e3, nI_1]
    refine e_b305 ho (h _ ?_ ?_)
    · exact ((((g1.tr (sM.p41 _ _ _)).tr (sM.p42 _ _ _)).tr (sM.p34 _ _ (by decide))).tr (sM.p34 _ _ (by decide)))
    · refine ⟨?_, ?_, ?_, fun j hj => ?_⟩
      · rw [sv_at _ (by decide), sv_eq]; rfl
      · rw [sv_at _ (by decide), sv_at _ (by decide), sv_ne _ (by decide)]; exact e2
      · rw [sv_eq, if_neg (by omega)]; rfl
      · simp only [List.length_cons] at hj ⊢
        rw [sv_ne _ (by decide), sv_ne _ (by decide)]
        cases j with
        | zero =>
          rw [show bs.length + 1 - 1 - 0 = bs.length by omega, sv_eq]
          rfl
        | succ j =>
          rw [sv_at _ (show bs.length + 1 - 1 - (j + 1) ≠ bs.length by omega), sv_ne _ (by decide), w42, show bs.length + 1 - 1 - (j + 1) = bs.length - 1 - j by omega, m4 j (by omega)]
          simp
  have hplain : ¬ (o = 12 ∨ o = 13) → p_Mo_examine_b305 k W1 (nI o) := by
    intro d
    rw [if_neg d, if_neg h14] at h
    refine e_b305 ho (h _ (g1.tr (sM.p34 _ _ (by decide))) ⟨?_, ?_, ?_, fun j hj => ?_⟩)
    · rw [sv_at _ (by decide)]; exact w11
    · rw [sv_at _ (by decide)]; exact w12
    · rw [sv_eq]
      by_cases c : o = 15 ∨ o = 19
      · rw [if_pos c]; simp [c]
      · rw [if_neg c]; simp [c]
    · rw [sv_ne _ (by decide), w42]; exact m4 j hj
  refine ⟨fun c => hopen (Or.inl ((o_eq (c := 12) ho (by omega)).mp c)), fun c => ⟨fun c2 => hopen (Or.inr ((o_eq (c := 13) ho (by omega)).mp c2)), fun c2 => hplain (not_or.mpr ⟨fun q => c ((o_eq (c := 12) ho (by omega)).mpr q), fun q => c2 ((o_eq (c := 13) ho (by omega)).mpr q)⟩)⟩⟩
theorem e_examine {k : Int32 → vS → Prop} {A V : vS} {f i : Nat} {s : cS} (hA : Cwf A) (hn : 0 < nFA A) (hf : f < 4) (hR : RK V A) (hM : MR V s) (hI : SI i s) (hi : i < 24)
    (h : ∀ V1 : vS, sM V V1 → (srt A f (ocA A f i) (agA A f i) s = 0 → MR V1 (nxs A (ocA A f i) (agA A f i) s)) → k (nI (srt A f (ocA A f i) (agA A f i) s)) V1) : p_Mo_examine k V (nI f) (nI i) := by
  obtain ⟨hoc, ho⟩ := (hA.2 f hf).2.2.2.2 i hi
  obtain ⟨hgv, hgv1⟩ := (hA.2 f hf).2.2.1
  obtain ⟨-, r4, -, -, r6⟩ := hR.2 f hf
  obtain ⟨r39, r40⟩ := r6 i hi
  have ei : nI f * 24 + nI i = nI (f * 24 + i) := by rw [k24, pk_mul, nI_add]
  have e39 : V.1 39 (f * 24 + i) = nI (ocA A f i) := by rw [r39, hoc]
  have e40 : V.1 40 (f * 24 + i) = agA A f i := r40
  have e36 : V.1 36 f = nI (gvA A f) := by rw [r4, hgv]
  obtain ⟨bs, hh, dd⟩ := s
  have hM0 := hM
  obtain ⟨m1, m2, m3, m4⟩ := hM
  obtain ⟨i1, i2, i3, i4⟩ := hI
  dsimp only at m1 m2 m3 m4 i1 i2 i3 i4
  have hall : ∀ b ∈ bs, b ≤ hh := by
    intro b hb
    cases bs with
    | nil => cases hb
    | cons x l =>
      rcases List.mem_cons.mp hb with e | e
      · rw [e]; simpa using i3
      · have := (List.pairwise_cons.mp i4).1 b e
        simp at i3
        omega
  generalize ocA A f i = o at *
  generalize agA A f i = a at *
  unfold p_Mo_examine
  rw [ei, nt_nI (by omega), e39, e40]
  refine ⟨vin (by omega), ?_⟩
  rintro _ rfl
  refine ⟨vin (by omega), ?_⟩
  intro y4 ey4
  rw [ey4]
  unfold srt at h
  dsimp only at h
  by_cases c1 : dd = true ∧ o ≠ 14
  · rw [if_pos c1] at h
    rw [m3, if_pos c1.1]
    exact ⟨fun c => absurd c (by decide), fun _ => ⟨fun c => absurd ((o_eq (c := 14) ho (by omega)).mp c) c1.2, fun _ => h V (sM.rf V) (fun q => absurd q (by decide))⟩⟩
  rw [if_neg c1] at h
  have hb40 : p_Mo_examine_b40 k V (nI f) (nI i) (nI o) a := by
    unfold p_Mo_examine_b40
    refine e_Mbad hA hf hR m1 ho ?_
    by_cases c2 : aOk A f bs.length o a = true
    · rw [if_pos c2]
      rw [if_neg (by rw [c2]; decide)] at h
      refine ⟨fun _ => ?_, fun q => absurd rfl q⟩
      have ht : tkn A o a ≤ 2 := by
        unfold tkn
        by_cases c : o = 17
        · subst c
          rw [if_pos rfl]
          obtain ⟨j, hj, e⟩ := arg_17 hn hA.1.2 c2
          rw [e, nt_nI (by have := hA.1.2; omega)]
          exact (hA.2 j (by have := hA.1.2; omega)).2.1.2
        · rw [if_neg c]; exact tkN_le ho
      have hb75 : p_Mo_examine_b75 k V (nI f) (nI i) (nI o) a (nI (bs.headD 0)) := by
        unfold p_Mo_examine_b75
        refine e_Mtaken hA hn hR ho c2 ?_
        have e : V.1 34 12 - nI (bs.headD 0) = nI (hh - bs.headD 0) := by rw [m2, pk_sub i3]
        rw [e, le_iff]
        refine ⟨fun c3 => ?_, fun c3 => ?_⟩
        · rw [if_neg (by omega)] at h
          refine ⟨fun c4 => ?_, fun c4 => ?_⟩
          · have c4' : o = 14 := (o_eq (c := 14) ho (by omega)).mp c4
            have h3 : (bs = [] ∨ (dd = false ∧ hh ≠ bs.headD 0)) → p_Mo_examine_b125 k V := by
              intro q
              rw [if_pos ⟨c4', q⟩] at h
              exact h V (sM.rf V) (fun q => absurd q (by decide))
            have h127 : ¬ (bs = [] ∨ (dd = false ∧ hh ≠ bs.headD 0)) → p_Mo_examine_b127 k V (nI (bs.headD 0)) := by
              intro q
              rw [if_neg (fun z => q z.2), if_neg (by omega)] at h
              obtain ⟨x, l, rfl⟩ : ∃ x l, bs = x :: l := by
                cases bs with
                | nil => exact absurd (Or.inl rfl) q
                | cons x l => exact ⟨x, l, rfl⟩
              unfold p_Mo_examine_b127
              rintro _ rfl _ rfl _ rfl
              have e1 : (sv V 34 12 (nI ((x :: l).headD 0))).1 34 11 - 1 = nI l.length := by
                rw [sv_at _ (by decide), m1, List.length_cons, nI_pred]
              rw [e1]
              refine h _ (((sM.p34 _ _ (by decide)).tr (sM.p34 _ _ (by decide))).tr (sM.p34 _ _ (by decide))) (fun _ => ?_)
              unfold nxs
              rw [if_neg (by omega), if_pos c4']
              refine ⟨?_, ?_, ?_, fun j hj => ?_⟩
              · rw [sv_at _ (by decide), sv_eq]; rfl
              · rw [sv_at _ (by decide), sv_at _ (by decide), sv_eq]
              · rw [sv_eq]; rfl
              · rw [sv_ne _ (by decide), sv_ne _ (by decide), sv_ne _ (by decide)]
                simp only [List.tail_cons] at hj ⊢
                have := m4 (j + 1) (by simp only [List.length_cons]; omega)
                rw [List.length_cons, show l.length + 1 - 1 - (j + 1) = l.length - 1 - j by omega] at this
                rw [this]
                simp
            rw [m1, m2, m3, k0, eq_iff, eq_iff]
            refine ⟨fun c5 => h3 (Or.inl (List.length_eq_zero_iff.mp c5)), fun c5 => ⟨fun c6 => ⟨fun c7 => h127 ?_, fun c7 => h3 (Or.inr ⟨?_, c7⟩)⟩, fun c6 => h127 ?_⟩⟩
            · rintro (q | q)
              · exact c5 (by rw [q]; rfl)
              · exact q.2 c7
            · cases dd with
              | false => rfl
              | true => rw [if_pos rfl] at c6; exact absurd c6 (by decide)
            · rintro (q | q)
              · exact c5 (by rw [q]; rfl)
              · rw [q.1] at c6; exact absurd rfl c6
          · have c4' : o ≠ 14 := fun q => c4 ((o_eq (c := 14) ho (by omega)).mpr q)
            rw [if_neg (fun z => c4' z.1)] at h
            refine e_Mtaken hA hn hR ho c2 ?_
            rintro _ rfl
            rw [m2, pk_sub (by omega)]
            generalize hW : sv V 34 12 (nI (hh - tkn A o a)) = W
            have gW : sM V W := by rw [← hW]; exact sM.p34 _ _ (by decide)
            have w12 : W.1 34 12 = nI (hh - tkn A o a) := by rw [← hW, sv_eq]
            have w11 : W.1 34 11 = nI bs.length := by rw [← hW, sv_at _ (by decide)]; exact m1
            have w42 : W.1 42 = V.1 42 := by rw [← hW, sv_ne _ (by decide)]
            have w36 : W.1 36 f = nI (gvA A f) := by rw [← hW, sv_ne _ (by decide)]; exact e36
            have h4 : ((o = 15 ∨ o = 16) ∧ hh - tkn A o a ≠ bs.getD (nt a) (gvA A f)) ∨ (o = 19 ∧ hh - tkn A o a ≠ gvA A f) → k 4 W := by
              intro q
              rw [if_pos q] at h
              exact h W gW (fun q => absurd q (by decide))
            have h244 : ¬ (((o = 15 ∨ o = 16) ∧ hh - tkn A o a ≠ bs.getD (nt a) (gvA A f)) ∨ (o = 19 ∧ hh - tkn A o a ≠ gvA A f)) → p_Mo_examine_b244 k W (nI i) (nI o) a := by
              intro q
              rw [if_neg q] at h
              exact e_b244 hA hn hR gW hM0 w12 w11 w42 i1 i2 hi ho c4' c2 (fun V1 g1 g2 => h V1 g1 (fun _ => g2))
            have h223 : ¬ ((o = 15 ∨ o = 16) ∧ hh - tkn A o a ≠ bs.getD (nt a) (gvA A f)) → p_Mo_examine_b223 k W (nI f) (nI i) (nI o) a := by
              intro q
              unfold p_Mo_examine_b223
              rw [nt_nI (by omega), w12, w36, eq_iff]
              refine ⟨fun c5 => ⟨vin hf, fun c6 => h244 ?_, fun c6 => h4 (Or.inr ⟨(o_eq (c := 19) ho (by omega)).mp c5, c6⟩)⟩, fun c5 => h244 ?_⟩
              · rintro (z | z)
                · exact q z
                · exact z.2 c6
              · rintro (z | z)
                · exact q z
                · exact c5 ((o_eq (c := 19) ho (by omega)).mpr z.1)
            have h178 : (o = 15 ∨ o = 16) → p_Mo_examine_b178 k W (nI f) (nI i) (nI o) a := by
              intro d
              obtain ⟨j, hj, rfl⟩ := arg_15 d (by omega) c2
              rw [nt_nI (by omega)] at h4 h223
              have h210 : ∀ x : Nat, x < 1000 → x = bs.getD j (gvA A f) → p_Mo_examine_b210 k W (nI f) (nI i) (nI o) (nI j) (nI x) := by
                intro x hx ex
                unfold p_Mo_examine_b210
                rw [w12, eq_iff]
                refine ⟨fun c5 => h223 (fun z => z.2 (by rw [← ex]; exact c5)), fun c5 => h4 (Or.inl ⟨d, by rw [← ex]; exact c5⟩)⟩
              unfold p_Mo_examine_b178
              rw [w11, eq_iff, nt_nI (show f < 2 ^ 31 by omega), w36]
              refine ⟨fun c5 => ⟨vin hf, h210 _ (by omega) ?_⟩, fun c5 => ?_⟩
              · simp [List.getD, List.getElem?_eq_none (show bs.length ≤ j by omega)]
              · have ej : nI bs.length - 1 - nI j = nI (bs.length - 1 - j) := by
                  rw [k1, pk_sub (by omega), pk_sub (by omega)]
                rw [ej, nt_nI (by omega), w42, m4 j (by omega)]
                have e3 : bs.getD j 0 = bs[j]'(by omega) := by simp [List.getD, List.getElem?_eq_getElem (show j < bs.length by omega)]
                refine ⟨vin (by omega), h210 _ ?_ ?_⟩
                · rw [e3]
                  have := hall _ (List.getElem_mem (show j < bs.length by omega))
                  omega
                · simp [List.getD, List.getElem?_eq_getElem (show j < bs.length by omega)]
            refine ⟨fun c5 => h178 (Or.inl ((o_eq (c := 15) ho (by omega)).mp c5)), fun c5 => ⟨fun c6 => h178 (Or.inr ((o_eq (c := 16) ho (by omega)).mp c6)), fun c6 => h223 ?_⟩⟩
            rintro ⟨z | z, -⟩
            · exact c5 ((o_eq (c := 15) ho (by omega)).mpr z)
            · exact c6 ((o_eq (c := 16) ho (by omega)).mpr z)
        · rw [if_pos (by omega)] at h
          exact h V (sM.rf V) (fun q => absurd q (by decide))
      rw [m1, k0, eq_iff]
      refine ⟨fun c5 => ?_, fun c5 => ?_⟩
      · have : bs = [] := List.length_eq_zero_iff.mp c5
        rw [this] at hb75
        exact hb75
      · obtain ⟨x, l, rfl⟩ : ∃ x l, bs = x :: l := by
          cases bs with
          | nil => exact absurd rfl c5
          | cons x l => exact ⟨x, l, rfl⟩
        have := m4 0 (by simp)
        rw [List.length_cons] at this ⊢
        rw [nI_pred, nt_nI (by simp only [List.length_cons] at i1; omega)]
        simp at this
        rw [this]
        exact ⟨vin (by simp only [List.length_cons] at i1; omega), by simpa using hb75⟩
    · rw [if_neg c2]
      rw [if_pos (by simpa using c2)] at h
      exact ⟨fun q => absurd q (by decide), fun _ => h V (sM.rf V) (fun q => absurd q (by decide))⟩
  refine ⟨fun _ => hb40, fun c => ⟨fun _ => hb40, fun c2 => ?_⟩⟩
  exfalso
  apply c1
  refine ⟨?_, fun q => c2 ((o_eq (c := 14) ho (by omega)).mpr q)⟩
  rw [m3] at c
  cases dd with
  | true => rfl
  | false => exact absurd rfl c
theorem e_coLoop {k : Int32 → vS → Prop} {A : vS} {f : Nat} (hA : Cwf A) (hn : 0 < nFA A) (hf : f < 4) : ∀ (m i : Nat) (V : vS) (s : cS), i + m = lnA A f → RK V A → MR V s → SI i s →
    (∀ V1 : vS, sM V V1 → V1.1 34 7 = nI (ckr A f m i s).1 → k (if (ckr A f m i s).1 = 0 then 0 else (-1000) - 100 * nI f - nI (ckr A f m i s).2) V1) → p_Mo_checkOne_b17 k (m + 1) V (nI f) (nI i) := by
  have hl24 := (hA.2 f hf).1.2
  have hln := (hA.2 f hf).1.1
  obtain ⟨hgv, hgv1⟩ := (hA.2 f hf).2.2.1
  intro m
  induction m with
  | zero =>
    intro i V s him hR hM hI h
    obtain ⟨-, r4, -, r2, -⟩ := hR.2 f hf
    have e38 : V.1 38 f = nI (lnA A f) := by rw [r2, hln]
    have e36 : V.1 36 f = nI (gvA A f) := by rw [r4, hgv]
    obtain ⟨i1, i2, -, -⟩ := hI
    obtain ⟨m1, m2, m3, -⟩ := hM
    unfold ckr at h
    dsimp only at h
    have h98 : ∀ x : Nat, x ≤ 5 → (if s.1 ≠ [] then 3 else if s.2.2 = false ∧ s.2.1 ≠ gvA A f then 4 else 0) = x → p_Mo_checkOne_b98 k V (nI f) (nI x) := by
      intro x hx ex
      rw [ex] at h
      unfold p_Mo_checkOne_b98 p_Mo_checkOne_b127
      rintro _ rfl
      have hh := h _ (sM.p34 V (nI x) (Or.inl rfl)) (sv_eq _ _ _ _)
      rw [sv_eq, k0, eq_iff, nt_nI (by omega), sv_ne _ (by decide), e38]
      refine ⟨fun c => ?_, fun c => ⟨vin hf, ?_⟩⟩
      · rw [if_pos c] at hh; exact hh
      · rw [if_neg c] at hh
        rw [show lnA A f = i by omega]
        exact hh
    unfold p_Mo_checkOne_b17 p_Mo_checkOne_b97
    rw [nt_nI (by omega), e38, le_iff, m1, m2, m3, e36, eq_iff, show ((0 : Int32) = nI 0) from rfl, le_iff]
    refine ⟨vin hf, fun _ => ⟨fun c => ⟨fun c2 => ⟨vin hf, fun c3 => ?_, fun c3 => ?_⟩, fun c2 => ?_⟩, fun c => ?_⟩, fun q => absurd (by omega) q⟩
    · have : s.1 = [] := List.length_eq_zero_iff.mp (by omega)
      exact h98 0 (by omega) (by rw [if_neg (fun q => q this), if_neg (fun q => q.2 c3)])
    · have : s.1 = [] := List.length_eq_zero_iff.mp (by omega)
      refine h98 4 (by omega) (by rw [if_neg (fun q => q this), if_pos ⟨?_, c3⟩])
      cases hd : s.2.2 with
      | false => rfl
      | true => rw [hd, if_pos rfl] at c2; exact absurd c2 (by decide)
    · have : s.1 = [] := List.length_eq_zero_iff.mp (by omega)
      have n2 : ¬ (s.2.2 = false ∧ s.2.1 ≠ gvA A f) := by
        intro q
        rw [q.1] at c2
        exact absurd rfl c2
      exact h98 0 (by omega) (by rw [if_neg (fun q => q this), if_neg n2])
    · exact h98 3 (by omega) (by rw [if_pos (fun q => c (by rw [q]; exact Nat.le_refl _))])
  | succ m ih =>
    intro i V s him hR hM hI h
    obtain ⟨-, r4, -, r2, -⟩ := hR.2 f hf
    have e38 : V.1 38 f = nI (lnA A f) := by rw [r2, hln]
    obtain ⟨-, ho⟩ := (hA.2 f hf).2.2.2.2 i (by omega)
    unfold p_Mo_checkOne_b17
    rw [nt_nI (by omega), e38, le_iff]
    refine ⟨vin hf, fun q => absurd q (by omega), fun _ => e_examine hA hn hf hR hM hI (by omega) (fun V1 g1 g2 => ?_)⟩
    rintro _ rfl
    have hs5 := srt_le A f (ocA A f i) (agA A f i) s
    unfold ckr at h
    have g3 : sM V (sv V1 34 7 (nI (srt A f (ocA A f i) (agA A f i) s))) := g1.tr (sM.p34 _ _ (Or.inl rfl))
    rw [sv_eq, k0, eq_iff]
    refine ⟨fun c => ?_, fun c => ?_⟩
    · rw [if_neg (fun q => q c)] at h
      rintro _ rfl
      rw [nI_1]
      have gm := g2 c
      refine ih (i + 1) _ _ (by omega) (hR.sM g3) ⟨?_, ?_, ?_, fun j hj => ?_⟩ (SI_nx hA hn ho hI c) (fun V2 f1 f2 => h V2 (g3.tr f1) f2)
      · rw [sv_at _ (by decide)]; exact gm.1
      · rw [sv_at _ (by decide)]; exact gm.2.1
      · rw [sv_at _ (by decide)]; exact gm.2.2.1
      · rw [sv_ne _ (by decide)]; exact gm.2.2.2 j hj
    · rw [if_pos c] at h
      have hh := h _ g3 (sv_eq _ _ _ _)
      dsimp only at hh
      rw [if_neg c] at hh
      exact hh
theorem e_checkOne {k : Int32 → vS → Prop} {A V : vS} {f : Nat} (hA : Cwf A) (hn : 0 < nFA A) (hf : f < 4) (hR : RK V A)
    (h : ∀ V1 : vS, sM V V1 → V1.1 34 7 = nI (ckr A f (lnA A f) 0 ([], 0, false)).1 → k (if (ckr A f (lnA A f) 0 ([], 0, false)).1 = 0 then 0 else (-1000) - 100 * nI f - nI (ckr A f (lnA A f) 0 ([], 0, false)).2) V1) : p_Mo_checkOne k V (nI f) := by
  unfold p_Mo_checkOne
  rintro _ rfl _ rfl _ rfl
  have g : sM V (sv (sv (sv V 34 11 0) 34 12 0) 34 13 0) := ((sM.p34 _ _ (by decide)).tr (sM.p34 _ _ (by decide))).tr (sM.p34 _ _ (by decide))
  refine ⟨lnA A f + 1, e_coLoop hA hn hf (lnA A f) 0 _ ([], 0, false) (by omega) (hR.sM g) ⟨?_, ?_, ?_, fun j hj => absurd hj (by simp)⟩ SI_0 (fun V1 g1 g2 => h V1 (g.tr g1) g2)⟩
  · rw [sv_at _ (by decide), sv_at _ (by decide), sv_eq]; rfl
  · rw [sv_at _ (by decide), sv_eq]; rfl
  · rw [sv_eq]; rfl
/-- a fault's answer is below 0 -/
theorem ans_neg {f i : Nat} (hf : f < 4) (hi : i ≤ 24) : ¬ (0 : Int32) ≤ (-1000) - 100 * nI f - nI i := by
  have h1 : ∀ f, f < 4 → ∀ i, i < 25 → ¬ (0 : Int32) ≤ (-1000) - 100 * nI f - nI i := by decide +kernel
  exact h1 f hf i (by omega)
theorem e_McLoop {k : Int32 → vS → Prop} {A : vS} (hA : Cwf A) (hn : 0 < nFA A) : ∀ (m f : Nat) (V : vS), f + m = nFA A → RK V A →
    (∀ V1 : vS, sM V V1 → (m ≠ 0 → V1.1 34 7 = nI (cka A m f).1) → (m = 0 → V1.1 34 7 = V.1 34 7) → ((cka A m f).1 = 0 → k 0 (sv V1 34 8 1)) ∧ ((cka A m f).1 ≠ 0 → k ((-1000) - 100 * nI (cka A m f).2.1 - nI (cka A m f).2.2) V1)) → p_Mo_check_b17 k (m + 1) V (nI f) := by
  have h4 := hA.1.2
  intro m
  induction m with
  | zero =>
    intro f V hfm hR h
    unfold p_Mo_check_b17
    rw [hR.1, hA.1.1, le_iff]
    refine ⟨fun _ => ?_, fun q => absurd (by omega) q⟩
    rintro _ rfl
    exact (h V (sM.rf V) (fun q => absurd rfl q) (fun _ => rfl)).1 rfl
  | succ m ih =>
    intro f V hfm hR h
    unfold p_Mo_check_b17
    rw [hR.1, hA.1.1, le_iff]
    refine ⟨fun q => absurd q (by omega), fun _ => e_checkOne hA hn (by omega) hR (fun V1 g1 g2 => ?_)⟩
    have hb := ckr_le A f (lnA A f) 0 ([], 0, false)
    have hl := (hA.2 f (by omega)).1.2
    unfold cka at h
    by_cases c : (ckr A f (lnA A f) 0 ([], 0, false)).1 = 0
    · rw [if_pos c]
      rw [if_neg (fun q => q c)] at h
      refine ⟨fun _ => ?_, fun q => absurd (by decide) q⟩
      rintro _ rfl
      rw [nI_1]
      refine ih (f + 1) V1 (by omega) (hR.sM g1) (fun V2 f1 f2 f3 => h V2 (g1.tr f1) (fun _ => ?_) (fun q => absurd q (by omega)))
      by_cases hm : m = 0
      · rw [f3 hm, g2, c]
        subst hm
        rfl
      · exact f2 hm
    · rw [if_neg c]
      rw [if_pos c] at h
      exact ⟨fun q => absurd q (ans_neg (by omega) (by omega)), fun _ => (h V1 g1 (fun _ => g2) (fun q => absurd q (by omega))).2 c⟩
theorem e_Mcheck {k : Int32 → vS → Prop} {A V : vS} (hA : Cwf A) (hR : RK V A) (h0 : nFA A = 0 → k (-3) V)
    (h : 0 < nFA A → ∀ V1 : vS, (∀ c, c ≠ 34 → c ≠ 41 → c ≠ 42 → V1.1 c = V.1 c) → V1.2 = V.2 → (∀ j, j ≠ 7 → j ≠ 8 → j ≠ 11 → j ≠ 12 → j ≠ 13 → V1.1 34 j = V.1 34 j) → V1.1 34 7 = nI (cka A (nFA A) 0).1 → V1.1 34 8 = (if (cka A (nFA A) 0).1 = 0 then 1 else 0) → k (ckAns A) V1) : p_Mo_check k V := by
  have h4 := hA.1.2
  unfold p_Mo_check
  rw [hR.1, hA.1.1, k0, eq_iff]
  refine ⟨fun c => h0 c, fun c => ?_⟩
  rintro _ rfl
  have hn : 0 < nFA A := by omega
  have hR1 : RK (sv V 34 8 (nI 0)) A := hR.of (by rw [sv_at _ (by decide)]) (fun c a b => sv_ne _ (by omega))
  refine ⟨nFA A + 1, e_McLoop hA hn (nFA A) 0 _ (by omega) hR1 (fun V1 g1 g2 _ => ⟨fun c1 => ?_, fun c1 => ?_⟩)⟩
  · have hh := h hn (sv V1 34 8 1) (fun c a b d => by rw [sv_ne _ a, g1.1 c a b d, sv_ne _ a]) (by rw [sv_2, g1.2.1]; rfl) (fun j a b d e z => by rw [sv_at _ b, g1.2.2 j a d e z, sv_at _ b]) (by rw [sv_at _ (by decide)]; exact g2 (by omega)) (by rw [sv_eq, if_pos c1])
    unfold ckAns at hh
    rw [if_pos c1] at hh
    exact hh
  · have hh := h hn V1 (fun c a b d => by rw [g1.1 c a b d, sv_ne _ a]) (by rw [g1.2.1]; rfl) (fun j a b d e z => by rw [g1.2.2 j a d e z, sv_at _ b]) (g2 (by omega)) (by rw [g1.2.2 8 (by decide) (by decide) (by decide) (by decide), sv_eq, if_neg c1]; rfl)
    unfold ckAns at hh
    rw [if_neg c1] at hh
    exact hh
/-- the class's check() -/
theorem e_PRcheck {k : Int32 → vS → Prop} {V : vS} (hA : Cwf V) (h16 : V.1 16 0 = 0) (h0 : nFA V = 0 → k (-3) V)
    (h : 0 < nFA V → ∀ V1 : vS, (∀ c, c ≠ 0 → c ≠ 15 → c ≠ 16 → V1.1 c = V.1 c) → V1.2 = V.2 → (∀ j, j ≠ 3 → V1.1 0 j = V.1 0 j) → V1.1 15 5 = nI (cka V (nFA V) 0).1 → V1.1 0 3 = (if (cka V (nFA V) 0).1 = 0 then 1 else 0) → V1.1 16 0 = 0 → k (ckAns V) V1) : p_PR_check k V := by
  have h4 := hA.1.2
  unfold p_PR_check
  rw [hA.1.1, k0, eq_iff]
  refine ⟨fun c => h0 c, fun c => ?_⟩
  have hn : 0 < nFA V := by omega
  have h5 := cka_le V (nFA V) 0
  refine e_goThroughAll hA hn (fun _ _ => rfl) h16 (fun V1 g1 g2 g3 g4 g5 => ?_)
  rw [g3, eq_iff]
  unfold p_PR_check_b36
  unfold ckAns at h
  refine ⟨fun c1 => ⟨by decide, ?_⟩, fun c1 => ⟨by decide, ?_⟩⟩
  · rintro _ rfl
    rw [sv_eq]
    refine ⟨fun q => absurd q (by decide), fun _ => ?_⟩
    have hh := h hn (sv V1 0 3 1) (fun c a b d => by rw [sv_ne _ a, g1 c b d]) (by rw [sv_2, g2]) (fun j a => by rw [sv_at _ a, g1 0 (by decide) (by decide)]) (by rw [sv_ne _ (by decide)]; exact g3) (by rw [sv_eq, if_pos c1]) (by rw [sv_ne _ (by decide)]; exact g5)
    rw [if_pos c1] at hh
    exact hh
  · rintro _ rfl
    rw [sv_eq]
    refine ⟨fun _ => ?_, fun q => absurd rfl q⟩
    have hh := h hn (sv V1 0 3 (nI 0)) (fun c a b d => by rw [sv_ne _ a, g1 c b d]) (by rw [sv_2, g2]) (fun j a => by rw [sv_at _ a, g1 0 (by decide) (by decide)]) (by rw [sv_ne _ (by decide)]; exact g3) (by rw [sv_eq, if_neg c1]; rfl) (by rw [sv_ne _ (by decide)]; exact g5)
    rw [if_neg c1] at hh
    rw [sv_ne _ (by decide), (g4 c1).1, (g4 c1).2]
    exact hh
