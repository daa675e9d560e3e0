/-! PURE PART: the class's check does what srt and nxs say -/
theorem o_eq {o c : Nat} (ho : o < 20) (hc : c < 1000) : nI o = nI c ↔ o = c := eq_iff
theorem e_takenA {k : Int32 → vS → Prop} {A V : vS} {f op o : Nat} {a : Int32} (hA : Cwf A) (hn : 0 < nFA A) (hK : ∀ c, 1 ≤ c ∧ c < 15 → V.1 c = A.1 c) (ho : o < 20) (hok : aOk A f op o a = true) (h : k (nI (tkn A o a)) V) : p_Pg_taken k V (nI o) a := by
  have h4 := hA.1.2
  refine e_taken (fun c => ?_) (fun c => ?_) ?_
  · have c' : o = 17 := (o_eq (c := 17) ho (by omega)).mp c
    subst c'
    obtain ⟨j, hj, e⟩ := arg_17 hn h4 hok
    rw [e]
    exact vin (by omega)
  · exact vin ho
  · unfold tkn at h
    by_cases c : o = 17
    · subst c
      rw [if_pos rfl] at h
      rw [if_pos (show nI 17 = 17 from rfl)]
      obtain ⟨j, hj, e⟩ := arg_17 hn h4 hok
      rw [e, nt_nI (by omega)] at h ⊢
      rw [hK _ (by omega), (hA.2 j (by omega)).2.1.1]
      exact h
    · rw [if_neg c] at h
      rw [if_neg (show ¬ nI o = 17 from fun q => c ((o_eq (c := 17) ho (by omega)).mp q)), nt_nI (by omega), tkN_eq ho]
      exact h
theorem e_putA {k : Int32 → vS → Prop} {A V : vS} {f op o : Nat} {a : Int32} (hA : Cwf A) (hn : 0 < nFA A) (hK : ∀ c, 1 ≤ c ∧ c < 15 → V.1 c = A.1 c) (ho : o < 20) (hok : aOk A f op o a = true) (h : k (nI (ptn A o a)) V) : p_Pg_put k V (nI o) a := by
  have h4 := hA.1.2
  refine e_Pgput (fun c => ?_) (fun c => ?_) ?_
  · have c' : o = 17 := (o_eq (c := 17) ho (by omega)).mp c
    subst c'
    obtain ⟨j, hj, e⟩ := arg_17 hn h4 hok
    rw [e]
    exact vin (by omega)
  · exact vin ho
  · unfold ptn at h
    by_cases c : o = 17
    · subst c
      rw [if_pos rfl] at h
      rw [if_pos (show nI 17 = 17 from rfl)]
      obtain ⟨j, hj, e⟩ := arg_17 hn h4 hok
      rw [e, nt_nI (by omega)] at h ⊢
      rw [hK _ (by omega), (hA.2 j (by omega)).2.2.1.1]
      exact h
    · rw [if_neg c] at h
      rw [if_neg (show ¬ nI o = 17 from fun q => c ((o_eq (c := 17) ho (by omega)).mp q)), nt_nI (by omega), ptN_eq ho]
      exact h
/-- the class's checker holds the check's state -/
def CR (V : vS) (s : cS) : Prop := V.1 15 2 = nI s.1.length ∧ V.1 15 3 = nI s.2.1 ∧ V.1 15 4 = (if s.2.2 = true then 1 else 0) ∧ V.1 16 0 = 0 ∧ ∀ j, j < s.1.length → V.1 16 (s.1.length - j) = nI (s.1.getD j 0)
theorem CR.base {V : vS} {s : cS} (h : CR V s) : V.1 16 s.1.length = nI (s.1.headD 0) := by
  obtain ⟨bs, hh, dd⟩ := s
  obtain ⟨-, -, -, h4, h5⟩ := h
  cases bs with
  | nil => exact h4
  | cons x l =>
    have := h5 0 (by simp)
    simpa using this
theorem e_closesWell {k : Int32 → vS → Prop} {V : vS} {s : cS} (hC : CR V s) (h25 : s.1.length < 25) (hh : s.2.1 < 1000) (hb : s.1.headD 0 < 1000) (h : k (if s.1 = [] ∨ (s.2.2 = false ∧ s.2.1 ≠ s.1.headD 0) then 0 else 1) V) : p_Ck_closesWell k V := by
  have hB := hC.base
  obtain ⟨h1, h2, h3, -, -⟩ := hC
  unfold p_Ck_closesWell p_Ck_closesWell_b34 p_Ck_closesWell_b30 p_Ck_closesWell_b35
  rw [h1, h2, h3, nt_nI (by omega), hB]
  refine ⟨fun c => ⟨by decide, ?_⟩, fun c => ⟨fun c2 => ⟨vin h25, fun c3 => ⟨by decide, ?_⟩, fun c3 => ⟨by decide, ?_⟩⟩, fun c2 => ⟨by decide, ?_⟩⟩⟩
  · rw [k0, le_iff] at c
    have e : s.1 = [] := List.length_eq_zero_iff.mp (by omega)
    rw [if_pos (Or.inl e)] at h
    exact h
  · rw [k0, le_iff] at c
    rw [eq_iff] at c3
    rw [if_neg ?_] at h
    · exact h
    · rintro (q | q)
      · rw [q] at c; exact c (by simp)
      · exact q.2 c3
  · rw [eq_iff] at c3
    have c2' : s.2.2 = false := by
      cases hd : s.2.2 with
      | false => rfl
      | true => rw [hd] at c2; exact absurd c2 (by decide)
    rw [if_pos (Or.inr ⟨c2', c3⟩)] at h
    exact h
  · rw [k0, le_iff] at c
    have c2' : s.2.2 = true := by
      cases hd : s.2.2 with
      | true => rfl
      | false => rw [hd] at c2; exact absurd rfl c2
    rw [if_neg ?_] at h
    · exact h
    · rintro (q | q)
      · rw [q] at c; exact c (by simp)
      · rw [c2'] at q; exact absurd q.1 (by decide)
theorem e_b64 {k : Int32 → vS → Prop} {V : vS} {x y : Nat} (hx : x < 1000) (hy : y < 1000) (h : k (if x ≠ y then 0 else 1) V) : p_Ck_leavesWell_b64 k V (nI x) (nI y) := by
  unfold p_Ck_leavesWell_b64 p_Ck_leavesWell_b72
  rw [eq_iff]
  refine ⟨fun c => ⟨by decide, ?_⟩, fun c => ⟨by decide, ?_⟩⟩
  · rw [if_neg (fun q => q c)] at h; exact h
  · rw [if_pos c] at h; exact h
theorem e_leavesWell {k : Int32 → vS → Prop} {A V : vS} {f o x : Nat} {a : Int32} {s : cS} (hA : Cwf A) (hf : f < 4) (hK : ∀ c, 1 ≤ c ∧ c < 15 → V.1 c = A.1 c) (hC : CR V s) (h25 : s.1.length < 25) (hx : x < 1000) (hb : ∀ b ∈ s.1, b < 1000) (ho : o < 20) (hok : aOk A f s.1.length o a = true)
    (h : k (if ((o = 15 ∨ o = 16) ∧ x ≠ s.1.getD (nt a) (gvA A f)) ∨ (o = 19 ∧ x ≠ gvA A f) then 0 else 1) V) : p_Ck_leavesWell k V (3 + f) (nI o) a (nI x) := by
  obtain ⟨-, -, ⟨hg, hg1⟩, -⟩ := hA.2 f hf
  have hV : V.1 (3 + f) 4 = nI (gvA A f) := by rw [hK _ (by omega), hg]
  have w15 : (o = 15 ∨ o = 16) → ((V.1 15 2) ≤ a → p_Ck_leavesWell_b64 k V (nI x) (V.1 (3 + f) 4)) ∧ (¬ (V.1 15 2) ≤ a → (vp_in ((V.1 15 2) - a) 25 ∧ p_Ck_leavesWell_b64 k V (nI x) (V.1 16 (nt ((V.1 15 2) - a))))) := by
    intro h15
    obtain ⟨j, hj, rfl⟩ := arg_15 h15 (by omega) hok
    rw [nt_nI (by omega)] at h
    rw [hC.1, le_iff]
    have e : (if ((o = 15 ∨ o = 16) ∧ x ≠ s.1.getD j (gvA A f)) ∨ (o = 19 ∧ x ≠ gvA A f) then (0 : Int32) else 1) = if x ≠ s.1.getD j (gvA A f) then 0 else 1 := by
      by_cases c : x ≠ s.1.getD j (gvA A f)
      · rw [if_pos c, if_pos (Or.inl ⟨h15, c⟩)]
      · rw [if_neg c, if_neg ?_]
        rintro (q | q)
        · exact c q.2
        · omega
    rw [e] at h
    refine ⟨fun c => ?_, fun c => ⟨?_, ?_⟩⟩
    · rw [hV]
      refine e_b64 hx (by omega) ?_
      have e2 : s.1.getD j (gvA A f) = gvA A f := by simp [List.getD, List.getElem?_eq_none (show s.1.length ≤ j from c)]
      rw [e2] at h
      exact h
    · rw [pk_sub (by omega)]
      exact vin (by omega)
    · rw [pk_sub (by omega), nt_nI (by omega), hC.2.2.2.2 j (by omega)]
      have e2 : s.1.getD j (gvA A f) = s.1.getD j 0 := by simp [List.getD, List.getElem?_eq_getElem (show j < s.1.length by omega)]
      rw [e2] at h
      refine e_b64 hx (hb _ ?_) h
      have e3 : s.1.getD j 0 = s.1[j]'(by omega) := by simp [List.getD, List.getElem?_eq_getElem (show j < s.1.length by omega)]
      rw [e3]
      exact List.getElem_mem _
  have w0 : ¬ (o = 15 ∨ o = 16) → ¬ o = 19 → k 1 V := by
    intro n1 n2
    rw [if_neg ?_] at h
    · exact h
    · rintro (q | q)
      · exact n1 q.1
      · exact n2 q.1
  have w19 : o = 19 → ((nI x = V.1 (3 + f) 4 → p_Ck_leavesWell_b87 k V 1) ∧ (¬ nI x = V.1 (3 + f) 4 → p_Ck_leavesWell_b87 k V 0)) := by
    intro n1
    rw [hV, eq_iff]
    unfold p_Ck_leavesWell_b87
    refine ⟨fun c => ⟨by decide, ?_⟩, fun c => ⟨by decide, ?_⟩⟩
    · rw [if_neg ?_] at h
      · exact h
      · rintro (q | q)
        · omega
        · exact q.2 c
    · rw [if_pos (Or.inr ⟨n1, c⟩)] at h
      exact h
  unfold p_Ck_leavesWell
  rcases ops20 ho with rfl | rfl | rfl | rfl | rfl | rfl | rfl | rfl | rfl | rfl | rfl | rfl | rfl | rfl | rfl | rfl | rfl | rfl | rfl | rfl
  · exact br_f (by decide) (br_f (by decide) (br_f (by decide) (br_f (by decide) (br_f (by decide) (w0 (by decide) (by decide))))))
  · exact br_f (by decide) (br_f (by decide) (br_f (by decide) (br_f (by decide) (br_f (by decide) (w0 (by decide) (by decide))))))
  · exact br_f (by decide) (br_f (by decide) (br_f (by decide) (br_f (by decide) (br_f (by decide) (w0 (by decide) (by decide))))))
  · exact br_f (by decide) (br_f (by decide) (br_f (by decide) (br_f (by decide) (br_f (by decide) (w0 (by decide) (by decide))))))
  · exact br_f (by decide) (br_f (by decide) (br_f (by decide) (br_f (by decide) (br_f (by decide) (w0 (by decide) (by decide))))))
  · exact br_f (by decide) (br_f (by decide) (br_f (by decide) (br_f (by decide) (br_f (by decide) (w0 (by decide) (by decide))))))
  · exact br_f (by decide) (br_f (by decide) (br_f (by decide) (br_f (by decide) (br_f (by decide) (w0 (by decide) (by decide))))))
  · exact br_f (by decide) (br_f (by decide) (br_f (by decide) (br_f (by decide) (br_f (by decide) (w0 (by decide) (by decide))))))
  · exact br_f (by decide) (br_f (by decide) (br_f (by decide) (br_f (by decide) (br_f (by decide) (w0 (by decide) (by decide))))))
  · exact br_f (by decide) (br_f (by decide) (br_f (by decide) (br_f (by decide) (br_f (by decide) (w0 (by decide) (by decide))))))
  · exact br_f (by decide) (br_f (by decide) (br_f (by decide) (br_f (by decide) (br_f (by decide) (w0 (by decide) (by decide))))))
  · exact br_f (by decide) (br_f (by decide) (br_f (by decide) (br_f (by decide) (br_f (by decide) (w0 (by decide) (by decide))))))
  · exact br_f (by decide) (br_f (by decide) (br_f (by decide) (br_f (by decide) (br_f (by decide) (w0 (by decide) (by decide))))))
  · exact br_f (by decide) (br_f (by decide) (br_f (by decide) (br_f (by decide) (br_f (by decide) (w0 (by decide) (by decide))))))
  · exact br_f (by decide) (br_f (by decide) (br_f (by decide) (br_f (by decide) (br_f (by decide) (w0 (by decide) (by decide))))))
  · exact br_t rfl (w15 (by decide))
  · exact br_f (by decide) (br_t rfl (w15 (by decide)))
  · exact br_f (by decide) (br_f (by decide) (br_t rfl (w0 (by decide) (by decide))))
  · exact br_f (by decide) (br_f (by decide) (br_f (by decide) (br_t rfl (w0 (by decide) (by decide)))))
  · exact br_f (by decide) (br_f (by decide) (br_f (by decide) (br_f (by decide) (br_t rfl (w19 rfl)))))
theorem e_sortOf {k : Int32 → vS → Prop} {A V : vS} {f o i : Nat} {a : Int32} {s : cS} (hA : Cwf A) (hn : 0 < nFA A) (hf : f < 4) (hK : ∀ c, 1 ≤ c ∧ c < 15 → V.1 c = A.1 c) (hC : CR V s) (hI : SI i s) (hi : i ≤ 24) (ho : o < 20) (h : k (nI (srt A f o a s)) V) : p_Ck_sortOf k V (3 + f) (nI o) a := by
  have hB := hC.base
  have hC0 := hC
  obtain ⟨h1, h2, h3, -, -⟩ := hC
  obtain ⟨i1, i2, i3, i4⟩ := hI
  have hall : ∀ b ∈ s.1, b ≤ s.2.1 := by
    intro b hb
    obtain ⟨bs, hh, dd⟩ := s
    cases bs with
    | nil => cases hb
    | cons x l =>
      rcases List.mem_cons.mp hb with e | e
      · rw [e]; simpa using i3
      · have := (List.pairwise_cons.mp i4).1 b e
        dsimp only at i3
        simp at i3
        dsimp only
        omega
  by_cases c1 : s.2.2 = true ∧ o ≠ 14
  · unfold p_Ck_sortOf
    rw [h3, if_pos c1.1]
    refine ⟨fun c => absurd c (by decide), fun _ => ⟨fun c => absurd ((o_eq (c := 14) ho (by omega)).mp c) c1.2, fun _ => ?_⟩⟩
    unfold srt at h
    rw [if_pos c1] at h
    exact h
  · have hb15 : p_Ck_sortOf_b15 k V (3 + f) (nI o) a := by
      unfold p_Ck_sortOf_b15
      refine e_isArgument hA hn hf hK h1 ho ?_
      unfold srt at h
      rw [if_neg c1] at h
      by_cases c2 : aOk A f s.1.length o a = true
      · rw [if_pos c2]
        rw [if_neg (by rw [c2]; decide)] at h
        refine ⟨fun c => absurd c (by decide), fun _ => e_takenA hA hn hK ho c2 ?_⟩
        have e : V.1 15 3 - V.1 16 (nt (V.1 15 2)) = nI (s.2.1 - s.1.headD 0) := by rw [h2, h1, nt_nI (by omega), hB, pk_sub i3]
        have ht : tkn A o a ≤ 2 := by
          unfold tkn
          by_cases c : o = 17
          · subst c
            rw [if_pos rfl]
            obtain ⟨j, hj, e⟩ := arg_17 hn hA.1.2 c2
            rw [e, nt_nI (by have := hA.1.2; omega)]
            exact (hA.2 j (by have := hA.1.2; omega)).2.1.2
          · rw [if_neg c]; exact tkN_le ho
        refine ⟨by rw [h1]; exact vin (by omega), ?_⟩
        rw [e, le_iff]
        refine ⟨fun c3 => ?_, fun c3 => ?_⟩
        · rw [if_neg (by omega)] at h
          have hb74 : ¬ (o = 14 ∧ (s.1 = [] ∨ (s.2.2 = false ∧ s.2.1 ≠ s.1.headD 0))) → p_Ck_sortOf_b74 k V (3 + f) (nI o) a (nI (tkn A o a)) := by
            intro c4
            rw [if_neg c4] at h
            unfold p_Ck_sortOf_b74
            rw [h2, pk_sub (by omega)]
            refine e_leavesWell hA hf hK hC0 (by omega) (by omega) (fun b hb => by have := hall b hb; omega) ho c2 ?_
            by_cases c5 : ((o = 15 ∨ o = 16) ∧ s.2.1 - tkn A o a ≠ s.1.getD (nt a) (gvA A f)) ∨ (o = 19 ∧ s.2.1 - tkn A o a ≠ gvA A f)
            · rw [if_pos c5] at h ⊢
              exact ⟨fun _ => h, fun q => absurd rfl q⟩
            · rw [if_neg c5] at h ⊢
              exact ⟨fun q => absurd q (by decide), fun _ => h⟩
          refine ⟨fun c4 => ?_, fun c4 => hb74 (fun q => c4 ((o_eq (c := 14) ho (by omega)).mpr q.1))⟩
          have c4' : o = 14 := (o_eq (c := 14) ho (by omega)).mp c4
          refine e_closesWell hC0 (by omega) (by omega) (by omega) ?_
          by_cases c5 : s.1 = [] ∨ (s.2.2 = false ∧ s.2.1 ≠ s.1.headD 0)
          · rw [if_pos c5]
            rw [if_pos ⟨c4', c5⟩] at h
            exact ⟨fun _ => h, fun q => absurd rfl q⟩
          · rw [if_neg c5]
            exact ⟨fun q => absurd q (by decide), fun _ => hb74 (fun q => c5 q.2)⟩
        · rw [if_pos (by omega)] at h
          exact h
      · rw [if_neg c2]
        rw [if_pos (by simpa using c2)] at h
        exact ⟨fun _ => h, fun q => absurd rfl q⟩
    unfold p_Ck_sortOf
    refine ⟨fun _ => hb15, fun c => ⟨fun _ => hb15, fun c2 => ?_⟩⟩
    exfalso
    apply c1
    refine ⟨?_, fun q => c2 ((o_eq (c := 14) ho (by omega)).mpr q)⟩
    rw [h3] at c
    cases hd : s.2.2 with
    | true => rfl
    | false => rw [hd] at c; exact absurd rfl c
/-- the check's state goes on -/
theorem e_pass {k : vS → Prop} {A V : vS} {f o i : Nat} {a : Int32} {s : cS} (hA : Cwf A) (hn : 0 < nFA A) (hK : ∀ c, 1 ≤ c ∧ c < 15 → V.1 c = A.1 c) (hC : CR V s) (hI : SI i s) (hi : i < 24) (ho : o < 20) (h0 : srt A f o a s = 0)
    (h : ∀ V1 : vS, (∀ c, c ≠ 15 → c ≠ 16 → V1.1 c = V.1 c) → V1.2 = V.2 → (∀ j, 5 ≤ j → V1.1 15 j = V.1 15 j) → CR V1 (nxs A o a s) → k V1) : p_Ck_pass k V (nI o) a := by
  have hB := hC.base
  obtain ⟨bs, hh, dd⟩ := s
  obtain ⟨h1, h2, h3, h4, h5⟩ := hC
  obtain ⟨i1, i2, i3, i4⟩ := hI
  dsimp only at h1 h2 h3 h4 h5 i1 i2 i3 i4 hB
  have hok : aOk A f bs.length o a = true := by
    unfold srt at h0
    dsimp only at h0
    by_cases c1 : dd = true ∧ o ≠ 14
    · rw [if_pos c1] at h0; omega
    rw [if_neg c1] at h0
    by_cases c2 : aOk A f bs.length o a = false
    · rw [if_pos c2] at h0; omega
    · simpa using c2
  have ht : tkn A o a ≤ hh - bs.headD 0 := by
    unfold srt at h0
    dsimp only at h0
    by_cases c1 : dd = true ∧ o ≠ 14
    · rw [if_pos c1] at h0; omega
    rw [if_neg c1, if_neg (by rw [hok]; decide)] at h0
    by_cases c3 : hh - bs.headD 0 < tkn A o a
    · rw [if_pos c3] at h0; omega
    · omega
  have hp := ptn_le hA hn ho hok
  unfold p_Ck_pass
  refine e_putA hA hn hK ho hok (e_takenA hA hn hK ho hok ?_)
  rintro _ rfl
  have eh : V.1 15 3 + (nI (ptn A o a) - nI (tkn A o a)) = nI (hh - tkn A o a + ptn A o a) := by
    rw [h2]
    have : nI hh = nI (tkn A o a) + nI (hh - tkn A o a) := by rw [nI_add]; congr 1; omega
    rw [this, ← nI_add]
    generalize nI (tkn A o a) = x
    generalize nI (hh - tkn A o a) = y
    generalize nI (ptn A o a) = z
    rw [Int32.sub_eq_add_neg, Int32.add_comm x y, Int32.add_assoc, ← Int32.add_assoc x, Int32.add_comm x z, Int32.add_assoc z, Int32.add_right_neg, Int32.add_zero]
  rw [eh]
  generalize hV1 : sv V 15 3 (nI (hh - tkn A o a + ptn A o a)) = V1
  refine e_neverGoesOn ⟨by by_cases c : nI o = 15 ∨ nI o = 19 <;> simp [c], ?_⟩
  rintro _ rfl
  refine e_opensPart ?_
  have hg : (if nI o = 15 ∨ nI o = 19 then (1 : Int32) else 0) = if o = 15 ∨ o = 19 then 1 else 0 := by
    have e1 : (nI o = 15) ↔ o = 15 := o_eq (c := 15) ho (by omega)
    have e2 : (nI o = 19) ↔ o = 19 := o_eq (c := 19) ho (by omega)
    simp only [e1, e2]
  have hg2 : (if nI o = 12 ∨ nI o = 13 then (1 : Int32) else 0) = if o = 12 ∨ o = 13 then 1 else 0 := by
    have e1 : (nI o = 12) ↔ o = 12 := o_eq (c := 12) ho (by omega)
    have e2 : (nI o = 13) ↔ o = 13 := o_eq (c := 13) ho (by omega)
    simp only [e1, e2]
  rw [hg, hg2]
  unfold p_Ck_pass_b98
  unfold nxs at h
  dsimp only at h
  by_cases d1 : o = 12 ∨ o = 13
  · have d3 : ¬ (o = 15 ∨ o = 19) := by omega
    rw [if_pos d1, if_neg d3]
    rw [if_pos d1] at h
    refine ⟨fun q => absurd q (by decide), fun _ => ?_⟩
    rintro _ rfl
    subst hV1
    simp only [sv_app, if_true, if_false, Nat.reduceEqDiff, h1, nI_1]
    refine ⟨vin (by omega), ?_⟩
    rintro _ rfl
    rw [nt_nI (by omega)]
    refine h _ (fun c c15 c16 => ?_) rfl (fun j hj => ?_) ?_
    · funext b
      simp [sv_app, c15, c16]
    · have n2 : ¬ j = 2 := by omega
      have n3 : ¬ j = 3 := by omega
      have n4 : ¬ j = 4 := by omega
      simp [sv_app, n2, n3, n4]
    · refine ⟨?_, ?_, ?_, ?_, ?_⟩
      · simp [sv_app]
      · simp [sv_app]
      · simp [sv_app]
      · have : ¬ 0 = bs.length + 1 := by omega
        simp [sv_app, this, h4]
      · intro j hj
        simp only [List.length_cons] at hj ⊢
        cases j with
        | zero => simp [sv_app]
        | succ j =>
          have n1 : ¬ bs.length + 1 - (j + 1) = bs.length + 1 := by omega
          simp only [sv_app, n1, if_true, if_false, Nat.reduceEqDiff]
          rw [show bs.length + 1 - (j + 1) = bs.length - j by omega, h5 j (by omega)]
          simp
  · rw [if_neg d1]
    rw [if_neg d1] at h
    refine ⟨fun _ => ⟨fun c => ?_, fun c => ?_⟩, fun q => absurd rfl q⟩
    · have c' : o = 14 := (o_eq (c := 14) ho (by omega)).mp c
      rw [if_pos c'] at h
      have d3 : ¬ (o = 15 ∨ o = 19) := by omega
      rw [if_neg d3]
      have hne : bs ≠ [] := by
        intro q
        unfold srt at h0
        dsimp only at h0
        rw [if_neg (by omega), if_neg (by rw [hok]; decide), if_neg (by omega), if_pos ⟨c', Or.inl q⟩] at h0
        omega
      obtain ⟨x, l, rfl⟩ : ∃ x l, bs = x :: l := by
        cases bs with
        | nil => exact absurd rfl hne
        | cons x l => exact ⟨x, l, rfl⟩
      subst hV1
      simp only [List.length_cons] at h1 h5 i1 hB
      have e2 : (sv (sv V 15 3 (nI (hh - tkn A o a + ptn A o a))) 15 4 0).1 15 2 = nI (l.length + 1) := by simp [sv_app, h1]
      have e3 : (sv (sv V 15 3 (nI (hh - tkn A o a + ptn A o a))) 15 4 0).1 16 (l.length + 1) = nI x := by
        have := hB
        simp at this
        simp [sv_app, this]
      rw [e2, nt_nI (by omega), e3]
      refine ⟨vin (by omega), ?_⟩
      rintro _ rfl _ rfl
      have e4 : (sv (sv (sv V 15 3 (nI (hh - tkn A o a + ptn A o a))) 15 4 0) 15 3 (nI x)).1 15 2 - 1 = nI l.length := by
        have : (sv (sv (sv V 15 3 (nI (hh - tkn A o a + ptn A o a))) 15 4 0) 15 3 (nI x)).1 15 2 = nI (l.length + 1) := by simp [sv_app, h1]
        rw [this, nI_pred]
      rw [e4]
      refine h _ (fun c c15 c16 => ?_) rfl (fun j hj => ?_) ?_
      · funext b
        simp [sv_app, c15]
      · have n2 : ¬ j = 2 := by omega
        have n3 : ¬ j = 3 := by omega
        have n4 : ¬ j = 4 := by omega
        simp [sv_app, n2, n3, n4]
      · refine ⟨?_, ?_, ?_, ?_, ?_⟩
        · simp [sv_app]
        · simp [sv_app]
        · simp [sv_app]
        · simp [sv_app, h4]
        · intro j hj
          simp only [List.tail_cons] at hj ⊢
          have := h5 (j + 1) (by omega)
          rw [show l.length + 1 - (j + 1) = l.length - j by omega] at this
          simp only [sv_app, if_false, Nat.reduceEqDiff]
          rw [this]
          simp
    · have c' : ¬ o = 14 := fun q => c ((o_eq (c := 14) ho (by omega)).mpr q)
      rw [if_neg c'] at h
      subst hV1
      refine h _ (fun c c15 c16 => ?_) rfl (fun j hj => ?_) ?_
      · funext b
        simp [sv_app, c15]
      · have n3 : ¬ j = 3 := by omega
        have n4 : ¬ j = 4 := by omega
        simp [sv_app, n3, n4]
      · refine ⟨?_, ?_, ?_, ?_, ?_⟩
        · simp [sv_app, h1]
        · simp [sv_app]
        · simp [sv_app]
        · simp [sv_app, h4]
        · intro j hj
          simp only [sv_app, if_false, Nat.reduceEqDiff]
          exact h5 j hj
