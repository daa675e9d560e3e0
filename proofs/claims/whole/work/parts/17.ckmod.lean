/-! PURE PART: the reference's check does what srt and nxs say -/
/-- the reference holds A's code -/
def RK (V A : vS) : Prop := V.1 34 6 = A.1 1 1 ∧ ∀ f, f < 4 → V.1 35 f = A.1 (3 + f) 3 ∧ V.1 36 f = A.1 (3 + f) 4 ∧ V.1 37 f = A.1 (3 + f) 5 ∧ V.1 38 f = A.1 (3 + f) 2 ∧ ∀ i, i < 24 → V.1 39 (f * 24 + i) = A.1 (7 + f) i ∧ V.1 40 (f * 24 + i) = A.1 (11 + f) i
theorem RK.of {V V1 A : vS} (h : RK V A) (h6 : V1.1 34 6 = V.1 34 6) (hs : ∀ c, 35 ≤ c → c ≤ 40 → V1.1 c = V.1 c) : RK V1 A := by
  refine ⟨h6.trans h.1, fun f hf => ?_⟩
  rw [hs 35 (by omega) (by omega), hs 36 (by omega) (by omega), hs 37 (by omega) (by omega), hs 38 (by omega) (by omega), hs 39 (by omega) (by omega), hs 40 (by omega) (by omega)]
  exact h.2 f hf
theorem e_Mbad {k : Int32 → vS → Prop} {A V : vS} {f op o : Nat} {a : Int32} (hA : Cwf A) (hf : f < 4) (hR : RK V A) (hop : V.1 34 11 = nI op) (ho : o < 20) (h : k (if aOk A f op o a = true then 0 else 1) V) : p_Mo_badArgument k V (nI f) (nI o) a := by
  have w : ∀ m : Int32, aLim A f op o = some m → p_Mo_badArgument_b104 k V a m := by
    intro m hm
    rw [aOk_some hm] at h
    unfold p_Mo_badArgument_b104 p_Mo_badArgument_b114 p_Mo_badArgument_b119
    refine ⟨fun c => ⟨by decide, ?_⟩, fun c => ⟨fun c2 => ⟨by decide, ?_⟩, fun c2 => ⟨by decide, ?_⟩⟩⟩
    · have h := if_dec h
      rw [if_pos (Or.inl c)] at h
      exact h
    · have h := if_dec h
      rw [if_neg (not_or.mpr ⟨c, Int32.not_lt.mpr c2⟩)] at h
      exact h
    · have h := if_dec h
      rw [if_pos (Or.inr (Int32.not_le.mp c2))] at h
      exact h
  have w0 : aLim A f op o = none → k 0 V := by
    intro hm
    rw [aOk_none hm, if_pos rfl] at h
    exact h
  obtain ⟨⟨hN, hN4⟩, hF⟩ := hA
  obtain ⟨-, ⟨h3, -⟩, -, ⟨h5, -⟩, -⟩ := hF f hf
  obtain ⟨r0, r1⟩ := hR
  obtain ⟨r3, -, r5, -, -⟩ := r1 f hf
  have w13 : aLim A f op o = some (nI (tkA A f + lcA A f) - 1) → p_Mo_badArgument_b13 k V (nI f) a := by
    intro hm
    unfold p_Mo_badArgument_b13
    refine ⟨vin hf, vin hf, ?_⟩
    rintro _ rfl
    rw [nt_nI (by omega), r3, r5, h3, h5, nI_add]
    exact w _ hm
  have w45 : aLim A f op o = some (nI op) → p_Mo_badArgument_b45 k V a := by
    intro hm
    unfold p_Mo_badArgument_b45
    rintro _ rfl
    rw [hop]
    exact w _ hm
  have w17 : aLim A f op o = some (nI (nFA A) - 1) → ∀ y9 : Int32, y9 = V.1 34 6 - 1 → p_Mo_badArgument_b104 k V a y9 := by
    rintro hm _ rfl
    rw [r0, hN]
    exact w _ hm
  have w95 : aLim A f op o = some 31 → p_Mo_badArgument_b95 k V a := fun hm => w _ hm
  unfold p_Mo_badArgument
  rcases ops20 ho with rfl | rfl | rfl | rfl | rfl | rfl | rfl | rfl | rfl | rfl | rfl | rfl | rfl | rfl | rfl | rfl | rfl | rfl | rfl | rfl
  · exact br_f (by decide) (br_f (by decide) (br_f (by decide) (br_f (by decide) (br_f (by decide) (br_f (by decide) (br_f (by decide) (br_f (by decide) (w0 rfl))))))))
  · exact br_t rfl (w13 rfl)
  · exact br_f (by decide) (br_t rfl (w13 rfl))
  · exact br_f (by decide) (br_f (by decide) (br_f (by decide) (br_f (by decide) (br_f (by decide) (br_f (by decide) (br_f (by decide) (br_f (by decide) (w0 rfl))))))))
  · exact br_f (by decide) (br_f (by decide) (br_f (by decide) (br_f (by decide) (br_f (by decide) (br_f (by decide) (br_f (by decide) (br_f (by decide) (w0 rfl))))))))
  · exact br_f (by decide) (br_f (by decide) (br_f (by decide) (br_f (by decide) (br_f (by decide) (br_f (by decide) (br_f (by decide) (br_f (by decide) (w0 rfl))))))))
  · exact br_f (by decide) (br_f (by decide) (br_f (by decide) (br_f (by decide) (br_f (by decide) (br_f (by decide) (br_f (by decide) (br_f (by decide) (w0 rfl))))))))
  · exact br_f (by decide) (br_f (by decide) (br_f (by decide) (br_f (by decide) (br_f (by decide) (br_f (by decide) (br_f (by decide) (br_f (by decide) (w0 rfl))))))))
  · exact br_f (by decide) (br_f (by decide) (br_f (by decide) (br_f (by decide) (br_f (by decide) (br_f (by decide) (br_f (by decide) (br_f (by decide) (w0 rfl))))))))
  · exact br_f (by decide) (br_f (by decide) (br_f (by decide) (br_f (by decide) (br_f (by decide) (br_f (by decide) (br_f (by decide) (br_f (by decide) (w0 rfl))))))))
  · exact br_f (by decide) (br_f (by decide) (br_f (by decide) (br_f (by decide) (br_f (by decide) (br_f (by decide) (br_t rfl (w95 rfl)))))))
  · exact br_f (by decide) (br_f (by decide) (br_f (by decide) (br_f (by decide) (br_f (by decide) (br_f (by decide) (br_f (by decide) (br_t rfl (w95 rfl))))))))
  · exact br_f (by decide) (br_f (by decide) (br_f (by decide) (br_f (by decide) (br_f (by decide) (br_f (by decide) (br_f (by decide) (br_f (by decide) (w0 rfl))))))))
  · exact br_f (by decide) (br_f (by decide) (br_f (by decide) (br_f (by decide) (br_f (by decide) (br_f (by decide) (br_f (by decide) (br_f (by decide) (w0 rfl))))))))
  · exact br_f (by decide) (br_f (by decide) (br_f (by decide) (br_f (by decide) (br_f (by decide) (br_f (by decide) (br_f (by decide) (br_f (by decide) (w0 rfl))))))))
  · exact br_f (by decide) (br_f (by decide) (br_t rfl (w45 rfl)))
  · exact br_f (by decide) (br_f (by decide) (br_f (by decide) (br_t rfl (w45 rfl))))
  · exact br_f (by decide) (br_f (by decide) (br_f (by decide) (br_f (by decide) (br_t rfl (w17 rfl)))))
  · exact br_f (by decide) (br_f (by decide) (br_f (by decide) (br_f (by decide) (br_f (by decide) (br_t rfl (w _ rfl))))))
  · exact br_f (by decide) (br_f (by decide) (br_f (by decide) (br_f (by decide) (br_f (by decide) (br_f (by decide) (br_f (by decide) (br_f (by decide) (w0 rfl))))))))
theorem e_Mtaken {k : Int32 → vS → Prop} {A V : vS} {f op o : Nat} {a : Int32} (hA : Cwf A) (hn : 0 < nFA A) (hR : RK V A) (ho : o < 20) (hok : aOk A f op o a = true) (h : k (nI (tkn A o a)) V) : p_Mo_taken k V (nI o) a := by
  have h4 := hA.1.2
  have w17 : o = 17 → vp_in a 4 ∧ k (V.1 35 (nt a)) V := by
    intro c
    subst c
    obtain ⟨j, hj, e⟩ := arg_17 hn h4 hok
    unfold tkn at h
    rw [if_pos rfl] at h
    rw [e, nt_nI (by omega)] at h ⊢
    rw [(hR.2 j (by omega)).1, (hA.2 j (by omega)).2.1.1]
    exact ⟨vin (by omega), h⟩
  have w : ¬ o = 17 → k (nI (tkN o)) V := by
    intro c
    unfold tkn at h
    rw [if_neg c] at h
    exact h
  unfold p_Mo_taken p_Mo_taken_b24 p_Mo_taken_b61 p_Mo_taken_b66 p_Mo_taken_b30
  rcases ops20 ho with rfl | rfl | rfl | rfl | rfl | rfl | rfl | rfl | rfl | rfl | rfl | rfl | rfl | rfl | rfl | rfl | rfl | rfl | rfl | rfl
  · exact br_f (by decide) (br_t (by decide) (br_f (by decide) (br_f (by decide) (br_f (by decide) (br_f (by decide) (br_f (by decide) (br_f (by decide) (w (by decide)))))))))
  · exact br_f (by decide) (br_t (by decide) (br_f (by decide) (br_f (by decide) (br_f (by decide) (br_f (by decide) (br_f (by decide) (br_f (by decide) (w (by decide)))))))))
  · exact br_f (by decide) (br_t (by decide) (br_f (by decide) (br_t rfl (w (by decide)))))
  · exact br_f (by decide) (br_f (by decide) (br_t (by decide) (w (by decide))))
  · exact br_f (by decide) (br_f (by decide) (br_t (by decide) (w (by decide))))
  · exact br_f (by decide) (br_f (by decide) (br_t (by decide) (w (by decide))))
  · exact br_f (by decide) (br_f (by decide) (br_t (by decide) (w (by decide))))
  · exact br_f (by decide) (br_f (by decide) (br_t (by decide) (w (by decide))))
  · exact br_f (by decide) (br_f (by decide) (br_t (by decide) (w (by decide))))
  · exact br_f (by decide) (br_f (by decide) (br_f (by decide) (br_f (by decide) (br_f (by decide) (br_t rfl (w (by decide)))))))
  · exact br_f (by decide) (br_f (by decide) (br_f (by decide) (br_f (by decide) (br_f (by decide) (br_f (by decide) (br_t rfl (w (by decide))))))))
  · exact br_f (by decide) (br_f (by decide) (br_f (by decide) (br_t rfl (w (by decide)))))
  · exact br_f (by decide) (br_f (by decide) (br_f (by decide) (br_f (by decide) (br_f (by decide) (br_f (by decide) (br_f (by decide) (br_f (by decide) (br_f (by decide) (w (by decide))))))))))
  · exact br_f (by decide) (br_f (by decide) (br_f (by decide) (br_f (by decide) (br_f (by decide) (br_f (by decide) (br_f (by decide) (br_f (by decide) (br_f (by decide) (w (by decide))))))))))
  · exact br_f (by decide) (br_f (by decide) (br_f (by decide) (br_f (by decide) (br_f (by decide) (br_f (by decide) (br_f (by decide) (br_f (by decide) (br_f (by decide) (w (by decide))))))))))
  · exact br_f (by decide) (br_f (by decide) (br_f (by decide) (br_f (by decide) (br_f (by decide) (br_f (by decide) (br_f (by decide) (br_f (by decide) (br_f (by decide) (w (by decide))))))))))
  · exact br_f (by decide) (br_f (by decide) (br_f (by decide) (br_f (by decide) (br_f (by decide) (br_f (by decide) (br_f (by decide) (br_t rfl (w (by decide)))))))))
  · exact br_t rfl (w17 rfl)
  · exact br_f (by decide) (br_f (by decide) (br_f (by decide) (br_f (by decide) (br_f (by decide) (br_f (by decide) (br_f (by decide) (br_f (by decide) (br_t rfl (w (by decide))))))))))
  · exact br_f (by decide) (br_f (by decide) (br_f (by decide) (br_f (by decide) (br_f (by decide) (br_f (by decide) (br_f (by decide) (br_f (by decide) (br_f (by decide) (w (by decide))))))))))
theorem e_Mput {k : Int32 → vS → Prop} {A V : vS} {f op o : Nat} {a : Int32} (hA : Cwf A) (hn : 0 < nFA A) (hR : RK V A) (ho : o < 20) (hok : aOk A f op o a = true) (h : k (nI (ptn A o a)) V) : p_Mo_put k V (nI o) a := by
  have h4 := hA.1.2
  have w17 : o = 17 → vp_in a 4 ∧ k (V.1 36 (nt a)) V := by
    intro c
    subst c
    obtain ⟨j, hj, e⟩ := arg_17 hn h4 hok
    unfold ptn at h
    rw [if_pos rfl] at h
    rw [e, nt_nI (by omega)] at h ⊢
    rw [(hR.2 j (by omega)).2.1, (hA.2 j (by omega)).2.2.1.1]
    exact ⟨vin (by omega), h⟩
  have w : ¬ o = 17 → k (nI (ptN o)) V := by
    intro c
    unfold ptn at h
    rw [if_neg c] at h
    exact h
  unfold p_Mo_put p_Mo_put_b29 p_Mo_put_b41 p_Mo_put_b46
  rcases ops20 ho with rfl | rfl | rfl | rfl | rfl | rfl | rfl | rfl | rfl | rfl | rfl | rfl | rfl | rfl | rfl | rfl | rfl | rfl | rfl | rfl
  · exact br_f (by decide) (br_t (by decide) (w (by decide)))
  · exact br_f (by decide) (br_t (by decide) (w (by decide)))
  · exact br_f (by decide) (br_f (by decide) (br_t (by decide) (br_f (by decide) (br_f (by decide) (w (by decide))))))
  · exact br_f (by decide) (br_f (by decide) (br_f (by decide) (br_t (by decide) (w (by decide)))))
  · exact br_f (by decide) (br_f (by decide) (br_f (by decide) (br_t (by decide) (w (by decide)))))
  · exact br_f (by decide) (br_f (by decide) (br_f (by decide) (br_t (by decide) (w (by decide)))))
  · exact br_f (by decide) (br_f (by decide) (br_f (by decide) (br_t (by decide) (w (by decide)))))
  · exact br_f (by decide) (br_f (by decide) (br_f (by decide) (br_t (by decide) (w (by decide)))))
  · exact br_f (by decide) (br_f (by decide) (br_f (by decide) (br_t (by decide) (w (by decide)))))
  · exact br_f (by decide) (br_f (by decide) (br_f (by decide) (br_f (by decide) (br_f (by decide) (br_f (by decide) (w (by decide)))))))
  · exact br_f (by decide) (br_f (by decide) (br_f (by decide) (br_f (by decide) (br_t rfl (w (by decide))))))
  · exact br_f (by decide) (br_f (by decide) (br_f (by decide) (br_f (by decide) (br_f (by decide) (br_f (by decide) (w (by decide)))))))
  · exact br_f (by decide) (br_f (by decide) (br_f (by decide) (br_f (by decide) (br_f (by decide) (br_f (by decide) (w (by decide)))))))
  · exact br_f (by decide) (br_f (by decide) (br_f (by decide) (br_f (by decide) (br_f (by decide) (br_f (by decide) (w (by decide)))))))
  · exact br_f (by decide) (br_f (by decide) (br_f (by decide) (br_f (by decide) (br_f (by decide) (br_f (by decide) (w (by decide)))))))
  · exact br_f (by decide) (br_f (by decide) (br_f (by decide) (br_f (by decide) (br_f (by decide) (br_f (by decide) (w (by decide)))))))
  · exact br_f (by decide) (br_f (by decide) (br_f (by decide) (br_f (by decide) (br_f (by decide) (br_f (by decide) (w (by decide)))))))
  · exact br_t rfl (w17 rfl)
  · exact br_f (by decide) (br_f (by decide) (br_f (by decide) (br_f (by decide) (br_f (by decide) (br_t rfl (w (by decide)))))))
  · exact br_f (by decide) (br_f (by decide) (br_f (by decide) (br_f (by decide) (br_f (by decide) (br_f (by decide) (w (by decide)))))))
/-- the reference's check holds the check's state -/
def MR (V : vS) (s : cS) : Prop := V.1 34 11 = nI s.1.length ∧ V.1 34 12 = nI s.2.1 ∧ V.1 34 13 = (if s.2.2 = true then 1 else 0) ∧ ∀ j, j < s.1.length → V.1 42 (s.1.length - 1 - j) = nI (s.1.getD j 0)
