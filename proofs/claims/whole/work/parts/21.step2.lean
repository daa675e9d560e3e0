/-! PURE PART: the class's step -/
theorem e_step {k : Int32 → vS → Prop} {K A : vS} {d sz f i op : Nat} (hA : Cwf K) (hn : 0 < nFA K) (hK : ∀ c, 1 ≤ c ∧ c < 15 → A.1 c = K.1 c) (hd : A.1 17 5 = nI (d + 1)) (hd6 : d < 6) (hs : A.1 17 6 = nI sz) (h40 : sz ≤ 40) (hf : f < nFA K) (hfn : A.1 (19 + d) 1 = nI f) (hnx : A.1 (19 + d) 2 = nI i) (hi : i < lnA K f) (hop : op ≤ 24) (hok : aOk K f op (ocA K f i) (agA K f i) = true) (ht : tkn K (ocA K f i) (agA K f i) ≤ sz)
    (h : At k (cst K A d sz f i)) : p_Mc_step k A := by
  have h4 := hA.1.2
  have hf4 : f < 4 := by omega
  have hl24 := (hA.2 f hf4).1.2
  obtain ⟨hoc, ho⟩ := (hA.2 f hf4).2.2.2.2 i (by omega)
  have htl : tkA K f + lcA K f ≤ 5 := by
    have h1 := (hA.2 f hf4).2.1.2
    have h2 := (hA.2 f hf4).2.2.2.1.2
    omega
  unfold p_Mc_step
  refine e_innermost hd hd6 ?_
  rw [hfn, hnx, nt_nI (show f < 2 ^ 31 by omega)]
  refine ⟨vin hf4, ?_⟩
  rintro _ rfl
  refine ⟨vin (by omega), ?_⟩
  rw [nt_nI (show i < 2 ^ 31 by omega), show 3 + f + 8 = 11 + f by omega, hK (11 + f) (by omega)]
  intro a ea
  have ea : a = agA K f i := ea
  rintro _ rfl
  rw [nI_1]
  unfold cst at h
  rw [← ea] at h hok ht
  generalize hB : sv A (19 + d) 2 (nI (i + 1)) = B at h ⊢
  have b7 : B.1 (3 + f + 4) i = nI (ocA K f i) := by rw [← hB, sv_ne _ (by omega), show 3 + f + 4 = 7 + f by omega, hK _ (by omega), hoc]
  have bK : ∀ c, 1 ≤ c ∧ c < 15 → B.1 c = K.1 c := fun c hc => by rw [← hB, sv_ne _ (by omega)]; exact hK c hc
  have b5 : B.1 17 5 = nI (d + 1) := by rw [← hB, sv_ne _ (by omega)]; exact hd
  have b6 : B.1 17 6 = nI sz := by rw [← hB, sv_ne _ (by omega)]; exact hs
  have b31 : B.1 31 = A.1 31 := by rw [← hB, sv_ne _ (by omega)]
  have b25 : B.1 (19 + d + 6) = A.1 (25 + d) := by rw [← hB, sv_ne _ (by omega), show 19 + d + 6 = 25 + d by omega]
  have bln : B.1 (3 + f) 2 = nI (lnA K f) := by rw [bK _ (by omega), (hA.2 f hf4).1.1]
  rw [b7]
  refine ⟨vin (by omega), ?_⟩
  generalize ocA K f i = o at *
  have take1 : ∀ (kk : Int32 → vS → Prop), 1 ≤ sz → kk (A.1 31 (sz - 1)) (vTake B (sz - 1)) → p_Mc_take kk B := by
    intro kk h1 hh
    refine e_take (v := sz - 1) (by rw [b6]; congr 1; omega) (by omega) ?_
    rw [b31]
    exact hh
  have cal : 3 ≤ o ∧ o ≤ 8 → At k (cCal B sz o) → vp_in (nI i) 24 ∧ p_Mc_calculate (fun r V => k r V) B (nI o) := by
    intro h38 hh
    refine ⟨vin (by omega), e_calculate b6 ?_ h40 h38 hh⟩
    rcases (show o = 3 ∨ o = 4 ∨ o = 5 ∨ o = 6 ∨ o = 7 ∨ o = 8 by omega) with rfl | rfl | rfl | rfl | rfl | rfl <;> exact ht
  have arg5 : (o = 1 ∨ o = 2) → vp_in a 5 := by
    intro q
    obtain ⟨j, hj, e⟩ := arg_1 q htl hok
    rw [e]
    exact vin (by omega)
  have tgtL : (o = 15 ∨ o = 16) → ∀ (V : vS) (kk : Int32 → vS → Prop), (∀ c, 1 ≤ c ∧ c < 15 → V.1 c = K.1 c) → kk (nI (tgt K f i (nt a))) V → p_Fn_target kk V (3 + f) (nI i) a := by
    intro q V kk hV hh
    obtain ⟨j, hj, e⟩ := arg_15 q (by omega) hok
    rw [e] at hh ⊢
    rw [nt_nI (by omega)] at hh
    exact e_target hA hf4 hV hi (by omega) hh
  rcases ops20 ho with rfl | rfl | rfl | rfl | rfl | rfl | rfl | rfl | rfl | rfl | rfl | rfl | rfl | rfl | rfl | rfl | rfl | rfl | rfl | rfl
  · refine br_t rfl (?_)
    exact f_put b6 h40 h
  · refine br_f (by decide) (br_t rfl (?_))
    refine ⟨arg5 (by decide), f_put b6 h40 ?_⟩
    rw [b25]
    exact h
  · refine br_f (by decide) (br_f (by decide) (br_t rfl (?_)))
    refine take1 _ ht ⟨arg5 (by decide), ?_⟩
    rintro _ rfl
    rw [show 19 + d + 6 = 25 + d by omega]
    exact h.ok
  · refine br_f (by decide) (br_f (by decide) (br_f (by decide) (br_t rfl (?_))))
    exact cal (by decide) h
  · refine br_f (by decide) (br_f (by decide) (br_f (by decide) (br_f (by decide) (br_t rfl (?_)))))
    exact cal (by decide) h
  · refine br_f (by decide) (br_f (by decide) (br_f (by decide) (br_f (by decide) (br_f (by decide) (br_t rfl (?_))))))
    exact cal (by decide) h
  · refine br_f (by decide) (br_f (by decide) (br_f (by decide) (br_f (by decide) (br_f (by decide) (br_f (by decide) (br_t rfl (?_)))))))
    exact cal (by decide) h
  · refine br_f (by decide) (br_f (by decide) (br_f (by decide) (br_f (by decide) (br_f (by decide) (br_f (by decide) (br_f (by decide) (br_t rfl (?_))))))))
    exact cal (by decide) h
  · refine br_f (by decide) (br_f (by decide) (br_f (by decide) (br_f (by decide) (br_f (by decide) (br_f (by decide) (br_f (by decide) (br_f (by decide) (br_t rfl (?_)))))))))
    exact cal (by decide) h
  · refine br_f (by decide) (br_f (by decide) (br_f (by decide) (br_f (by decide) (br_f (by decide) (br_f (by decide) (br_f (by decide) (br_f (by decide) (br_f (by decide) (br_t rfl (?_))))))))))
    exact take1 _ ht h.ok
  · refine br_f (by decide) (br_f (by decide) (br_f (by decide) (br_f (by decide) (br_f (by decide) (br_f (by decide) (br_f (by decide) (br_f (by decide) (br_f (by decide) (br_f (by decide) (br_t rfl (?_)))))))))))
    exact e_load b6 ht h40 h
  · refine br_f (by decide) (br_f (by decide) (br_f (by decide) (br_f (by decide) (br_f (by decide) (br_f (by decide) (br_f (by decide) (br_f (by decide) (br_f (by decide) (br_f (by decide) (br_f (by decide) (br_t rfl (?_))))))))))))
    exact e_store b6 ht h40 h
  · refine br_f (by decide) (br_f (by decide) (br_f (by decide) (br_f (by decide) (br_f (by decide) (br_f (by decide) (br_f (by decide) (br_f (by decide) (br_f (by decide) (br_f (by decide) (br_f (by decide) (br_f (by decide) (br_t rfl (?_)))))))))))))
    exact h.ok
  · refine br_f (by decide) (br_f (by decide) (br_f (by decide) (br_f (by decide) (br_f (by decide) (br_f (by decide) (br_f (by decide) (br_f (by decide) (br_f (by decide) (br_f (by decide) (br_f (by decide) (br_f (by decide) (br_f (by decide) (br_t rfl (?_))))))))))))))
    exact h.ok
  · refine br_f (by decide) (br_f (by decide) (br_f (by decide) (br_f (by decide) (br_f (by decide) (br_f (by decide) (br_f (by decide) (br_f (by decide) (br_f (by decide) (br_f (by decide) (br_f (by decide) (br_f (by decide) (br_f (by decide) (br_f (by decide) (br_t rfl (?_)))))))))))))))
    exact h.ok
  · refine br_f (by decide) (br_f (by decide) (br_f (by decide) (br_f (by decide) (br_f (by decide) (br_f (by decide) (br_f (by decide) (br_f (by decide) (br_f (by decide) (br_f (by decide) (br_f (by decide) (br_f (by decide) (br_f (by decide) (br_f (by decide) (br_f (by decide) (br_t rfl (?_))))))))))))))))
    refine tgtL (by decide) B _ bK ?_
    rintro _ rfl
    exact h.ok
  · refine br_f (by decide) (br_f (by decide) (br_f (by decide) (br_f (by decide) (br_f (by decide) (br_f (by decide) (br_f (by decide) (br_f (by decide) (br_f (by decide) (br_f (by decide) (br_f (by decide) (br_f (by decide) (br_f (by decide) (br_f (by decide) (br_f (by decide) (br_f (by decide) (br_t rfl (?_)))))))))))))))))
    refine take1 _ ht ?_
    unfold p_Mc_step_b226
    have h : k 0 (if A.1 31 (sz - 1) = 0 then vTake B (sz - 1) else sv (vTake B (sz - 1)) (19 + d) 2 (nI (tgt K f i (nt a)))) := h.ok
    refine ⟨fun c => ?_, fun c => tgtL (by decide) (vTake B (sz - 1)) _ (fun x hx => by show (sv _ _ _ _).1 x = _; rw [sv_ne _ (by omega)]; exact bK x hx) ?_⟩
    · rw [if_pos c] at h; exact h
    · rintro _ rfl
      rw [if_neg c] at h
      exact h
  · refine br_f (by decide) (br_f (by decide) (br_f (by decide) (br_f (by decide) (br_f (by decide) (br_f (by decide) (br_f (by decide) (br_f (by decide) (br_f (by decide) (br_f (by decide) (br_f (by decide) (br_f (by decide) (br_f (by decide) (br_f (by decide) (br_f (by decide) (br_f (by decide) (br_f (by decide) (br_t rfl (?_))))))))))))))))))
    obtain ⟨j, hj, e⟩ := arg_17 hn h4 hok
    have ht2 : tkA K (nt a) ≤ sz := ht
    rw [e, nt_nI (by omega)] at ht2
    have h : At k (cCall K B (d + 1) sz (nt a)) := h
    rw [e, nt_nI (by omega)] at h
    rw [e]
    exact e_call hA bK b5 (by omega) b6 h40 (by omega) ht2 h
  · refine br_f (by decide) (br_f (by decide) (br_f (by decide) (br_f (by decide) (br_f (by decide) (br_f (by decide) (br_f (by decide) (br_f (by decide) (br_f (by decide) (br_f (by decide) (br_f (by decide) (br_f (by decide) (br_f (by decide) (br_f (by decide) (br_f (by decide) (br_f (by decide) (br_f (by decide) (br_f (by decide) (br_t rfl (?_)))))))))))))))))))
    obtain ⟨j, hj, e⟩ := arg_18 hok
    have h : At k (cAsk B sz (nt a)) := h
    rw [e, nt_nI (by omega)] at h
    rw [e]
    exact e_ask b6 ht h40 hj h
  · refine br_f (by decide) (br_f (by decide) (br_f (by decide) (br_f (by decide) (br_f (by decide) (br_f (by decide) (br_f (by decide) (br_f (by decide) (br_f (by decide) (br_f (by decide) (br_f (by decide) (br_f (by decide) (br_f (by decide) (br_f (by decide) (br_f (by decide) (br_f (by decide) (br_f (by decide) (br_f (by decide) (br_f (by decide) (br_t rfl (?_))))))))))))))))))))
    rintro _ rfl
    rw [bln]
    exact h.ok
