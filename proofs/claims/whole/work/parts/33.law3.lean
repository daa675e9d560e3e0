/-! PURE PART: count, function, emit, erase, check -/
theorem q_count {k : Int32 → vS → Prop} {V : vS} {x : Int32} (hI : Inv V) (h : ∀ (r : Int32) (V1 : vS), (∀ k2 : Int32 → vS → Prop, (∀ W, Inv W → k2 r W) → p_Mo_count k2 V1 x) → k r V1) : p_PR_count k V x := by
  obtain ⟨K, i1, i2, i3, i4, i5, i6, i7, ⟨dp, sz, q1, q2, q3, q4, ⟨m1, m2, m3, m4, ⟨n1, n2, n3, n4, n5, n6⟩⟩, q6, q7⟩, i9, i10⟩ := id hI
  have hn4 := i2.1.2
  have v11 : V.1 1 1 = nI (nFA K) := by rw [i1 1 (by omega)]; exact i2.1.1
  have v6 : V.1 34 6 = nI (nFA K) := by rw [i3.1]; exact i2.1.1
  have mo : ∀ (k2 : Int32 → vS → Prop), ¬ x = 0 → ¬ x = 1 → ¬ x = 2 → ¬ x = 3 → ¬ x = 4 → p_Mo_count_b40 k2 V x → p_Mo_count k2 V x := by
    intro k2 c0 c1 c2 c3 c4 hb
    unfold p_Mo_count
    refine ⟨fun q => absurd q c0, fun _ => ⟨fun _ => hb, fun z1 => ⟨fun _ => hb, fun z2 => ?_⟩⟩⟩
    obtain ⟨j, hj, e⟩ := rng (x := x) (M := 4) (n := 4) rfl (by
      intro q
      rcases q with q | q
      · exact z1 (Int32.lt_trans q (by decide))
      · exact z2 q)
    rcases (show j = 0 ∨ j = 1 ∨ j = 2 ∨ j = 3 ∨ j = 4 by omega) with rfl | rfl | rfl | rfl | rfl
    · exact absurd e c0
    · exact absurd e c1
    · exact absurd e c2
    · exact absurd e c3
    · exact absurd e c4
  have a14 : ∀ j : Nat, j < 4 → x = nI (j + 1) → p_Pg_has (fun r4 V3 => (r4 = 0 → (p_PR_count_b91 k V3 0)) ∧ (¬ r4 = 0 → (vp_in (x - 1) 4 ∧ (p_PR_count_b91 k V3 (V3.1 (3 + nt (x - 1)) 2))))) V (x - 1) := by
    intro j hj ex
    have e1 : x - 1 = nI j := by rw [ex, nI_pred]
    rw [e1, nt_nI (by omega)]
    have mod : ∀ (k2 : Int32 → vS → Prop), (nFA K ≤ j → k2 0 V) → (¬ nFA K ≤ j → k2 (V.1 38 j) V) → p_Mo_count k2 V x := by
      intro k2 g1 g2
      unfold p_Mo_count p_Mo_count_b39
      rw [e1, nt_nI (by omega), ex, v6]
      refine ⟨fun q => absurd q (by rw [k0, eq_iff]; omega), fun _ => ⟨fun q => absurd q (by rw [k1, lt_iff]; omega), fun _ => ⟨fun q => absurd q (by rw [k4, lt_iff]; omega), fun _ => ?_⟩⟩⟩
      rw [lt_iff]
      exact ⟨fun q => g1 (by omega), fun q => ⟨vin hj, g2 (by omega)⟩⟩
    refine e_has ?_
    rw [v11]
    unfold p_PR_count_b91
    by_cases c : nFA K ≤ j
    · rw [if_pos (Or.inr (nI_le c (by omega)))]
      exact ⟨fun _ => h _ V (fun k2 h2 => mod k2 (fun _ => h2 V hI) (fun q => absurd c q)), fun q => absurd rfl q⟩
    · rw [if_neg (by
        intro q
        rcases q with q | q
        · exact nI_pos (by omega) q
        · rw [le_iff] at q; exact c q)]
      refine ⟨fun q => absurd q (by decide), fun _ => ⟨vin hj, h _ V (fun k2 h2 => mod k2 (fun q => absurd q c) (fun _ => ?_))⟩⟩
      have : V.1 38 j = V.1 (3 + j) 2 := by rw [(i3.2 j hj).2.2.2.1, i1 (3 + j) (by omega)]
      rw [this]
      exact h2 V hI
  unfold p_PR_count p_PR_count_b112
  refine ⟨fun c0 => h _ V (fun k2 h2 => ?_), fun c0 => ⟨fun c1 => a14 0 (by omega) c1, fun c1 => ⟨fun c2 => a14 1 (by omega) c2, fun c2 => ⟨fun c3 => a14 2 (by omega) c3, fun c3 => ⟨fun c4 => a14 3 (by omega) c4, fun c4 => ⟨fun c5 => h _ V (fun k2 h2 => mo k2 c0 c1 c2 c3 c4 ?_), fun c5 => ⟨fun c6 => ?_, fun c6 => ⟨fun c7 => h _ V (fun k2 h2 => mo k2 c0 c1 c2 c3 c4 ?_), fun c7 => ⟨fun c8 => h _ V (fun k2 h2 => mo k2 c0 c1 c2 c3 c4 ?_), fun c8 => h _ V (fun k2 h2 => mo k2 c0 c1 c2 c3 c4 ?_)⟩⟩⟩⟩⟩⟩⟩⟩⟩
  · unfold p_Mo_count
    refine ⟨fun _ => ?_, fun q => absurd c0 q⟩
    rw [v6, ← v11]
    exact h2 V hI
  · unfold p_Mo_count_b40
    refine ⟨fun _ => ?_, fun q => absurd c5 q⟩
    rw [n3]
    exact h2 V hI
  · rcases i6 with z | z
    · refine ⟨fun _ => h _ V (fun k2 h2 => mo k2 c0 c1 c2 c3 c4 ?_), fun q => absurd z q⟩
      unfold p_Mo_count_b40 p_Mo_count_b68
      rw [i10, z]
      exact ⟨fun q => absurd q c5, fun _ => ⟨fun _ => ⟨fun _ => h2 V hI, fun q => absurd rfl q⟩, fun q => absurd c6 q⟩⟩
    · refine ⟨fun q => absurd q (by rw [z]; decide), fun _ => h _ V (fun k2 h2 => mo k2 c0 c1 c2 c3 c4 ?_)⟩
      unfold p_Mo_count_b40 p_Mo_count_b68
      rw [i10, z]
      exact ⟨fun q => absurd q c5, fun _ => ⟨fun _ => ⟨fun q => absurd q (by decide), fun _ => h2 V hI⟩, fun q => absurd c6 q⟩⟩
  · unfold p_Mo_count_b40
    refine ⟨fun q => absurd q c5, fun _ => ⟨fun q => absurd q c6, fun _ => ⟨fun _ => ?_, fun q => absurd c7 q⟩⟩⟩
    rw [n4]
    exact h2 V hI
  · unfold p_Mo_count_b40 p_Mo_count_b94
    refine ⟨fun q => absurd q c5, fun _ => ⟨fun q => absurd q c6, fun _ => ⟨fun q => absurd q c7, fun _ => ⟨fun _ => ?_, fun q => absurd c8 q⟩⟩⟩⟩
    rw [n5]
    exact h2 V hI
  · unfold p_Mo_count_b40 p_Mo_count_b94
    exact ⟨fun q => absurd q c5, fun _ => ⟨fun q => absurd q c6, fun _ => ⟨fun q => absurd q c7, fun _ => ⟨fun q => absurd q c8, fun _ => h2 V hI⟩⟩⟩⟩
theorem e_PRcheckK {k : Int32 → vS → Prop} {K V : vS} (hA : Cwf K) (hK : ∀ c, 1 ≤ c ∧ c < 15 → V.1 c = K.1 c) (h16 : V.1 16 0 = 0) (h0 : nFA K = 0 → k (-3) V)
    (h : 0 < nFA K → ∀ V1 : vS, (∀ c, c ≠ 0 → c ≠ 15 → c ≠ 16 → V1.1 c = V.1 c) → V1.2 = V.2 → V1.1 15 5 = nI (cka K (nFA K) 0).1 → V1.1 0 3 = (if (cka K (nFA K) 0).1 = 0 then 1 else 0) → V1.1 16 0 = 0 → k (ckAns K) V1) : p_PR_check k V := by
  have h4 := hA.1.2
  unfold p_PR_check
  rw [hK 1 (by omega), hA.1.1, k0, eq_iff]
  refine ⟨fun c => h0 c, fun c => ?_⟩
  have hn : 0 < nFA K := by omega
  have h5 := cka_le K (nFA K) 0
  refine e_goThroughAll hA hn hK h16 (fun V1 g1 g2 g3 g4 g5 => ?_)
  rw [g3, eq_iff]
  unfold p_PR_check_b36
  unfold ckAns at h
  refine ⟨fun c1 => ⟨by decide, ?_⟩, fun c1 => ⟨by decide, ?_⟩⟩
  · rintro _ rfl
    rw [sv_eq]
    refine ⟨fun q => absurd q (by decide), fun _ => ?_⟩
    have hh := h hn (sv V1 0 3 1) (fun c a b d => by rw [sv_ne _ a, g1 c b d]) (by rw [sv_2, g2]) (by rw [sv_ne _ (by decide)]; exact g3) (by rw [sv_eq, if_pos c1]) (by rw [sv_ne _ (by decide)]; exact g5)
    rw [if_pos c1] at hh
    exact hh
  · rintro _ rfl
    rw [sv_eq]
    refine ⟨fun _ => ?_, fun q => absurd rfl q⟩
    have hh := h hn (sv V1 0 3 (nI 0)) (fun c a b d => by rw [sv_ne _ a, g1 c b d]) (by rw [sv_2, g2]) (by rw [sv_ne _ (by decide)]; exact g3) (by rw [sv_eq, if_neg c1]; rfl) (by rw [sv_ne _ (by decide)]; exact g5)
    rw [if_neg c1] at hh
    rw [sv_ne _ (by decide), (g4 c1).1, (g4 c1).2]
    exact hh
theorem q_check {k : Int32 → vS → Prop} {V : vS} (hI : Inv V) (h : ∀ (r : Int32) (V1 : vS), (∀ k2 : Int32 → vS → Prop, (∀ W, Inv W → k2 r W) → p_Mo_check k2 V1) → k r V1) : p_PR_check k V := by
  obtain ⟨K, i1, i2, i3, i4, i5, i6, i7, i8, i9, i10⟩ := id hI
  refine e_PRcheckK i2 i1 i4 (fun c => h _ V (fun k2 h2 => e_Mcheck i2 i3 (fun _ => h2 V hI) (fun q => absurd q (by omega)))) (fun hn V1 g1 g2 g3 g4 g5 => h _ V1 (fun k2 h2 => e_Mcheck i2 (i3.hi (fun c q => g1 c (by omega) (by omega) (by omega))) (fun q => absurd q (by omega)) (fun _ V2 f1 f2 f3 f4 f5 => h2 V2 ?_)))
  have e : ∀ c, (1 ≤ c ∧ c < 15) ∨ (17 ≤ c ∧ c < 34) ∨ (34 < c ∧ c ≠ 41 ∧ c ≠ 42) → V2.1 c = V.1 c := fun c q => by rw [f1 c (by omega) (by omega) (by omega), g1 c (by omega) (by omega) (by omega)]
  have e34 : ∀ j, j ≠ 7 → j ≠ 8 → j ≠ 11 → j ≠ 12 → j ≠ 13 → V2.1 34 j = V.1 34 j := fun j a b d e z => by rw [f3 j a b d e z, g1 34 (by omega) (by omega) (by omega)]
  have e03 : V2.1 0 3 = (if (cka K (nFA K) 0).1 = 0 then 1 else 0) := by rw [f1 0 (by omega) (by omega) (by omega)]; exact g4
  refine ⟨K, fun c q => by rw [e c (by omega)]; exact i1 c q, i2, i3.of (e34 6 (by decide) (by decide) (by decide) (by decide) (by decide)) (fun c a b => e c (by omega)), by rw [f1 16 (by omega) (by omega) (by omega)]; exact g5, i5.of (fun c q => e c (by omega)) (fun j q => by rw [e 17 (by omega)]) (fun c q => e c (by omega)), ?_, fun q => ?_, ?_, by rw [f4, f1 15 (by omega) (by omega) (by omega), g3], by rw [f5, e03]⟩
  · rw [e03]
    split
    · exact Or.inr rfl
    · exact Or.inl rfl
  · refine ⟨hn, ?_⟩
    rcases q with q | q
    · rw [e 17 (by omega)] at q
      exact (i7 (Or.inl q)).2
    · rw [e03] at q
      by_cases c : (cka K (nFA K) 0).1 = 0
      · exact fun f hf => cka_vld (nFA K) 0 (by omega) c f (Nat.zero_le _) hf
      · rw [if_neg c] at q
        exact absurd rfl q
  · obtain ⟨dp, sz, q1, q2, q3, q4, q5, q6, q7⟩ := i8
    have f34 : ∀ j, j = 18 ∨ j = 19 ∨ j = 25 ∨ j = 26 ∨ j = 27 ∨ j = 28 ∨ j = 29 ∨ j = 20 ∨ j = 21 → V2.1 34 j = V.1 34 j := fun j q => e34 j (by omega) (by omega) (by omega) (by omega) (by omega)
    refine ⟨dp, sz, by rw [e 17 (by omega)]; exact q1, q2, by rw [e 17 (by omega)]; exact q3, q4, ?_, by rw [f34 20 (by omega), e 17 (by omega)]; exact q6, by rw [f34 21 (by omega), e 17 (by omega)]; exact q7⟩
    exact (q5.own (V1 := V2) (fun c q => e c (by omega)) (fun j q => f34 j (by omega))).of q2 (fun _ _ => rfl) (fun c q => e c (by omega)) (by rw [f2, g2])
