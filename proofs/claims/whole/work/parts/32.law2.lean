/-! PURE PART: the calls that look, poke, grant -/
theorem rng {x M : Int32} {n : Nat} (hM : M.toInt = n) (c : ¬ (x < 0 ∨ M < x)) : ∃ j : Nat, j ≤ n ∧ x = nI j := by
  rw [not_or] at c
  exact nI_of2 hM c.1 (Int32.not_lt.mp c.2)
theorem q_fault {k : Int32 → vS → Prop} {V : vS} (hI : Inv V) (h : ∀ (r : Int32) (V1 : vS), (∀ k2 : Int32 → vS → Prop, (∀ W, Inv W → k2 r W) → p_Mo_fault k2 V1) → k r V1) : p_PR_fault k V := by
  unfold p_PR_fault
  refine h _ V (fun k2 h2 => ?_)
  unfold p_Mo_fault
  obtain ⟨K, i1, i2, i3, i4, i5, i6, i7, i8, i9, i10⟩ := id hI
  rw [i9]
  exact h2 V hI
theorem q_result {k : Int64 → vS → Prop} {V : vS} (hI : Inv V) (h : ∀ (r : Int64) (V1 : vS), (∀ k2 : Int64 → vS → Prop, (∀ W, Inv W → k2 r W) → p_Mo_result k2 V1) → k r V1) : p_PR_result k V := by
  unfold p_PR_result
  refine h _ V (fun k2 h2 => ?_)
  unfold p_Mo_result p_Mo_result_b18
  obtain ⟨K, i1, i2, i3, i4, i5, i6, i7, ⟨dp, sz, q1, q2, q3, q4, q5, q6, q7⟩, i9, i10⟩ := id hI
  have n6 := q5.2.2.2.2.2.2.2.2.2
  refine ⟨fun c => ?_, fun c => ?_⟩
  · rw [if_pos c] at n6
    rw [n6] at h2
    exact h2 V hI
  · rw [if_neg c] at n6
    rw [n6] at h2
    exact h2 V hI
theorem q_memory {k : Int64 → vS → Prop} {V : vS} {x : Int32} (hI : Inv V) (h : ∀ (r : Int64) (V1 : vS), (∀ k2 : Int64 → vS → Prop, (∀ W, Inv W → k2 r W) → p_Mo_memory k2 V1 x) → k r V1) : p_PR_memory k V x := by
  unfold p_PR_memory p_PR_memory_b25
  refine e_within ?_
  by_cases c : x < 0 ∨ 31 < x
  · rw [if_pos c]
    refine ⟨fun _ => h _ V (fun k2 h2 => ?_), fun q => absurd rfl q⟩
    unfold p_Mo_memory p_Mo_memory_b10 p_Mo_memory_b23
    refine ⟨fun _ => h2 V hI, fun c1 => ⟨fun c2 => ?_, fun _ => h2 V hI⟩⟩
    rcases c with c | c
    · exact absurd c c1
    · exact absurd c (Int32.not_lt.mpr c2)
  · rw [if_neg c]
    obtain ⟨j, hj, e⟩ := rng (n := 31) rfl c
    refine ⟨fun q => absurd q (by decide), fun _ => ⟨by rw [e]; exact vin (by omega), h _ V (fun k2 h2 => ?_)⟩⟩
    unfold p_Mo_memory p_Mo_memory_b10 p_Mo_memory_b23
    obtain ⟨K, i1, i2, i3, i4, i5, i6, i7, ⟨dp, sz, q1, q2, q3, q4, q5, q6, q7⟩, i9, i10⟩ := id hI
    have n1 := q5.2.2.2.2.1 j (by omega)
    rw [not_or] at c
    refine ⟨fun q => absurd q c.1, fun _ => ⟨fun _ => ⟨by rw [e]; exact vin (by omega), ?_⟩, fun q => absurd (Int32.not_lt.mp c.2) q⟩⟩
    rw [e, nt_nI (by omega), n1]
    rw [e, nt_nI (by omega)] at h2
    exact h2 V hI
/-- the memory's cell or the grant is written in both -/
theorem Inv_two {V W : vS} (hI : Inv V) (h : ∀ c, c ≠ 32 → c ≠ 33 → c ≠ 47 → c ≠ 48 → W.1 c = V.1 c) (h2 : W.2 = V.2) (h1 : ∀ i, i < 32 → W.1 47 i = W.1 32 i) (h3 : ∀ i, i < 4 → W.1 48 i = W.1 33 i) : Inv W := by
  obtain ⟨K, i1, i2, i3, i4, i5, i6, i7, ⟨dp, sz, q1, q2, q3, q4, ⟨m1, m2, m3, m4, ⟨n1, n2, n3, n4, n5, n6⟩⟩, q6, q7⟩, i9, i10⟩ := id hI
  have hh : ∀ c, c < 32 ∨ (34 ≤ c ∧ c < 47) → W.1 c = V.1 c := fun c q => h c (by omega) (by omega) (by omega) (by omega)
  refine ⟨K, fun c q => by rw [hh c (by omega)]; exact i1 c q, i2, i3.of (by rw [hh 34 (by omega)]) (fun c a b => hh c (by omega)), by rw [hh 16 (by omega)]; exact i4, i5.of (fun c q => hh c (by omega)) (fun j q => by rw [hh 17 (by omega)]) (fun c q => hh c (by omega)), by rw [hh 0 (by omega)]; exact i6, by rw [hh 0 (by omega), hh 17 (by omega)]; exact i7, ⟨dp, sz, by rw [hh 17 (by omega)]; exact q1, q2, by rw [hh 17 (by omega)]; exact q3, q4, ⟨by rw [hh 34 (by omega)]; exact m1, by rw [hh 34 (by omega)]; exact m2, fun d hd => ?_, fun i hi => by rw [hh 46 (by omega), hh 31 (by omega)]; exact m4 i hi, ⟨h1, h3, ?_, ?_, ?_, ?_⟩⟩, ?_, ?_⟩, ?_, ?_⟩
  · rw [hh 43 (by omega), hh 44 (by omega), hh 45 (by omega), hh (19 + d) (by omega), hh (25 + d) (by omega)]; exact m3 d hd
  · rw [hh 34 (by omega), hh 17 (by omega)]; exact n3
  · rw [hh 34 (by omega), hh 17 (by omega)]; exact n4
  · rw [hh 34 (by omega), hh 17 (by omega)]; exact n5
  · rw [hh 34 (by omega), h2]; exact n6
  · rw [hh 34 (by omega), hh 17 (by omega)]; exact q6
  · rw [hh 34 (by omega), hh 17 (by omega)]; exact q7
  · rw [hh 34 (by omega), hh 15 (by omega)]; exact i9
  · rw [hh 34 (by omega), hh 0 (by omega)]; exact i10
theorem q_poke {k : Int32 → vS → Prop} {V : vS} {x y : Int32} (hI : Inv V) (h : ∀ (r : Int32) (V1 : vS), (∀ k2 : Int32 → vS → Prop, (∀ W, Inv W → k2 r W) → p_Mo_poke k2 V1 x y) → k r V1) : p_PR_poke k V x y := by
  unfold p_PR_poke
  refine e_within ?_
  by_cases c : x < 0 ∨ 31 < x
  · rw [if_pos c]
    refine ⟨fun _ => h _ V (fun k2 h2 => ?_), fun q => absurd rfl q⟩
    unfold p_Mo_poke p_Mo_poke_b10
    refine ⟨fun _ => h2 V hI, fun c1 => ⟨fun c2 => ?_, fun _ => h2 V hI⟩⟩
    rcases c with c | c
    · exact absurd c c1
    · exact absurd c (Int32.not_lt.mpr c2)
  · rw [if_neg c]
    obtain ⟨j, hj, e⟩ := rng (n := 31) rfl c
    rw [not_or] at c
    refine ⟨fun q => absurd q (by decide), fun _ => ⟨by rw [e]; exact vin (by omega), ?_⟩⟩
    rintro _ rfl
    refine h _ _ (fun k2 h2 => ?_)
    unfold p_Mo_poke p_Mo_poke_b10
    refine ⟨fun q => absurd q c.1, fun _ => ⟨fun _ => ⟨by rw [e]; exact vin (by omega), ?_⟩, fun q => absurd (Int32.not_lt.mp c.2) q⟩⟩
    rintro _ rfl
    rw [e, nt_nI (by omega)]
    obtain ⟨K, i1, i2, i3, i4, i5, i6, i7, ⟨dp, sz, q1, q2, q3, q4, ⟨m1, m2, m3, m4, ⟨n1, n2, n3, n4, n5, n6⟩⟩, q6, q7⟩, i9, i10⟩ := id hI
    refine h2 _ (Inv_two hI (fun c a b d z => by rw [sv_ne _ d, sv_ne _ a]) rfl (fun i hi => ?_) (fun i hi => ?_))
    · by_cases ei : i = j
      · subst ei; simp (disch := omega) only [sv_ne, sv_at, sv_eq]
      · simp (disch := omega) only [sv_ne, sv_at, sv_eq]; exact n1 i hi
    · simp (disch := omega) only [sv_ne, sv_at, sv_eq]; exact n2 i hi
theorem q_grant {k : Int32 → vS → Prop} {V : vS} {x y : Int32} (hI : Inv V) (h : ∀ (r : Int32) (V1 : vS), (∀ k2 : Int32 → vS → Prop, (∀ W, Inv W → k2 r W) → p_Mo_grant k2 V1 x y) → k r V1) : p_PR_grant k V x y := by
  unfold p_PR_grant
  refine e_within ?_
  by_cases c : x < 0 ∨ 3 < x
  · rw [if_pos c]
    refine ⟨fun _ => h _ V (fun k2 h2 => ?_), fun q => absurd rfl q⟩
    unfold p_Mo_grant p_Mo_grant_b9
    refine ⟨fun _ => h2 V hI, fun c1 => ⟨fun c2 => ?_, fun _ => h2 V hI⟩⟩
    rcases c with c | c
    · exact absurd c c1
    · exact absurd c (Int32.not_lt.mpr c2)
  · rw [if_neg c]
    obtain ⟨j, hj, e⟩ := rng (n := 3) rfl c
    rw [not_or] at c
    refine ⟨fun q => absurd q (by decide), fun _ => ⟨by rw [e]; exact vin (by omega), ?_⟩⟩
    rintro _ rfl
    refine h _ _ (fun k2 h2 => ?_)
    unfold p_Mo_grant p_Mo_grant_b9
    refine ⟨fun q => absurd q c.1, fun _ => ⟨fun _ => ⟨by rw [e]; exact vin (by omega), ?_⟩, fun q => absurd (Int32.not_lt.mp c.2) q⟩⟩
    rintro _ rfl
    rw [e, nt_nI (by omega)]
    obtain ⟨K, i1, i2, i3, i4, i5, i6, i7, ⟨dp, sz, q1, q2, q3, q4, ⟨m1, m2, m3, m4, ⟨n1, n2, n3, n4, n5, n6⟩⟩, q6, q7⟩, i9, i10⟩ := id hI
    refine h2 _ (Inv_two hI (fun c a b d z => by rw [sv_ne _ z, sv_ne _ b]) rfl (fun i hi => ?_) (fun i hi => ?_))
    · simp (disch := omega) only [sv_ne, sv_at, sv_eq]; exact n1 i hi
    · by_cases ei : i = j
      · subst ei; simp (disch := omega) only [sv_ne, sv_at, sv_eq]
      · simp (disch := omega) only [sv_ne, sv_at, sv_eq]; exact n2 i hi
theorem q_state {k : Int32 → vS → Prop} {V : vS} {x : Int32} (hI : Inv V) (h : ∀ (r : Int32) (V1 : vS), (∀ k2 : Int32 → vS → Prop, (∀ W, Inv W → k2 r W) → p_Mo_state k2 V1 x) → k r V1) : p_PR_state k V x := by
  obtain ⟨K, i1, i2, i3, i4, i5, i6, i7, ⟨dp, sz, q1, q2, q3, q4, ⟨m1, m2, m3, m4, m5⟩, q6, q7⟩, i9, i10⟩ := id hI
  unfold p_PR_state
  refine e_within ?_
  by_cases c : x < 0 ∨ 5 < x
  · rw [if_pos c]
    refine ⟨fun _ => h _ V (fun k2 h2 => ?_), fun q => absurd rfl q⟩
    unfold p_Mo_state p_Mo_state_b16
    refine ⟨fun _ => h2 V hI, fun c1 => ⟨fun _ => h2 V hI, fun c2 => ?_⟩⟩
    rcases c with c | c
    · exact absurd c c1
    · exact absurd c c2
  · rw [if_neg c]
    refine ⟨fun q => absurd q (by decide), fun _ => e_isUnderWay q1 q2 ?_⟩
    have mst : ∀ (r : Int32) (k2 : Int32 → vS → Prop), (∀ W, Inv W → k2 r W) → ((dp = 0 → r = -1) ∧ (∀ d, dp = d + 1 → (x = 0 → r = V.1 34 18) ∧ (x = 1 → r = V.1 43 d) ∧ (x = 2 → r = V.1 44 d) ∧ (x = 3 → r = V.1 34 19) ∧ (x = 4 → r = V.1 34 20) ∧ (¬ x = 0 → ¬ x = 1 → ¬ x = 2 → ¬ x = 3 → ¬ x = 4 → (0 ≤ V.1 34 20 → r = V.1 34 21) ∧ (¬ 0 ≤ V.1 34 20 → r = 0)))) → p_Mo_state k2 V x := by
      intro r k2 h2 hr
      unfold p_Mo_state p_Mo_state_b16 p_Mo_state_b98
      rw [not_or] at c
      refine ⟨fun q => absurd q c.1, fun _ => ⟨fun q => absurd q c.2, fun _ => ?_⟩⟩
      rw [m1, k0, eq_iff]
      refine ⟨fun d0 => by rw [← hr.1 d0]; exact h2 V hI, fun d0 => ?_⟩
      obtain ⟨d, ed⟩ : ∃ d, dp = d + 1 := ⟨dp - 1, by omega⟩
      obtain ⟨s0, s1, s2, s3, s4, s5⟩ := hr.2 d ed
      rw [m1] at s0
      rw [ed, nI_pred, nt_nI (by omega), ← ed]
      refine ⟨fun c0 => by rw [← s0 c0]; exact h2 V hI, fun c0 => ⟨fun c1 => ⟨vin (by omega), by rw [← s1 c1]; exact h2 V hI⟩, fun c1 => ⟨fun c2 => ⟨vin (by omega), by rw [← s2 c2]; exact h2 V hI⟩, fun c2 => ⟨fun c3 => by rw [← s3 c3]; exact h2 V hI, fun c3 => ⟨fun c4 => by rw [← s4 c4]; exact h2 V hI, fun c4 => ?_⟩⟩⟩⟩⟩
      obtain ⟨u1, u2⟩ := s5 c0 c1 c2 c3 c4
      exact ⟨fun z => by rw [← u1 z]; exact h2 V hI, fun z => by rw [← show r = nI 0 from u2 z]; exact h2 V hI⟩
    by_cases d0 : dp = 0
    · rw [if_pos d0]
      exact ⟨fun _ => h _ V (fun k2 h2 => mst _ k2 h2 ⟨fun _ => rfl, fun d ed => by omega⟩), fun q => absurd rfl q⟩
    · rw [if_neg d0]
      refine ⟨fun q => absurd q (by decide), fun _ => ?_⟩
      obtain ⟨d, ed⟩ : ∃ d, dp = d + 1 := ⟨dp - 1, by omega⟩
      subst ed
      have dd : ∀ e, d + 1 = e + 1 → e = d := fun e q => by omega
      have n01 : ¬ (0 : Int32) = 1 := by decide
      obtain ⟨f1, f2, f3⟩ := m3 d (by omega)
      have wi : (0 ≤ V.1 34 20 → V.1 17 8 = V.1 34 21) ∧ (¬ 0 ≤ V.1 34 20 → V.1 17 8 = 0) := by
        obtain ⟨dp', sz', wt, fn, nx, hR, hw⟩ := i5
        rcases hw with ⟨-, w7, w8⟩ | ⟨-, -, -, hh, hh4, w7⟩
        · rw [q6, w7]
          exact ⟨fun q => absurd q (by decide), fun _ => w8⟩
        · have n7 : V.1 17 7 ≠ -1 := by
            rw [w7]
            intro q
            have := nI_pos (n := hh) (by omega)
            rw [q] at this
            exact this (by decide)
          refine ⟨fun _ => (q7 n7).symm, fun q => ?_⟩
          rw [q6, w7] at q
          exact absurd (nI_pos' (by omega)) q
      refine ⟨fun c0 => h _ V (fun k2 h2 => mst _ k2 h2 ⟨fun q => by omega, fun e he => ⟨fun _ => by rw [q1, m1], fun z => ?_, fun z => ?_, fun z => ?_, fun z => ?_, fun z => absurd c0 z⟩⟩), fun c0 => ⟨fun c1 => e_innermost q1 (by omega) (h _ V (fun k2 h2 => mst _ k2 h2 ⟨fun q => by omega, fun e he => ⟨fun z => absurd z c0, fun _ => by rw [dd e he]; exact f1.symm, fun z => ?_, fun z => ?_, fun z => ?_, fun _ z => absurd c1 z⟩⟩)), fun c1 => ⟨fun c2 => e_innermost q1 (by omega) (h _ V (fun k2 h2 => mst _ k2 h2 ⟨fun q => by omega, fun e he => ⟨fun z => absurd z c0, fun z => absurd z c1, fun _ => by rw [dd e he]; exact f2.symm, fun z => ?_, fun z => ?_, fun _ _ z => absurd c2 z⟩⟩)), fun c2 => ⟨fun c3 => h _ V (fun k2 h2 => mst _ k2 h2 ⟨fun q => by omega, fun e he => ⟨fun z => absurd z c0, fun z => absurd z c1, fun z => absurd z c2, fun _ => by rw [q3, m2], fun z => ?_, fun _ _ _ z => absurd c3 z⟩⟩), fun c3 => ⟨fun c4 => h _ V (fun k2 h2 => mst _ k2 h2 ⟨fun q => by omega, fun e he => ⟨fun z => absurd z c0, fun z => absurd z c1, fun z => absurd z c2, fun z => absurd z c3, fun _ => q6.symm, fun _ _ _ _ z => absurd c4 z⟩⟩), fun c4 => h _ V (fun k2 h2 => mst _ k2 h2 ⟨fun q => by omega, fun e he => ⟨fun z => absurd z c0, fun z => absurd z c1, fun z => absurd z c2, fun z => absurd z c3, fun z => absurd z c4, fun _ _ _ _ _ => wi⟩⟩)⟩⟩⟩⟩⟩
      · rw [c0] at z; exact absurd z (by decide)
      · rw [c0] at z; exact absurd z (by decide)
      · rw [c0] at z; exact absurd z (by decide)
      · rw [c0] at z; exact absurd z (by decide)
      · rw [c1] at z; exact absurd z (by decide)
      · rw [c1] at z; exact absurd z (by decide)
      · rw [c1] at z; exact absurd z (by decide)
      · rw [c2] at z; exact absurd z (by decide)
      · rw [c2] at z; exact absurd z (by decide)
      · rw [c3] at z; exact absurd z (by decide)
