/-! PURE PART: leaving finished functions, the class's go -/
def dpA (A : vS) : Nat := nt (A.1 17 5)
def szA (A : vS) : Nat := nt (A.1 17 6)
def fnA (A : vS) (d : Nat) : Nat := nt (A.1 (19 + d) 1)
def nxA (A : vS) (d : Nat) : Nat := nt (A.1 (19 + d) 2)
def popF (K A : vS) (d f : Nat) : vS := if d = 0 then sv (sv (sv (sj A (if gvA K f = 0 then -1000000000000 else (A.1 31 0).toInt64)) 17 6 0) 17 10 (A.1 17 10 + 1)) 17 5 (nI 0) else sv A 17 5 (nI d)
def lfn (K : vS) : Nat → vS → vS
  | 0, A => A
  | d + 1, A => if nxA A d < lnA K (fnA A d) then A else lfn K d (popF K A d (fnA A d))
theorem RI_view {K A : vS} {dp sz wt : Nat} {fn nx : Nat → Nat} (hA : Cwf K) (hR : RI K A dp sz wt fn nx) : dpA A = dp ∧ szA A = sz ∧ ∀ d, d < dp → fnA A d = fn d ∧ nxA A d = nx d := by
  obtain ⟨r1, r2, r3, r4, r5, r6, -, -⟩ := hR
  have h4 := hA.1.2
  refine ⟨by unfold dpA; rw [r2, nt_nI (by omega)], by unfold szA; rw [r4, nt_nI (by omega)], fun d hd => ?_⟩
  obtain ⟨a1, a2, a3, a4⟩ := r6 d hd
  have hl := (hA.2 (fn d) (by omega)).1.2
  exact ⟨by unfold fnA; rw [a1, nt_nI (by omega)], by unfold nxA; rw [a3, nt_nI (by omega)]⟩
theorem popF_sT (K A : vS) (d f : Nat) : (∀ c, c < 17 → (popF K A d f).1 c = A.1 c) ∧ (∀ c, 18 ≤ c → (popF K A d f).1 c = A.1 c) ∧ (∀ j, (j = 7 ∨ j = 8 ∨ j = 9 ∨ j = 11) → (popF K A d f).1 17 j = A.1 17 j) ∧ (popF K A d f).1 17 5 = nI d := by
  unfold popF
  by_cases c : d = 0
  · subst c
    rw [if_pos rfl]
    refine ⟨fun c hc => ?_, fun c hc => ?_, fun j hj => ?_, ?_⟩
    · rw [sv_ne _ (by omega), sv_ne _ (by omega), sv_ne _ (by omega)]; rfl
    · rw [sv_ne _ (by omega), sv_ne _ (by omega), sv_ne _ (by omega)]; rfl
    · rw [sv_at _ (by omega), sv_at _ (by omega), sv_at _ (by omega)]; rfl
    · exact sv_eq _ _ _ _
  · rw [if_neg c]
    refine ⟨fun c hc => ?_, fun c hc => ?_, fun j hj => ?_, ?_⟩
    · rw [sv_ne _ (by omega)]
    · rw [sv_ne _ (by omega)]
    · rw [sv_at _ (by omega)]
    · exact sv_eq _ _ _ _
theorem RI_pop {K A : vS} {d sz : Nat} {fn nx : Nat → Nat} (hVl : ∀ g, g < nFA K → Vld K g) (hR : RI K A (d + 1) sz 0 fn nx) (hi : nx d = lnA K (fn d)) : RI K (popF K A d (fn d)) d (if d = 0 then 0 else sz) 0 fn nx := by
  obtain ⟨r1, r2, r3, r4, r5, r6, r7, r8⟩ := hR
  obtain ⟨p1, p2, p3, p5⟩ := popF_sT K A d (fn d)
  have htop := (r8 d rfl).2 hi
  have p6 : (popF K A d (fn d)).1 17 6 = nI (if d = 0 then 0 else sz) := by
    unfold popF
    by_cases c : d = 0
    · subst c
      rw [if_pos rfl, if_pos rfl, sv_at _ (by decide), sv_at _ (by decide), sv_eq]; rfl
    · rw [if_neg c, if_neg c, sv_at _ (by decide)]; exact r4
  refine ⟨fun c hc => (p1 c (by omega)).trans (r1 c hc), p5, by omega, p6, by split <;> omega, fun e he => ?_, fun e he => r7 e (by omega), fun e he => ?_⟩
  · rw [p2 (19 + e) (by omega)]; exact r6 e (by omega)
  · subst he
    rw [if_neg (by omega)]
    obtain ⟨q1, q2⟩ := r7 e (by omega)
    obtain ⟨-, a2, -, -⟩ := r6 e (by omega)
    refine top_ok (hVl _ a2) q1 ?_
    have hb : bel K fn nx (e + 1) = bel K fn nx e + ((sts K (fn e) (nx e)).2.1 - gvA K (fn (e + 1))) := rfl
    omega
theorem RI_lfn {K : vS} {fn nx : Nat → Nat} (hA : Cwf K) (hVl : ∀ g, g < nFA K → Vld K g) : ∀ (dp sz : Nat) (A : vS), RI K A dp sz 0 fn nx → ∃ dp' sz', dp' ≤ dp ∧ RI K (lfn K dp A) dp' sz' 0 fn nx ∧ (∀ d, d + 1 = dp' → nx d < lnA K (fn d)) ∧ (lfn K dp A).1 17 7 = A.1 17 7 ∧ (lfn K dp A).1 17 8 = A.1 17 8 := by
  intro dp
  induction dp with
  | zero =>
    intro sz A hR
    exact ⟨0, sz, Nat.le_refl _, hR, fun d hd => by omega, rfl, rfl⟩
  | succ d ih =>
    intro sz A hR
    obtain ⟨-, -, hv⟩ := RI_view hA hR
    obtain ⟨v1, v2⟩ := hv d (by omega)
    unfold lfn
    rw [v1, v2]
    by_cases c : nx d < lnA K (fn d)
    · rw [if_pos c]
      exact ⟨d + 1, sz, Nat.le_refl _, hR, fun e he => by rw [show e = d by omega]; exact c, rfl, rfl⟩
    · rw [if_neg c]
      have hle := (hR.2.2.2.2.2.1 d (by omega)).2.2.2
      obtain ⟨dp', sz', h1, h2, h3, h4, h5⟩ := ih _ _ (RI_pop hVl hR (by omega))
      obtain ⟨-, -, p3, -⟩ := popF_sT K A d (fn d)
      exact ⟨dp', sz', by omega, h2, h3, h4.trans (p3 7 (by decide)), h5.trans (p3 8 (by decide))⟩
theorem e_lfn {k : vS → Prop} {K : vS} {fn nx : Nat → Nat} (hA : Cwf K) (hVl : ∀ g, g < nFA K → Vld K g) : ∀ (dp sz : Nat) (A : vS), RI K A dp sz 0 fn nx → k (lfn K dp A) → p_Mc_leaveFinished_b0 k (dp + 1) A := by
  have h4 := hA.1.2
  intro dp
  induction dp with
  | zero =>
    intro sz A hR h
    unfold p_Mc_leaveFinished_b0 p_Mc_leaveFinished_b75
    rw [hR.2.1]
    exact ⟨fun _ => h, fun q => absurd (by decide) q⟩
  | succ d ih =>
    intro sz A hR h
    obtain ⟨-, -, hv⟩ := RI_view hA hR
    obtain ⟨v1, v2⟩ := hv d (by omega)
    obtain ⟨r1, r2, r3, r4, r5, r6, -, -⟩ := id hR
    obtain ⟨a1, a2, a3, a4⟩ := r6 d (by omega)
    have hl := (hA.2 (fn d) (by omega)).1.2
    have eln : A.1 (3 + fn d) 2 = nI (lnA K (fn d)) := by rw [r1 _ (by omega), (hA.2 (fn d) (by omega)).1.1]
    have egv : A.1 (3 + fn d) 4 = nI (gvA K (fn d)) := by rw [r1 _ (by omega), (hA.2 (fn d) (by omega)).2.2.1.1]
    have hg1 := (hA.2 (fn d) (by omega)).2.2.1.2
    unfold lfn at h
    rw [v1, v2] at h
    unfold p_Mc_leaveFinished_b0 p_Mc_leaveFinished_b75 p_Mc_leaveFinished_b62
    refine ⟨fun q => ?_, fun _ => e_innermost r2 (by omega) (e_innermost r2 (by omega) ?_)⟩
    · rw [r2, k0, le_iff] at q; omega
    · rw [a1, a3, nt_nI (show fn d < 2 ^ 31 by omega), eln, lt_iff]
      refine ⟨vin (by omega), fun c => ?_, fun c => ?_⟩
      · rw [if_pos c] at h; exact h
      · rw [if_neg c] at h
        have hpop := RI_pop hVl hR (by omega)
        rw [r2, k1, eq_iff]
        refine ⟨fun c2 => e_innermost r2 (by omega) ?_, fun c2 => ?_⟩
        · have c3 : d = 0 := by omega
          subst c3
          rw [a1, nt_nI (show fn 0 < 2 ^ 31 by omega)]
          refine ⟨vin (by omega), ?_⟩
          have hk : ∀ x : Int64, x = (if gvA K (fn 0) = 0 then -1000000000000 else (A.1 31 0).toInt64) → p_Mc_keepResult_b21 (fun V15 => ∀ V1 : vS, V1 = sv V15 17 5 ((V15.1 17 5) - 1) → p_Mc_leaveFinished_b0 k (0 + 1) V1) A x := by
            intro x ex
            unfold p_Mc_keepResult_b21
            rintro _ rfl _ rfl _ rfl _ rfl
            have e5 : (sv (sv (sj A x) 17 6 0) 17 10 ((sv (sj A x) 17 6 0).1 17 10 + 1)).1 17 5 - 1 = nI 0 := by
              have : (sv (sv (sj A x) 17 6 0) 17 10 ((sv (sj A x) 17 6 0).1 17 10 + 1)).1 17 5 = nI 1 := by
                rw [sv_at _ (by decide), sv_at _ (by decide)]; exact r2
              rw [this]; rfl
            rw [e5]
            have e10 : (sv (sj A x) 17 6 0).1 17 10 = A.1 17 10 := by rw [sv_at _ (by decide)]; rfl
            rw [e10]
            have ep : popF K A 0 (fn 0) = sv (sv (sv (sj A x) 17 6 0) 17 10 (A.1 17 10 + 1)) 17 5 (nI 0) := by
              unfold popF
              rw [if_pos rfl, ← ex]
            rw [← ep]
            exact ih _ _ hpop h
          unfold p_Mc_keepResult
          rw [egv, k0, le_iff]
          refine ⟨fun c5 => hk _ (by rw [if_pos (by omega)]), fun c5 => ⟨by unfold vp_in; decide, hk _ (by rw [if_neg (by omega)]; rfl)⟩⟩
        · rintro _ rfl
          rw [show nI (d + 1) - nI 1 = nI d from nI_pred d]
          have ep : popF K A d (fn d) = sv A 17 5 (nI d) := by
            unfold popF
            rw [if_neg (by omega)]
          rw [ep] at h hpop
          exact ih _ _ hpop h
def cgo (K : vS) : Nat → vS → Int32 × vS
  | 0, A => (if dpA (lfn K (dpA A) A) = 0 then 1 else 2, lfn K (dpA A) A)
  | n + 1, A => if dpA (lfn K (dpA A) A) = 0 then (1, lfn K (dpA A) A) else
      if (cst K (sv (lfn K (dpA A) A) 17 9 ((lfn K (dpA A) A).1 17 9 + 1)) (dpA (lfn K (dpA A) A) - 1) (szA (lfn K (dpA A) A)) (fnA (lfn K (dpA A) A) (dpA (lfn K (dpA A) A) - 1)) (nxA (lfn K (dpA A) A) (dpA (lfn K (dpA A) A) - 1))).1 = 0 then
        cgo K n (cst K (sv (lfn K (dpA A) A) 17 9 ((lfn K (dpA A) A).1 17 9 + 1)) (dpA (lfn K (dpA A) A) - 1) (szA (lfn K (dpA A) A)) (fnA (lfn K (dpA A) A) (dpA (lfn K (dpA A) A) - 1)) (nxA (lfn K (dpA A) A) (dpA (lfn K (dpA A) A) - 1))).2
      else cst K (sv (lfn K (dpA A) A) 17 9 ((lfn K (dpA A) A).1 17 9 + 1)) (dpA (lfn K (dpA A) A) - 1) (szA (lfn K (dpA A) A)) (fnA (lfn K (dpA A) A) (dpA (lfn K (dpA A) A) - 1)) (nxA (lfn K (dpA A) A) (dpA (lfn K (dpA A) A) - 1))
theorem RI_fuel {K A : vS} {dp sz wt : Nat} {fn nx : Nat → Nat} {x : Int32} (hR : RI K A dp sz wt fn nx) : RI K (sv A 17 9 x) dp sz wt fn nx := by
  obtain ⟨r1, r2, r3, r4, r5, r6, r7, r8⟩ := hR
  refine ⟨fun c hc => by rw [sv_ne _ (by omega)]; exact r1 c hc, by rw [sv_at _ (by decide)]; exact r2, r3, by rw [sv_at _ (by decide)]; exact r4, r5, fun d hd => by rw [sv_ne _ (by omega)]; exact r6 d hd, r7, r8⟩
/-- what holds of the class's machine between two calls -/
def WI (K A : vS) : Prop := ∃ dp sz wt fn nx, RI K A dp sz wt fn nx ∧ ((wt = 0 ∧ A.1 17 7 = -1 ∧ A.1 17 8 = 0) ∨ (wt = 1 ∧ 0 < dp ∧ sz ≤ 39 ∧ ∃ h, h < 4 ∧ A.1 17 7 = nI h))
theorem WI_trap {K A A' : vS} (hK : ∀ c, 1 ≤ c ∧ c < 15 → A.1 c = K.1 c) (h : isTrap A A') : WI K A' := ⟨0, 0, 0, fun _ => 0, fun _ => 0, RI_trap hK h _ _, Or.inl ⟨rfl, h.2.2.1, h.2.2.2.1⟩⟩
theorem cgo_WI {K : vS} (hA : Cwf K) (hn : 0 < nFA K) (hVl : ∀ g, g < nFA K → Vld K g) : ∀ (n : Nat) (A : vS) (dp sz : Nat) (fn nx : Nat → Nat), RI K A dp sz 0 fn nx → A.1 17 7 = -1 → A.1 17 8 = 0 → WI K (cgo K n A).2 := by
  intro n
  induction n with
  | zero =>
    intro A dp sz fn nx hR h7 h8
    obtain ⟨dp', sz', -, g2, -, g4, g5⟩ := RI_lfn hA hVl dp sz A hR
    unfold cgo
    rw [(RI_view hA hR).1]
    exact ⟨dp', sz', 0, fn, nx, g2, Or.inl ⟨rfl, g4.trans h7, g5.trans h8⟩⟩
  | succ n ih =>
    intro A dp sz fn nx hR h7 h8
    obtain ⟨dp', sz', -, g2, g3, g4, g5⟩ := RI_lfn hA hVl dp sz A hR
    unfold cgo
    rw [(RI_view hA hR).1]
    obtain ⟨v1, v2, v3⟩ := RI_view hA g2
    rw [v1, v2]
    by_cases c : dp' = 0
    · rw [if_pos c]
      exact ⟨dp', sz', 0, fn, nx, g2, Or.inl ⟨rfl, g4.trans h7, g5.trans h8⟩⟩
    · rw [if_neg c]
      obtain ⟨d, rfl⟩ : ∃ d, dp' = d + 1 := ⟨dp' - 1, by omega⟩
      obtain ⟨w1, w2⟩ := v3 d (by omega)
      rw [show d + 1 - 1 = d by omega, w1, w2]
      have hO := RI_step hA hn hVl (RI_fuel (x := (lfn K dp A).1 17 9 + 1) g2) (g3 d rfl)
      generalize cst K (sv (lfn K dp A) 17 9 ((lfn K dp A).1 17 9 + 1)) d sz' (fn d) (nx d) = r at *
      have e7 : (sv (lfn K dp A) 17 9 ((lfn K dp A).1 17 9 + 1)).1 17 7 = -1 := by rw [sv_at _ (by decide), g4]; exact h7
      have e8 : (sv (lfn K dp A) 17 9 ((lfn K dp A).1 17 9 + 1)).1 17 8 = 0 := by rw [sv_at _ (by decide), g5]; exact h8
      rcases hO with ⟨q1, q2, q3, dp2, sz2, fn2, nx2, -, q5⟩ | ⟨q1, sz2, nx2, h, q2, q3, q4, q5⟩ | ⟨t, t1, t2, t3, t4⟩
      · rw [if_pos q1]
        exact ih _ _ _ _ _ q5 (q2.trans e7) (q3.trans e8)
      · rw [if_neg (by rw [q1]; decide)]
        exact ⟨d + 1, sz2, 1, fn, nx2, q2, Or.inr ⟨rfl, by omega, q3, h, q4, q5⟩⟩
      · rw [if_neg (by rw [t3, k0, eq_iff]; omega)]
        exact WI_trap (RI_fuel (x := (lfn K dp A).1 17 9 + 1) g2).1 t4
theorem e_go {k : Int32 → vS → Prop} {K : vS} (hA : Cwf K) (hn : 0 < nFA K) (hVl : ∀ g, g < nFA K → Vld K g) : ∀ (n : Nat) (A : vS) (dp sz : Nat) (fn nx : Nat → Nat), n ≤ 200 → RI K A dp sz 0 fn nx → k (cgo K n A).1 (cgo K n A).2 → p_Mc_go_b2 k (n + 1) A (nI n) := by
  have h4 := hA.1.2
  intro n
  induction n with
  | zero =>
    intro A dp sz fn nx hn2 hR h
    obtain ⟨dp', sz', -, g2, g3, g4, g5⟩ := RI_lfn hA hVl dp sz A hR
    obtain ⟨v1, v2, v3⟩ := RI_view hA g2
    unfold cgo at h
    rw [(RI_view hA hR).1, v1] at h
    unfold p_Mc_go_b2 p_Mc_go_b73
    refine ⟨fun _ => ⟨dp + 1, e_lfn hA hVl dp sz A hR (e_isUnderWay g2.2.1 g2.2.2.1 ?_)⟩, fun q => absurd (by decide) q⟩
    by_cases c : dp' = 0
    · rw [if_pos c] at h ⊢
      exact ⟨fun _ => h, fun q => absurd rfl q⟩
    · rw [if_neg c] at h ⊢
      exact ⟨fun q => absurd q (by decide), fun _ => h⟩
  | succ n ih =>
    intro A dp sz fn nx hn2 hR h
    obtain ⟨dp', sz', -, g2, g3, g4, g5⟩ := RI_lfn hA hVl dp sz A hR
    obtain ⟨v1, v2, v3⟩ := RI_view hA g2
    unfold cgo at h
    rw [(RI_view hA hR).1, v1, v2] at h
    unfold p_Mc_go_b2
    refine ⟨fun q => ?_, fun _ => ⟨dp + 1, e_lfn hA hVl dp sz A hR (e_isUnderWay g2.2.1 g2.2.2.1 ?_)⟩⟩
    · rw [k0, le_iff] at q; omega
    by_cases c : dp' = 0
    · rw [if_pos c] at h ⊢
      exact ⟨fun _ => h, fun q => absurd rfl q⟩
    · rw [if_neg c] at h ⊢
      refine ⟨fun q => absurd q (by decide), fun _ => ?_⟩
      rintro _ rfl
      obtain ⟨d, rfl⟩ : ∃ d, dp' = d + 1 := ⟨dp' - 1, by omega⟩
      obtain ⟨w1, w2⟩ := v3 d (by omega)
      rw [show d + 1 - 1 = d by omega, w1, w2] at h
      have gf := RI_fuel (x := (lfn K dp A).1 17 9 + 1) g2
      have hO := RI_step hA hn hVl gf (g3 d rfl)
      obtain ⟨r1, r2, r3, r4, r5, r6, r7, r8⟩ := id gf
      obtain ⟨a1, a2, a3, a4⟩ := r6 d (by omega)
      obtain ⟨hdd, hsz⟩ := (r8 d rfl).1 (g3 d rfl)
      obtain ⟨hok, htk, -⟩ := st_facts (hVl _ a2) (g3 d rfl) hdd
      have hl24 := (hA.2 (fn d) (by omega)).1.2
      have hlen := sts_len K (fn d) (nx d)
      refine e_step (op := (sts K (fn d) (nx d)).1.length) hA hn r1 r2 (by omega) r4 r5 a2 a1 a3 (g3 d rfl) (by omega) hok (by omega) ?_
      generalize cst K (sv (lfn K dp A) 17 9 ((lfn K dp A).1 17 9 + 1)) d sz' (fn d) (nx d) = r at *
      intro V hV
      rcases hO with ⟨q1, q2, q3, dp2, sz2, fn2, nx2, -, q5⟩ | ⟨q1, sz2, nx2, hh, q2, q3, q4, q5⟩ | ⟨t, t1, t2, t3, t4⟩
      · rw [if_pos q1] at h
        rw [if_pos (Or.inl q1)] at hV
        subst hV
        refine ⟨fun q => absurd (q.symm.trans q1) (by decide), fun _ => ⟨fun _ => ?_, fun q => absurd q1 q⟩⟩
        rintro _ rfl
        rw [nI_m1]
        exact ih _ _ _ _ _ (by omega) q5 h
      · have q0 : ¬ r.1 = 0 := by rw [q1]; decide
        rw [if_neg q0] at h
        rw [if_pos (Or.inr q1)] at hV
        subst hV
        rw [q1] at h
        exact ⟨fun _ => h, fun q => absurd q1 q⟩
      · have q0 : ¬ r.1 = 0 := by rw [t3, k0, eq_iff]; omega
        have q3 : ¬ r.1 = 3 := by rw [t3, k3, eq_iff]; omega
        rw [if_neg q0] at h
        rw [if_neg (not_or.mpr ⟨q0, q3⟩)] at hV
        refine ⟨fun q => absurd q q3, fun _ => ⟨fun q => absurd q q0, fun _ => e_endTrapped ?_⟩⟩
        rw [← hV]
        exact h
