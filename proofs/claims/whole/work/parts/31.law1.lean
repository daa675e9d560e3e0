/-! PURE PART: what holds between two calls -/
/-- a run of the class changes its own cells alone -/
def oth (A B : vS) : Prop := ∀ c, c < 17 ∨ 34 ≤ c → B.1 c = A.1 c
theorem oth.rf (A : vS) : oth A A := fun _ _ => rfl
theorem oth.tr {A B C : vS} (h1 : oth A B) (h2 : oth B C) : oth A C := fun c q => (h2 c q).trans (h1 c q)
theorem oth.sv (A : vS) {c : Nat} (j : Nat) (x : Int32) (h : 17 ≤ c ∧ c < 34) : oth A (sv A c j x) := fun a q => sv_ne _ (by omega)
theorem oth.take (A : vS) (v : Nat) : oth A (vTake A v) := oth.sv A _ _ (by decide)
theorem oth.put (A : vS) (v : Nat) (x : Int32) : oth A (vPut A v x) := (oth.sv A _ _ (by decide)).tr (oth.sv _ _ _ (by decide))
theorem oth.drop (A : vS) : oth A (vDrop A) := (((oth.sv A _ _ (by decide)).tr (oth.sv _ _ _ (by decide))).tr (oth.sv _ _ _ (by decide))).tr (oth.sv _ _ _ (by decide))
theorem oth.trap (A : vS) : oth A (vTrap A) := (oth.sv A _ _ (by decide)).tr (oth.drop _)
theorem oth.enter (A : vS) {dp : Nat} (x : Int32) (h : dp < 6) : oth A (vEnter A dp x) := fun c q => vEnter_ne A x (by omega) (by omega) (by omega)
theorem oth.args (t : Nat) (A : vS) {c : Nat} (sz : Nat) (h : 17 ≤ c ∧ c < 34) : oth A (vArgs t A c sz) := fun a q => vArgs_ne t A c sz a (by omega) (by omega)
theorem oi {A : vS} {c : Prop} [Decidable c] {x y : Int32 × vS} (h1 : c → oth A x.2) (h2 : ¬ c → oth A y.2) : oth A (if c then x else y).2 := by
  by_cases h : c
  · rw [if_pos h]; exact h1 h
  · rw [if_neg h]; exact h2 h
theorem oj {A : vS} {c : Prop} [Decidable c] {x y : vS} (h1 : oth A x) (h2 : oth A y) : oth A (if c then x else y) := by
  by_cases h : c
  · rw [if_pos h]; exact h1
  · rw [if_neg h]; exact h2
theorem cPut_oth {A B : vS} {sz : Nat} {x : Int32} (h : oth A B) : oth A (cPut B sz x).2 := by
  unfold cPut
  exact oi (fun _ => h.tr (oth.trap _)) (fun _ => h.tr (oth.put _ _ _))
theorem cCal_oth {A B : vS} {sz o : Nat} (h : oth A B) : oth A (cCal B sz o).2 := by
  unfold cCal
  have h2 := (h.tr (oth.take _ (sz - 1))).tr (oth.take _ (sz - 2))
  exact oi (fun _ => h2.tr (oth.trap _)) (fun _ => h2.tr (oth.put _ _ _))
theorem cLoad_oth {A B : vS} {sz : Nat} {a : Int32} (h : oth A B) : oth A (cLoad B sz a).2 := by
  unfold cLoad
  have h2 := h.tr (oth.take _ (sz - 1))
  exact oi (fun _ => h2.tr (oth.trap _)) (fun _ => h2.tr (oth.put _ _ _))
theorem cStore_oth {A B : vS} {sz : Nat} {a : Int32} (h : oth A B) : oth A (cStore B sz a).2 := by
  unfold cStore
  have h2 := (h.tr (oth.take _ (sz - 1))).tr (oth.take _ (sz - 2))
  exact oi (fun _ => h2.tr (oth.trap _)) (fun _ => h2.tr (oth.sv _ _ _ (by decide)))
theorem cCall_oth {K A B : vS} {dp sz g : Nat} (hd : dp ≤ 6) (h : oth A B) : oth A (cCall K B dp sz g).2 := by
  unfold cCall
  exact oi (fun _ => h.tr (oth.trap _)) (fun c => (h.tr (oth.enter _ _ (by omega))).tr (oth.args _ _ _ (by omega)))
theorem cAsk_oth {A B : vS} {sz g : Nat} (h : oth A B) : oth A (cAsk B sz g).2 := by
  unfold cAsk
  exact oi (fun _ => h.tr (oth.trap _)) (fun _ => ((h.tr (oth.take _ _)).tr (oth.sv _ _ _ (by decide))).tr (oth.sv _ _ _ (by decide)))
theorem cst_oth {K A : vS} {d sz f i : Nat} (hd : d < 6) : oth A (cst K A d sz f i).2 := by
  have h0 : oth A (sv A (19 + d) 2 (nI (i + 1))) := oth.sv A _ _ (by omega)
  unfold cst
  generalize sv A (19 + d) 2 (nI (i + 1)) = B at *
  have ht := h0.tr (oth.take B (sz - 1))
  refine oi (fun _ => cPut_oth h0) (fun _ => oi (fun _ => cPut_oth h0) (fun _ => oi (fun _ => ht.tr (oth.sv _ _ _ (by omega))) (fun _ => oi (fun _ => cCal_oth h0) (fun _ => oi (fun _ => ht) (fun _ => oi (fun _ => cLoad_oth h0) (fun _ => oi (fun _ => cStore_oth h0) (fun _ => oi (fun _ => h0) (fun _ => oi (fun _ => h0.tr (oth.sv _ _ _ (by omega))) (fun _ => oi (fun _ => oj ht (ht.tr (oth.sv _ _ _ (by omega)))) (fun _ => oi (fun _ => cCall_oth (by omega) h0) (fun _ => oi (fun _ => cAsk_oth h0) (fun _ => h0.tr (oth.sv _ _ _ (by omega))))))))))))))
theorem popF_oth (K A : vS) (d f : Nat) : oth A (popF K A d f) := by
  obtain ⟨p1, p2, -, -⟩ := popF_sT K A d f
  intro c q
  rcases q with q | q
  · exact p1 c q
  · exact p2 c (by omega)
theorem lfn_oth (K : vS) : ∀ d A, oth A (lfn K d A) := by
  intro d
  induction d with
  | zero => intro A; exact oth.rf A
  | succ d ih =>
    intro A
    unfold lfn
    split
    · exact oth.rf A
    · exact (popF_oth _ _ _ _).tr (ih _)
theorem cgo_oth {K : vS} (hA : Cwf K) (hn : 0 < nFA K) (hVl : ∀ g, g < nFA K → Vld K g) : ∀ (n : Nat) (A : vS) (dp sz : Nat) (fn nx : Nat → Nat), RI K A dp sz 0 fn nx → oth A (cgo K n A).2 := by
  intro n
  induction n with
  | zero =>
    intro A dp sz fn nx hR
    unfold cgo
    exact lfn_oth _ _ _
  | succ n ih =>
    intro A dp sz fn nx hR
    obtain ⟨dp', sz', -, g2, g3, g4, g5⟩ := RI_lfn hA hVl dp sz A hR
    unfold cgo
    rw [(RI_view hA hR).1]
    obtain ⟨v1, v2, v3⟩ := RI_view hA g2
    rw [v1, v2]
    have h6 := g2.2.2.1
    by_cases c : dp' = 0
    · rw [if_pos c]
      exact lfn_oth _ _ _
    · rw [if_neg c]
      obtain ⟨d, rfl⟩ : ∃ d, dp' = d + 1 := ⟨dp' - 1, by omega⟩
      obtain ⟨w1, w2⟩ := v3 d (by omega)
      rw [show d + 1 - 1 = d by omega, w1, w2]
      have hO := RI_step hA hn hVl (RI_fuel (x := (lfn K dp A).1 17 9 + 1) g2) (g3 d rfl)
      have ho : oth A (cst K (sv (lfn K dp A) 17 9 ((lfn K dp A).1 17 9 + 1)) d sz' (fn d) (nx d)).2 := ((lfn_oth K dp A).tr (oth.sv _ _ _ (by decide))).tr (cst_oth (by omega))
      generalize cst K (sv (lfn K dp A) 17 9 ((lfn K dp A).1 17 9 + 1)) d sz' (fn d) (nx d) = r at *
      by_cases c0 : r.1 = 0
      · rw [if_pos c0]
        rcases hO with ⟨q1, q2, q3, dp2, sz2, fn2, nx2, -, q5⟩ | ⟨q1, -⟩ | ⟨t, t1, t2, t3, -⟩
        · exact ho.tr (ih _ _ _ _ _ q5)
        · rw [c0] at q1; exact absurd q1 (by decide)
        · rw [c0, k0, eq_iff] at t3; omega
      · rw [if_neg c0]
        exact ho
theorem RI.of {K A B : vS} {dp sz wt : Nat} {fn nx : Nat → Nat} (h : RI K A dp sz wt fn nx) (h1 : ∀ c, 1 ≤ c ∧ c < 15 → B.1 c = A.1 c) (h5 : B.1 17 5 = A.1 17 5) (h6 : B.1 17 6 = A.1 17 6) (h9 : ∀ c, 19 ≤ c ∧ c < 25 → B.1 c = A.1 c) : RI K B dp sz wt fn nx := by
  obtain ⟨r1, r2, r3, r4, r5, r6, r7, r8⟩ := h
  exact ⟨fun c q => (h1 c q).trans (r1 c q), h5.trans r2, r3, h6.trans r4, r5, fun d hd => by rw [h9 (19 + d) (by omega)]; exact r6 d hd, r7, r8⟩
theorem WI.of {K A B : vS} (h : WI K A) (h1 : ∀ c, 1 ≤ c ∧ c < 15 → B.1 c = A.1 c) (h5 : ∀ j, 5 ≤ j ∧ j ≤ 8 → B.1 17 j = A.1 17 j) (h9 : ∀ c, 19 ≤ c ∧ c < 25 → B.1 c = A.1 c) : WI K B := by
  obtain ⟨dp, sz, wt, fn, nx, hR, hw⟩ := h
  refine ⟨dp, sz, wt, fn, nx, hR.of h1 (h5 5 (by decide)) (h5 6 (by decide)) h9, ?_⟩
  rw [h5 7 (by decide), h5 8 (by decide)]
  exact hw
theorem MRun.of {V A V1 A1 : vS} {dp sz : Nat} (h : MRun V A dp sz) (hd : dp ≤ 6) (hV : ∀ c, 34 ≤ c → V1.1 c = V.1 c) (hA : ∀ c, 17 ≤ c ∧ c < 34 → A1.1 c = A.1 c) (h2 : A1.2 = A.2) : MRun V1 A1 dp sz := by
  obtain ⟨m1, m2, m3, m4, m5⟩ := h
  refine ⟨by rw [hV 34 (by omega)]; exact m1, by rw [hV 34 (by omega)]; exact m2, fun d hd => ?_, fun i hi => ?_, m5.sv (fun c q => hV c (by omega)) (fun c q => hA c (by omega)) (fun j q => by rw [hV 34 (by omega)]) (fun j q => by rw [hA 17 (by omega)]) h2⟩
  · rw [hV 43 (by omega), hV 44 (by omega), hV 45 (by omega), hA (19 + d) (by omega), hA (25 + d) (by omega)]; exact m3 d hd
  · rw [hV 46 (by omega), hA 31 (by omega)]; exact m4 i hi
theorem MR2.of {V A V1 A1 : vS} (h : MR2 V A) (hV : ∀ c, 34 ≤ c → V1.1 c = V.1 c) (hA : ∀ c, 17 ≤ c ∧ c < 34 → A1.1 c = A.1 c) (h2 : A1.2 = A.2) : MR2 V1 A1 := by
  obtain ⟨dp, sz, q1, q2, q3, q4, q5, q6, q7⟩ := h
  refine ⟨dp, sz, by rw [hA 17 (by omega)]; exact q1, q2, by rw [hA 17 (by omega)]; exact q3, q4, q5.of q2 hV hA h2, ?_, ?_⟩
  · rw [hV 34 (by omega), hA 17 (by omega)]; exact q6
  · rw [hV 34 (by omega), hA 17 (by omega)]; exact q7
theorem RK.hi {V W K : vS} (h : RK V K) (g : ∀ c, 34 ≤ c → W.1 c = V.1 c) : RK W K := h.of (by rw [g 34 (by omega)]) (fun c a b => g c (by omega))
/-- all that holds between two calls -/
def Inv (V : vS) : Prop := ∃ K : vS, (∀ c, 1 ≤ c ∧ c < 15 → V.1 c = K.1 c) ∧ Cwf K ∧ RK V K ∧ V.1 16 0 = 0 ∧ WI K V ∧ (V.1 0 3 = 0 ∨ V.1 0 3 = 1) ∧ ((V.1 17 5 ≠ 0 ∨ V.1 0 3 ≠ 0) → 0 < nFA K ∧ ∀ f, f < nFA K → Vld K f) ∧ MR2 V V ∧ V.1 34 7 = V.1 15 5 ∧ V.1 34 8 = V.1 0 3
theorem Cwf.mk {A : vS} (hn : ∃ n, n ≤ 4 ∧ A.1 1 1 = nI n) (hf : ∀ f, f < 4 → (∃ n, n ≤ 24 ∧ A.1 (3 + f) 2 = nI n) ∧ (∃ n, n ≤ 2 ∧ A.1 (3 + f) 3 = nI n) ∧ (∃ n, n ≤ 1 ∧ A.1 (3 + f) 4 = nI n) ∧ (∃ n, n ≤ 3 ∧ A.1 (3 + f) 5 = nI n) ∧ ∀ i, i < 24 → ∃ n, n < 20 ∧ A.1 (7 + f) i = nI n) : Cwf A := by
  have key : ∀ (x : Int32) (n m : Nat), n ≤ m → m < 100 → x = nI n → x = nI (nt x) ∧ nt x ≤ m := by
    intro x n m h1 h2 e
    rw [e, nt_nI (by omega)]
    exact ⟨rfl, h1⟩
  obtain ⟨n, n1, n2⟩ := hn
  refine ⟨key _ n 4 n1 (by omega) n2, fun f h => ?_⟩
  obtain ⟨⟨a, a1, a2⟩, ⟨b, b1, b2⟩, ⟨c, c1, c2⟩, ⟨d, d1, d2⟩, hi⟩ := hf f h
  refine ⟨key _ a 24 a1 (by omega) a2, key _ b 2 b1 (by omega) b2, key _ c 1 c1 (by omega) c2, key _ d 3 d1 (by omega) d2, fun i h => ?_⟩
  obtain ⟨o, o1, o2⟩ := hi i h
  obtain ⟨e1, e2⟩ := key _ o 19 (by omega) (by omega) o2
  exact ⟨e1, by unfold ocA; omega⟩
/-- code that was changed: no run, no check -/
theorem Inv_fresh {V W : vS} (hI : Inv V) (hC : Cwf W) (hK : RK W W) (c5 : W.1 17 5 = nI 0) (c6 : W.1 17 6 = nI 0) (c7 : W.1 17 7 = -1) (c8 : W.1 17 8 = 0) (c3 : W.1 0 3 = 0) (d8 : W.1 34 8 = 0) (d18 : W.1 34 18 = nI 0) (d19 : W.1 34 19 = nI 0) (d20 : W.1 34 20 = -1) (e16 : W.1 16 0 = V.1 16 0) (e15 : W.1 15 5 = V.1 15 5) (e7 : W.1 34 7 = V.1 34 7) (hc : ∀ c, c = 32 ∨ c = 33 ∨ c = 47 ∨ c = 48 → W.1 c = V.1 c) (h17 : ∀ j, j = 9 ∨ j = 10 ∨ j = 11 → W.1 17 j = V.1 17 j) (h34 : ∀ j, j = 25 ∨ j = 26 ∨ j = 27 ∨ j = 28 ∨ j = 29 → W.1 34 j = V.1 34 j) (h2 : W.2 = V.2) : Inv W := by
  obtain ⟨K, i1, i2, i3, i4, i5, i6, i7, ⟨dp, sz, q1, q2, q3, q4, q5, q6, q7⟩, i9, i10⟩ := hI
  refine ⟨W, fun _ _ => rfl, hC, hK, by rw [e16]; exact i4, ⟨0, 0, 0, fun _ => 0, fun _ => 0, ⟨fun _ _ => rfl, c5, by omega, c6, by omega, fun d hd => by omega, fun d hd => by omega, fun d hd => by omega⟩, Or.inl ⟨rfl, c7, c8⟩⟩, Or.inl c3, fun q => ?_, ⟨0, 0, c5, by omega, c6, by omega, ⟨d18, d19, fun d hd => by omega, fun i hi => by omega, q5.2.2.2.2.sv (fun c q => hc c (by omega)) (fun c q => hc c (by omega)) h34 h17 h2⟩, by rw [d20, c7], fun q => absurd c7 q⟩, by rw [e7, e15]; exact i9, by rw [d8, c3]⟩
  rcases q with q | q
  · exact absurd c5 q
  · exact absurd c3 q
