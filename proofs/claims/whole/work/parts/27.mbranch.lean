/-! PURE PART: the reference's branch -/
theorem RK_op {V K : vS} {f i : Nat} (hA : Cwf K) (hK : RK V K) (hf : f < 4) (hi : i < 24) : V.1 39 (f * 24 + i) = nI (ocA K f i) ∧ V.1 40 (f * 24 + i) = agA K f i := by
  obtain ⟨h1, h2⟩ := (hK.2 f hf).2.2.2.2 i hi
  exact ⟨by rw [h1, ((hA.2 f hf).2.2.2.2 i hi).1], h2⟩
theorem ix24 (f i : Nat) : nI f * 24 + nI i = nI (f * 24 + i) := by rw [k24, pk_mul, nI_add]
/-- only the list of the opened changes -/
def SB (V W : vS) : Prop := (∀ c, c ≠ 34 → c ≠ 41 → W.1 c = V.1 c) ∧ W.2 = V.2 ∧ (∀ j, j ≠ 11 → W.1 34 j = V.1 34 j)
theorem SB.rf (V : vS) : SB V V := ⟨fun _ _ _ => rfl, rfl, fun _ _ => rfl⟩
theorem SB.tr {U V W : vS} (h1 : SB U V) (h2 : SB V W) : SB U W := ⟨fun c a b => (h2.1 c a b).trans (h1.1 c a b), h2.2.1.trans h1.2.1, fun j q => (h2.2.2 j q).trans (h1.2.2 j q)⟩
theorem SB.o (V : vS) (x : Int32) : SB V (sv V 34 11 x) := ⟨fun c a b => sv_ne _ a, rfl, fun j q => sv_at _ q⟩
theorem SB.p (V : vS) (i : Nat) (x : Int32) : SB V (sv V 41 i x) := ⟨fun c a b => sv_ne _ b, rfl, fun j q => by rw [sv_ne _ (by decide)]⟩
theorem SB.mg {V W : vS} (h : SB V W) : MG V W := ⟨⟨fun c q => h.1 c (by omega) (by omega), h.2.1, fun c q1 q2 => h.1 c (by omega) (by omega), fun j q => h.2.2 j (by omega)⟩, fun j q => h.2.2 j (by omega)⟩
theorem SB.run {V W A : vS} {dp sz : Nat} (g : SB V W) (h : MRun V A dp sz) : MRun W A dp sz := h.own (fun c q => g.1 c (by omega) (by omega)) (fun j q => g.2.2 j (by omega))
/-- the search for a part's end -/
theorem e_Mb2 {k : vS → Prop} {W K : vS} {f d o : Nat} (hA : Cwf K) (hK : RK W K) (hf : f < 4) (hV : Vld K f) (hd : d < 6) (h18 : W.1 34 18 = nI (d + 1)) : ∀ m p (ex : List Nat), p + m = lnA K f → opn K f p = ex ++ o :: opn K f o → k (sv W 44 d (nI (bnd K f m p ex.length))) → p_Mo_branch_b156 k (m + 1) (sv W 44 d (nI p)) (nI f) (nI ex.length) 0 := by
  have h24 := (hA.2 f hf).1.2
  intro m
  induction m with
  | zero =>
    intro p ex hp h
    have h1 := opn_len (A := K) (f := f) p
    rw [h, show p = lnA K f by omega, hV.2.1] at h1
    simp at h1
  | succ m ih =>
    intro p ex hp h hk
    have hex : ex.length < 24 := by
      have h1 := opn_len (A := K) (f := f) p
      have h2 := sts_len K f p
      rw [h, List.length_append, List.length_cons] at h1
      omega
    have e18 : (sv W 44 d (nI p)).1 34 18 = nI (d + 1) := by rw [sv_ne _ (by decide)]; exact h18
    have e44 : (sv W 44 d (nI p)).1 44 d = nI p := sv_eq _ _ _ _
    have e39 : (sv W 44 d (nI p)).1 39 (f * 24 + p) = nI (ocA K f p) := by rw [sv_ne _ (by decide)]; exact (RK_op hA hK hf (by omega)).1
    obtain ⟨-, ho⟩ := (hA.2 f hf).2.2.2.2 p (by omega)
    have adv : ∀ (n : Nat) (s : Int32) (kk : vS → Int32 → Int32 → Int32 → Prop), kk (sv W 44 d (nI (p + 1))) (nI f) (nI n) s → p_Mo_branch_b221 k kk (sv W 44 d (nI p)) (nI f) (nI n) s := by
      intro n s kk hh
      unfold p_Mo_branch_b221
      rw [e18, nI_pred, nt_nI (by omega), e44, nI_1]
      refine ⟨vin (by omega), vin (by omega), ?_⟩
      intro V3 eV3
      rw [sv_sv] at eV3
      rw [eV3]
      exact hh
    have pos : ∀ (n : Nat) (kk : vS → Int32 → Int32 → Int32 → Prop), n < 100 → kk (sv W 44 d (nI (p + 1))) (nI f) (nI n) 0 → p_Mo_branch_b211 k kk (sv W 44 d (nI p)) (nI f) (nI n) := by
      intro n kk hn hh
      unfold p_Mo_branch_b211
      exact ⟨fun _ => adv n 0 kk hh, fun q => absurd (nI_pos' (by omega)) q⟩
    unfold p_Mo_branch_b156
    refine ⟨fun _ => ?_, fun q => absurd rfl q⟩
    rw [e18, nI_pred, nt_nI (by omega), e44, ix24, nt_nI (by omega), e39]
    refine ⟨vin (by omega), vin (by omega), ?_⟩
    intro y ey
    subst ey
    have o12 : (nI (ocA K f p) = 12) ↔ ocA K f p = 12 := o_eq (c := 12) ho (by omega)
    have o13 : (nI (ocA K f p) = 13) ↔ ocA K f p = 13 := o_eq (c := 13) ho (by omega)
    have o14 : (nI (ocA K f p) = 14) ↔ ocA K f p = 14 := o_eq (c := 14) ho (by omega)
    unfold bnd at hk
    have op1 : (ocA K f p = 12 ∨ ocA K f p = 13) → p_Mo_branch_b198 k (p_Mo_branch_b156 k (m + 1)) (sv W 44 d (nI p)) (nI f) (nI ex.length) (nI (ocA K f p)) := by
      intro c
      rw [if_pos c] at hk
      unfold p_Mo_branch_b198 p_Mo_branch_b201
      rintro _ rfl
      rw [nI_1, o14]
      refine ⟨fun q => absurd q (by omega), fun _ => pos _ _ (by omega) ?_⟩
      exact ih (p + 1) (p :: ex) (by omega) (by show (if _ then _ else _) = _; rw [if_pos c, h]; rfl) hk
    rw [o12, o13]
    refine ⟨fun c => op1 (Or.inl c), fun c12 => ⟨fun c => op1 (Or.inr c), fun c13 => ?_⟩⟩
    rw [if_neg (by omega)] at hk
    unfold p_Mo_branch_b201
    rw [o14]
    refine ⟨fun c => ?_, fun c => ?_⟩
    · rw [if_pos c] at hk
      have eo : opn K f (p + 1) = (opn K f p).tail := by show (if _ then _ else _) = _; rw [if_neg (by omega), if_pos c]
      rintro _ rfl
      cases ex with
      | nil =>
        rw [if_pos (show ([] : List Nat).length = 0 from rfl)] at hk
        unfold p_Mo_branch_b211
        refine ⟨fun q => absurd q (by decide), fun _ => ?_⟩
        unfold p_Mo_branch_b221
        rw [e18, nI_pred, nt_nI (by omega), e44, nI_1]
        refine ⟨vin (by omega), vin (by omega), ?_⟩
        intro V3 eV3
        rw [sv_sv] at eV3
        rw [eV3]
        unfold p_Mo_branch_b156
        exact ⟨fun q => absurd q (by decide), fun _ => hk⟩
      | cons x ex =>
        rw [if_neg (by simp)] at hk
        rw [List.length_cons, nI_m1]
        refine pos _ _ (by simp at hex; omega) (ih (p + 1) ex (by omega) (by rw [eo, h]; rfl) ?_)
        simpa using hk
    · rw [if_neg c] at hk
      exact pos _ _ (by omega) (ih (p + 1) ex (by omega) (by show (if _ then _ else _) = _; rw [if_neg (by omega), if_neg c, h]) hk)
theorem end_open {K : vS} {f i : Nat} (hV : Vld K f) (hi : i < lnA K f) (h : ocA K f i = 14) : (opn K f i).length ≠ 0 := by
  have h0 := hV.1 i hi
  rw [opn_len]
  intro q
  have q : (sts K f i).1 = [] := List.eq_nil_of_length_eq_zero q
  unfold srt at h0
  rw [h, if_neg (fun z => z.2 rfl)] at h0
  by_cases c1 : aOk K f (sts K f i).1.length 14 (agA K f i) = false
  · rw [if_pos c1] at h0; omega
  rw [if_neg c1] at h0
  by_cases c2 : (sts K f i).2.1 - (sts K f i).1.headD 0 < tkn K 14 (agA K f i)
  · rw [if_pos c2] at h0; omega
  rw [if_neg c2, if_pos ⟨rfl, Or.inl q⟩] at h0
  omega
/-- the opened parts as the reference writes them down -/
def OL (W : vS) (l : List Nat) : Prop := W.1 34 11 = nI l.length ∧ ∀ p, p < l.length → W.1 41 p = nI (l.getD (l.length - 1 - p) 0)
theorem OL.push {W : vS} {l : List Nat} (h : OL W l) (o : Nat) : OL (sv (sv W 41 l.length (nI o)) 34 11 (nI (l.length + 1))) (o :: l) := by
  refine ⟨sv_eq _ _ _ _, fun p hp => ?_⟩
  rw [sv_ne _ (by decide)]
  rw [List.length_cons] at hp ⊢
  by_cases c : p = l.length
  · subst c
    rw [sv_eq, show l.length + 1 - 1 - l.length = 0 by omega]
    rfl
  · rw [sv_at _ c, h.2 p (by omega), show l.length + 1 - 1 - p = (l.length - 1 - p) + 1 by omega]
    rfl
theorem OL.pop {W : vS} {l : List Nat} (h : OL W l) (hl : l.length ≠ 0) : OL (sv W 34 11 (nI (l.length - 1))) l.tail := by
  refine ⟨by rw [sv_eq, List.length_tail], fun p hp => ?_⟩
  rw [List.length_tail] at hp ⊢
  rw [sv_ne _ (by decide), h.2 p (by omega)]
  cases l with
  | nil => simp at hl
  | cons x l =>
    rw [List.length_cons] at hp ⊢
    rw [show l.length + 1 - 1 - p = (l.length - 1 - p) + 1 by omega, show l.length + 1 - 1 - 1 - p = l.length - 1 - p by omega]
    rfl
theorem e_Mb1 {k : vS → Prop} {V K : vS} {f i j d : Nat} (hA : Cwf K) (hK : RK V K) (hf : f < 4) (hV : Vld K f) (hd : d < 6) (h18 : V.1 34 18 = nI (d + 1)) (hi : i < lnA K f) (hj : j ≤ (opn K f i).length)
    (h1 : j = (opn K f i).length → ∀ W, SB V W → p_Mo_leave k W) (h2 : j < (opn K f i).length → ∀ W, SB V W → k (sv W 44 d (nI (tgt K f i j)))) : ∀ m p W, p + m = i → SB V W → OL W (opn K f p) → p_Mo_branch_b8 k (m + 1) W (nI f) (nI i) (nI j) (nI p) := by
  have h24 := (hA.2 f hf).1.2
  have hlen : ∀ p, (opn K f p).length ≤ p := fun p => by rw [opn_len]; exact sts_len K f p
  intro m
  induction m with
  | zero =>
    intro p W hp g hO
    have e : p = i := by omega
    subst e
    have hl := hlen p
    unfold p_Mo_branch_b8
    refine ⟨fun _ => ?_, fun q => absurd (nI_le (Nat.le_refl _) (by omega)) q⟩
    rw [hO.1, eq_iff]
    refine ⟨fun c => h1 c W g, fun c => ?_⟩
    have c : j < (opn K f p).length := by omega
    have em : nI (opn K f p).length - 1 - nI j = nI ((opn K f p).length - 1 - j) := by
      rw [k1, pk_sub (by omega), pk_sub (by omega)]
    rw [em, nt_nI (by omega), hO.2 _ (by omega), show (opn K f p).length - 1 - ((opn K f p).length - 1 - j) = j by omega]
    refine ⟨vin (by omega), ?_⟩
    intro y ey
    subst ey
    obtain ⟨o1, o2⟩ := opn_lt p _ (opn_at c)
    have hV0 := h2 c W g
    unfold tgt at hV0
    rw [if_pos c] at hV0
    generalize (opn K f p).getD j 0 = o at *
    have hKW : RK W K := hK.mf g.mg.1
    rw [ix24, nt_nI (by omega), (RK_op hA hKW hf (show o < 24 by omega)).1]
    have w18 : W.1 34 18 = nI (d + 1) := by rw [g.2.2 18 (by decide)]; exact h18
    obtain ⟨-, ho⟩ := (hA.2 f hf).2.2.2.2 o (by omega)
    have o13 : (nI (ocA K f o) = 13) ↔ ocA K f o = 13 := o_eq (c := 13) ho (by omega)
    rw [o13]
    refine ⟨vin (by omega), fun c3 => ?_, fun c3 => ?_⟩
    · rw [if_pos c3] at hV0
      unfold p_Mo_branch_b139
      rw [w18, nI_pred, nt_nI (by omega), nI_1]
      refine ⟨vin (by omega), ?_⟩
      intro V2 eV2
      rw [eV2]
      refine ⟨1, ?_⟩
      unfold p_Mo_branch_b156
      exact ⟨fun q => absurd q (by decide), fun _ => hV0⟩
    · rw [if_neg c3] at hV0
      unfold p_Mo_branch_b139
      rw [w18, nI_pred, nt_nI (by omega), nI_1]
      refine ⟨vin (by omega), ?_⟩
      intro V2 eV2
      rw [eV2]
      exact ⟨_, e_Mb2 (o := o) hA hKW hf hV hd w18 (lnA K f - (o + 1)) (o + 1) [] (by omega) (by show (if _ then _ else _) = _; rw [if_pos o2]; rfl) hV0⟩
  | succ m ih =>
    intro p W hp g hO
    have hl := hlen p
    have hKW : RK W K := hK.mf g.mg.1
    obtain ⟨-, ho⟩ := (hA.2 f hf).2.2.2.2 p (by omega)
    have o12 : (nI (ocA K f p) = 12) ↔ ocA K f p = 12 := o_eq (c := 12) ho (by omega)
    have o13 : (nI (ocA K f p) = 13) ↔ ocA K f p = 13 := o_eq (c := 13) ho (by omega)
    have o14 : (nI (ocA K f p) = 14) ↔ ocA K f p = 14 := o_eq (c := 14) ho (by omega)
    have adv : ∀ W', SB V W' → OL W' (opn K f (p + 1)) → p_Mo_branch_b80 k (p_Mo_branch_b8 k (m + 1)) W' (nI f) (nI i) (nI j) (nI p) := by
      intro W' g' h'
      unfold p_Mo_branch_b80
      rintro _ rfl
      rw [nI_1]
      exact ih (p + 1) W' (by omega) g' h'
    have opc : (ocA K f p = 12 ∨ ocA K f p = 13) → p_Mo_branch_b42 k (p_Mo_branch_b8 k (m + 1)) W (nI f) (nI i) (nI j) (nI p) (nI (ocA K f p)) := by
      intro c
      unfold p_Mo_branch_b42 p_Mo_branch_b63
      rw [hO.1, nt_nI (by omega)]
      refine ⟨vin (by omega), ?_⟩
      rintro _ rfl _ rfl
      rw [o14, sv_ne W (show 34 ≠ 41 by decide), hO.1, nI_1]
      refine ⟨fun q => absurd q (by omega), fun _ => adv _ (g.tr ((SB.p _ _ _).tr (SB.o _ _))) ?_⟩
      have eo : opn K f (p + 1) = p :: opn K f p := by show (if _ then _ else _) = _; rw [if_pos c]
      rw [eo]
      exact hO.push p
    unfold p_Mo_branch_b8
    refine ⟨fun q => absurd ((le_iff).mp q) (by omega), fun _ => ?_⟩
    rw [ix24, nt_nI (by omega), (RK_op hA hKW hf (show p < 24 by omega)).1]
    refine ⟨vin (by omega), ?_⟩
    intro y ey
    subst ey
    rw [o12, o13]
    refine ⟨fun c => opc (Or.inl c), fun c12 => ⟨fun c => opc (Or.inr c), fun c13 => ?_⟩⟩
    unfold p_Mo_branch_b63
    rw [o14]
    refine ⟨fun c => ?_, fun c => adv _ g ?_⟩
    · have hne := end_open hV (show p < lnA K f by omega) c
      rintro _ rfl
      refine adv _ (g.tr (SB.o _ _)) ?_
      rw [hO.1, k1, pk_sub (by omega)]
      have eo : opn K f (p + 1) = (opn K f p).tail := by show (if _ then _ else _) = _; rw [if_neg (by omega), if_pos c]
      rw [eo]
      exact hO.pop hne
    · have eo : opn K f (p + 1) = opn K f p := by show (if _ then _ else _) = _; rw [if_neg (by omega), if_neg c]
      rw [eo]
      exact hO
theorem e_Mbranch {k : vS → Prop} {V K : vS} {f i j d : Nat} (hA : Cwf K) (hK : RK V K) (hf : f < 4) (hV : Vld K f) (hd : d < 6) (h18 : V.1 34 18 = nI (d + 1)) (hi : i < lnA K f) (hj : j ≤ (opn K f i).length)
    (h1 : j = (opn K f i).length → ∀ W, SB V W → p_Mo_leave k W) (h2 : j < (opn K f i).length → ∀ W, SB V W → k (sv W 44 d (nI (tgt K f i j)))) : p_Mo_branch k V (nI f) (nI i) (nI j) := by
  unfold p_Mo_branch
  intro V1 eV1
  refine ⟨i + 1, ?_⟩
  rw [eV1]
  exact e_Mb1 hA hK hf hV hd h18 hi hj h1 h2 i 0 _ (by omega) (SB.o _ _) ⟨sv_eq _ _ _ _, fun p hp => absurd hp (by simp [opn])⟩
