/-! PURE PART: the class's check of a function, of all -/
/-- the fault that the check of function f finds from instruction i on, m being left: its sort (0: none), its place -/
def ckr (A : vS) (f : Nat) : Nat → Nat → cS → Nat × Nat
  | 0, i, s => (if s.1 ≠ [] then 3 else if s.2.2 = false ∧ s.2.1 ≠ gvA A f then 4 else 0, i)
  | m + 1, i, s => if srt A f (ocA A f i) (agA A f i) s ≠ 0 then (srt A f (ocA A f i) (agA A f i) s, i) else ckr A f m (i + 1) (nxs A (ocA A f i) (agA A f i) s)
/-- the first fault in the functions from f on, m being left: sort, function, place -/
def cka (A : vS) : Nat → Nat → Nat × Nat × Nat
  | 0, f => (0, f, 0)
  | m + 1, f => if (ckr A f (lnA A f) 0 ([], 0, false)).1 ≠ 0 then ((ckr A f (lnA A f) 0 ([], 0, false)).1, f, (ckr A f (lnA A f) 0 ([], 0, false)).2) else cka A m (f + 1)
theorem srt_le (A : vS) (f o : Nat) (a : Int32) (s : cS) : srt A f o a s ≤ 5 := by
  unfold srt
  repeat' split
  all_goals omega
theorem ckr_le (A : vS) (f : Nat) : ∀ (m i : Nat) (s : cS), (ckr A f m i s).1 ≤ 5 ∧ (ckr A f m i s).2 ≤ i + m := by
  intro m
  induction m with
  | zero =>
    intro i s
    unfold ckr
    refine ⟨?_, Nat.le_refl _⟩
    dsimp only
    repeat' split
    all_goals omega
  | succ m ih =>
    intro i s
    unfold ckr
    split
    · exact ⟨srt_le _ _ _ _ _, by dsimp only; omega⟩
    · have := ih (i + 1) (nxs A (ocA A f i) (agA A f i) s)
      exact ⟨this.1, by omega⟩
theorem CR.sv {V : vS} {s : cS} {j : Nat} {x : Int32} (h : CR V s) (h2 : j ≠ 2) (h3 : j ≠ 3) (h4 : j ≠ 4) : CR (sv V 15 j x) s := by
  obtain ⟨a1, a2, a3, a4, a5⟩ := h
  refine ⟨?_, ?_, ?_, ?_, fun i hi => ?_⟩
  · rw [sv_at V (Ne.symm h2)]; exact a1
  · rw [sv_at V (Ne.symm h3)]; exact a2
  · rw [sv_at V (Ne.symm h4)]; exact a3
  · rw [sv_ne V (by decide)]; exact a4
  · rw [sv_ne V (by decide)]; exact a5 i hi
theorem e_sortOfTheEnd {k : Int32 → vS → Prop} {A V : vS} {f i : Nat} {s : cS} (hA : Cwf A) (hf : f < 4) (hK : ∀ c, 1 ≤ c ∧ c < 15 → V.1 c = A.1 c) (hC : CR V s) (hI : SI i s) (hi : i ≤ 24) (h : k (nI (if s.1 ≠ [] then 3 else if s.2.2 = false ∧ s.2.1 ≠ gvA A f then 4 else 0)) V) : p_Ck_sortOfTheEnd k V (3 + f) := by
  obtain ⟨h1, h2, h3, -, -⟩ := hC
  obtain ⟨i1, i2, -, -⟩ := hI
  obtain ⟨-, -, ⟨hg, hg1⟩, -⟩ := hA.2 f hf
  have hV : V.1 (3 + f) 4 = nI (gvA A f) := by rw [hK _ (by omega), hg]
  unfold p_Ck_sortOfTheEnd p_Ck_sortOfTheEnd_b29
  rw [h1, h2, h3, hV, k0, le_iff, eq_iff]
  by_cases c : s.1 = []
  · rw [if_neg (fun q => q c)] at h
    refine ⟨fun _ => ⟨fun c2 => ⟨fun c3 => ?_, fun c3 => ?_⟩, fun c2 => ?_⟩, fun q => absurd (by rw [c]; exact Nat.le_refl _) q⟩
    · rw [if_neg (fun q => q.2 c3)] at h; exact h
    · have d : s.2.2 = false := by
        cases hd : s.2.2 with
        | false => rfl
        | true => rw [hd] at c2; exact absurd c2 (by decide)
      rw [if_pos ⟨d, c3⟩] at h; exact h
    · have d : ¬ s.2.2 = false := by
        intro q
        rw [q] at c2
        exact absurd rfl c2
      rw [if_neg (fun q => d q.1)] at h; exact h
  · rw [if_pos c] at h
    refine ⟨fun q => absurd (List.length_eq_zero_iff.mp (by omega)) c, fun _ => h⟩
theorem e_gtLoop {k : vS → Prop} {A : vS} {f : Nat} (hA : Cwf A) (hn : 0 < nFA A) (hf : f < 4) : ∀ (m i : Nat) (V : vS) (s : cS), i + m = lnA A f → (∀ c, 1 ≤ c ∧ c < 15 → V.1 c = A.1 c) → CR V s → SI i s →
    (∀ V1 : vS, (∀ c, c ≠ 15 → c ≠ 16 → V1.1 c = V.1 c) → V1.2 = V.2 → V1.1 15 6 = V.1 15 6 → V1.1 15 5 = nI (ckr A f m i s).1 → V1.1 15 7 = nI (ckr A f m i s).2 → V1.1 16 0 = 0 → k V1) → p_Ck_goThrough_b17 k (m + 1) V (3 + f) (nI i) := by
  have hl24 := (hA.2 f hf).1.2
  have hln := (hA.2 f hf).1.1
  intro m
  induction m with
  | zero =>
    intro i V s him hK hC hI h
    have hV : V.1 (3 + f) 2 = nI (lnA A f) := by rw [hK _ (by omega), hln]
    unfold p_Ck_goThrough_b17
    rw [hV, le_iff]
    refine ⟨fun _ => ?_, fun q => absurd (by omega) q⟩
    rintro _ rfl
    refine e_sortOfTheEnd hA hf (fun c hc => by rw [sv_ne V (by omega)]; exact hK c hc) (hC.sv (by decide) (by decide) (by decide)) hI (by omega) ?_
    rintro _ rfl
    refine h _ (fun c c15 c16 => ?_) rfl ?_ ?_ ?_ ?_
    · rw [sv_ne _ c15, sv_ne _ c15]
    · rw [sv_at _ (by decide), sv_at _ (by decide)]
    · rw [sv_eq]; rfl
    · rw [sv_at _ (by decide), sv_eq]
      show nI (lnA A f) = nI i
      rw [show lnA A f = i by omega]
    · rw [sv_ne _ (by decide), sv_ne _ (by decide)]; exact hC.2.2.2.1
  | succ m ih =>
    intro i V s him hK hC hI h
    have hV : V.1 (3 + f) 2 = nI (lnA A f) := by rw [hK _ (by omega), hln]
    obtain ⟨hoc, ho⟩ := (hA.2 f hf).2.2.2.2 i (by omega)
    have e1 : V.1 (3 + f + 4) i = nI (ocA A f i) := by rw [show 3 + f + 4 = 7 + f by omega, hK _ (by omega), hoc]
    have e2 : V.1 (3 + f + 8) i = agA A f i := by rw [show 3 + f + 8 = 11 + f by omega, hK _ (by omega)]; rfl
    unfold p_Ck_goThrough_b17
    rw [hV, le_iff, nt_nI (by omega), e1, e2]
    refine ⟨fun q => absurd q (by omega), fun _ => ⟨vin (by omega), ?_⟩⟩
    rintro _ rfl
    refine ⟨vin (by omega), ?_⟩
    rintro _ rfl _ rfl
    have hK1 : ∀ c, 1 ≤ c ∧ c < 15 → (sv V 15 7 (nI i)).1 c = A.1 c := fun c hc => by rw [sv_ne V (by omega)]; exact hK c hc
    have hC1 : CR (sv V 15 7 (nI i)) s := hC.sv (by decide) (by decide) (by decide)
    refine e_sortOf hA hn hf hK1 hC1 hI (by omega) ho ?_
    rintro _ rfl
    have hC2 : CR (sv (sv V 15 7 (nI i)) 15 5 (nI (srt A f (ocA A f i) (agA A f i) s))) s := hC1.sv (by decide) (by decide) (by decide)
    have hs5 := srt_le A f (ocA A f i) (agA A f i) s
    unfold ckr at h
    rw [sv_eq, k0, eq_iff]
    refine ⟨fun c => ?_, fun c => ?_⟩
    · rw [if_neg (fun q => q c)] at h
      refine e_pass (i := i) hA hn (fun x hx => by rw [sv_ne _ (by omega), sv_ne _ (by omega)]; exact hK x hx) hC2 hI (by omega) ho c (fun V1 g1 g2 g3 g4 => ?_)
      rintro _ rfl
      rw [nI_1]
      refine ih (i + 1) V1 _ (by omega) (fun x hx => by rw [g1 x (by omega) (by omega), sv_ne _ (by omega), sv_ne _ (by omega)]; exact hK x hx) g4 (SI_nx hA hn ho hI c) (fun V2 f1 f2 f3 f4 f5 f6 => ?_)
      refine h V2 (fun x x15 x16 => ?_) ?_ ?_ f4 f5 f6
      · rw [f1 x x15 x16, g1 x x15 x16, sv_ne _ x15, sv_ne _ x15]
      · rw [f2, g2]; rfl
      · rw [f3, g3 6 (by omega), sv_at _ (by decide), sv_at _ (by decide)]
    · rw [if_pos c] at h
      refine h _ (fun x x15 x16 => ?_) rfl ?_ ?_ ?_ ?_
      · rw [sv_ne _ x15, sv_ne _ x15]
      · rw [sv_at _ (by decide), sv_at _ (by decide)]
      · rw [sv_eq]
      · rw [sv_at _ (by decide), sv_eq]
      · rw [sv_ne _ (by decide), sv_ne _ (by decide)]; exact hC.2.2.2.1
theorem e_goThrough {k : vS → Prop} {A V : vS} {f : Nat} (hA : Cwf A) (hn : 0 < nFA A) (hf : f < 4) (hK : ∀ c, 1 ≤ c ∧ c < 15 → V.1 c = A.1 c) (h16 : V.1 16 0 = 0)
    (h : ∀ V1 : vS, (∀ c, c ≠ 15 → c ≠ 16 → V1.1 c = V.1 c) → V1.2 = V.2 → V1.1 15 6 = V.1 15 6 → V1.1 15 5 = nI (ckr A f (lnA A f) 0 ([], 0, false)).1 → V1.1 15 7 = nI (ckr A f (lnA A f) 0 ([], 0, false)).2 → V1.1 16 0 = 0 → k V1) : p_Ck_goThrough k V (3 + f) := by
  unfold p_Ck_goThrough
  rintro _ rfl _ rfl _ rfl
  refine ⟨lnA A f + 1, e_gtLoop hA hn hf (lnA A f) 0 _ ([], 0, false) (by omega) (fun c hc => ?_) ?_ SI_0 (fun V1 g1 g2 g3 g4 g5 g6 => h V1 (fun c c15 c16 => ?_) ?_ ?_ g4 g5 g6)⟩
  · rw [sv_ne _ (by omega), sv_ne _ (by omega), sv_ne _ (by omega)]; exact hK c hc
  · refine ⟨?_, ?_, ?_, ?_, fun j hj => ?_⟩
    · rw [sv_at _ (by decide), sv_at _ (by decide), sv_eq]; rfl
    · rw [sv_at _ (by decide), sv_eq]; rfl
    · rw [sv_eq]; rfl
    · rw [sv_ne _ (by decide), sv_ne _ (by decide), sv_ne _ (by decide)]; exact h16
    · exact absurd hj (by simp)
  · rw [g1 c c15 c16, sv_ne _ c15, sv_ne _ c15, sv_ne _ c15]
  · rw [g2]; rfl
  · rw [g3, sv_at _ (by decide), sv_at _ (by decide), sv_at _ (by decide)]
theorem e_gtaLoop {k : vS → Prop} {A : vS} (hA : Cwf A) (hn : 0 < nFA A) : ∀ (m f : Nat) (V : vS), f + m = nFA A → (∀ c, 1 ≤ c ∧ c < 15 → V.1 c = A.1 c) → V.1 15 5 = 0 → V.1 16 0 = 0 →
    (∀ V1 : vS, (∀ c, c ≠ 15 → c ≠ 16 → V1.1 c = V.1 c) → V1.2 = V.2 → V1.1 15 5 = nI (cka A m f).1 → ((cka A m f).1 ≠ 0 → V1.1 15 6 = nI (cka A m f).2.1 ∧ V1.1 15 7 = nI (cka A m f).2.2) → V1.1 16 0 = 0 → k V1) → p_Ck_goThroughAll_b7 k (m + 1) V (nI f) := by
  have h4 := hA.1.2
  intro m
  induction m with
  | zero =>
    intro f V hfm hK h5 h16 h
    unfold p_Ck_goThroughAll_b7 p_Ck_goThroughAll_b49
    rw [hK 1 (by omega), hA.1.1, le_iff]
    refine ⟨fun _ => h V (fun _ _ _ => rfl) rfl (by rw [h5]; rfl) (fun q => absurd rfl q) h16, fun q => absurd (by omega) q⟩
  | succ m ih =>
    intro f V hfm hK h5 h16 h
    unfold cka at h
    have key : ∀ n : Nat, (∀ V5 : vS, (∀ c, c ≠ 15 → c ≠ 16 → V5.1 c = V.1 c) → V5.2 = V.2 → V5.1 15 6 = nI f → V5.1 15 5 = nI (ckr A f (lnA A f) 0 ([], 0, false)).1 → V5.1 15 7 = nI (ckr A f (lnA A f) 0 ([], 0, false)).2 → V5.1 16 0 = 0 → p_Ck_goThroughAll_b7 k n V5 (nI (f + 1))) → p_Ck_goThroughAll_b7 k (n + 1) V (nI f) := by
      intro n hb
      unfold p_Ck_goThroughAll_b7
      rw [hK 1 (by omega), hA.1.1, le_iff, nt_nI (by omega)]
      refine ⟨fun q => absurd q (by omega), fun _ => ⟨fun _ => ?_, fun q => absurd h5 q⟩⟩
      rintro _ rfl
      refine ⟨vin (by omega), e_goThrough hA hn (by omega) (fun c hc => by rw [sv_ne _ (by omega)]; exact hK c hc) (by rw [sv_ne _ (by decide)]; exact h16) (fun V1 g1 g2 g3 g4 g5 g6 => ?_)⟩
      rintro _ rfl
      rw [nI_1]
      exact hb V1 (fun c c15 c16 => by rw [g1 c c15 c16, sv_ne _ c15]) (by rw [g2]; rfl) (by rw [g3, sv_eq]) g4 g5 g6
    by_cases c : (ckr A f (lnA A f) 0 ([], 0, false)).1 ≠ 0
    · rw [if_pos c] at h
      refine key (m + 1) (fun V5 g1 g2 g3 g4 g5 g6 => ?_)
      have h1 := (ckr_le A f (lnA A f) 0 ([], 0, false)).1
      have hstop : p_Ck_goThroughAll_b49 k V5 := h V5 g1 g2 g4 (fun _ => ⟨g3, g5⟩) g6
      unfold p_Ck_goThroughAll_b7
      rw [g4, k0, eq_iff]
      exact ⟨fun _ => hstop, fun _ => ⟨fun q => absurd q c, fun _ => hstop⟩⟩
    · rw [if_neg c] at h
      have c0 : (ckr A f (lnA A f) 0 ([], 0, false)).1 = 0 := by omega
      refine key (m + 1) (fun V5 g1 g2 g3 g4 g5 g6 => ?_)
      refine ih (f + 1) V5 (by omega) (fun c hc => by rw [g1 c (by omega) (by omega)]; exact hK c hc) (by rw [g4, c0]; rfl) g6 (fun V1 f1 f2 f3 f4 f5 => ?_)
      exact h V1 (fun c c15 c16 => by rw [f1 c c15 c16, g1 c c15 c16]) (by rw [f2, g2]) f3 f4 f5
theorem e_goThroughAll {k : vS → Prop} {A V : vS} (hA : Cwf A) (hn : 0 < nFA A) (hK : ∀ c, 1 ≤ c ∧ c < 15 → V.1 c = A.1 c) (h16 : V.1 16 0 = 0)
    (h : ∀ V1 : vS, (∀ c, c ≠ 15 → c ≠ 16 → V1.1 c = V.1 c) → V1.2 = V.2 → V1.1 15 5 = nI (cka A (nFA A) 0).1 → ((cka A (nFA A) 0).1 ≠ 0 → V1.1 15 6 = nI (cka A (nFA A) 0).2.1 ∧ V1.1 15 7 = nI (cka A (nFA A) 0).2.2) → V1.1 16 0 = 0 → k V1) : p_Ck_goThroughAll k V := by
  unfold p_Ck_goThroughAll
  rintro _ rfl
  refine ⟨nFA A + 1, e_gtaLoop hA hn (nFA A) 0 _ (by omega) (fun c hc => by rw [sv_ne _ (by omega)]; exact hK c hc) (sv_eq _ _ _ _) (by rw [sv_ne _ (by decide)]; exact h16) (fun V1 g1 g2 g3 g4 g5 => ?_)⟩
  exact h V1 (fun c c15 c16 => by rw [g1 c c15 c16, sv_ne _ c15]) (by rw [g2]; rfl) g3 g4 g5
/-- what check() answers -/
def ckAns (A : vS) : Int32 := if (cka A (nFA A) 0).1 = 0 then 0 else (-1000) - 100 * nI (cka A (nFA A) 0).2.1 - nI (cka A (nFA A) 0).2.2
theorem cka_le (A : vS) : ∀ m f, (cka A m f).1 ≤ 5 := by
  intro m
  induction m with
  | zero => intro f; unfold cka; exact Nat.zero_le _
  | succ m ih =>
    intro f
    unfold cka
    split
    · exact (ckr_le A f (lnA A f) 0 ([], 0, false)).1
    · exact ih (f + 1)
