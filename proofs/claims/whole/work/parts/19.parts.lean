/-! PURE PART: parts of checked code: openings, ends, targets -/
def sts (A : vS) (f : Nat) : Nat → cS
  | 0 => ([], 0, false)
  | i + 1 => nxs A (ocA A f i) (agA A f i) (sts A f i)
/-- the instructions that opened the parts that are open before instruction i, the innermost first -/
def opn (A : vS) (f : Nat) : Nat → List Nat
  | 0 => []
  | i + 1 => if ocA A f i = 12 ∨ ocA A f i = 13 then i :: opn A f i else if ocA A f i = 14 then (opn A f i).tail else opn A f i
/-- function f is checked -/
def Vld (A : vS) (f : Nat) : Prop := (∀ i, i < lnA A f → srt A f (ocA A f i) (agA A f i) (sts A f i) = 0) ∧ (sts A f (lnA A f)).1 = [] ∧ ((sts A f (lnA A f)).2.2 = true ∨ (sts A f (lnA A f)).2.1 = gvA A f)
theorem ckr_vld {A : vS} {f : Nat} : ∀ m i, i + m = lnA A f → (ckr A f m i (sts A f i)).1 = 0 → (∀ j, i ≤ j → j < lnA A f → srt A f (ocA A f j) (agA A f j) (sts A f j) = 0) ∧ (sts A f (lnA A f)).1 = [] ∧ ((sts A f (lnA A f)).2.2 = true ∨ (sts A f (lnA A f)).2.1 = gvA A f) := by
  intro m
  induction m with
  | zero =>
    intro i him h
    have e : i = lnA A f := by omega
    subst e
    unfold ckr at h
    dsimp only at h
    by_cases c : (sts A f (lnA A f)).1 = []
    · rw [if_neg (fun q => q c)] at h
      refine ⟨fun j h1 h2 => by omega, c, ?_⟩
      by_cases c2 : (sts A f (lnA A f)).2.2 = false ∧ (sts A f (lnA A f)).2.1 ≠ gvA A f
      · rw [if_pos c2] at h; omega
      · cases hd : (sts A f (lnA A f)).2.2 with
        | true => exact Or.inl rfl
        | false =>
          right
          exact Decidable.byContradiction fun q => c2 ⟨hd, q⟩
    · rw [if_pos c] at h; omega
  | succ m ih =>
    intro i him h
    unfold ckr at h
    by_cases c : srt A f (ocA A f i) (agA A f i) (sts A f i) ≠ 0
    · rw [if_pos c] at h
      exact absurd h c
    · rw [if_neg c] at h
      have := ih (i + 1) (by omega) h
      refine ⟨fun j h1 h2 => ?_, this.2⟩
      by_cases hj : j = i
      · subst hj; omega
      · exact this.1 j (by omega) h2
theorem cka_vld {A : vS} : ∀ m f, f + m = nFA A → (cka A m f).1 = 0 → ∀ g, f ≤ g → g < nFA A → Vld A g := by
  intro m
  induction m with
  | zero => intro f hf h g h1 h2; omega
  | succ m ih =>
    intro f hf h g h1 h2
    unfold cka at h
    by_cases c : (ckr A f (lnA A f) 0 ([], 0, false)).1 ≠ 0
    · rw [if_pos c] at h; exact absurd h c
    · rw [if_neg c] at h
      by_cases hg : g = f
      · subst hg
        have := ckr_vld (A := A) (f := g) (lnA A g) 0 (by omega) (by show (ckr A g (lnA A g) 0 ([], 0, false)).1 = 0; omega)
        exact ⟨fun i hi => this.1 i (Nat.zero_le _) hi, this.2⟩
      · exact ih (f + 1) (by omega) h g (by omega) h2
theorem opn_len {A : vS} {f : Nat} : ∀ i, (opn A f i).length = (sts A f i).1.length := by
  intro i
  induction i with
  | zero => rfl
  | succ i ih =>
    unfold opn sts nxs
    split
    · simp [ih]
    · split
      · simp [ih]
      · exact ih
theorem opn_lt {A : vS} {f : Nat} : ∀ i, ∀ o ∈ opn A f i, o < i ∧ (ocA A f o = 12 ∨ ocA A f o = 13) := by
  intro i
  induction i with
  | zero => intro o h; cases h
  | succ i ih =>
    intro o h
    unfold opn at h
    split at h
    · rename_i c
      rcases List.mem_cons.mp h with e | e
      · subst e; exact ⟨by omega, c⟩
      · have := ih o e; exact ⟨by omega, this.2⟩
    · split at h
      · have := ih o (List.mem_of_mem_tail h); exact ⟨by omega, this.2⟩
      · have := ih o h; exact ⟨by omega, this.2⟩
theorem tk_open {A : vS} {o : Nat} {a : Int32} (h : o = 12 ∨ o = 13 ∨ o = 14) : tkn A o a = 0 ∧ ptn A o a = 0 := by
  rcases h with rfl | rfl | rfl <;> exact ⟨rfl, rfl⟩
/-- a part's base is the height before its opening -/
theorem base_at {A : vS} {f : Nat} : ∀ i j, j < (opn A f i).length → (sts A f i).1.getD j 0 = (sts A f ((opn A f i).getD j 0)).2.1 := by
  intro i
  induction i with
  | zero => intro j h; simp [opn] at h
  | succ i ih =>
    intro j h
    have hl := opn_len (A := A) (f := f) i
    by_cases c : ocA A f i = 12 ∨ ocA A f i = 13
    · have e1 : opn A f (i + 1) = i :: opn A f i := by show (if _ then _ else _) = _; rw [if_pos c]
      have ht := tk_open (A := A) (a := agA A f i) (show ocA A f i = 12 ∨ ocA A f i = 13 ∨ ocA A f i = 14 by omega)
      have e2 : (sts A f (i + 1)).1 = (sts A f i).2.1 :: (sts A f i).1 := by
        show (nxs _ _ _ _).1 = _
        unfold nxs
        rw [if_pos c, ht.1, ht.2]
        rfl
      rw [e1, e2]
      rw [e1] at h
      cases j with
      | zero => rfl
      | succ j =>
        have := ih j (by simpa using h)
        simpa using this
    · by_cases c2 : ocA A f i = 14
      · have e1 : opn A f (i + 1) = (opn A f i).tail := by show (if _ then _ else _) = _; rw [if_neg c, if_pos c2]
        have e2 : (sts A f (i + 1)).1 = (sts A f i).1.tail := by
          show (nxs _ _ _ _).1 = _
          unfold nxs
          rw [if_neg c, if_pos c2]
        rw [e1, e2]
        rw [e1] at h
        have := ih (j + 1) (by rw [List.length_tail] at h; omega)
        simpa [List.getD] using this
      · have e1 : opn A f (i + 1) = opn A f i := by show (if _ then _ else _) = _; rw [if_neg c, if_neg c2]
        have e2 : (sts A f (i + 1)).1 = (sts A f i).1 := by
          show (nxs _ _ _ _).1 = _
          unfold nxs
          rw [if_neg c, if_neg c2]
        rw [e1, e2]
        rw [e1] at h
        exact ih j h
/-- the place behind the end of a part: the search from i on, m being left, n parts being open within -/
def bnd (A : vS) (f : Nat) : Nat → Nat → Nat → Nat
  | 0, i, _ => i
  | m + 1, i, n => if ocA A f i = 12 ∨ ocA A f i = 13 then bnd A f m (i + 1) (n + 1) else if ocA A f i = 14 then (if n = 0 then i + 1 else bnd A f m (i + 1) (n - 1)) else bnd A f m (i + 1) n
/-- in checked code the search finds the END of the part -/
theorem bnd_end {A : vS} {f o : Nat} (hV : Vld A f) : ∀ m i (ex : List Nat), i + m = lnA A f → opn A f i = ex ++ o :: opn A f o → ∃ e, i ≤ e ∧ e < lnA A f ∧ ocA A f e = 14 ∧ opn A f e = o :: opn A f o ∧ bnd A f m i ex.length = e + 1 := by
  intro m
  induction m with
  | zero =>
    intro i ex him h
    have e : i = lnA A f := by omega
    have h1 := opn_len (A := A) (f := f) i
    rw [h, e, hV.2.1] at h1
    simp at h1
  | succ m ih =>
    intro i ex him h
    unfold bnd
    by_cases c : ocA A f i = 12 ∨ ocA A f i = 13
    · rw [if_pos c]
      obtain ⟨e, e1, e2, e3, e4, e5⟩ := ih (i + 1) (i :: ex) (by omega) (by show (if _ then _ else _) = _; rw [if_pos c, h]; rfl)
      exact ⟨e, by omega, e2, e3, e4, e5⟩
    · rw [if_neg c]
      by_cases c2 : ocA A f i = 14
      · rw [if_pos c2]
        cases ex with
        | nil => exact ⟨i, Nat.le_refl _, by omega, c2, h, rfl⟩
        | cons x ex =>
          obtain ⟨e, e1, e2, e3, e4, e5⟩ := ih (i + 1) ex (by omega) (by show (if _ then _ else _) = _; rw [if_neg c, if_pos c2, h]; rfl)
          refine ⟨e, by omega, e2, e3, e4, ?_⟩
          rw [if_neg (by simp)]
          simpa using e5
      · rw [if_neg c2]
        obtain ⟨e, e1, e2, e3, e4, e5⟩ := ih (i + 1) ex (by omega) (by show (if _ then _ else _) = _; rw [if_neg c, if_neg c2, h])
        exact ⟨e, by omega, e2, e3, e4, e5⟩
/-- where a branch at i to part j goes -/
def tgt (A : vS) (f i j : Nat) : Nat := if j < (opn A f i).length then (if ocA A f ((opn A f i).getD j 0) = 13 then (opn A f i).getD j 0 + 1 else bnd A f (lnA A f - ((opn A f i).getD j 0 + 1)) ((opn A f i).getD j 0 + 1) 0) else lnA A f
theorem opn_at {A : vS} {f i j : Nat} (h : j < (opn A f i).length) : (opn A f i).getD j 0 ∈ opn A f i := by
  have : (opn A f i).getD j 0 = (opn A f i)[j] := by simp [List.getD, List.getElem?_eq_getElem h]
  rw [this]
  exact List.getElem_mem h
/-- a branch's target in checked code: its height is the part's base; it isn't dead -/
theorem tgt_ok {A : vS} {f i j : Nat} (hV : Vld A f) (hi : i < lnA A f) (h : j < (opn A f i).length) : tgt A f i j ≤ lnA A f ∧ (sts A f (tgt A f i j)).2.1 = (sts A f i).1.getD j 0 ∧ (sts A f (tgt A f i j)).2.2 = false ∧ 0 < tgt A f i j := by
  have hb := base_at i j h
  have hm := opn_lt i _ (opn_at h)
  unfold tgt
  rw [if_pos h]
  generalize (opn A f i).getD j 0 = o at *
  by_cases c : ocA A f o = 13
  · rw [if_pos c, hb]
    have ht := tk_open (A := A) (a := agA A f o) (show ocA A f o = 12 ∨ ocA A f o = 13 ∨ ocA A f o = 14 by omega)
    refine ⟨by omega, ?_, ?_, by omega⟩
    · show (nxs _ _ _ _).2.1 = _
      unfold nxs
      rw [if_pos hm.2, ht.1, ht.2]
      rfl
    · show (nxs _ _ _ _).2.2 = _
      unfold nxs
      rw [if_pos hm.2]
  · rw [if_neg c]
    obtain ⟨e, e1, e2, e3, e4, e5⟩ := bnd_end (A := A) (f := f) (o := o) hV (lnA A f - (o + 1)) (o + 1) [] (by omega) (by show (if _ then _ else _) = _; rw [if_pos hm.2]; rfl)
    have e5 : bnd A f (lnA A f - (o + 1)) (o + 1) 0 = e + 1 := e5
    rw [e5]
    have hbe := base_at (A := A) (f := f) e 0 (by rw [e4]; simp)
    rw [e4] at hbe
    refine ⟨by omega, ?_, ?_, by omega⟩
    · rw [hb]
      show (nxs _ _ _ _).2.1 = _
      unfold nxs
      rw [if_neg (by omega), if_pos e3]
      dsimp only
      have h2 : (sts A f e).1.headD 0 = (sts A f e).1.getD 0 0 := by
        cases (sts A f e).1 <;> rfl
      rw [h2, hbe]
      rfl
    · show (nxs _ _ _ _).2.2 = _
      unfold nxs
      rw [if_neg (by omega), if_pos e3]
/-- the class's search for the opening -/
theorem e_openLoop {k : Int32 → vS → Prop} {A V : vS} {f : Nat} (hA : Cwf A) (hf : f < 4) (hK : V.1 (7 + f) = A.1 (7 + f)) : ∀ (i c w : Nat), i ≤ 24 → c + i ≤ 100 → w ≤ 100 → k (match (opn A f i)[c + w]? with | some o => nI o | none => -1) V → p_Fn_openingOf_b10 k (i + 1) V (3 + f) (nI c) (nI w) (nI i - 1) := by
  intro i
  induction i with
  | zero =>
    intro c w h24 hc hw h
    unfold p_Fn_openingOf_b10
    have e : nI 0 - 1 < (0 : Int32) := by decide
    refine ⟨fun _ => h, fun q => absurd e q⟩
  | succ i ih =>
    intro c w h24 hc hw h
    obtain ⟨hoc, ho⟩ := (hA.2 f hf).2.2.2.2 i (by omega)
    have e1 : V.1 (3 + f + 4) i = nI (ocA A f i) := by rw [show 3 + f + 4 = 7 + f by omega, hK, hoc]
    have e2 : ∀ x : Int32, x + (-1) = x - 1 := fun x => (Int32.sub_eq_add_neg x 1).symm
    unfold p_Fn_openingOf_b10 p_Fn_openingOf_b70
    rw [nI_pred, nt_nI (by omega), e1]
    refine ⟨fun q => absurd q (nI_pos (by omega)), fun _ => ⟨vin (by omega), fun c1 => ?_, fun c1 => ⟨vin (by omega), ?_⟩⟩⟩
    · have c1' : ocA A f i = 14 := (o_eq (c := 14) ho (by omega)).mp c1
      rintro _ rfl _ rfl
      rw [e2, nI_1]
      refine ih (c + 1) w (by omega) (by omega) hw ?_
      have e3 : opn A f (i + 1) = (opn A f i).tail := by show (if _ then _ else _) = _; rw [if_neg (by omega), if_pos c1']
      rw [e3] at h
      have e4 : (opn A f i).tail[c + w]? = (opn A f i)[c + 1 + w]? := by rw [List.getElem?_tail]; congr 1; omega
      rw [e4] at h
      exact h
    · have c1' : ¬ ocA A f i = 14 := fun q => c1 ((o_eq (c := 14) ho (by omega)).mpr q)
      refine e_opensPart ?_
      have f1 : (nI (ocA A f i) = 12) ↔ ocA A f i = 12 := o_eq (c := 12) ho (by omega)
      have f2 : (nI (ocA A f i) = 13) ↔ ocA A f i = 13 := o_eq (c := 13) ho (by omega)
      simp only [f1, f2]
      by_cases c2 : ocA A f i = 12 ∨ ocA A f i = 13
      · rw [if_pos c2]
        have e3 : opn A f (i + 1) = i :: opn A f i := by show (if _ then _ else _) = _; rw [if_pos c2]
        rw [e3] at h
        refine ⟨fun q => absurd q (by decide), fun _ => ?_⟩
        rw [k0, le_iff, le_iff]
        refine ⟨fun c3 => ⟨fun c4 => ?_, fun c4 => ?_⟩, fun c3 => ?_⟩
        · rw [show c + w = 0 by omega] at h
          exact h
        · obtain ⟨w', rfl⟩ : ∃ w', w = w' + 1 := ⟨w - 1, by omega⟩
          rintro _ rfl _ rfl
          rw [nI_m1, e2]
          refine ih c w' (by omega) (by omega) (by omega) ?_
          rw [show c + (w' + 1) = (c + w') + 1 by omega, List.getElem?_cons_succ] at h
          exact h
        · obtain ⟨c', rfl⟩ : ∃ c', c = c' + 1 := ⟨c - 1, by omega⟩
          rintro _ rfl _ rfl
          rw [nI_m1, e2]
          refine ih c' w (by omega) (by omega) (by omega) ?_
          rw [show c' + 1 + w = (c' + w) + 1 by omega, List.getElem?_cons_succ] at h
          exact h
      · rw [if_neg c2]
        have e3 : opn A f (i + 1) = opn A f i := by show (if _ then _ else _) = _; rw [if_neg c2, if_neg c1']
        rw [e3] at h
        refine ⟨fun _ => ?_, fun q => absurd rfl q⟩
        rintro _ rfl
        rw [e2]
        exact ih c w (by omega) (by omega) hw h
theorem e_openingOf {k : Int32 → vS → Prop} {A V : vS} {f i j : Nat} (hA : Cwf A) (hf : f < 4) (hK : V.1 (7 + f) = A.1 (7 + f)) (hi : i ≤ 24) (hj : j ≤ 100) (h : k (match (opn A f i)[j]? with | some o => nI o | none => -1) V) : p_Fn_openingOf k V (3 + f) (nI i) (nI j) := by
  unfold p_Fn_openingOf
  rintro _ rfl
  exact ⟨i + 1, e_openLoop hA hf hK i 0 j hi (by omega) hj (by rw [Nat.zero_add]; exact h)⟩
/-- the class's search for the end -/
theorem e_beLoop {k : Int32 → vS → Prop} {A V : vS} {f : Nat} (hA : Cwf A) (hf : f < 4) (hK : ∀ c, 1 ≤ c ∧ c < 15 → V.1 c = A.1 c) : ∀ (m i n : Nat), i + m = lnA A f → n ≤ i → k (nI (bnd A f m i n)) V → p_Fn_behindEndOf_b6 k (m + 1) V (3 + f) (nI n) (nI i) := by
  have hl24 := (hA.2 f hf).1.2
  have hln : V.1 (3 + f) 2 = nI (lnA A f) := by rw [hK _ (by omega), (hA.2 f hf).1.1]
  intro m
  induction m with
  | zero =>
    intro i n him hni h
    unfold p_Fn_behindEndOf_b6
    rw [hln, le_iff]
    refine ⟨fun _ => ?_, fun q => absurd (by omega) q⟩
    unfold bnd at h
    rw [show lnA A f = i by omega]
    exact h
  | succ m ih =>
    intro i n him hni h
    obtain ⟨hoc, ho⟩ := (hA.2 f hf).2.2.2.2 i (by omega)
    have e1 : V.1 (3 + f + 4) i = nI (ocA A f i) := by rw [show 3 + f + 4 = 7 + f by omega, hK _ (by omega), hoc]
    unfold p_Fn_behindEndOf_b6 p_Fn_behindEndOf_b54
    rw [hln, le_iff, nt_nI (by omega), e1]
    refine ⟨fun q => absurd q (by omega), fun _ => ⟨vin (by omega), e_opensPart ?_⟩⟩
    have f1 : (nI (ocA A f i) = 12) ↔ ocA A f i = 12 := o_eq (c := 12) ho (by omega)
    have f2 : (nI (ocA A f i) = 13) ↔ ocA A f i = 13 := o_eq (c := 13) ho (by omega)
    simp only [f1, f2]
    unfold bnd at h
    by_cases c : ocA A f i = 12 ∨ ocA A f i = 13
    · rw [if_pos c]
      rw [if_pos c] at h
      refine ⟨fun q => absurd q (by decide), fun _ => ?_⟩
      rintro _ rfl _ rfl
      rw [nI_1, nI_1]
      exact ih (i + 1) (n + 1) (by omega) (by omega) h
    · rw [if_neg c]
      rw [if_neg c] at h
      refine ⟨fun _ => ⟨vin (by omega), ?_⟩, fun q => absurd rfl q⟩
      rw [e1]
      refine ⟨fun c2 => ?_, fun c2 => ?_⟩
      · have c2' : ocA A f i = 14 := (o_eq (c := 14) ho (by omega)).mp c2
        rw [if_pos c2'] at h
        rw [k0, eq_iff]
        refine ⟨fun c3 => ?_, fun c3 => ?_⟩
        · rw [if_pos c3] at h
          rw [nI_1]
          exact h
        · rw [if_neg c3] at h
          obtain ⟨n', rfl⟩ : ∃ n', n = n' + 1 := ⟨n - 1, by omega⟩
          rintro _ rfl _ rfl
          rw [nI_m1, nI_1]
          exact ih (i + 1) n' (by omega) (by omega) h
      · rw [if_neg (fun q => c2 ((o_eq (c := 14) ho (by omega)).mpr q))] at h
        rintro _ rfl
        rw [nI_1]
        exact ih (i + 1) n (by omega) (by omega) h
theorem e_target {k : Int32 → vS → Prop} {A V : vS} {f i j : Nat} (hA : Cwf A) (hf : f < 4) (hK : ∀ c, 1 ≤ c ∧ c < 15 → V.1 c = A.1 c) (hi : i < lnA A f) (hj : j ≤ 100) (h : k (nI (tgt A f i j)) V) : p_Fn_target k V (3 + f) (nI i) (nI j) := by
  have hl24 := (hA.2 f hf).1.2
  have hln : V.1 (3 + f) 2 = nI (lnA A f) := by rw [hK _ (by omega), (hA.2 f hf).1.1]
  unfold p_Fn_target
  refine e_openingOf hA hf (hK _ (by omega)) (by omega) hj ?_
  unfold tgt at h
  by_cases c : j < (opn A f i).length
  · rw [if_pos c] at h
    have e1 : (opn A f i)[j]? = some ((opn A f i).getD j 0) := by simp [List.getD, List.getElem?_eq_getElem c]
    have hm := opn_lt i _ (opn_at c)
    rw [e1]
    dsimp only
    generalize (opn A f i).getD j 0 = o at *
    obtain ⟨hoc, ho⟩ := (hA.2 f hf).2.2.2.2 o (by omega)
    have e2 : V.1 (3 + f + 4) o = nI (ocA A f o) := by rw [show 3 + f + 4 = 7 + f by omega, hK _ (by omega), hoc]
    refine ⟨fun _ => ⟨vin (by omega), ?_⟩, fun q => absurd (nI_pos' (by omega)) q⟩
    rw [nt_nI (by omega), e2]
    unfold p_Fn_target_b38
    refine ⟨fun c2 => ?_, fun c2 => ?_⟩
    · rw [if_pos ((o_eq (c := 13) ho (by omega)).mp c2)] at h
      rw [nI_1]
      exact h
    · rw [if_neg (fun q => c2 ((o_eq (c := 13) ho (by omega)).mpr q))] at h
      unfold p_Fn_behindEndOf
      rintro _ rfl
      rw [nI_1]
      exact ⟨lnA A f - (o + 1) + 1, e_beLoop hA hf hK (lnA A f - (o + 1)) (o + 1) 0 (by omega) (by omega) h⟩
  · rw [if_neg c] at h
    rw [List.getElem?_eq_none (by omega)]
    dsimp only
    refine ⟨fun q => absurd q (by decide), fun _ => ?_⟩
    rw [hln]
    exact h
