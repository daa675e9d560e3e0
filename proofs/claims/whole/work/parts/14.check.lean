/-! PURE PART: the check. Views of the code of a state, the check as a function -/
def nFA (A : vS) : Nat := nt (A.1 1 1)
def lnA (A : vS) (f : Nat) : Nat := nt (A.1 (3 + f) 2)
def tkA (A : vS) (f : Nat) : Nat := nt (A.1 (3 + f) 3)
def gvA (A : vS) (f : Nat) : Nat := nt (A.1 (3 + f) 4)
def lcA (A : vS) (f : Nat) : Nat := nt (A.1 (3 + f) 5)
def ocA (A : vS) (f i : Nat) : Nat := nt (A.1 (7 + f) i)
def agA (A : vS) (f i : Nat) : Int32 := A.1 (11 + f) i
/-- the code is well formed -/
def Cwf (A : vS) : Prop := (A.1 1 1 = nI (nFA A) ∧ nFA A ≤ 4) ∧ ∀ f, f < 4 → (A.1 (3 + f) 2 = nI (lnA A f) ∧ lnA A f ≤ 24) ∧ (A.1 (3 + f) 3 = nI (tkA A f) ∧ tkA A f ≤ 2) ∧ (A.1 (3 + f) 4 = nI (gvA A f) ∧ gvA A f ≤ 1) ∧ (A.1 (3 + f) 5 = nI (lcA A f) ∧ lcA A f ≤ 3) ∧ ∀ i, i < 24 → A.1 (7 + f) i = nI (ocA A f i) ∧ ocA A f i < 20
/-- an argument's limit, where it has one -/
def aLim (A : vS) (f : Nat) (op : Nat) (o : Nat) : Option Int32 :=
  if o = 1 ∨ o = 2 then some (nI (tkA A f + lcA A f) - 1) else if o = 15 ∨ o = 16 then some (nI op) else if o = 17 then some (nI (nFA A) - 1) else if o = 18 then some 3 else if o = 10 ∨ o = 11 then some 31 else none
def aOk (A : vS) (f op o : Nat) (a : Int32) : Bool := match aLim A f op o with
  | none => true
  | some m => decide (¬ (a < 0 ∨ m < a))
theorem aOk_none {A : vS} {f op o : Nat} {a : Int32} (h : aLim A f op o = none) : aOk A f op o a = true := by unfold aOk; rw [h]
theorem aOk_some {A : vS} {f op o : Nat} {a m : Int32} (h : aLim A f op o = some m) : aOk A f op o a = decide (¬ (a < 0 ∨ m < a)) := by unfold aOk; rw [h]
theorem if_dec {P : Prop} [Decidable P] {x y : Int32} {k : Int32 → vS → Prop} {V : vS} (h : k (if decide (¬ P) = true then x else y) V) : k (if P then y else x) V := by
  by_cases c : P
  · rw [if_pos c]
    rw [if_neg (show ¬ (decide (¬ P) = true) from fun q => (of_decide_eq_true (p := ¬ P) q) c)] at h
    exact h
  · rw [if_neg c]
    rw [if_pos (decide_eq_true c)] at h
    exact h
/-- all ops -/
theorem ops20 {o : Nat} (h : o < 20) : o = 0 ∨ o = 1 ∨ o = 2 ∨ o = 3 ∨ o = 4 ∨ o = 5 ∨ o = 6 ∨ o = 7 ∨ o = 8 ∨ o = 9 ∨ o = 10 ∨ o = 11 ∨ o = 12 ∨ o = 13 ∨ o = 14 ∨ o = 15 ∨ o = 16 ∨ o = 17 ∨ o = 18 ∨ o = 19 := by omega
theorem pred_lt {n : Nat} (hn : 0 < n) (h4 : n ≤ 4) (a : Int32) : (nI n - 1 < a) ↔ nI n ≤ a := by
  obtain ⟨m, rfl⟩ : ∃ m, n = m + 1 := ⟨n - 1, by omega⟩
  rw [nI_pred, Int32.lt_iff_toInt_lt, Int32.le_iff_toInt_le, nI_toInt (by omega), nI_toInt (by omega)]
  omega
theorem bit_ite {P : Prop} [Decidable P] : (if P then (0 : Int32) else 1) = 0 ∨ (if P then (0 : Int32) else 1) = 1 := by
  by_cases c : P
  · rw [if_pos c]; exact Or.inl rfl
  · rw [if_neg c]; exact Or.inr rfl
theorem e_isArgument {k : Int32 → vS → Prop} {A V : vS} {f op o : Nat} {a : Int32} (hA : Cwf A) (hn : 0 < nFA A) (hf : f < 4) (hK : ∀ c, 1 ≤ c ∧ c < 15 → V.1 c = A.1 c) (hop : V.1 15 2 = nI op) (ho : o < 20) (h : k (if aOk A f op o a = true then 1 else 0) V) : p_Ck_isArgument k V (3 + f) (nI o) a := by
  have w : ∀ m : Int32, aLim A f op o = some m → p_PR_within (fun r V => (r = 0 ∨ r = 1) ∧ k r V) V a m := by
    intro m hm
    exact e_within ⟨bit_ite, if_dec (by rw [aOk_some hm] at h; exact h)⟩
  have w0 : aLim A f op o = none → k 1 V := by
    intro hm
    rw [aOk_none hm, if_pos rfl] at h
    exact h
  obtain ⟨⟨hN, hN4⟩, hF⟩ := hA
  obtain ⟨-, ⟨h3, -⟩, -, ⟨h5, -⟩, -⟩ := hF f hf
  have e35 : V.1 (3 + f) 3 + V.1 (3 + f) 5 - 1 = nI (tkA A f + lcA A f) - 1 := by rw [hK _ (by omega), h3, h5, nI_add]
  have hh : aLim A f op o = some (nI (nFA A) - 1) → p_Pg_has (fun r V => (r = 0 ∨ r = 1) ∧ k r V) V a := by
    intro hm
    refine e_has ⟨bit_ite, if_dec ?_⟩
    rw [aOk_some hm] at h
    rw [hK 1 (by omega), hN]
    have e : decide (¬ (a < 0 ∨ nI (nFA A) - 1 < a)) = decide (¬ (a < 0 ∨ nI (nFA A) ≤ a)) := by
      congr 1
      rw [pred_lt hn hN4]
    rw [e] at h
    exact h
  unfold p_Ck_isArgument
  rcases ops20 ho with rfl | rfl | rfl | rfl | rfl | rfl | rfl | rfl | rfl | rfl | rfl | rfl | rfl | rfl | rfl | rfl | rfl | rfl | rfl | rfl
  · exact br_f (by decide) (br_f (by decide) (br_f (by decide) (br_f (by decide) (br_f (by decide) (br_f (by decide) (br_f (by decide) (br_f (by decide) (br_f (by decide) (br_f (by decide) (br_f (by decide) (br_f (by decide) (br_f (by decide) (br_f (by decide) (br_f (by decide) (br_f (by decide) (br_f (by decide) (br_f (by decide) (w0 rfl))))))))))))))))))
  · exact br_t rfl (by rw [e35]; exact w _ rfl)
  · exact br_f (by decide) (br_t rfl (by rw [e35]; exact w _ rfl))
  · exact br_f (by decide) (br_f (by decide) (br_t rfl (w0 rfl)))
  · exact br_f (by decide) (br_f (by decide) (br_f (by decide) (br_t rfl (w0 rfl))))
  · exact br_f (by decide) (br_f (by decide) (br_f (by decide) (br_f (by decide) (br_t rfl (w0 rfl)))))
  · exact br_f (by decide) (br_f (by decide) (br_f (by decide) (br_f (by decide) (br_f (by decide) (br_t rfl (w0 rfl))))))
  · exact br_f (by decide) (br_f (by decide) (br_f (by decide) (br_f (by decide) (br_f (by decide) (br_f (by decide) (br_t rfl (w0 rfl)))))))
  · exact br_f (by decide) (br_f (by decide) (br_f (by decide) (br_f (by decide) (br_f (by decide) (br_f (by decide) (br_f (by decide) (br_t rfl (w0 rfl))))))))
  · exact br_f (by decide) (br_f (by decide) (br_f (by decide) (br_f (by decide) (br_f (by decide) (br_f (by decide) (br_f (by decide) (br_f (by decide) (br_t rfl (w0 rfl)))))))))
  · exact br_f (by decide) (br_f (by decide) (br_f (by decide) (br_f (by decide) (br_f (by decide) (br_f (by decide) (br_f (by decide) (br_f (by decide) (br_f (by decide) (br_t rfl (w _ rfl))))))))))
  · exact br_f (by decide) (br_f (by decide) (br_f (by decide) (br_f (by decide) (br_f (by decide) (br_f (by decide) (br_f (by decide) (br_f (by decide) (br_f (by decide) (br_f (by decide) (br_t rfl (w _ rfl)))))))))))
  · exact br_f (by decide) (br_f (by decide) (br_f (by decide) (br_f (by decide) (br_f (by decide) (br_f (by decide) (br_f (by decide) (br_f (by decide) (br_f (by decide) (br_f (by decide) (br_f (by decide) (br_t rfl (w0 rfl))))))))))))
  · exact br_f (by decide) (br_f (by decide) (br_f (by decide) (br_f (by decide) (br_f (by decide) (br_f (by decide) (br_f (by decide) (br_f (by decide) (br_f (by decide) (br_f (by decide) (br_f (by decide) (br_f (by decide) (br_t rfl (w0 rfl)))))))))))))
  · exact br_f (by decide) (br_f (by decide) (br_f (by decide) (br_f (by decide) (br_f (by decide) (br_f (by decide) (br_f (by decide) (br_f (by decide) (br_f (by decide) (br_f (by decide) (br_f (by decide) (br_f (by decide) (br_f (by decide) (br_t rfl (w0 rfl))))))))))))))
  · exact br_f (by decide) (br_f (by decide) (br_f (by decide) (br_f (by decide) (br_f (by decide) (br_f (by decide) (br_f (by decide) (br_f (by decide) (br_f (by decide) (br_f (by decide) (br_f (by decide) (br_f (by decide) (br_f (by decide) (br_f (by decide) (br_t rfl (by rw [hop]; exact w _ rfl)))))))))))))))
  · exact br_f (by decide) (br_f (by decide) (br_f (by decide) (br_f (by decide) (br_f (by decide) (br_f (by decide) (br_f (by decide) (br_f (by decide) (br_f (by decide) (br_f (by decide) (br_f (by decide) (br_f (by decide) (br_f (by decide) (br_f (by decide) (br_f (by decide) (br_t rfl (by rw [hop]; exact w _ rfl))))))))))))))))
  · exact br_f (by decide) (br_f (by decide) (br_f (by decide) (br_f (by decide) (br_f (by decide) (br_f (by decide) (br_f (by decide) (br_f (by decide) (br_f (by decide) (br_f (by decide) (br_f (by decide) (br_f (by decide) (br_f (by decide) (br_f (by decide) (br_f (by decide) (br_f (by decide) (br_t rfl (hh rfl)))))))))))))))))
  · exact br_f (by decide) (br_f (by decide) (br_f (by decide) (br_f (by decide) (br_f (by decide) (br_f (by decide) (br_f (by decide) (br_f (by decide) (br_f (by decide) (br_f (by decide) (br_f (by decide) (br_f (by decide) (br_f (by decide) (br_f (by decide) (br_f (by decide) (br_f (by decide) (br_f (by decide) (br_t rfl (w _ rfl))))))))))))))))))
  · exact br_f (by decide) (br_f (by decide) (br_f (by decide) (br_f (by decide) (br_f (by decide) (br_f (by decide) (br_f (by decide) (br_f (by decide) (br_f (by decide) (br_f (by decide) (br_f (by decide) (br_f (by decide) (br_f (by decide) (br_f (by decide) (br_f (by decide) (br_f (by decide) (br_f (by decide) (br_f (by decide) (w0 rfl))))))))))))))))))
/-- an argument that is right is a small number -/
theorem arg_small {a m : Int32} {n : Nat} (hm : m.toInt = n) (h : decide (¬ (a < 0 ∨ m < a)) = true) : ∃ j : Nat, j ≤ n ∧ a = nI j := by
  have h1 := of_decide_eq_true h
  rw [not_or] at h1
  exact nI_of2 hm h1.1 (Int32.not_lt.mp h1.2)
theorem arg_15 {A : vS} {f op o : Nat} {a : Int32} (ho : o = 15 ∨ o = 16) (hop : op < 1000) (h : aOk A f op o a = true) : ∃ j : Nat, j ≤ op ∧ a = nI j := by
  rw [aOk_some (m := nI op) (by rcases ho with rfl | rfl <;> rfl)] at h
  exact arg_small (nI_toInt (by omega)) h
theorem arg_17 {A : vS} {f op : Nat} {a : Int32} (hn : 0 < nFA A) (h4 : nFA A ≤ 4) (h : aOk A f op 17 a = true) : ∃ j : Nat, j < nFA A ∧ a = nI j := by
  rw [aOk_some (m := nI (nFA A) - 1) rfl] at h
  obtain ⟨m, hm⟩ : ∃ m, nFA A = m + 1 := ⟨nFA A - 1, by omega⟩
  rw [hm, nI_pred] at h
  obtain ⟨j, hj, e⟩ := arg_small (nI_toInt (by omega)) h
  exact ⟨j, by omega, e⟩
theorem arg_18 {A : vS} {f op : Nat} {a : Int32} (h : aOk A f op 18 a = true) : ∃ j : Nat, j < 4 ∧ a = nI j := by
  rw [aOk_some (m := 3) rfl] at h
  obtain ⟨j, hj, e⟩ := arg_small (n := 3) rfl h
  exact ⟨j, by omega, e⟩
theorem arg_1 {A : vS} {f op o : Nat} {a : Int32} (ho : o = 1 ∨ o = 2) (h5 : tkA A f + lcA A f ≤ 5) (h : aOk A f op o a = true) : ∃ j : Nat, j < tkA A f + lcA A f ∧ a = nI j := by
  rw [aOk_some (m := nI (tkA A f + lcA A f) - 1) (by rcases ho with rfl | rfl <;> rfl)] at h
  rcases Nat.eq_zero_or_pos (tkA A f + lcA A f) with h0 | h0
  · rw [h0] at h
    have h1 := of_decide_eq_true h
    rw [not_or, Int32.not_lt, Int32.not_lt, Int32.le_iff_toInt_le, Int32.le_iff_toInt_le] at h1
    have e1 : (0 : Int32).toInt = 0 := rfl
    have e2 : (nI 0 - 1).toInt = -1 := by decide
    omega
  · obtain ⟨m, hm⟩ : ∃ m, tkA A f + lcA A f = m + 1 := ⟨tkA A f + lcA A f - 1, by omega⟩
    rw [hm, nI_pred] at h
    obtain ⟨j, hj, e⟩ := arg_small (nI_toInt (by omega)) h
    exact ⟨j, by omega, e⟩
def tkN (o : Nat) : Nat := ([0, 0, 1, 2, 2, 2, 2, 2, 2, 1, 1, 2, 0, 0, 0, 0, 1, 0, 1, 0] : List Nat).getD o 0
def ptN (o : Nat) : Nat := ([1, 1, 0, 1, 1, 1, 1, 1, 1, 0, 1, 0, 0, 0, 0, 0, 0, 0, 1, 0] : List Nat).getD o 0
theorem tkN_eq {o : Nat} (h : o < 20) : tTakes o = nI (tkN o) := by
  rcases ops20 h with rfl | rfl | rfl | rfl | rfl | rfl | rfl | rfl | rfl | rfl | rfl | rfl | rfl | rfl | rfl | rfl | rfl | rfl | rfl | rfl <;> rfl
theorem ptN_eq {o : Nat} (h : o < 20) : tPuts o = nI (ptN o) := by
  rcases ops20 h with rfl | rfl | rfl | rfl | rfl | rfl | rfl | rfl | rfl | rfl | rfl | rfl | rfl | rfl | rfl | rfl | rfl | rfl | rfl | rfl <;> rfl
theorem tkN_le {o : Nat} (h : o < 20) : tkN o ≤ 2 := by
  rcases ops20 h with rfl | rfl | rfl | rfl | rfl | rfl | rfl | rfl | rfl | rfl | rfl | rfl | rfl | rfl | rfl | rfl | rfl | rfl | rfl | rfl <;> decide
theorem ptN_le {o : Nat} (h : o < 20) : ptN o ≤ 1 := by
  rcases ops20 h with rfl | rfl | rfl | rfl | rfl | rfl | rfl | rfl | rfl | rfl | rfl | rfl | rfl | rfl | rfl | rfl | rfl | rfl | rfl | rfl <;> decide
def tkn (A : vS) (o : Nat) (a : Int32) : Nat := if o = 17 then tkA A (nt a) else tkN o
def ptn (A : vS) (o : Nat) (a : Int32) : Nat := if o = 17 then gvA A (nt a) else ptN o
abbrev cS : Type := List Nat × Nat × Bool
/-- the sort of the fault that an instruction has -/
def srt (A : vS) (f o : Nat) (a : Int32) (s : cS) : Nat :=
  if s.2.2 = true ∧ o ≠ 14 then 5 else if aOk A f s.1.length o a = false then 1 else if s.2.1 - s.1.headD 0 < tkn A o a then 2 else
  if o = 14 ∧ (s.1 = [] ∨ (s.2.2 = false ∧ s.2.1 ≠ s.1.headD 0)) then 3 else
  if ((o = 15 ∨ o = 16) ∧ s.2.1 - tkn A o a ≠ s.1.getD (nt a) (gvA A f)) ∨ (o = 19 ∧ s.2.1 - tkn A o a ≠ gvA A f) then 4 else 0
/-- the check's state behind an instruction -/
def nxs (A : vS) (o : Nat) (a : Int32) (s : cS) : cS :=
  if o = 12 ∨ o = 13 then ((s.2.1 - tkn A o a + ptn A o a) :: s.1, s.2.1 - tkn A o a + ptn A o a, false) else if o = 14 then (s.1.tail, s.1.headD 0, false) else (s.1, s.2.1 - tkn A o a + ptn A o a, decide (o = 15 ∨ o = 19))
/-- what holds of the check's state before instruction i -/
def SI (i : Nat) (s : cS) : Prop := s.1.length ≤ i ∧ s.2.1 ≤ i ∧ s.1.headD 0 ≤ s.2.1 ∧ s.1.Pairwise (fun x y => y ≤ x)
theorem SI_0 : SI 0 ([], 0, false) := ⟨Nat.le_refl _, Nat.le_refl _, Nat.le_refl _, List.Pairwise.nil⟩
theorem ptn_le {A : vS} {f op o : Nat} {a : Int32} (hA : Cwf A) (hn : 0 < nFA A) (ho : o < 20) (h : aOk A f op o a = true) : ptn A o a ≤ 1 := by
  unfold ptn
  by_cases c : o = 17
  · subst c
    rw [if_pos rfl]
    obtain ⟨j, hj, e⟩ := arg_17 hn hA.1.2 h
    rw [e, nt_nI (by have := hA.1.2; omega)]
    exact (hA.2 j (by have := hA.1.2; omega)).2.2.1.2
  · rw [if_neg c]
    exact ptN_le ho
theorem SI_nx {A : vS} {f o i : Nat} {a : Int32} {s : cS} (hA : Cwf A) (hn : 0 < nFA A) (ho : o < 20) (h : SI i s) (h0 : srt A f o a s = 0) : SI (i + 1) (nxs A o a s) := by
  obtain ⟨bs, hh, dd⟩ := s
  obtain ⟨h1, h2, h3, h4⟩ := h
  dsimp only at h1 h2 h3 h4
  unfold srt at h0
  dsimp only at h0
  by_cases c1 : dd = true ∧ o ≠ 14
  · rw [if_pos c1] at h0; omega
  rw [if_neg c1] at h0
  by_cases c2 : aOk A f bs.length o a = false
  · rw [if_pos c2] at h0; omega
  rw [if_neg c2] at h0
  have hok : aOk A f bs.length o a = true := by simpa using c2
  by_cases c3 : hh - bs.headD 0 < tkn A o a
  · rw [if_pos c3] at h0; omega
  have hp := ptn_le hA hn ho hok
  unfold nxs SI
  dsimp only
  by_cases d1 : o = 12 ∨ o = 13
  · rw [if_pos d1]
    dsimp only
    refine ⟨by simp; omega, by omega, by simp, List.pairwise_cons.mpr ⟨fun b hb => ?_, h4⟩⟩
    have : b ≤ bs.headD 0 := by
      cases bs with
      | nil => cases hb
      | cons x l =>
        rcases List.mem_cons.mp hb with e | e
        · rw [e]; simp
        · exact (List.pairwise_cons.mp h4).1 b e
    omega
  rw [if_neg d1]
  by_cases d2 : o = 14
  · rw [if_pos d2]
    dsimp only
    cases bs with
    | nil => exact ⟨by simp, by simp, by simp, by simp⟩
    | cons x l =>
      have hp2 := List.pairwise_cons.mp h4
      refine ⟨by simp at h1 ⊢; omega, by simp at h3 ⊢; omega, ?_, hp2.2⟩
      cases l with
      | nil => simp
      | cons y l => simpa using hp2.1 y List.mem_cons_self
  · rw [if_neg d2]
    dsimp only
    exact ⟨by omega, by omega, by omega, h4⟩
