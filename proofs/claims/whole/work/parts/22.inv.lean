/-! PURE PART: what holds of a run over checked code -/
theorem st_facts {K : vS} {f i : Nat} (hV : Vld K f) (hi : i < lnA K f) (hdd : (sts K f i).2.2 = false) :
    aOk K f (sts K f i).1.length (ocA K f i) (agA K f i) = true ∧ tkn K (ocA K f i) (agA K f i) ≤ (sts K f i).2.1 ∧ (ocA K f i ≠ 15 → ocA K f i ≠ 19 → (sts K f (i + 1)).2.1 = (sts K f i).2.1 - tkn K (ocA K f i) (agA K f i) + ptn K (ocA K f i) (agA K f i) ∧ (sts K f (i + 1)).2.2 = false) ∧
    ((ocA K f i = 15 ∨ ocA K f i = 16) → (sts K f i).2.1 - tkn K (ocA K f i) (agA K f i) = (sts K f i).1.getD (nt (agA K f i)) (gvA K f)) ∧ (ocA K f i = 19 → (sts K f i).2.1 = gvA K f) := by
  have h0 := hV.1 i hi
  have hn : sts K f (i + 1) = nxs K (ocA K f i) (agA K f i) (sts K f i) := rfl
  rw [hn]
  generalize sts K f i = s at *
  generalize ocA K f i = o at *
  generalize agA K f i = a at *
  unfold srt at h0
  rw [if_neg (fun q => by rw [hdd] at q; exact absurd q.1 (by decide))] at h0
  by_cases c2 : aOk K f s.1.length o a = false
  · rw [if_pos c2] at h0; omega
  rw [if_neg c2] at h0
  have hok : aOk K f s.1.length o a = true := by simpa using c2
  by_cases c3 : s.2.1 - s.1.headD 0 < tkn K o a
  · rw [if_pos c3] at h0; omega
  rw [if_neg c3] at h0
  by_cases c4 : o = 14 ∧ (s.1 = [] ∨ (s.2.2 = false ∧ s.2.1 ≠ s.1.headD 0))
  · rw [if_pos c4] at h0; omega
  rw [if_neg c4] at h0
  by_cases c5 : ((o = 15 ∨ o = 16) ∧ s.2.1 - tkn K o a ≠ s.1.getD (nt a) (gvA K f)) ∨ (o = 19 ∧ s.2.1 - tkn K o a ≠ gvA K f)
  · rw [if_pos c5] at h0; omega
  refine ⟨hok, by omega, fun n15 n19 => ?_, fun q => Decidable.byContradiction fun z => c5 (Or.inl ⟨q, z⟩), fun q => ?_⟩
  · unfold nxs
    by_cases d1 : o = 12 ∨ o = 13
    · rw [if_pos d1]; exact ⟨rfl, rfl⟩
    · rw [if_neg d1]
      by_cases d2 : o = 14
      · rw [if_pos d2]
        have ht := tk_open (A := K) (a := a) (show o = 12 ∨ o = 13 ∨ o = 14 by omega)
        rw [ht.1, ht.2]
        refine ⟨?_, rfl⟩
        have : s.2.1 = s.1.headD 0 := Decidable.byContradiction fun z => c4 ⟨d2, Or.inr ⟨hdd, z⟩⟩
        show s.1.headD 0 = s.2.1 - 0 + 0
        omega
      · rw [if_neg d2]
        refine ⟨rfl, ?_⟩
        simp [n15, n19]
  · subst q
    exact Decidable.byContradiction fun z => c5 (Or.inr ⟨rfl, z⟩)
/-- how many values the frames below frame d keep -/
def bel (K : vS) (fn nx : Nat → Nat) : Nat → Nat
  | 0 => 0
  | d + 1 => bel K fn nx d + ((sts K (fn d) (nx d)).2.1 - gvA K (fn (d + 1)))
theorem bel_congr {K : vS} {fn nx fn' nx' : Nat → Nat} : ∀ d, (∀ e, e ≤ d → fn' e = fn e) → (∀ e, e < d → nx' e = nx e) → bel K fn' nx' d = bel K fn nx d := by
  intro d
  induction d with
  | zero => intro _ _; rfl
  | succ d ih =>
    intro h1 h2
    unfold bel
    rw [ih (fun e he => h1 e (by omega)) (fun e he => h2 e (by omega)), h1 d (by omega), h1 (d + 1) (by omega), h2 d (by omega)]
/-- a run: dp functions under way, sz values, wt: 1 if it waits; fn, nx: what runs, where it stands -/
def RI (K A : vS) (dp sz wt : Nat) (fn nx : Nat → Nat) : Prop :=
  (∀ c, 1 ≤ c ∧ c < 15 → A.1 c = K.1 c) ∧ A.1 17 5 = nI dp ∧ dp ≤ 6 ∧ A.1 17 6 = nI sz ∧ sz ≤ 40 ∧
  (∀ d, d < dp → A.1 (19 + d) 1 = nI (fn d) ∧ fn d < nFA K ∧ A.1 (19 + d) 2 = nI (nx d) ∧ nx d ≤ lnA K (fn d)) ∧
  (∀ d, d + 1 < dp → (sts K (fn d) (nx d)).2.2 = false ∧ gvA K (fn (d + 1)) ≤ (sts K (fn d) (nx d)).2.1) ∧
  (∀ d, d + 1 = dp → (nx d < lnA K (fn d) → (sts K (fn d) (nx d)).2.2 = false ∧ sz + wt = bel K fn nx d + (sts K (fn d) (nx d)).2.1) ∧ (nx d = lnA K (fn d) → sz + wt = bel K fn nx d + gvA K (fn d)))
/-- code, frames and depth are as they were -/
def sF (A A' : vS) : Prop := (∀ c, ((1 ≤ c ∧ c < 15) ∨ (19 ≤ c ∧ c < 25)) → A'.1 c = A.1 c) ∧ A'.1 17 5 = A.1 17 5
theorem sF.rf (A : vS) : sF A A := ⟨fun _ _ => rfl, rfl⟩
theorem sF.tr {A B C : vS} (h1 : sF A B) (h2 : sF B C) : sF A C := ⟨fun c hc => (h2.1 c hc).trans (h1.1 c hc), h2.2.trans h1.2⟩
theorem sF.sv (A : vS) {c j : Nat} (x : Int32) (h : 15 ≤ c ∧ (c < 19 ∨ 25 ≤ c)) (h5 : c ≠ 17 ∨ j ≠ 5) : sF A (sv A c j x) := by
  refine ⟨fun a ha => sv_ne _ (by omega), ?_⟩
  rcases h5 with q | q
  · rw [sv_ne _ (Ne.symm q)]
  · by_cases e : c = 17
    · subst e; exact sv_at _ (Ne.symm q)
    · rw [sv_ne _ (Ne.symm e)]
theorem sF.take (A : vS) (v : Nat) : sF A (vTake A v) := sF.sv A _ (by decide) (by decide)
theorem sF.put (A : vS) (v : Nat) (x : Int32) : sF A (vPut A v x) := (sF.sv A _ (by decide) (Or.inl (by decide))).tr (sF.sv _ _ (by decide) (by decide))
theorem put_6 (V : vS) (v : Nat) (x : Int32) : (vPut V v x).1 17 6 = nI (v + 1) := sv_eq _ _ _ _
/-- the innermost function goes on at j -/
theorem RI_op {K A A' : vS} {d sz sz' wt j : Nat} {fn nx : Nat → Nat} (hR : RI K A (d + 1) sz 0 fn nx) (g : sF (sv A (19 + d) 2 (nI j)) A') (hs : A'.1 17 6 = nI sz') (h40 : sz' ≤ 40) (hj : j ≤ lnA K (fn d))
    (ht : (j < lnA K (fn d) → (sts K (fn d) j).2.2 = false ∧ sz' + wt = bel K fn nx d + (sts K (fn d) j).2.1) ∧ (j = lnA K (fn d) → sz' + wt = bel K fn nx d + gvA K (fn d))) : RI K A' (d + 1) sz' wt fn (va_up nx d j) := by
  obtain ⟨r1, r2, r3, r4, r5, r6, r7, r8⟩ := hR
  have eb : bel K fn (va_up nx d j) d = bel K fn nx d := bel_congr d (fun _ _ => rfl) (fun e he => va_up_ne _ _ (by omega))
  refine ⟨fun c hc => ?_, ?_, r3, hs, h40, fun e he => ?_, fun e he => ?_, fun e he => ?_⟩
  · rw [g.1 c (Or.inl hc), sv_ne _ (by omega)]; exact r1 c hc
  · rw [g.2, sv_ne _ (by omega)]; exact r2
  · obtain ⟨a1, a2, a3, a4⟩ := r6 e he
    rw [g.1 (19 + e) (by omega)]
    by_cases c : e = d
    · subst c
      rw [va_up_self, sv_eq, sv_at _ (by decide)]
      exact ⟨a1, a2, rfl, hj⟩
    · rw [va_up_ne _ _ c, sv_ne _ (by omega)]
      exact ⟨a1, a2, a3, a4⟩
  · rw [va_up_ne _ _ (by omega)]
    exact r7 e he
  · have : e = d := by omega
    subst this
    rw [va_up_self, eb]
    exact ht
/-- what a function may have on its stack where it isn't dead -/
theorem top_ok {K : vS} {f j x b : Nat} (hV : Vld K f) (hd : (sts K f j).2.2 = false) (hx : x = b + (sts K f j).2.1) : (j < lnA K f → (sts K f j).2.2 = false ∧ x = b + (sts K f j).2.1) ∧ (j = lnA K f → x = b + gvA K f) := by
  refine ⟨fun _ => ⟨hd, hx⟩, fun e => ?_⟩
  subst e
  rcases hV.2.2 with q | q
  · rw [hd] at q; cases q
  · rw [← q]; exact hx
theorem vArgs_ne : ∀ (t : Nat) (V : vS) (c sz a : Nat), a ≠ 17 → a ≠ c → (vArgs t V c sz).1 a = V.1 a := by
  intro t
  induction t with
  | zero => intro V c sz a _ _; rfl
  | succ t ih =>
    intro V c sz a h1 h2
    unfold vArgs
    rw [ih _ _ _ _ h1 h2, sv_ne _ h2]
    exact sv_ne _ h1
theorem vArgs_17 : ∀ (t : Nat) (V : vS) (c sz j : Nat), c ≠ 17 → j ≠ 6 → (vArgs t V c sz).1 17 j = V.1 17 j := by
  intro t
  induction t with
  | zero => intro V c sz j _ _; rfl
  | succ t ih =>
    intro V c sz j h1 h2
    unfold vArgs
    rw [ih _ _ _ _ h1 h2, sv_ne _ (Ne.symm h1)]
    exact sv_at _ h2
theorem vArgs_6 : ∀ (t : Nat) (V : vS) (c sz : Nat), c ≠ 17 → V.1 17 6 = nI sz → t ≤ sz → (vArgs t V c sz).1 17 6 = nI (sz - t) := by
  intro t
  induction t with
  | zero => intro V c sz _ h _; exact h
  | succ t ih =>
    intro V c sz h1 h2 h3
    unfold vArgs
    rw [ih _ _ _ h1 (by rw [sv_ne _ (Ne.symm h1)]; exact take_6 _ _) (by omega), show sz - 1 - t = sz - (t + 1) by omega]
theorem vEnter_ne (B : vS) {dp a : Nat} (x : Int32) (a1 : a ≠ 17) (a2 : a ≠ 19 + dp) (a3 : a ≠ 25 + dp) : (vEnter B dp x).1 a = B.1 a := by
  unfold vEnter
  rw [sv_ne _ a1, zero5_ne _ a3, sv_ne _ a2, sv_ne _ a2]
theorem vEnter_17 (B : vS) {dp j : Nat} (x : Int32) (h : j ≠ 5) : (vEnter B dp x).1 17 j = B.1 17 j := by
  unfold vEnter
  rw [sv_at _ h, zero5_ne _ (by omega), sv_ne _ (by omega), sv_ne _ (by omega)]
theorem vEnter_5 (B : vS) (dp : Nat) (x : Int32) : (vEnter B dp x).1 17 5 = nI (dp + 1) := sv_eq _ _ _ _
theorem vEnter_1 (B : vS) {dp : Nat} (x : Int32) : (vEnter B dp x).1 (19 + dp) 1 = x := by
  unfold vEnter
  rw [sv_app]
  by_cases c : 19 + dp = 17
  · omega
  · rw [if_neg c, zero5_ne _ (by omega), sv_at _ (by decide), sv_eq]
theorem vEnter_2 (B : vS) {dp : Nat} (x : Int32) : (vEnter B dp x).1 (19 + dp) 2 = 0 := by
  unfold vEnter
  rw [sv_app]
  by_cases c : 19 + dp = 17
  · omega
  · rw [if_neg c, zero5_ne _ (by omega), sv_eq]
/-- a call -/
theorem RI_call {K A : vS} {d sz j gg : Nat} {fn nx : Nat → Nat} (hA : Cwf K) (hV : Vld K gg) (hR : RI K A (d + 1) sz 0 fn nx) (hd : d + 1 < 6) (hg : gg < nFA K) (hj : j ≤ lnA K (fn d)) (hdd : (sts K (fn d) j).2.2 = false) (ht : tkA K gg ≤ sz) (hh : sz - tkA K gg + gvA K gg = bel K fn nx d + (sts K (fn d) j).2.1) (hgv : gvA K gg ≤ (sts K (fn d) j).2.1) :
    RI K (vArgs (tkA K gg) (vEnter (sv A (19 + d) 2 (nI j)) (d + 1) (nI gg)) (25 + (d + 1)) sz) (d + 1 + 1) (sz - tkA K gg) 0 (va_up fn (d + 1) gg) (va_up (va_up nx d j) (d + 1) 0) := by
  obtain ⟨r1, r2, r3, r4, r5, r6, r7, r8⟩ := hR
  have eb : bel K (va_up fn (d + 1) gg) (va_up (va_up nx d j) (d + 1) 0) d = bel K fn nx d := bel_congr d (fun e he => va_up_ne _ _ (by omega)) (fun e he => by rw [va_up_ne _ _ (by omega), va_up_ne _ _ (by omega)])
  refine ⟨fun c hc => ?_, ?_, by omega, ?_, by omega, fun e he => ?_, fun e he => ?_, fun e he => ?_⟩
  · rw [vArgs_ne _ _ _ _ _ (by omega) (by omega), vEnter_ne _ _ (by omega) (by omega) (by omega), sv_ne _ (by omega)]; exact r1 c hc
  · rw [vArgs_17 _ _ _ _ _ (by omega) (by decide), vEnter_5]
  · exact vArgs_6 _ _ _ _ (by omega) (by rw [vEnter_17 _ _ (by decide), sv_ne _ (by omega)]; exact r4) ht
  · rw [vArgs_ne _ _ _ _ _ (by omega) (by omega)]
    by_cases c : e = d + 1
    · subst c
      rw [vEnter_1, vEnter_2, va_up_self, va_up_self]
      exact ⟨rfl, hg, rfl, Nat.zero_le _⟩
    · rw [vEnter_ne _ _ (by omega) (by omega) (by omega), va_up_ne _ _ c, va_up_ne _ _ c]
      obtain ⟨a1, a2, a3, a4⟩ := r6 e (by omega)
      by_cases c2 : e = d
      · subst c2
        rw [va_up_self, sv_eq, sv_at _ (by decide)]
        exact ⟨a1, a2, rfl, hj⟩
      · rw [va_up_ne _ _ c2, sv_ne _ (by omega)]
        exact ⟨a1, a2, a3, a4⟩
  · by_cases c : e = d
    · subst c
      rw [va_up_ne fn _ (show e ≠ e + 1 by omega), va_up_self fn, va_up_ne _ _ (show e ≠ e + 1 by omega), va_up_self]
      exact ⟨hdd, hgv⟩
    · rw [va_up_ne fn _ (by omega), va_up_ne fn _ (by omega), va_up_ne _ _ (by omega), va_up_ne _ _ c]
      exact r7 e (by omega)
  · have : e = d + 1 := by omega
    subst this
    rw [va_up_self, va_up_self]
    have ebd : bel K (va_up fn (d + 1) gg) (va_up (va_up nx d j) (d + 1) 0) (d + 1) = sz - tkA K gg := by
      show bel K _ _ d + _ = _
      rw [eb, va_up_ne fn _ (by omega), va_up_self fn, va_up_ne _ _ (by omega), va_up_self]
      omega
    exact top_ok hV rfl (by rw [ebd]; rfl)
/-- what a trap leaves -/
theorem trap_5 (V : vS) : (vTrap V).1 17 5 = 0 := by
  unfold vTrap vDrop
  simp [sv_app]
/-- a trap, seen from the state before: only these places change -/
def isTrap (A A' : vS) : Prop := A'.1 17 5 = 0 ∧ A'.1 17 6 = 0 ∧ A'.1 17 7 = -1 ∧ A'.1 17 8 = 0 ∧ A'.1 17 11 = A.1 17 11 + 1 ∧ (∀ j, (j = 9 ∨ j = 10) → A'.1 17 j = A.1 17 j) ∧ (∀ c, c < 17 → A'.1 c = A.1 c) ∧ (∀ c, c = 32 ∨ c = 33 → A'.1 c = A.1 c) ∧ A'.2 = A.2
theorem isTrap_of {A B : vS} (h17 : ∀ j, (9 ≤ j ∧ j ≤ 11) → B.1 17 j = A.1 17 j) (hc : ∀ c, c < 17 → B.1 c = A.1 c) (h32 : ∀ c, c = 32 ∨ c = 33 → B.1 c = A.1 c) (h2 : B.2 = A.2) : isTrap A (vTrap B) := by
  unfold isTrap vTrap vDrop
  refine ⟨by simp [sv_app], by simp [sv_app], by simp [sv_app], by simp [sv_app], by simp [sv_app, h17 11 (by decide)], fun j hj => ?_, fun c q => ?_, fun c q => ?_, h2⟩
  · rcases hj with rfl | rfl
    · simp [sv_app, h17 9 (by decide)]
    · simp [sv_app, h17 10 (by decide)]
  · rw [sv_ne _ (by omega), sv_ne _ (by omega), sv_ne _ (by omega), sv_ne _ (by omega), sv_ne _ (by omega)]; exact hc c q
  · rw [sv_ne _ (by omega), sv_ne _ (by omega), sv_ne _ (by omega), sv_ne _ (by omega), sv_ne _ (by omega)]; exact h32 c q
