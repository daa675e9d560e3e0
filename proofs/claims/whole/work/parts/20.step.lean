/-! PURE PART: one step of the class's machine, as a function -/
def cPut (B : vS) (sz : Nat) (x : Int32) : Int32 × vS := if sz = 40 then (13, vTrap B) else (0, vPut B sz x)
theorem f_put {k : Int32 → vS → Prop} {V : vS} {x : Int32} {v : Nat} (hv : V.1 17 6 = nI v) (h4 : v ≤ 40) (h : At k (cPut V v x)) : p_Mc_put k V x := by
  unfold cPut at h
  refine e_put hv h4 (fun c => ?_) (fun c => ?_)
  · rw [if_neg (by omega)] at h; exact h.ok
  · rw [if_pos c] at h; exact h.trap (by decide)
def cVal (o : Nat) (x y : Int32) : Int32 := if o = 3 then x + y else if o = 4 then x - y else if o = 5 then x * y else if o = 6 then x / y else if o = 7 then (if x < y then 1 else 0) else (if x = y then 1 else 0)
def cCal (B : vS) (sz o : Nat) : Int32 × vS := if o = 6 ∧ (B.1 31 (sz - 1) = 0 ∨ (B.1 31 (sz - 2) = -2147483648 ∧ B.1 31 (sz - 1) = -1)) then (10, vTrap (vTake (vTake B (sz - 1)) (sz - 2))) else (0, vPut (vTake (vTake B (sz - 1)) (sz - 2)) (sz - 2) (cVal o (B.1 31 (sz - 2)) (B.1 31 (sz - 1))))
theorem take_31 (V : vS) (v : Nat) : (vTake V v).1 31 = V.1 31 := sv_ne _ (by decide)
theorem take_6 (V : vS) (v : Nat) : (vTake V v).1 17 6 = nI v := sv_eq _ _ _ _
theorem e_calculate {k : Int32 → vS → Prop} {B : vS} {sz o : Nat} (hs : B.1 17 6 = nI sz) (h2 : 2 ≤ sz) (h40 : sz ≤ 40) (ho : 3 ≤ o ∧ o ≤ 8) (h : At k (cCal B sz o)) : p_Mc_calculate k B (nI o) := by
  obtain ⟨v, rfl⟩ : ∃ v, sz = v + 2 := ⟨sz - 2, by omega⟩
  unfold cCal at h
  rw [show v + 2 - 1 = v + 1 by omega, show v + 2 - 2 = v by omega] at h
  unfold p_Mc_calculate
  refine e_take (v := v + 1) hs (by omega) (e_take (v := v) (take_6 _ _) (by omega) ?_)
  rw [take_31]
  generalize hV4 : vTake (vTake B (v + 1)) v = V4 at h
  have h6 : V4.1 17 6 = nI v := by rw [← hV4]; exact take_6 _ _
  have hp : ∀ z : Int32, k 0 (vPut V4 v z) → p_Mc_put (fun r V => k r V) V4 z := fun z q => e_put h6 (by omega) (fun _ => q) (fun c => absurd c (by omega))
  have hdiv : o = 6 → p_Mc_divide (fun r V => k r V) V4 (B.1 31 v) (B.1 31 (v + 1)) := by
    intro c
    subst c
    generalize B.1 31 v = x at h ⊢
    generalize B.1 31 (v + 1) = y at h ⊢
    unfold p_Mc_divide
    refine ⟨fun c1 => ?_, fun c1 => ⟨to64_0 c1, ?_⟩⟩
    · rw [if_pos ⟨rfl, Or.inl c1⟩] at h; exact h.trap (by decide)
    · rintro _ rfl
      rw [lg_cmp_eq]
      by_cases c2 : x = -2147483648 ∧ y = -1
      · rw [if_pos ⟨rfl, Or.inr c2⟩] at h
        obtain ⟨rfl, rfl⟩ := c2
        exact ⟨fun q => absurd q div64_min, fun _ => h.trap (by decide)⟩
      · rw [if_neg (fun q => by rcases q.2 with q | q; exact c1 q; exact c2 q)] at h
        rw [div64 c2, Int32.toInt32_toInt64]
        exact ⟨fun _ => hp _ h.ok, fun q => absurd rfl q⟩
  have hn : o ≠ 6 → k 0 (vPut V4 v (cVal o (B.1 31 v) (B.1 31 (v + 1)))) := by
    intro c
    rw [if_neg (fun q => c q.1)] at h
    exact h.ok
  rcases (show o = 3 ∨ o = 4 ∨ o = 5 ∨ o = 6 ∨ o = 7 ∨ o = 8 by omega) with rfl | rfl | rfl | rfl | rfl | rfl
  · exact br_t rfl (hp _ (hn (by decide)))
  · exact br_f (by decide) (br_t rfl (hp _ (hn (by decide))))
  · exact br_f (by decide) (br_f (by decide) (br_t rfl (hp _ (hn (by decide)))))
  · exact br_f (by decide) (br_f (by decide) (br_f (by decide) (br_t rfl (hdiv rfl))))
  · refine br_f (by decide) (br_f (by decide) (br_f (by decide) (br_f (by decide) (br_t rfl ?_))))
    have hq := hn (by decide)
    unfold p_Mc_calculate_b83
    refine ⟨fun c => hp _ ?_, fun c => hp _ ?_⟩
    · have e : cVal 7 (B.1 31 v) (B.1 31 (v + 1)) = 0 := by
        show (if B.1 31 v < B.1 31 (v + 1) then (1 : Int32) else 0) = 0
        rw [if_neg (Int32.not_lt.mpr c)]
      rw [e] at hq; exact hq
    · have e : cVal 7 (B.1 31 v) (B.1 31 (v + 1)) = 1 := by
        show (if B.1 31 v < B.1 31 (v + 1) then (1 : Int32) else 0) = 1
        rw [if_pos (Int32.not_le.mp c)]
      rw [e] at hq; exact hq
  · refine br_f (by decide) (br_f (by decide) (br_f (by decide) (br_f (by decide) (br_f (by decide) (br_t rfl ?_)))))
    have hq := hn (by decide)
    unfold p_Mc_calculate_b98
    refine ⟨fun c => hp _ ?_, fun c => hp _ ?_⟩
    · have e : cVal 8 (B.1 31 v) (B.1 31 (v + 1)) = 1 := by
        show (if B.1 31 v = B.1 31 (v + 1) then (1 : Int32) else 0) = 1
        rw [if_pos c]
      rw [e] at hq; exact hq
    · have e : cVal 8 (B.1 31 v) (B.1 31 (v + 1)) = 0 := by
        show (if B.1 31 v = B.1 31 (v + 1) then (1 : Int32) else 0) = 0
        rw [if_neg c]
      rw [e] at hq; exact hq
def cAdr (x a : Int32) : Int64 := x.toInt64 + a.toInt64
/-- a cell's number, as an int -/
theorem adr_in {y : Int64} (h : ¬ (y < 0 ∨ 32 ≤ y)) : ∃ j : Nat, j < 32 ∧ y.toInt32 = nI j := by
  rw [not_or] at h
  obtain ⟨j, hj, e⟩ := pk_lOf h.1
  have h2 : j < 32 := by
    have h3 := Int64.not_le.mp h.2
    rw [e, show (32 : Int64) = lN 32 from rfl, pk_lLT hj (by decide)] at h3
    exact h3
  exact ⟨j, h2, by rw [e]; exact lN_i j⟩
def cLoad (B : vS) (sz : Nat) (a : Int32) : Int32 × vS := if cAdr (B.1 31 (sz - 1)) a < 0 ∨ 32 ≤ cAdr (B.1 31 (sz - 1)) a then (11, vTrap (vTake B (sz - 1))) else (0, vPut (vTake B (sz - 1)) (sz - 1) (B.1 32 (nt (cAdr (B.1 31 (sz - 1)) a).toInt32)))
theorem e_load {k : Int32 → vS → Prop} {B : vS} {sz : Nat} {a : Int32} (hs : B.1 17 6 = nI sz) (h1 : 1 ≤ sz) (h40 : sz ≤ 40) (h : At k (cLoad B sz a)) : p_Mc_load k B a := by
  obtain ⟨v, rfl⟩ : ∃ v, sz = v + 1 := ⟨sz - 1, by omega⟩
  unfold cLoad at h
  rw [show v + 1 - 1 = v by omega] at h
  unfold p_Mc_load
  refine e_take hs (by omega) ?_
  intro y4 ey
  have ey : y4 = cAdr (B.1 31 v) a := ey
  rw [ey]
  refine e_isCell ?_
  by_cases c : cAdr (B.1 31 v) a < 0 ∨ 32 ≤ cAdr (B.1 31 v) a
  · rw [if_pos c] at h ⊢
    exact ⟨fun _ => h.trap (by decide), fun q => absurd rfl q⟩
  · rw [if_neg c] at h ⊢
    obtain ⟨j, hj, e⟩ := adr_in c
    refine ⟨fun q => absurd q (by decide), fun _ => ⟨by rw [e]; exact vin hj, ?_⟩⟩
    refine e_put (v := v) (take_6 _ _) (by omega) (fun _ => ?_) (fun q => absurd q (by omega))
    rw [show (vTake B v).1 32 = B.1 32 from sv_ne _ (by decide)]
    exact h.ok
def cStore (B : vS) (sz : Nat) (a : Int32) : Int32 × vS := if cAdr (B.1 31 (sz - 2)) a < 0 ∨ 32 ≤ cAdr (B.1 31 (sz - 2)) a then (11, vTrap (vTake (vTake B (sz - 1)) (sz - 2))) else (0, sv (vTake (vTake B (sz - 1)) (sz - 2)) 32 (nt (cAdr (B.1 31 (sz - 2)) a).toInt32) (B.1 31 (sz - 1)))
theorem e_store {k : Int32 → vS → Prop} {B : vS} {sz : Nat} {a : Int32} (hs : B.1 17 6 = nI sz) (h2 : 2 ≤ sz) (h40 : sz ≤ 40) (h : At k (cStore B sz a)) : p_Mc_store k B a := by
  obtain ⟨v, rfl⟩ : ∃ v, sz = v + 2 := ⟨sz - 2, by omega⟩
  unfold cStore at h
  rw [show v + 2 - 1 = v + 1 by omega, show v + 2 - 2 = v by omega] at h
  unfold p_Mc_store
  refine e_take (v := v + 1) hs (by omega) (e_take (v := v) (take_6 _ _) (by omega) ?_)
  rw [take_31]
  intro y4 ey
  have ey : y4 = cAdr (B.1 31 v) a := ey
  rw [ey]
  refine e_isCell ?_
  by_cases c : cAdr (B.1 31 v) a < 0 ∨ 32 ≤ cAdr (B.1 31 v) a
  · rw [if_pos c] at h ⊢
    exact ⟨fun _ => h.trap (by decide), fun q => absurd rfl q⟩
  · rw [if_neg c] at h ⊢
    obtain ⟨j, hj, e⟩ := adr_in c
    refine ⟨fun q => absurd q (by decide), fun _ => ⟨by rw [e]; exact vin hj, ?_⟩⟩
    rintro _ rfl
    exact h.ok
def zero5 (V : vS) (c : Nat) : vS := sv (sv (sv (sv (sv V c 0 0) c 1 0) c 2 0) c 3 0) c 4 0
theorem e_begin {k : vS → Prop} {V : vS} {b : Nat} {x : Int32} (h : k (zero5 (sv (sv V b 1 x) b 2 0) (b + 6))) : p_Fr_begin k V b x := by
  unfold p_Fr_begin
  rintro _ rfl _ rfl
  refine ⟨6, ?_⟩
  unfold p_Fr_begin_b12
  refine br_f (by decide) ⟨by unfold vp_in; decide, ?_⟩
  rintro _ rfl _ rfl
  unfold p_Fr_begin_b12
  refine br_f (by decide) ⟨by unfold vp_in; decide, ?_⟩
  rintro _ rfl _ rfl
  unfold p_Fr_begin_b12
  refine br_f (by decide) ⟨by unfold vp_in; decide, ?_⟩
  rintro _ rfl _ rfl
  unfold p_Fr_begin_b12
  refine br_f (by decide) ⟨by unfold vp_in; decide, ?_⟩
  rintro _ rfl _ rfl
  unfold p_Fr_begin_b12
  refine br_f (by decide) ⟨by unfold vp_in; decide, ?_⟩
  rintro _ rfl _ rfl
  unfold p_Fr_begin_b12
  exact br_t (by decide) h
def vEnter (V : vS) (dp : Nat) (x : Int32) : vS := sv (zero5 (sv (sv V (19 + dp) 1 x) (19 + dp) 2 0) (25 + dp)) 17 5 (nI (dp + 1))
theorem zero5_ne (V : vS) {c a : Nat} (h : a ≠ c) : (zero5 V c).1 a = V.1 a := by
  unfold zero5
  rw [sv_ne _ h, sv_ne _ h, sv_ne _ h, sv_ne _ h, sv_ne _ h]
theorem zero5_at (V : vS) (c : Nat) {j : Nat} (h : j < 5) : (zero5 V c).1 c j = 0 := by
  unfold zero5
  rcases (show j = 0 ∨ j = 1 ∨ j = 2 ∨ j = 3 ∨ j = 4 by omega) with rfl | rfl | rfl | rfl | rfl <;> simp [sv_app]
theorem e_enter {k : Nat → vS → Prop} {V : vS} {dp : Nat} {x : Int32} (hd : V.1 17 5 = nI dp) (h6 : dp < 6) (h : k (19 + dp) (vEnter V dp x)) : p_Mc_enter k V x := by
  unfold p_Mc_enter
  rw [hd, nt_nI (by omega)]
  refine ⟨vin h6, e_begin ?_⟩
  rintro _ rfl
  have e : (zero5 (sv (sv V (19 + dp) 1 x) (19 + dp) 2 0) (19 + dp + 6)).1 17 5 = nI dp := by
    rw [zero5_ne _ (by omega), sv_ne _ (by omega), sv_ne _ (by omega), hd]
  rw [e, nI_1]
  unfold vEnter at h
  rw [show 25 + dp = 19 + dp + 6 by omega] at h
  exact h
def vArgs : Nat → vS → Nat → Nat → vS
  | 0, V, _, _ => V
  | t + 1, V, c, sz => vArgs t (sv (vTake V (sz - 1)) c t (V.1 31 (sz - 1))) c (sz - 1)
theorem e_callLoop {k : Int32 → vS → Prop} {b : Nat} (hb : 19 ≤ b ∧ b < 25) : ∀ (t : Nat) (V : vS) (sz : Nat), t ≤ 5 → t ≤ sz → sz ≤ 40 → V.1 17 6 = nI sz → k 0 (vArgs t V (b + 6) sz) → p_Mc_call_b33 k (t + 1) V b (nI t - 1) := by
  intro t
  induction t with
  | zero =>
    intro V sz h5 hts h40 hs h
    unfold p_Mc_call_b33
    exact ⟨fun _ => h, fun q => absurd (show nI 0 - 1 < (0 : Int32) by decide) q⟩
  | succ t ih =>
    intro V sz h5 hts h40 hs h
    obtain ⟨v, rfl⟩ : ∃ v, sz = v + 1 := ⟨sz - 1, by omega⟩
    unfold p_Mc_call_b33
    rw [nI_pred]
    refine ⟨fun q => absurd q (nI_pos (by omega)), fun _ => e_take hs (by omega) ⟨vin (by omega), ?_⟩⟩
    rintro _ rfl _ rfl
    rw [nt_nI (by omega), show nI t + (-1) = nI t - 1 from (Int32.sub_eq_add_neg _ _).symm]
    refine ih _ v (by omega) (by omega) (by omega) ?_ ?_
    · rw [sv_ne _ (by omega)]; exact take_6 _ _
    · unfold vArgs at h
      rw [show v + 1 - 1 = v by omega] at h
      exact h
def cCall (K B : vS) (dp sz g : Nat) : Int32 × vS := if dp = 6 then (12, vTrap B) else (0, vArgs (tkA K g) (vEnter B dp (nI g)) (25 + dp) sz)
theorem e_call {k : Int32 → vS → Prop} {K B : vS} {dp sz g : Nat} (hA : Cwf K) (hK : ∀ c, 1 ≤ c ∧ c < 15 → B.1 c = K.1 c) (hd : B.1 17 5 = nI dp) (hd6 : dp ≤ 6) (hs : B.1 17 6 = nI sz) (h40 : sz ≤ 40) (hg : g < 4) (ht : tkA K g ≤ sz) (h : At k (cCall K B dp sz g)) : p_Mc_call k B (nI g) := by
  unfold cCall at h
  unfold p_Mc_call
  rw [hd, k6, eq_iff]
  refine ⟨fun c => ?_, fun c => e_enter hd (by omega) ⟨vin hg, ?_⟩⟩
  · rw [if_pos c] at h; exact h.trap (by decide)
  · rw [if_neg c] at h
    rintro _ rfl
    have e0 : ∀ a, a ≠ 17 → a ≠ 19 + dp → a ≠ 25 + dp → (vEnter B dp (nI g)).1 a = B.1 a := by
      intro a a1 a2 a3
      unfold vEnter
      rw [sv_ne _ a1, zero5_ne _ a3, sv_ne _ a2, sv_ne _ a2]
    have e1 : (vEnter B dp (nI g)).1 (3 + nt (nI g)) 3 = nI (tkA K g) := by
      rw [nt_nI (by omega), e0 _ (by omega) (by omega) (by omega), hK _ (by omega), (hA.2 g hg).2.1.1]
    have e2 : (vEnter B dp (nI g)).1 17 6 = nI sz := by
      unfold vEnter
      rw [sv_at _ (by decide), zero5_ne _ (by omega), sv_ne _ (by omega), sv_ne _ (by omega), hs]
    rw [e1]
    have := (hA.2 g hg).2.1.2
    refine ⟨tkA K g + 1, e_callLoop (by omega) (tkA K g) _ sz (by omega) ht h40 e2 ?_⟩
    rw [show 19 + dp + 6 = 25 + dp by omega]
    exact h.ok
def cAsk (B : vS) (sz g : Nat) : Int32 × vS := if B.1 33 g = 0 then (14, vTrap B) else (3, sv (sv (vTake B (sz - 1)) 17 8 (B.1 31 (sz - 1))) 17 7 (nI g))
theorem e_ask {k : Int32 → vS → Prop} {B : vS} {sz g : Nat} (hs : B.1 17 6 = nI sz) (h1 : 1 ≤ sz) (h40 : sz ≤ 40) (hg : g < 4) (h : At k (cAsk B sz g)) : p_Mc_ask k B (nI g) := by
  obtain ⟨v, rfl⟩ : ∃ v, sz = v + 1 := ⟨sz - 1, by omega⟩
  unfold cAsk at h
  rw [show v + 1 - 1 = v by omega] at h
  unfold p_Mc_ask
  rw [nt_nI (by omega)]
  refine ⟨vin hg, fun c => ?_, fun c => e_take hs (by omega) ?_⟩
  · rw [if_pos c] at h; exact h.trap (by decide)
  · rw [if_neg c] at h
    rintro _ rfl _ rfl
    exact h.wait
/-- one step: K's code, d the innermost frame, sz values, function f, instruction i -/
def cst (K A : vS) (d sz f i : Nat) : Int32 × vS :=
  if ocA K f i = 0 then cPut (sv A (19 + d) 2 (nI (i + 1))) sz (agA K f i)
  else if ocA K f i = 1 then cPut (sv A (19 + d) 2 (nI (i + 1))) sz (A.1 (25 + d) (nt (agA K f i)))
  else if ocA K f i = 2 then (0, sv (vTake (sv A (19 + d) 2 (nI (i + 1))) (sz - 1)) (25 + d) (nt (agA K f i)) (A.1 31 (sz - 1)))
  else if ocA K f i ≤ 8 then cCal (sv A (19 + d) 2 (nI (i + 1))) sz (ocA K f i)
  else if ocA K f i = 9 then (0, vTake (sv A (19 + d) 2 (nI (i + 1))) (sz - 1))
  else if ocA K f i = 10 then cLoad (sv A (19 + d) 2 (nI (i + 1))) sz (agA K f i)
  else if ocA K f i = 11 then cStore (sv A (19 + d) 2 (nI (i + 1))) sz (agA K f i)
  else if ocA K f i ≤ 14 then (0, sv A (19 + d) 2 (nI (i + 1)))
  else if ocA K f i = 15 then (0, sv (sv A (19 + d) 2 (nI (i + 1))) (19 + d) 2 (nI (tgt K f i (nt (agA K f i)))))
  else if ocA K f i = 16 then (0, if A.1 31 (sz - 1) = 0 then vTake (sv A (19 + d) 2 (nI (i + 1))) (sz - 1) else sv (vTake (sv A (19 + d) 2 (nI (i + 1))) (sz - 1)) (19 + d) 2 (nI (tgt K f i (nt (agA K f i)))))
  else if ocA K f i = 17 then cCall K (sv A (19 + d) 2 (nI (i + 1))) (d + 1) sz (nt (agA K f i))
  else if ocA K f i = 18 then cAsk (sv A (19 + d) 2 (nI (i + 1))) sz (nt (agA K f i))
  else (0, sv (sv A (19 + d) 2 (nI (i + 1))) (19 + d) 2 (nI (lnA K f)))
