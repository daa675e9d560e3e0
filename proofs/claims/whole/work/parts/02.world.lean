/-- the state of both objects: what cell c holds at place j; the one long -/
abbrev vS : Type := (Nat → Nat → Int32) × Int64
abbrev nt (x : Int32) : Nat := x.toNatClampNeg
def sv (V : vS) (c j : Nat) (x : Int32) : vS := (fun a => if a = c then upd (V.1 c) j x else V.1 a, V.2)
def sj (V : vS) (x : Int64) : vS := (V.1, x)
theorem sv_self (V : vS) (c j : Nat) (x : Int32) : (sv V c j x).1 c = upd (V.1 c) j x := if_pos rfl
theorem sv_ne (V : vS) {c j a : Nat} {x : Int32} (h : a ≠ c) : (sv V c j x).1 a = V.1 a := if_neg h
theorem sv_eq (V : vS) (c j : Nat) (x : Int32) : (sv V c j x).1 c j = x := by rw [sv_self]; exact pk_us
theorem sv_at (V : vS) {c j k : Nat} {x : Int32} (h : k ≠ j) : (sv V c j x).1 c k = V.1 c k := by rw [sv_self]; exact pk_un h
theorem sv_2 (V : vS) (c j : Nat) (x : Int32) : (sv V c j x).2 = V.2 := rfl
/-- the classes and slots; the addresses; the array classes; the two tables' addresses -/
abbrev gT : Type := va_G × (Nat → Nat) × (ClassId × ClassId × ClassId × ClassId) × (Nat × Nat)
def ga (g : gT) (k : Nat) : Nat := g.2.1 k
def gcI (g : gT) : ClassId := g.2.2.1.1
def gcZ (g : gT) : ClassId := g.2.2.1.2.1
def gcF (g : gT) : ClassId := g.2.2.1.2.2.1
def gcR (g : gT) : ClassId := g.2.2.1.2.2.2
def gtT (g : gT) : Nat := g.2.2.2.1
def gtP (g : gT) : Nat := g.2.2.2.2
def gty (g : gT) : List (ClassId × FieldType) := [(gcI g, .int), (gcZ g, .boolean), (gcF g, .object R_Fn), (gcR g, .object R_Fr)]
def gA (g : gT) : Nat → Prop := fun q => ∃ k, k < 49 ∧ q = ga g k
def gd (g : gT) : Prop := ∀ i j, i < 49 → j < 49 → ga g i = ga g j → i = j
def ce (g : gT) (V : vS) (c : Nat) : va_E :=
  if c = 0 then .inr (0, [.ref (ga g 1), .ref (ga g 15), .ref (ga g 17), .int (V.1 c 3)]) else
  if c = 1 then .inr (1, [.ref (ga g 2), .int (V.1 c 1)]) else
  if c = 2 then .inl (gcF g, 4, .inr (.inr (.inr (.inr (fun j => some (ga g (3 + j))))))) else
  if c < 7 then .inr (2, [.ref (ga g (c + 4)), .ref (ga g (c + 8)), .int (V.1 c 2), .int (V.1 c 3), .int (V.1 c 4), .int (V.1 c 5)]) else
  if c < 15 then .inl (gcI g, 24, .inl (V.1 c)) else
  if c = 15 then .inr (3, [.ref (ga g 1), .ref (ga g 16), .int (V.1 c 2), .int (V.1 c 3), .int (V.1 c 4), .int (V.1 c 5), .int (V.1 c 6), .int (V.1 c 7)]) else
  if c = 16 then .inl (gcI g, 25, .inl (V.1 c)) else
  if c = 17 then .inr (4, [.ref (ga g 1), .ref (ga g 18), .ref (ga g 31), .ref (ga g 32), .ref (ga g 33), .int (V.1 c 5), .int (V.1 c 6), .int (V.1 c 7), .int (V.1 c 8), .int (V.1 c 9), .int (V.1 c 10), .int (V.1 c 11), .long V.2]) else
  if c = 18 then .inl (gcR g, 6, .inr (.inr (.inr (.inr (fun j => some (ga g (19 + j))))))) else
  if c < 25 then .inr (5, [.ref (ga g (c + 6)), .int (V.1 c 1), .int (V.1 c 2)]) else
  if c < 31 then .inl (gcI g, 5, .inl (V.1 c)) else
  if c = 31 then .inl (gcI g, 40, .inl (V.1 c)) else
  if c = 32 then .inl (gcI g, 32, .inl (V.1 c)) else
  if c = 33 then .inl (gcZ g, 4, .inl (V.1 c)) else
  if c = 34 then .inr (6, [.ref (ga g 35), .ref (ga g 36), .ref (ga g 37), .ref (ga g 38), .ref (ga g 39), .ref (ga g 40), .int (V.1 c 6), .int (V.1 c 7), .int (V.1 c 8), .ref (ga g 41), .ref (ga g 42), .int (V.1 c 11), .int (V.1 c 12), .int (V.1 c 13), .ref (ga g 43), .ref (ga g 44), .ref (ga g 45), .ref (ga g 46), .int (V.1 c 18), .int (V.1 c 19), .int (V.1 c 20), .int (V.1 c 21), .int (V.1 c 22), .ref (ga g 47), .ref (ga g 48), .int (V.1 c 25), .int (V.1 c 26), .int (V.1 c 27), .int (V.1 c 28), .int (V.1 c 29)]) else
  if c = 35 then .inl (gcI g, 4, .inl (V.1 c)) else
  if c = 36 then .inl (gcI g, 4, .inl (V.1 c)) else
  if c = 37 then .inl (gcI g, 4, .inl (V.1 c)) else
  if c = 38 then .inl (gcI g, 4, .inl (V.1 c)) else
  if c = 39 then .inl (gcI g, 96, .inl (V.1 c)) else
  if c = 40 then .inl (gcI g, 96, .inl (V.1 c)) else
  if c = 41 then .inl (gcI g, 26, .inl (V.1 c)) else
  if c = 42 then .inl (gcI g, 26, .inl (V.1 c)) else
  if c = 43 then .inl (gcI g, 7, .inl (V.1 c)) else
  if c = 44 then .inl (gcI g, 7, .inl (V.1 c)) else
  if c = 45 then .inl (gcI g, 35, .inl (V.1 c)) else
  if c = 46 then .inl (gcI g, 42, .inl (V.1 c)) else
  if c = 47 then .inl (gcI g, 32, .inl (V.1 c)) else
  .inl (gcZ g, 4, .inl (V.1 c))
def cw (g : gT) (V : vS) : va_W := (List.range 49).map (fun c => (ga g c, ce g V c))
theorem ce_congr {g : gT} {V V' : vS} {c : Nat} (h1 : V'.1 c = V.1 c) (h2 : V'.2 = V.2) : ce g V' c = ce g V c := by
  unfold ce
  rw [h1, h2]
theorem cw_get {g : gT} {V : vS} {c : Nat} (h : c < 49) : (cw g V)[c]? = some (ga g c, ce g V c) := by simp [cw, h]
theorem cw_at {g : gT} {V : vS} {c : Nat} {e : va_E} (h : c < 49) (he : ce g V c = e) : (cw g V)[c]? = some (ga g c, e) := by rw [cw_get h, he]
theorem cw_D {g : gT} {V : vS} (h : gd g) : va_D (gA g) (cw g V) := by
  have key : ∀ (k : Nat) (q : Nat × va_E), (cw g V)[k]? = some q → k < 49 ∧ q.1 = ga g k := by
    intro k q hk
    have hl : k < 49 := by simpa [cw] using (List.getElem?_eq_some_iff.mp hk).1
    rw [cw_get hl] at hk
    cases hk
    exact ⟨hl, rfl⟩
  refine ⟨fun i j x y hi hj hxy => ?_, fun k q hk => ⟨k, key k q hk⟩⟩
  obtain ⟨a1, a2⟩ := key i x hi
  obtain ⟨b1, b2⟩ := key j y hj
  exact h i j a1 b1 (by rw [← a2, ← b2]; exact hxy)
theorem cw_set {g : gT} {V V' : vS} {c : Nat} {e : va_E} (hc : c < 49) (he : ce g V' c = e) (hne : ∀ a, a ≠ c → ce g V' a = ce g V a) : (cw g V).set c (ga g c, e) = cw g V' := by
  apply List.ext_getElem?
  intro j
  have hl : (cw g V).length = 49 := by simp [cw]
  by_cases hj : j = c
  · subst hj
    rw [List.getElem?_set_self (by rw [hl]; exact hc), cw_get hc, he]
  · rw [List.getElem?_set_ne (Ne.symm hj)]
    by_cases hk : j < 49
    · rw [cw_get hk, cw_get hk, hne j hj]
    · rw [List.getElem?_eq_none (by rw [hl]; omega), List.getElem?_eq_none (by simp [cw]; omega)]
theorem cw_sv {g : gT} {V : vS} {c j : Nat} {x : Int32} {e : va_E} (hc : c < 49) (he : ce g (sv V c j x) c = e) : (cw g V).set c (ga g c, e) = cw g (sv V c j x) := cw_set hc he (fun _ h => ce_congr (sv_ne V h) rfl)
def tTakes : Nat → Int32 := fun j => ([0, 0, 1, 2, 2, 2, 2, 2, 2, 1, 1, 2, 0, 0, 0, 0, 1, 0, 1, 0] : List Int32).getD j 0
def tPuts : Nat → Int32 := fun j => ([1, 1, 0, 1, 1, 1, 1, 1, 1, 0, 1, 0, 0, 0, 0, 0, 0, 0, 1, 0] : List Int32).getD j 0
/-- what else stands: the two tables, the nest's links -/
def zf (g : gT) (U : State) (H : Heap) : Prop := va_Z R_Op "TAKES" "[I" (.ref (gtT g)) (gA g) U H ∧ va_T .int (gtT g) 20 (fun j => .int (tTakes j)) (gA g) U H ∧ va_Z R_Op "PUTS" "[I" (.ref (gtP g)) (gA g) U H ∧ va_T .int (gtP g) 20 (fun j => .int (tPuts j)) (gA g) U H ∧ va_Nw (Cond.methodLinkNest "PluginRunner$Checker" 104 y_PR_within "PluginRunner") U ∧ va_Nw (Cond.fieldLinkNest "PluginRunner$Program" 33 "PluginRunner$Op" "TAKES" "[I" "PluginRunner") U ∧ va_Nw (Cond.fieldLinkNest "PluginRunner$Program" 37 "PluginRunner$Op" "PUTS" "[I" "PluginRunner") U
def wd (g : gT) (V : vS) (U : State) : Prop := va_P g.1 vcl (cw g V) U.heap ∧ va_K g.1 vcl (gty g) U ∧ zf g U U.heap
def cx (g : gT) (p : Program) (s : State) (m : MethodId) (meth : Method) (c : Code) (args : Array Value) (own : String) (cc : ByteArray) (nL : Nat) (ret : Option FieldType) : Prop :=
  p.tables.exec = Jvm.exec ∧ c.code = cc ∧ meth.sig.returnType = ret ∧ c.maxLocals = nL ∧ s.vm.findClass own = some m.cls ∧ (∀ w ∈ TBL, w.before args s = true) ∧ meth.locks = false ∧ va_K g.1 vcl (gty g) s ∧ zf g s s.heap ∧ gd g
theorem zf_moved {g : gT} {s U : State} {H H1 : Heap} (hW : s.WarmedH U.vm) (hq : ∀ a : Nat, a < H.size → ¬ gA g a → H1[a]? = H[a]?) (h : zf g s H) : zf g U H1 := by
  obtain ⟨h1, h2, h3, h4, h5, h6, h7⟩ := h
  exact ⟨(h1.moved hW.alike).kept hq, (h2.moved hW.alike).kept hq, (h3.moved hW.alike).kept hq, (h4.moved hW.alike).kept hq, va_Nw.warmM hW h5, va_Nw.warmF hW h6, va_Nw.warmF hW h7⟩
theorem zf_same {g : gT} {u U : State} {H : Heap} (e : u.vm = U.vm) (h : zf g u H) : zf g U H := by
  have ha : u.vm.Alike U.vm := by rw [e]; exact Vm.Alike.refl _
  obtain ⟨h1, h2, h3, h4, h5, h6, h7⟩ := h
  exact ⟨h1.moved ha, h2.moved ha, h3.moved ha, h4.moved ha, va_Nw.same rfl e h5, va_Nw.same rfl e h6, va_Nw.same rfl e h7⟩
theorem wd_blind {g : gT} {V : vS} {As : List Value} : FrameBlind (va_Pc As (wd g V)) := fun a U f mk q => by
  obtain ⟨q0, qP, qK, qZ⟩ := q
  exact ⟨q0, qP, va_K.moved (u := U) (U := U.calling f mk a) (Vm.Alike.refl U.vm) qK, zf_same (u := U) (U := U.calling f mk a) rfl qZ⟩
theorem wd_pre {g : gT} {V : vS} {As : List Value} {s : State} {H : Heap} {locs : List Loc} (hK : va_K g.1 vcl (gty g) s) (hZ : zf g s s.heap) (hP : va_P g.1 vcl (cw g V) H) (hS : va_S (gA g) s.heap H locs) : ∀ U : State, U.heap = H → s.WarmedH U.vm → va_Pc As (wd g V) As.toArray U := fun U hU hW =>
  ⟨rfl, by rw [hU]; exact hP, va_K.moved hW.alike hK, by rw [hU]; exact zf_moved hW hS.2.1 hZ⟩
abbrev Bw (g : gT) (V : vS) (t : State) : Prop := va_P g.1 vcl (cw g V) t.heap
def Ci (g : gT) (l : Launch) (y : MethodName) (bs : ByteArray) (mL : Nat) (rt : Option FieldType) (rm : Room) (As : List Value) (V : vS) (k : Int32 → vS → Prop) : Prop := Met l y (Cond.code y bs mL rt :: TBL) rm (va_Pc As (wd g V)) (va_Qi k (Bw g) (gA g)) 0 0 (gA g)
def Cl (g : gT) (l : Launch) (y : MethodName) (bs : ByteArray) (mL : Nat) (rt : Option FieldType) (rm : Room) (As : List Value) (V : vS) (k : Int64 → vS → Prop) : Prop := Met l y (Cond.code y bs mL rt :: TBL) rm (va_Pc As (wd g V)) (va_Ql k (Bw g) (gA g)) 0 0 (gA g)
def Cv (g : gT) (l : Launch) (y : MethodName) (bs : ByteArray) (mL : Nat) (rt : Option FieldType) (rm : Room) (As : List Value) (V : vS) (k : vS → Prop) : Prop := Met l y (Cond.code y bs mL rt :: TBL) rm (va_Pc As (wd g V)) (va_Qv k (Bw g) (gA g)) 0 0 (gA g)
def Cr (g : gT) (l : Launch) (y : MethodName) (bs : ByteArray) (mL : Nat) (rt : Option FieldType) (rm : Room) (As : List Value) (V : vS) (k : Nat → vS → Prop) : Prop := Met l y (Cond.code y bs mL rt :: TBL) rm (va_Pc As (wd g V)) (va_Qr (S := Nat × vS) (fun u => (19 ≤ u.1 ∧ u.1 < 25) ∧ k u.1 u.2) (fun u a t => a = ga g u.1 ∧ Bw g u.2 t) (gA g)) 0 0 (gA g)
/-- what a callee is: its class, its code, that the tables know it; n ints and references come with it -/
def yV (C : String) (y : MethodName) (bs : ByteArray) (mL : Nat) (rt : Option FieldType) (n : Nat) : Prop := (y.cls = C ∧ y.cls ≠ "java/lang/invoke/MethodHandle" ∧ y.cls ≠ "java/lang/invoke/VarHandle" ∧ (parseMethodDescriptor y.desc).map (fun d => d.parameters.length) = some n) ∧ Cond.instanceMethod y ∈ TBL ∧ Cond.selects C y y ∈ TBL ∧ Cond.initialized C ∈ TBL ∧ Cond.code y bs mL rt ∈ TBL
def yS (y : MethodName) (bs : ByteArray) (mL : Nat) (rt : Option FieldType) (n : Nat) : Prop := (y.cls ≠ "java/lang/invoke/MethodHandle" ∧ y.cls ≠ "java/lang/invoke/VarHandle" ∧ (parseMethodDescriptor y.desc).map (fun d => d.parameters.length) = some n) ∧ Cond.static y ∈ TBL ∧ Cond.initialized y.cls ∈ TBL ∧ Cond.code y bs mL rt ∈ TBL
abbrev rmOk (rm R : Room) (mL : Nat) : Prop := rm.cells = 0 ∧ rm.slots = 0 ∧ rm.frames + 1 ≤ R.frames ∧ 8 + (mL + 11) + rm.locals ≤ R.locals
/-- the receiver -/
def isO (C : String) (b : Nat) : Prop := b < 49 ∧ ∀ (g : gT) (V : vS), ∃ (ci : Nat) (fs : List Value) (q : vw_C), ce g V b = .inr (ci, fs) ∧ vcl[ci]? = some q ∧ q.1 = C
def isI (b n : Nat) : Prop := b < 49 ∧ ∀ (g : gT) (V : vS), ce g V b = .inl (gcI g, n, .inl (V.1 b))
def isZ (b n : Nat) : Prop := b < 49 ∧ ∀ (g : gT) (V : vS), ce g V b = .inl (gcZ g, n, .inl (V.1 b))
theorem vp_lt {i : Int32} {n : Nat} (h : vp_in i n) : nt i < n := Nat.not_le.mp fun q => h (Or.inr q)
theorem fn_of {i : Int32} (h : vp_in i 4) : 3 ≤ 3 + nt i ∧ 3 + nt i < 7 := by have := vp_lt h; unfold nt at *; omega
theorem fr_of {i : Int32} (h : vp_in i 6) : 19 ≤ 19 + nt i ∧ 19 + nt i < 25 := by have := vp_lt h; unfold nt at *; omega
theorem goodC {ws : List Cond} {w : Cond} (h : w ∈ TBL) (hs : ∀ x ∈ ws, x ∈ TBL) : ∀ x ∈ ws ++ (w :: TBL), x ∈ TBL := fun x hx => by
  rcases List.mem_append.mp hx with h1 | h1
  · exact hs x h1
  · rcases List.mem_cons.mp h1 with h2 | h2
    · rw [h2]; exact h
    · exact h2
theorem ce_sj {g : gT} {V : vS} {x : Int64} {a : Nat} (h : a ≠ 17) : ce g (sj V x) a = ce g V a := by
  unfold ce sj
  by_cases h2 : a < 7
  · by_cases h0 : a = 0 <;> by_cases h1 : a = 1 <;> by_cases h3 : a = 2 <;> simp [h0, h1, h2, h3]
  · simp only [h, if_false]
theorem isO_PR : isO R_PR 0 := ⟨by decide, fun _ _ => ⟨0, _, _, rfl, rfl, rfl⟩⟩
theorem isO_Pg : isO R_Pg 1 := ⟨by decide, fun _ _ => ⟨1, _, _, rfl, rfl, rfl⟩⟩
theorem isO_Ck : isO R_Ck 15 := ⟨by decide, fun _ _ => ⟨3, _, _, rfl, rfl, rfl⟩⟩
theorem isO_Mc : isO R_Mc 17 := ⟨by decide, fun _ _ => ⟨4, _, _, rfl, rfl, rfl⟩⟩
theorem isO_Mo : isO R_Mo 34 := ⟨by decide, fun _ _ => ⟨6, _, _, rfl, rfl, rfl⟩⟩
theorem ce_Fn {f : Nat} (h : 3 ≤ f ∧ f < 7) (g : gT) (V : vS) : ce g V f = .inr (2, [.ref (ga g (f + 4)), .ref (ga g (f + 8)), .int (V.1 f 2), .int (V.1 f 3), .int (V.1 f 4), .int (V.1 f 5)]) := by
  unfold ce
  rw [if_neg (by omega), if_neg (by omega), if_neg (by omega), if_pos h.2]
theorem ce_Fr {f : Nat} (h : 19 ≤ f ∧ f < 25) (g : gT) (V : vS) : ce g V f = .inr (5, [.ref (ga g (f + 6)), .int (V.1 f 1), .int (V.1 f 2)]) := by
  unfold ce
  rw [if_neg (by omega), if_neg (by omega), if_neg (by omega), if_neg (by omega), if_neg (by omega), if_neg (by omega), if_neg (by omega), if_neg (by omega), if_neg (by omega), if_pos h.2]
theorem isO_Fn {f : Nat} (h : 3 ≤ f ∧ f < 7) : isO R_Fn f := ⟨by omega, fun g V => ⟨2, _, _, ce_Fn h g V, rfl, rfl⟩⟩
theorem isO_Fr {f : Nat} (h : 19 ≤ f ∧ f < 25) : isO R_Fr f := ⟨by omega, fun g V => ⟨5, _, _, ce_Fr h g V, rfl, rfl⟩⟩
theorem isI_cd {f : Nat} (h : 7 ≤ f ∧ f < 15) : isI f 24 := ⟨by omega, fun g V => by
  unfold ce
  rw [if_neg (by omega), if_neg (by omega), if_neg (by omega), if_neg (by omega), if_pos h.2]⟩
theorem isI_ops {f : Nat} (h : 3 ≤ f ∧ f < 7) : isI (f + 4) 24 := isI_cd (by omega)
theorem isI_args {f : Nat} (h : 3 ≤ f ∧ f < 7) : isI (f + 8) 24 := isI_cd (by omega)
theorem isI_loc {f : Nat} (h : 19 ≤ f ∧ f < 25) : isI (f + 6) 5 := ⟨by omega, fun g V => by
  unfold ce
  rw [if_neg (by omega), if_neg (by omega), if_neg (by omega), if_neg (by omega), if_neg (by omega), if_neg (by omega), if_neg (by omega), if_neg (by omega), if_neg (by omega), if_neg (by omega), if_pos (by omega)]⟩
theorem isI_16 : isI 16 25 := ⟨by decide, fun _ _ => rfl⟩
theorem isI_31 : isI 31 40 := ⟨by decide, fun _ _ => rfl⟩
theorem isI_32 : isI 32 32 := ⟨by decide, fun _ _ => rfl⟩
theorem isI_35 : isI 35 4 := ⟨by decide, fun _ _ => rfl⟩
theorem isI_36 : isI 36 4 := ⟨by decide, fun _ _ => rfl⟩
theorem isI_37 : isI 37 4 := ⟨by decide, fun _ _ => rfl⟩
theorem isI_38 : isI 38 4 := ⟨by decide, fun _ _ => rfl⟩
theorem isI_39 : isI 39 96 := ⟨by decide, fun _ _ => rfl⟩
theorem isI_40 : isI 40 96 := ⟨by decide, fun _ _ => rfl⟩
theorem isI_41 : isI 41 26 := ⟨by decide, fun _ _ => rfl⟩
theorem isI_42 : isI 42 26 := ⟨by decide, fun _ _ => rfl⟩
theorem isI_43 : isI 43 7 := ⟨by decide, fun _ _ => rfl⟩
theorem isI_44 : isI 44 7 := ⟨by decide, fun _ _ => rfl⟩
theorem isI_45 : isI 45 35 := ⟨by decide, fun _ _ => rfl⟩
theorem isI_46 : isI 46 42 := ⟨by decide, fun _ _ => rfl⟩
theorem isI_47 : isI 47 32 := ⟨by decide, fun _ _ => rfl⟩
theorem isZ_33 : isZ 33 4 := ⟨by decide, fun _ _ => rfl⟩
theorem isZ_48 : isZ 48 4 := ⟨by decide, fun _ _ => rfl⟩
