theorem d_Law_law_0 : decode code 0 = .ok (.new 7, 3) := by decide +kernel
theorem d_Law_law_3 : decode code 3 = .ok (.dup, 1) := by decide +kernel
theorem d_Law_law_4 : decode code 4 = .ok (.invokespecial 9, 3) := by decide +kernel
theorem d_Law_law_7 : decode code 7 = .ok (.astore_n 1, 1) := by decide +kernel
theorem d_Law_law_8 : decode code 8 = .ok (.new 10, 3) := by decide +kernel
theorem d_Law_law_11 : decode code 11 = .ok (.dup, 1) := by decide +kernel
theorem d_Law_law_12 : decode code 12 = .ok (.invokespecial 12, 3) := by decide +kernel
theorem d_Law_law_15 : decode code 15 = .ok (.astore_n 2, 1) := by decide +kernel
/-- the state of two new objects -/
def V0 : vS := (fun c => if c = 17 then (fun j => if j = 7 then -1 else 0) else if c = 34 then (fun j => if j = 20 then -1 else 0) else (fun _ => 0), -1000000000000)
theorem arrOf_class {s : State} {args : Array Value} {ty : FieldType} (h : (Cond.arrayClass ty).before args s = true) : ∃ cA : ClassId, ArrOfT s cA ty ∧ s.vm.findClass ("[" ++ ty.toString) = some cA := by
  obtain ⟨cA, kA, comp, h1, h2, h3⟩ := Cond.arrayClass_spec h
  exact ⟨cA, fun n z => ⟨fun k h => (by cases h), kA, h2, comp, h3⟩, h1⟩
theorem arrOf_over {s : State} {args : Array Value} {C : String} (h : (Cond.arrayOver (.object C)).before args s = true) : ∃ cA : ClassId, ArrOfT s cA (.object C) ∧ va_RA s cA (.object C) := by
  obtain ⟨comp, cA, kA, h1, h2, h3, h4, h5⟩ := Cond.arrayOver_spec h
  exact ⟨cA, fun n z => ⟨fun k h => (by cases h), kA, h3, comp, h4⟩, kA, comp, h3, h4, h1, h5⟩
def gw (g : gT) (ad : Nat → Nat) : gT := (g.1, ad, g.2.2)
def pmap : Nat → Nat := ix [0, 1, 2, 3, 6, 9, 12, 4, 7, 10, 13, 5, 8, 11, 14, 15, 16, 17, 18, 22, 24, 26, 28, 30, 32, 23, 25, 27, 29, 31, 33, 19, 20, 21, 34, 35, 36, 37, 38, 39, 40, 41, 42, 43, 44, 45, 46, 47, 48]
def adW (u v : Nat → Nat) (k : Nat) : Nat := if k < 34 then u (pmap k) else v (k - 34)
theorem pmap_inj : ∀ i, i < 49 → ∀ j, j < 49 → pmap i = pmap j → i = j := by decide +kernel
set_option maxHeartbeats 16000000 in
set_option maxRecDepth 100000 in
theorem w_key (g : gT) (u v : Nat → Nat) (k : Nat) (hk : k < 49) : ∃ e, (w_PR g u ++ w_Mo g v)[pmap k]? = some (adW u v k, e) := by
  match k, hk with
  | 0, _ => exact ⟨_, rfl⟩
  | 1, _ => exact ⟨_, rfl⟩
  | 2, _ => exact ⟨_, rfl⟩
  | 3, _ => exact ⟨_, rfl⟩
  | 4, _ => exact ⟨_, rfl⟩
  | 5, _ => exact ⟨_, rfl⟩
  | 6, _ => exact ⟨_, rfl⟩
  | 7, _ => exact ⟨_, rfl⟩
  | 8, _ => exact ⟨_, rfl⟩
  | 9, _ => exact ⟨_, rfl⟩
  | 10, _ => exact ⟨_, rfl⟩
  | 11, _ => exact ⟨_, rfl⟩
  | 12, _ => exact ⟨_, rfl⟩
  | 13, _ => exact ⟨_, rfl⟩
  | 14, _ => exact ⟨_, rfl⟩
  | 15, _ => exact ⟨_, rfl⟩
  | 16, _ => exact ⟨_, rfl⟩
  | 17, _ => exact ⟨_, rfl⟩
  | 18, _ => exact ⟨_, rfl⟩
  | 19, _ => exact ⟨_, rfl⟩
  | 20, _ => exact ⟨_, rfl⟩
  | 21, _ => exact ⟨_, rfl⟩
  | 22, _ => exact ⟨_, rfl⟩
  | 23, _ => exact ⟨_, rfl⟩
  | 24, _ => exact ⟨_, rfl⟩
  | 25, _ => exact ⟨_, rfl⟩
  | 26, _ => exact ⟨_, rfl⟩
  | 27, _ => exact ⟨_, rfl⟩
  | 28, _ => exact ⟨_, rfl⟩
  | 29, _ => exact ⟨_, rfl⟩
  | 30, _ => exact ⟨_, rfl⟩
  | 31, _ => exact ⟨_, rfl⟩
  | 32, _ => exact ⟨_, rfl⟩
  | 33, _ => exact ⟨_, rfl⟩
  | 34, _ => exact ⟨_, rfl⟩
  | 35, _ => exact ⟨_, rfl⟩
  | 36, _ => exact ⟨_, rfl⟩
  | 37, _ => exact ⟨_, rfl⟩
  | 38, _ => exact ⟨_, rfl⟩
  | 39, _ => exact ⟨_, rfl⟩
  | 40, _ => exact ⟨_, rfl⟩
  | 41, _ => exact ⟨_, rfl⟩
  | 42, _ => exact ⟨_, rfl⟩
  | 43, _ => exact ⟨_, rfl⟩
  | 44, _ => exact ⟨_, rfl⟩
  | 45, _ => exact ⟨_, rfl⟩
  | 46, _ => exact ⟨_, rfl⟩
  | 47, _ => exact ⟨_, rfl⟩
  | 48, _ => exact ⟨_, rfl⟩
  | n + 49, h => exact absurd h (by omega)
set_option maxHeartbeats 16000000 in
set_option maxRecDepth 100000 in
theorem w_all {g : gT} {u v : Nat → Nat} {A : Nat → Prop} {H : Heap} (hP : va_P g.1 vcl (w_PR g u ++ w_Mo g v) H) (hD : va_D A (w_PR g u ++ w_Mo g v)) : va_P (gw g (adW u v)).1 vcl (cw (gw g (adW u v)) V0) H ∧ va_D A (cw (gw g (adW u v)) V0) := by
  constructor
  · intro k q hq
    have hk : k < 49 := by simpa [cw] using (List.getElem?_eq_some_iff.mp hq).1
    rw [cw_get hk] at hq
    cases hq
    match k, hk with
    | 0, _ => exact hP 0 _ rfl
    | 1, _ => exact hP 1 _ rfl
    | 2, _ => exact Eq.trans (hP 2 _ rfl) (congrArg some (vp_congr (fun j hj => by rcases (show j = 0 ∨ j = 1 ∨ j = 2 ∨ j = 3 by omega) with rfl | rfl | rfl | rfl <;> rfl)))
    | 3, _ => exact hP 3 _ rfl
    | 4, _ => exact hP 6 _ rfl
    | 5, _ => exact hP 9 _ rfl
    | 6, _ => exact hP 12 _ rfl
    | 7, _ => exact hP 4 _ rfl
    | 8, _ => exact hP 7 _ rfl
    | 9, _ => exact hP 10 _ rfl
    | 10, _ => exact hP 13 _ rfl
    | 11, _ => exact hP 5 _ rfl
    | 12, _ => exact hP 8 _ rfl
    | 13, _ => exact hP 11 _ rfl
    | 14, _ => exact hP 14 _ rfl
    | 15, _ => exact hP 15 _ rfl
    | 16, _ => exact hP 16 _ rfl
    | 17, _ => exact hP 17 _ rfl
    | 18, _ => exact Eq.trans (hP 18 _ rfl) (congrArg some (vp_congr (fun j hj => by rcases (show j = 0 ∨ j = 1 ∨ j = 2 ∨ j = 3 ∨ j = 4 ∨ j = 5 by omega) with rfl | rfl | rfl | rfl | rfl | rfl <;> rfl)))
    | 19, _ => exact hP 22 _ rfl
    | 20, _ => exact hP 24 _ rfl
    | 21, _ => exact hP 26 _ rfl
    | 22, _ => exact hP 28 _ rfl
    | 23, _ => exact hP 30 _ rfl
    | 24, _ => exact hP 32 _ rfl
    | 25, _ => exact hP 23 _ rfl
    | 26, _ => exact hP 25 _ rfl
    | 27, _ => exact hP 27 _ rfl
    | 28, _ => exact hP 29 _ rfl
    | 29, _ => exact hP 31 _ rfl
    | 30, _ => exact hP 33 _ rfl
    | 31, _ => exact hP 19 _ rfl
    | 32, _ => exact hP 20 _ rfl
    | 33, _ => exact hP 21 _ rfl
    | 34, _ => exact hP 34 _ rfl
    | 35, _ => exact hP 35 _ rfl
    | 36, _ => exact hP 36 _ rfl
    | 37, _ => exact hP 37 _ rfl
    | 38, _ => exact hP 38 _ rfl
    | 39, _ => exact hP 39 _ rfl
    | 40, _ => exact hP 40 _ rfl
    | 41, _ => exact hP 41 _ rfl
    | 42, _ => exact hP 42 _ rfl
    | 43, _ => exact hP 43 _ rfl
    | 44, _ => exact hP 44 _ rfl
    | 45, _ => exact hP 45 _ rfl
    | 46, _ => exact hP 46 _ rfl
    | 47, _ => exact hP 47 _ rfl
    | 48, _ => exact hP 48 _ rfl
    | n + 49, h => exact absurd h (by omega)
  · have key : ∀ (k : Nat) (q : Nat × va_E), (cw (gw g (adW u v)) V0)[k]? = some q → k < 49 ∧ q.1 = adW u v k := by
      intro k q hq
      have hk : k < 49 := by simpa [cw] using (List.getElem?_eq_some_iff.mp hq).1
      rw [cw_get hk] at hq
      cases hq
      exact ⟨hk, rfl⟩
    refine ⟨fun i j x y hi hj hxy => ?_, fun k q hq => ?_⟩
    · obtain ⟨a1, a2⟩ := key i x hi
      obtain ⟨b1, b2⟩ := key j y hj
      obtain ⟨e1, f1⟩ := w_key g u v i a1
      obtain ⟨e2, f2⟩ := w_key g u v j b1
      exact pmap_inj i a1 j b1 (hD.1 _ _ _ _ f1 f2 (by show adW u v i = adW u v j; rw [← a2, ← b2]; exact hxy))
    · obtain ⟨a1, a2⟩ := key k q hq
      obtain ⟨e1, f1⟩ := w_key g u v k a1
      rw [a2]
      exact hD.2 _ _ f1
set_option maxHeartbeats 16000000 in
set_option maxRecDepth 100000 in
theorem start_walk {p : Program} {e : Env} {s : State} {m : MethodId} {below : List Frame} {meth : Method} {c : Code} {l : Launch} {b L : Nat} {xs : Nat → Int32} (C0 : lw_At p s m meth c b L xs) (hpure : ∃ n, p_Law_law_b18 xs L n V0 0) {g : gT} (hK : va_K g.1 vcl (gty g) s) (hn : nz s) (zT : va_Z R_Op "TAKES" "[I" (.ref (gtT g)) (fun q : Nat => s.heap.size ≤ q) s s.heap) (vT : va_T .int (gtT g) 20 (fun j => .int (tTakes j)) (fun q : Nat => s.heap.size ≤ q) s s.heap) (zP : va_Z R_Op "PUTS" "[I" (.ref (gtP g)) (fun q : Nat => s.heap.size ≤ q) s s.heap) (vP : va_T .int (gtP g) 20 (fun j => .int (tPuts j)) (fun q : Nat => s.heap.size ≤ q) s s.heap) (n3 : va_Nw (Cond.methodLinkNest "PluginRunner$Checker" 104 y_PR_within "PluginRunner") s) (n4 : va_Nw (Cond.fieldLinkNest "PluginRunner$Program" 33 "PluginRunner$Op" "TAKES" "[I" "PluginRunner") s) (n5 : va_Nw (Cond.fieldLinkNest "PluginRunner$Program" 37 "PluginRunner$Op" "PUTS" "[I" "PluginRunner") s) : W p l e room_1 s m #[Value.ref b] below meth c s.heap [] 0 0 (lw_Z below #[Value.ref b] s) (entryFrame m ([Value.ref b] : List Value).toArray 4) := by
  obtain ⟨hx, hb, hr, hml, hown, hts0, hX, hbl, hlocks, hgv⟩ := id C0
  have hown : s.vm.findClass R_Law = some m.cls := hown
  have hts : ∀ w ∈ TBL, w.before #[Value.ref b] s = true := fun w h => hts0 w (inL h)
  have hA : ∀ q : Nat, s.heap.size ≤ q → (fun q : Nat => s.heap.size ≤ q) q := fun _ h => h
  have hS : va_S (fun q : Nat => s.heap.size ≤ q) s.heap s.heap [] := va_S.rf
  have hP : va_P g.1 vcl [] s.heap := fun k q h => by simp at h
  have hD : va_D (fun q : Nat => s.heap.size ≤ q) [] := ⟨fun i j p q h => by simp at h, fun k q h => by simp at h⟩
  have hl := lv_entry ([.ref b]) (n := 4) (Nat.le_of_ble_eq_true rfl)
  rw [lg_entry_eq]
  generalize (lg_sl ([.ref b]) ++ List.replicate (4 - (lg_sl ([.ref b])).length) Slot.unset).toArray = ls at hl ⊢
  have hl : lv_has ls 4 [(0, .ref b)] := hl
  refine va_new (ci := 0) (fs := [.null, .null, .null, .int 0]) (C := R_PR) (T := T_PR) (N := 4) hx hb hts in_PR ty_PR ty_PR_ok hown (hts _ q_9) (hts _ q_10) (hts _ q_1) hK hP hD hS hA rfl dv_PR (by decide) (by decide) d_Law_law_0 (fun qPR H hP hD hS => ?_)
  have hP : va_P g.1 vcl [(qPR, .inr (0, [.null, .null, .null, .int 0]))] H := hP
  have hD : va_D (fun q : Nat => s.heap.size ≤ q) [(qPR, .inr (0, [.null, .null, .null, .int 0]))] := hD
  refine W.widen (k := 1) (n := 4) (by decide) (by decide) ?_
  refine lv_dup hx hb d_Law_law_3 rfl ?_
  have hPc := hP.sub (ws' := [(qPR, .inr (0, [.null, .null, .null, .int 0]))]) [0] rfl
  have hDc := hD.sub (ws' := [(qPR, .inr (0, [.null, .null, .null, .int 0]))]) [0] (by decide) rfl
  have hFc := va_free (wc := [(qPR, .inr (0, [.null, .null, .null, .int 0]))]) hD hS hA [0] rfl
  refine va_callv (va_runI (As := []) (rest := [.ref qPR]) ⟨hx, hb, hml, hown, hts⟩ (k_PR_init (l := l) (g := g) qPR H.size) (cwI 0 hts (goodT (goodW q_13)) rfl rfl rfl (hts _ q_1) (hts _ q_11) (hts _ q_12) rfl (by decide +kernel) ⟨by decide, by decide⟩) ⟨iPc_blind, fun U hU hW => ⟨rfl, by rw [hU], by rw [hU]; exact hPc, va_K.moved hW.alike hK, hDc.weaken (fun _ _ _ _ => trivial), nz_moved hW hn⟩⟩ rfl rfl hl.1 rfl (lv_room (Nat.le_of_ble_eq_true rfl)) d_Law_law_4 ⟨by decide, by decide⟩) hS (fun q _ h => hFc q h) hFc (fun u t H1 locs ht hvm hw hB hz1 hk1 hS => ?_)
  obtain ⟨hP1, hD1⟩ := hB
  rw [ht] at hP1
  have hw : u 0 = qPR := hw
  subst hw
  obtain ⟨hP, hD⟩ := va_join (wr := []) (w1 := w_PR g u) hP hD [0] [] rfl rfl (by decide) (by decide) hk1 hFc hP1 hD1
  generalize H1 = H at hP hS ⊢
  have hP : va_P g.1 vcl [(u 0, .inr (0, [.ref (u 1), .ref (u 15), .ref (u 17), .int 0])), (u 1, .inr (1, [.ref (u 2), .int 0])), (u 2, .inl (gcF g, 4, .inr (.inr (.inr (.inr (fun j => some (u (3 + 3 * j)))))))), (u 3, .inr (2, [.ref (u 4), .ref (u 5), .int 0, .int 0, .int 0, .int 0])), (u 4, .inl (gcI g, 24, .inl (fun _ => 0))), (u 5, .inl (gcI g, 24, .inl (fun _ => 0))), (u 6, .inr (2, [.ref (u 7), .ref (u 8), .int 0, .int 0, .int 0, .int 0])), (u 7, .inl (gcI g, 24, .inl (fun _ => 0))), (u 8, .inl (gcI g, 24, .inl (fun _ => 0))), (u 9, .inr (2, [.ref (u 10), .ref (u 11), .int 0, .int 0, .int 0, .int 0])), (u 10, .inl (gcI g, 24, .inl (fun _ => 0))), (u 11, .inl (gcI g, 24, .inl (fun _ => 0))), (u 12, .inr (2, [.ref (u 13), .ref (u 14), .int 0, .int 0, .int 0, .int 0])), (u 13, .inl (gcI g, 24, .inl (fun _ => 0))), (u 14, .inl (gcI g, 24, .inl (fun _ => 0))), (u 15, .inr (3, [.ref (u 1), .ref (u 16), .int 0, .int 0, .int 0, .int 0, .int 0, .int 0])), (u 16, .inl (gcI g, 25, .inl (fun _ => 0))), (u 17, .inr (4, [.ref (u 1), .ref (u 18), .ref (u 19), .ref (u 20), .ref (u 21), .int 0, .int 0, .int (-1), .int 0, .int 0, .int 0, .int 0, .long (-1000000000000)])), (u 18, .inl (gcR g, 6, .inr (.inr (.inr (.inr (fun j => some (u (22 + 2 * j)))))))), (u 19, .inl (gcI g, 40, .inl (fun _ => 0))), (u 20, .inl (gcI g, 32, .inl (fun _ => 0))), (u 21, .inl (gcZ g, 4, .inl (fun _ => 0))), (u 22, .inr (5, [.ref (u 23), .int 0, .int 0])), (u 23, .inl (gcI g, 5, .inl (fun _ => 0))), (u 24, .inr (5, [.ref (u 25), .int 0, .int 0])), (u 25, .inl (gcI g, 5, .inl (fun _ => 0))), (u 26, .inr (5, [.ref (u 27), .int 0, .int 0])), (u 27, .inl (gcI g, 5, .inl (fun _ => 0))), (u 28, .inr (5, [.ref (u 29), .int 0, .int 0])), (u 29, .inl (gcI g, 5, .inl (fun _ => 0))), (u 30, .inr (5, [.ref (u 31), .int 0, .int 0])), (u 31, .inl (gcI g, 5, .inl (fun _ => 0))), (u 32, .inr (5, [.ref (u 33), .int 0, .int 0])), (u 33, .inl (gcI g, 5, .inl (fun _ => 0)))] H := hP
  have hD : va_D (fun q : Nat => s.heap.size ≤ q) [(u 0, .inr (0, [.ref (u 1), .ref (u 15), .ref (u 17), .int 0])), (u 1, .inr (1, [.ref (u 2), .int 0])), (u 2, .inl (gcF g, 4, .inr (.inr (.inr (.inr (fun j => some (u (3 + 3 * j)))))))), (u 3, .inr (2, [.ref (u 4), .ref (u 5), .int 0, .int 0, .int 0, .int 0])), (u 4, .inl (gcI g, 24, .inl (fun _ => 0))), (u 5, .inl (gcI g, 24, .inl (fun _ => 0))), (u 6, .inr (2, [.ref (u 7), .ref (u 8), .int 0, .int 0, .int 0, .int 0])), (u 7, .inl (gcI g, 24, .inl (fun _ => 0))), (u 8, .inl (gcI g, 24, .inl (fun _ => 0))), (u 9, .inr (2, [.ref (u 10), .ref (u 11), .int 0, .int 0, .int 0, .int 0])), (u 10, .inl (gcI g, 24, .inl (fun _ => 0))), (u 11, .inl (gcI g, 24, .inl (fun _ => 0))), (u 12, .inr (2, [.ref (u 13), .ref (u 14), .int 0, .int 0, .int 0, .int 0])), (u 13, .inl (gcI g, 24, .inl (fun _ => 0))), (u 14, .inl (gcI g, 24, .inl (fun _ => 0))), (u 15, .inr (3, [.ref (u 1), .ref (u 16), .int 0, .int 0, .int 0, .int 0, .int 0, .int 0])), (u 16, .inl (gcI g, 25, .inl (fun _ => 0))), (u 17, .inr (4, [.ref (u 1), .ref (u 18), .ref (u 19), .ref (u 20), .ref (u 21), .int 0, .int 0, .int (-1), .int 0, .int 0, .int 0, .int 0, .long (-1000000000000)])), (u 18, .inl (gcR g, 6, .inr (.inr (.inr (.inr (fun j => some (u (22 + 2 * j)))))))), (u 19, .inl (gcI g, 40, .inl (fun _ => 0))), (u 20, .inl (gcI g, 32, .inl (fun _ => 0))), (u 21, .inl (gcZ g, 4, .inl (fun _ => 0))), (u 22, .inr (5, [.ref (u 23), .int 0, .int 0])), (u 23, .inl (gcI g, 5, .inl (fun _ => 0))), (u 24, .inr (5, [.ref (u 25), .int 0, .int 0])), (u 25, .inl (gcI g, 5, .inl (fun _ => 0))), (u 26, .inr (5, [.ref (u 27), .int 0, .int 0])), (u 27, .inl (gcI g, 5, .inl (fun _ => 0))), (u 28, .inr (5, [.ref (u 29), .int 0, .int 0])), (u 29, .inl (gcI g, 5, .inl (fun _ => 0))), (u 30, .inr (5, [.ref (u 31), .int 0, .int 0])), (u 31, .inl (gcI g, 5, .inl (fun _ => 0))), (u 32, .inr (5, [.ref (u 33), .int 0, .int 0])), (u 33, .inl (gcI g, 5, .inl (fun _ => 0)))] := hD
  refine W.widen (k := 34) (n := 402) (by decide) (by decide) ?_
  refine lv_astore_n (lv' := [(1, .ref (u 0)), (0, .ref b)]) hx hb d_Law_law_7 rfl hl (by decide) rfl (fun ls hl => ?_)
  refine va_new (ci := 6) (fs := [.null, .null, .null, .null, .null, .null, .int 0, .int 0, .int 0, .null, .null, .int 0, .int 0, .int 0, .null, .null, .null, .null, .int 0, .int 0, .int 0, .int 0, .int 0, .null, .null, .int 0, .int 0, .int 0, .int 0, .int 0]) (C := R_Mo) (T := T_Mo) (N := 30) hx hb hts in_Mo ty_Mo ty_Mo_ok hown (hts _ q_440) (hts _ q_441) (hts _ q_7) hK hP hD hS hA rfl dv_Mo (by decide) (by decide) d_Law_law_8 (fun qMo H hP hD hS => ?_)
  have hP : va_P g.1 vcl [(u 0, .inr (0, [.ref (u 1), .ref (u 15), .ref (u 17), .int 0])), (u 1, .inr (1, [.ref (u 2), .int 0])), (u 2, .inl (gcF g, 4, .inr (.inr (.inr (.inr (fun j => some (u (3 + 3 * j)))))))), (u 3, .inr (2, [.ref (u 4), .ref (u 5), .int 0, .int 0, .int 0, .int 0])), (u 4, .inl (gcI g, 24, .inl (fun _ => 0))), (u 5, .inl (gcI g, 24, .inl (fun _ => 0))), (u 6, .inr (2, [.ref (u 7), .ref (u 8), .int 0, .int 0, .int 0, .int 0])), (u 7, .inl (gcI g, 24, .inl (fun _ => 0))), (u 8, .inl (gcI g, 24, .inl (fun _ => 0))), (u 9, .inr (2, [.ref (u 10), .ref (u 11), .int 0, .int 0, .int 0, .int 0])), (u 10, .inl (gcI g, 24, .inl (fun _ => 0))), (u 11, .inl (gcI g, 24, .inl (fun _ => 0))), (u 12, .inr (2, [.ref (u 13), .ref (u 14), .int 0, .int 0, .int 0, .int 0])), (u 13, .inl (gcI g, 24, .inl (fun _ => 0))), (u 14, .inl (gcI g, 24, .inl (fun _ => 0))), (u 15, .inr (3, [.ref (u 1), .ref (u 16), .int 0, .int 0, .int 0, .int 0, .int 0, .int 0])), (u 16, .inl (gcI g, 25, .inl (fun _ => 0))), (u 17, .inr (4, [.ref (u 1), .ref (u 18), .ref (u 19), .ref (u 20), .ref (u 21), .int 0, .int 0, .int (-1), .int 0, .int 0, .int 0, .int 0, .long (-1000000000000)])), (u 18, .inl (gcR g, 6, .inr (.inr (.inr (.inr (fun j => some (u (22 + 2 * j)))))))), (u 19, .inl (gcI g, 40, .inl (fun _ => 0))), (u 20, .inl (gcI g, 32, .inl (fun _ => 0))), (u 21, .inl (gcZ g, 4, .inl (fun _ => 0))), (u 22, .inr (5, [.ref (u 23), .int 0, .int 0])), (u 23, .inl (gcI g, 5, .inl (fun _ => 0))), (u 24, .inr (5, [.ref (u 25), .int 0, .int 0])), (u 25, .inl (gcI g, 5, .inl (fun _ => 0))), (u 26, .inr (5, [.ref (u 27), .int 0, .int 0])), (u 27, .inl (gcI g, 5, .inl (fun _ => 0))), (u 28, .inr (5, [.ref (u 29), .int 0, .int 0])), (u 29, .inl (gcI g, 5, .inl (fun _ => 0))), (u 30, .inr (5, [.ref (u 31), .int 0, .int 0])), (u 31, .inl (gcI g, 5, .inl (fun _ => 0))), (u 32, .inr (5, [.ref (u 33), .int 0, .int 0])), (u 33, .inl (gcI g, 5, .inl (fun _ => 0))), (qMo, .inr (6, [.null, .null, .null, .null, .null, .null, .int 0, .int 0, .int 0, .null, .null, .int 0, .int 0, .int 0, .null, .null, .null, .null, .int 0, .int 0, .int 0, .int 0, .int 0, .null, .null, .int 0, .int 0, .int 0, .int 0, .int 0]))] H := hP
  have hD : va_D (fun q : Nat => s.heap.size ≤ q) [(u 0, .inr (0, [.ref (u 1), .ref (u 15), .ref (u 17), .int 0])), (u 1, .inr (1, [.ref (u 2), .int 0])), (u 2, .inl (gcF g, 4, .inr (.inr (.inr (.inr (fun j => some (u (3 + 3 * j)))))))), (u 3, .inr (2, [.ref (u 4), .ref (u 5), .int 0, .int 0, .int 0, .int 0])), (u 4, .inl (gcI g, 24, .inl (fun _ => 0))), (u 5, .inl (gcI g, 24, .inl (fun _ => 0))), (u 6, .inr (2, [.ref (u 7), .ref (u 8), .int 0, .int 0, .int 0, .int 0])), (u 7, .inl (gcI g, 24, .inl (fun _ => 0))), (u 8, .inl (gcI g, 24, .inl (fun _ => 0))), (u 9, .inr (2, [.ref (u 10), .ref (u 11), .int 0, .int 0, .int 0, .int 0])), (u 10, .inl (gcI g, 24, .inl (fun _ => 0))), (u 11, .inl (gcI g, 24, .inl (fun _ => 0))), (u 12, .inr (2, [.ref (u 13), .ref (u 14), .int 0, .int 0, .int 0, .int 0])), (u 13, .inl (gcI g, 24, .inl (fun _ => 0))), (u 14, .inl (gcI g, 24, .inl (fun _ => 0))), (u 15, .inr (3, [.ref (u 1), .ref (u 16), .int 0, .int 0, .int 0, .int 0, .int 0, .int 0])), (u 16, .inl (gcI g, 25, .inl (fun _ => 0))), (u 17, .inr (4, [.ref (u 1), .ref (u 18), .ref (u 19), .ref (u 20), .ref (u 21), .int 0, .int 0, .int (-1), .int 0, .int 0, .int 0, .int 0, .long (-1000000000000)])), (u 18, .inl (gcR g, 6, .inr (.inr (.inr (.inr (fun j => some (u (22 + 2 * j)))))))), (u 19, .inl (gcI g, 40, .inl (fun _ => 0))), (u 20, .inl (gcI g, 32, .inl (fun _ => 0))), (u 21, .inl (gcZ g, 4, .inl (fun _ => 0))), (u 22, .inr (5, [.ref (u 23), .int 0, .int 0])), (u 23, .inl (gcI g, 5, .inl (fun _ => 0))), (u 24, .inr (5, [.ref (u 25), .int 0, .int 0])), (u 25, .inl (gcI g, 5, .inl (fun _ => 0))), (u 26, .inr (5, [.ref (u 27), .int 0, .int 0])), (u 27, .inl (gcI g, 5, .inl (fun _ => 0))), (u 28, .inr (5, [.ref (u 29), .int 0, .int 0])), (u 29, .inl (gcI g, 5, .inl (fun _ => 0))), (u 30, .inr (5, [.ref (u 31), .int 0, .int 0])), (u 31, .inl (gcI g, 5, .inl (fun _ => 0))), (u 32, .inr (5, [.ref (u 33), .int 0, .int 0])), (u 33, .inl (gcI g, 5, .inl (fun _ => 0))), (qMo, .inr (6, [.null, .null, .null, .null, .null, .null, .int 0, .int 0, .int 0, .null, .null, .int 0, .int 0, .int 0, .null, .null, .null, .null, .int 0, .int 0, .int 0, .int 0, .int 0, .null, .null, .int 0, .int 0, .int 0, .int 0, .int 0]))] := hD
  refine W.widen (k := 35) (n := 432) (by decide) (by decide) ?_
  refine lv_dup hx hb d_Law_law_11 rfl ?_
  have hPc := hP.sub (ws' := [(qMo, .inr (6, [.null, .null, .null, .null, .null, .null, .int 0, .int 0, .int 0, .null, .null, .int 0, .int 0, .int 0, .null, .null, .null, .null, .int 0, .int 0, .int 0, .int 0, .int 0, .null, .null, .int 0, .int 0, .int 0, .int 0, .int 0]))]) [34] rfl
  have hDc := hD.sub (ws' := [(qMo, .inr (6, [.null, .null, .null, .null, .null, .null, .int 0, .int 0, .int 0, .null, .null, .int 0, .int 0, .int 0, .null, .null, .null, .null, .int 0, .int 0, .int 0, .int 0, .int 0, .null, .null, .int 0, .int 0, .int 0, .int 0, .int 0]))]) [34] (by decide) rfl
  have hFc := va_free (wc := [(qMo, .inr (6, [.null, .null, .null, .null, .null, .null, .int 0, .int 0, .int 0, .null, .null, .int 0, .int 0, .int 0, .null, .null, .null, .null, .int 0, .int 0, .int 0, .int 0, .int 0, .null, .null, .int 0, .int 0, .int 0, .int 0, .int 0]))]) hD hS hA [34] rfl
  refine va_callv (va_runI (As := []) (rest := [.ref qMo]) ⟨hx, hb, hml, hown, hts⟩ (k_Mo_init (l := l) (g := g) qMo H.size) (cwI 0 hts (goodT (goodW q_444)) rfl rfl rfl (hts _ q_7) (hts _ q_442) (hts _ q_443) rfl (by decide +kernel) ⟨by decide, by decide⟩) ⟨iPc_blind, fun U hU hW => ⟨rfl, by rw [hU], by rw [hU]; exact hPc, va_K.moved hW.alike hK, hDc.weaken (fun _ _ _ _ => trivial), nz_moved hW hn⟩⟩ rfl rfl hl.1 rfl (lv_room (Nat.le_of_ble_eq_true rfl)) d_Law_law_12 ⟨by decide, by decide⟩) hS (fun q _ h => hFc q h) hFc (fun v t H1 locs ht hvm hw hB hz1 hk1 hS => ?_)
  obtain ⟨hP1, hD1⟩ := hB
  rw [ht] at hP1
  have hw : v 0 = qMo := hw
  subst hw
  obtain ⟨hP, hD⟩ := va_join (wr := [(u 0, .inr (0, [.ref (u 1), .ref (u 15), .ref (u 17), .int 0])), (u 1, .inr (1, [.ref (u 2), .int 0])), (u 2, .inl (gcF g, 4, .inr (.inr (.inr (.inr (fun j => some (u (3 + 3 * j)))))))), (u 3, .inr (2, [.ref (u 4), .ref (u 5), .int 0, .int 0, .int 0, .int 0])), (u 4, .inl (gcI g, 24, .inl (fun _ => 0))), (u 5, .inl (gcI g, 24, .inl (fun _ => 0))), (u 6, .inr (2, [.ref (u 7), .ref (u 8), .int 0, .int 0, .int 0, .int 0])), (u 7, .inl (gcI g, 24, .inl (fun _ => 0))), (u 8, .inl (gcI g, 24, .inl (fun _ => 0))), (u 9, .inr (2, [.ref (u 10), .ref (u 11), .int 0, .int 0, .int 0, .int 0])), (u 10, .inl (gcI g, 24, .inl (fun _ => 0))), (u 11, .inl (gcI g, 24, .inl (fun _ => 0))), (u 12, .inr (2, [.ref (u 13), .ref (u 14), .int 0, .int 0, .int 0, .int 0])), (u 13, .inl (gcI g, 24, .inl (fun _ => 0))), (u 14, .inl (gcI g, 24, .inl (fun _ => 0))), (u 15, .inr (3, [.ref (u 1), .ref (u 16), .int 0, .int 0, .int 0, .int 0, .int 0, .int 0])), (u 16, .inl (gcI g, 25, .inl (fun _ => 0))), (u 17, .inr (4, [.ref (u 1), .ref (u 18), .ref (u 19), .ref (u 20), .ref (u 21), .int 0, .int 0, .int (-1), .int 0, .int 0, .int 0, .int 0, .long (-1000000000000)])), (u 18, .inl (gcR g, 6, .inr (.inr (.inr (.inr (fun j => some (u (22 + 2 * j)))))))), (u 19, .inl (gcI g, 40, .inl (fun _ => 0))), (u 20, .inl (gcI g, 32, .inl (fun _ => 0))), (u 21, .inl (gcZ g, 4, .inl (fun _ => 0))), (u 22, .inr (5, [.ref (u 23), .int 0, .int 0])), (u 23, .inl (gcI g, 5, .inl (fun _ => 0))), (u 24, .inr (5, [.ref (u 25), .int 0, .int 0])), (u 25, .inl (gcI g, 5, .inl (fun _ => 0))), (u 26, .inr (5, [.ref (u 27), .int 0, .int 0])), (u 27, .inl (gcI g, 5, .inl (fun _ => 0))), (u 28, .inr (5, [.ref (u 29), .int 0, .int 0])), (u 29, .inl (gcI g, 5, .inl (fun _ => 0))), (u 30, .inr (5, [.ref (u 31), .int 0, .int 0])), (u 31, .inl (gcI g, 5, .inl (fun _ => 0))), (u 32, .inr (5, [.ref (u 33), .int 0, .int 0])), (u 33, .inl (gcI g, 5, .inl (fun _ => 0)))]) (w1 := w_Mo g v) hP hD [34] [0, 1, 2, 3, 4, 5, 6, 7, 8, 9, 10, 11, 12, 13, 14, 15, 16, 17, 18, 19, 20, 21, 22, 23, 24, 25, 26, 27, 28, 29, 30, 31, 32, 33] rfl rfl (by decide) (by decide) hk1 hFc hP1 hD1
  generalize H1 = H at hP hS ⊢
  have hP : va_P g.1 vcl [(u 0, .inr (0, [.ref (u 1), .ref (u 15), .ref (u 17), .int 0])), (u 1, .inr (1, [.ref (u 2), .int 0])), (u 2, .inl (gcF g, 4, .inr (.inr (.inr (.inr (fun j => some (u (3 + 3 * j)))))))), (u 3, .inr (2, [.ref (u 4), .ref (u 5), .int 0, .int 0, .int 0, .int 0])), (u 4, .inl (gcI g, 24, .inl (fun _ => 0))), (u 5, .inl (gcI g, 24, .inl (fun _ => 0))), (u 6, .inr (2, [.ref (u 7), .ref (u 8), .int 0, .int 0, .int 0, .int 0])), (u 7, .inl (gcI g, 24, .inl (fun _ => 0))), (u 8, .inl (gcI g, 24, .inl (fun _ => 0))), (u 9, .inr (2, [.ref (u 10), .ref (u 11), .int 0, .int 0, .int 0, .int 0])), (u 10, .inl (gcI g, 24, .inl (fun _ => 0))), (u 11, .inl (gcI g, 24, .inl (fun _ => 0))), (u 12, .inr (2, [.ref (u 13), .ref (u 14), .int 0, .int 0, .int 0, .int 0])), (u 13, .inl (gcI g, 24, .inl (fun _ => 0))), (u 14, .inl (gcI g, 24, .inl (fun _ => 0))), (u 15, .inr (3, [.ref (u 1), .ref (u 16), .int 0, .int 0, .int 0, .int 0, .int 0, .int 0])), (u 16, .inl (gcI g, 25, .inl (fun _ => 0))), (u 17, .inr (4, [.ref (u 1), .ref (u 18), .ref (u 19), .ref (u 20), .ref (u 21), .int 0, .int 0, .int (-1), .int 0, .int 0, .int 0, .int 0, .long (-1000000000000)])), (u 18, .inl (gcR g, 6, .inr (.inr (.inr (.inr (fun j => some (u (22 + 2 * j)))))))), (u 19, .inl (gcI g, 40, .inl (fun _ => 0))), (u 20, .inl (gcI g, 32, .inl (fun _ => 0))), (u 21, .inl (gcZ g, 4, .inl (fun _ => 0))), (u 22, .inr (5, [.ref (u 23), .int 0, .int 0])), (u 23, .inl (gcI g, 5, .inl (fun _ => 0))), (u 24, .inr (5, [.ref (u 25), .int 0, .int 0])), (u 25, .inl (gcI g, 5, .inl (fun _ => 0))), (u 26, .inr (5, [.ref (u 27), .int 0, .int 0])), (u 27, .inl (gcI g, 5, .inl (fun _ => 0))), (u 28, .inr (5, [.ref (u 29), .int 0, .int 0])), (u 29, .inl (gcI g, 5, .inl (fun _ => 0))), (u 30, .inr (5, [.ref (u 31), .int 0, .int 0])), (u 31, .inl (gcI g, 5, .inl (fun _ => 0))), (u 32, .inr (5, [.ref (u 33), .int 0, .int 0])), (u 33, .inl (gcI g, 5, .inl (fun _ => 0))), (v 0, .inr (6, [.ref (v 1), .ref (v 2), .ref (v 3), .ref (v 4), .ref (v 5), .ref (v 6), .int 0, .int 0, .int 0, .ref (v 7), .ref (v 8), .int 0, .int 0, .int 0, .ref (v 9), .ref (v 10), .ref (v 11), .ref (v 12), .int 0, .int 0, .int (-1), .int 0, .int 0, .ref (v 13), .ref (v 14), .int 0, .int 0, .int 0, .int 0, .int 0])), (v 1, .inl (gcI g, 4, .inl (fun _ => 0))), (v 2, .inl (gcI g, 4, .inl (fun _ => 0))), (v 3, .inl (gcI g, 4, .inl (fun _ => 0))), (v 4, .inl (gcI g, 4, .inl (fun _ => 0))), (v 5, .inl (gcI g, 96, .inl (fun _ => 0))), (v 6, .inl (gcI g, 96, .inl (fun _ => 0))), (v 7, .inl (gcI g, 26, .inl (fun _ => 0))), (v 8, .inl (gcI g, 26, .inl (fun _ => 0))), (v 9, .inl (gcI g, 7, .inl (fun _ => 0))), (v 10, .inl (gcI g, 7, .inl (fun _ => 0))), (v 11, .inl (gcI g, 35, .inl (fun _ => 0))), (v 12, .inl (gcI g, 42, .inl (fun _ => 0))), (v 13, .inl (gcI g, 32, .inl (fun _ => 0))), (v 14, .inl (gcZ g, 4, .inl (fun _ => 0)))] H := hP
  have hD : va_D (fun q : Nat => s.heap.size ≤ q) [(u 0, .inr (0, [.ref (u 1), .ref (u 15), .ref (u 17), .int 0])), (u 1, .inr (1, [.ref (u 2), .int 0])), (u 2, .inl (gcF g, 4, .inr (.inr (.inr (.inr (fun j => some (u (3 + 3 * j)))))))), (u 3, .inr (2, [.ref (u 4), .ref (u 5), .int 0, .int 0, .int 0, .int 0])), (u 4, .inl (gcI g, 24, .inl (fun _ => 0))), (u 5, .inl (gcI g, 24, .inl (fun _ => 0))), (u 6, .inr (2, [.ref (u 7), .ref (u 8), .int 0, .int 0, .int 0, .int 0])), (u 7, .inl (gcI g, 24, .inl (fun _ => 0))), (u 8, .inl (gcI g, 24, .inl (fun _ => 0))), (u 9, .inr (2, [.ref (u 10), .ref (u 11), .int 0, .int 0, .int 0, .int 0])), (u 10, .inl (gcI g, 24, .inl (fun _ => 0))), (u 11, .inl (gcI g, 24, .inl (fun _ => 0))), (u 12, .inr (2, [.ref (u 13), .ref (u 14), .int 0, .int 0, .int 0, .int 0])), (u 13, .inl (gcI g, 24, .inl (fun _ => 0))), (u 14, .inl (gcI g, 24, .inl (fun _ => 0))), (u 15, .inr (3, [.ref (u 1), .ref (u 16), .int 0, .int 0, .int 0, .int 0, .int 0, .int 0])), (u 16, .inl (gcI g, 25, .inl (fun _ => 0))), (u 17, .inr (4, [.ref (u 1), .ref (u 18), .ref (u 19), .ref (u 20), .ref (u 21), .int 0, .int 0, .int (-1), .int 0, .int 0, .int 0, .int 0, .long (-1000000000000)])), (u 18, .inl (gcR g, 6, .inr (.inr (.inr (.inr (fun j => some (u (22 + 2 * j)))))))), (u 19, .inl (gcI g, 40, .inl (fun _ => 0))), (u 20, .inl (gcI g, 32, .inl (fun _ => 0))), (u 21, .inl (gcZ g, 4, .inl (fun _ => 0))), (u 22, .inr (5, [.ref (u 23), .int 0, .int 0])), (u 23, .inl (gcI g, 5, .inl (fun _ => 0))), (u 24, .inr (5, [.ref (u 25), .int 0, .int 0])), (u 25, .inl (gcI g, 5, .inl (fun _ => 0))), (u 26, .inr (5, [.ref (u 27), .int 0, .int 0])), (u 27, .inl (gcI g, 5, .inl (fun _ => 0))), (u 28, .inr (5, [.ref (u 29), .int 0, .int 0])), (u 29, .inl (gcI g, 5, .inl (fun _ => 0))), (u 30, .inr (5, [.ref (u 31), .int 0, .int 0])), (u 31, .inl (gcI g, 5, .inl (fun _ => 0))), (u 32, .inr (5, [.ref (u 33), .int 0, .int 0])), (u 33, .inl (gcI g, 5, .inl (fun _ => 0))), (v 0, .inr (6, [.ref (v 1), .ref (v 2), .ref (v 3), .ref (v 4), .ref (v 5), .ref (v 6), .int 0, .int 0, .int 0, .ref (v 7), .ref (v 8), .int 0, .int 0, .int 0, .ref (v 9), .ref (v 10), .ref (v 11), .ref (v 12), .int 0, .int 0, .int (-1), .int 0, .int 0, .ref (v 13), .ref (v 14), .int 0, .int 0, .int 0, .int 0, .int 0])), (v 1, .inl (gcI g, 4, .inl (fun _ => 0))), (v 2, .inl (gcI g, 4, .inl (fun _ => 0))), (v 3, .inl (gcI g, 4, .inl (fun _ => 0))), (v 4, .inl (gcI g, 4, .inl (fun _ => 0))), (v 5, .inl (gcI g, 96, .inl (fun _ => 0))), (v 6, .inl (gcI g, 96, .inl (fun _ => 0))), (v 7, .inl (gcI g, 26, .inl (fun _ => 0))), (v 8, .inl (gcI g, 26, .inl (fun _ => 0))), (v 9, .inl (gcI g, 7, .inl (fun _ => 0))), (v 10, .inl (gcI g, 7, .inl (fun _ => 0))), (v 11, .inl (gcI g, 35, .inl (fun _ => 0))), (v 12, .inl (gcI g, 42, .inl (fun _ => 0))), (v 13, .inl (gcI g, 32, .inl (fun _ => 0))), (v 14, .inl (gcZ g, 4, .inl (fun _ => 0)))] := hD
  refine W.widen (k := 49) (n := 819) (by decide) (by decide) ?_
  refine lv_astore_n (lv' := [(2, .ref (v 0)), (1, .ref (u 0)), (0, .ref b)]) hx hb d_Law_law_15 rfl hl (by decide) rfl (fun ls hl => ?_)
  refine lv_iconst (v := 0) hx hb d_Law_law_16 (by decide) ?_
  refine lv_istore_n (lv' := [(3, .int 0), (2, .ref (v 0)), (1, .ref (u 0)), (0, .ref b)]) hx hb d_Law_law_17 rfl hl (by decide) rfl (fun ls hl => ?_)
  obtain ⟨hP9, hD9⟩ := w_all hP hD
  obtain ⟨G, hGe⟩ : ∃ G : gT, G = gw g (adW u v) := ⟨_, rfl⟩
  rw [← hGe] at hP9 hD9
  have hlow : ∀ k, k < 49 → s.heap.size ≤ ga G k := fun k hk => hD9.2 k _ (cw_get hk)
  have hGd : gd G := fun i j hi hj he => hD9.1 i j _ _ (cw_get hi) (cw_get hj) he
  have hsub : ∀ q, gA G q → (fun q : Nat => s.heap.size ≤ q) q := fun q ⟨k, hk, e⟩ => by rw [e]; exact hlow k hk
  have hK9 : va_K G.1 vcl (gty G) s := by subst hGe; exact hK
  have hz : zf G s s.heap := by
    have ht1 : gtT G = gtT g := by subst hGe; rfl
    have ht2 : gtP G = gtP g := by subst hGe; rfl
    unfold zf
    rw [ht1, ht2]
    exact ⟨zT.narrow hsub, vT.narrow hsub, zP.narrow hsub, vP.narrow hsub, n3, n4, n5⟩
  have X : cx G p s m meth c #[Value.ref b] R_Law code 4 ret := ⟨hx, hb, hr, hml, hown, hts, hlocks, hK9, hz, hGd⟩
  refine va_forget (fun q hq => hS.2.2 q hq) ?_
  have hS9 : va_S (gA G) s.heap H [] := ⟨hS.1, fun q h1 h2 => hS.2.1 q h1 (Nat.not_le.mpr h1), fun _ h => by cases h⟩
  refine W.widen (k := 100) (n := 2000) (by decide) (by decide) ?_
  obtain ⟨n, h⟩ := hpure
  have e0 : ga G 0 = u 0 := by subst hGe; rfl
  have e34 : ga G 34 = v 0 := by subst hGe; rfl
  have hl9 : lv_has ls 4 [(0, .ref b), (1, .ref (ga G 0)), (2, .ref (ga G 34)), (3, .int 0)] := by rw [e0, e34]; exact lv_sub hl [3, 2, 1, 0] rfl
  exact t_Law_law_b18 X hX hbl hlow n V0 0 h _ _ _ hP9 hS9 hl9
set_option maxHeartbeats 16000000 in
set_option maxRecDepth 100000 in
theorem whole_start_open {p : Program} {e : Env} {s : State} {m : MethodId} {below : List Frame} {meth : Method} {c : Code} (l : Launch) {b L : Nat} {xs : Nat → Int32} (C0 : lw_At p s m meth c b L xs) (hpure : ∃ n, p_Law_law_b18 xs L n V0 0) : W p l e room_1 s m #[Value.ref b] below meth c s.heap [] 0 0 (lw_Z below #[Value.ref b] s) (entryFrame m ([Value.ref b] : List Value).toArray 4) := by
  obtain ⟨hx, hb, hr, hml, hown, hts0, hX, hbl, hlocks, hgv⟩ := id C0
  have hown : s.vm.findClass R_Law = some m.cls := hown
  have hs := flat_of_before _ hgv
  have hts : ∀ w ∈ TBL, w.before #[Value.ref b] s = true := fun w h => hts0 w (inL h)
  obtain ⟨c0, i0, hk0⟩ := u_known (C := R_PR) (T := T_PR) (N := 4) (n := 4) hts in_PR (hts _ q_10)
  obtain ⟨c1, i1, hk1⟩ := u_known (C := R_Pg) (T := T_Pg) (N := 2) (n := 2) hts in_Pg (hts _ q_18)
  obtain ⟨c2, i2, hk2⟩ := u_known (C := R_Fn) (T := T_Fn) (N := 6) (n := 6) hts in_Fn (hts _ q_25)
  obtain ⟨c3, i3, hk3⟩ := u_known (C := R_Ck) (T := T_Ck) (N := 8) (n := 8) hts in_Ck (hts _ q_78)
  obtain ⟨c4, i4, hk4⟩ := u_known (C := R_Mc) (T := T_Mc) (N := 13) (n := 13) hts in_Mc (hts _ q_112)
  obtain ⟨c5, i5, hk5⟩ := u_known (C := R_Fr) (T := T_Fr) (N := 3) (n := 3) hts in_Fr (hts _ q_120)
  obtain ⟨c6, i6, hk6⟩ := u_known (C := R_Mo) (T := T_Mo) (N := 30) (n := 30) hts in_Mo (hts _ q_441)
  obtain ⟨dC, dI, hKc⟩ : ∃ (dC : Nat → ClassId) (dI : Nat → Nat → Nat), ∀ (k : Nat) (q : vw_C), vcl[k]? = some q → u_Kn s q.1 q.2.1 q.2.2 (dC k) (dI k) := by
    refine ⟨fun k => match k with | 0 => c0 | 1 => c1 | 2 => c2 | 3 => c3 | 4 => c4 | 5 => c5 | _ => c6, fun k => match k with | 0 => i0 | 1 => i1 | 2 => i2 | 3 => i3 | 4 => i4 | 5 => i5 | _ => i6, ?_⟩
    intro k q hq
    match k, hq with
    | 0, hq => cases hq; exact hk0
    | 1, hq => cases hq; exact hk1
    | 2, hq => cases hq; exact hk2
    | 3, hq => cases hq; exact hk3
    | 4, hq => cases hq; exact hk4
    | 5, hq => cases hq; exact hk5
    | 6, hq => cases hq; exact hk6
    | k + 7, hq => simp [vcl] at hq
  obtain ⟨cI, hI1, hI2⟩ := arrOf_class (hts _ q_64)
  obtain ⟨cZ, hZ1, hZ2⟩ := arrOf_class (hts _ q_140)
  have wF : (Cond.arrayOver (.object R_Fn)).before #[Value.ref b] s = true := hts0 _ (List.mem_of_getElem? (i := 65) (by decide +kernel))
  have wR : (Cond.arrayOver (.object R_Fr)).before #[Value.ref b] s = true := hts0 _ (List.mem_of_getElem? (i := 159) (by decide +kernel))
  obtain ⟨cF, hF1, hF2⟩ := arrOf_over wF
  obtain ⟨cR, hR1, hR2⟩ := arrOf_over wR
  have hTAKES : ∃ t : Nat, (Term.static "PluginRunner$Op" "TAKES" "[I").eval #[Value.ref b] s none [] s = some (.ref t) ∧ va_T .int t 20 (fun j => .int (tTakes j)) (fun q : Nat => s.heap.size ≤ q) s s.heap := by
    refine va_Tof (by decide) (hs _ (by decide +kernel)) (va_eqt (hs (Cond.eq (.length (.static "PluginRunner$Op" "TAKES" "[I")) (.int 20)) (by decide +kernel))) (fun j hj => ?_) (fun a ha => Nat.not_le.mpr ha)
    match j, hj with
    | 0, _ => exact va_eqt (hs (Cond.eq (.elem (.static "PluginRunner$Op" "TAKES" "[I") (.int 0)) (.int 0)) (by decide +kernel))
    | 1, _ => exact va_eqt (hs (Cond.eq (.elem (.static "PluginRunner$Op" "TAKES" "[I") (.int 1)) (.int 0)) (by decide +kernel))
    | 2, _ => exact va_eqt (hs (Cond.eq (.elem (.static "PluginRunner$Op" "TAKES" "[I") (.int 2)) (.int 1)) (by decide +kernel))
    | 3, _ => exact va_eqt (hs (Cond.eq (.elem (.static "PluginRunner$Op" "TAKES" "[I") (.int 3)) (.int 2)) (by decide +kernel))
    | 4, _ => exact va_eqt (hs (Cond.eq (.elem (.static "PluginRunner$Op" "TAKES" "[I") (.int 4)) (.int 2)) (by decide +kernel))
    | 5, _ => exact va_eqt (hs (Cond.eq (.elem (.static "PluginRunner$Op" "TAKES" "[I") (.int 5)) (.int 2)) (by decide +kernel))
    | 6, _ => exact va_eqt (hs (Cond.eq (.elem (.static "PluginRunner$Op" "TAKES" "[I") (.int 6)) (.int 2)) (by decide +kernel))
    | 7, _ => exact va_eqt (hs (Cond.eq (.elem (.static "PluginRunner$Op" "TAKES" "[I") (.int 7)) (.int 2)) (by decide +kernel))
    | 8, _ => exact va_eqt (hs (Cond.eq (.elem (.static "PluginRunner$Op" "TAKES" "[I") (.int 8)) (.int 2)) (by decide +kernel))
    | 9, _ => exact va_eqt (hs (Cond.eq (.elem (.static "PluginRunner$Op" "TAKES" "[I") (.int 9)) (.int 1)) (by decide +kernel))
    | 10, _ => exact va_eqt (hs (Cond.eq (.elem (.static "PluginRunner$Op" "TAKES" "[I") (.int 10)) (.int 1)) (by decide +kernel))
    | 11, _ => exact va_eqt (hs (Cond.eq (.elem (.static "PluginRunner$Op" "TAKES" "[I") (.int 11)) (.int 2)) (by decide +kernel))
    | 12, _ => exact va_eqt (hs (Cond.eq (.elem (.static "PluginRunner$Op" "TAKES" "[I") (.int 12)) (.int 0)) (by decide +kernel))
    | 13, _ => exact va_eqt (hs (Cond.eq (.elem (.static "PluginRunner$Op" "TAKES" "[I") (.int 13)) (.int 0)) (by decide +kernel))
    | 14, _ => exact va_eqt (hs (Cond.eq (.elem (.static "PluginRunner$Op" "TAKES" "[I") (.int 14)) (.int 0)) (by decide +kernel))
    | 15, _ => exact va_eqt (hs (Cond.eq (.elem (.static "PluginRunner$Op" "TAKES" "[I") (.int 15)) (.int 0)) (by decide +kernel))
    | 16, _ => exact va_eqt (hs (Cond.eq (.elem (.static "PluginRunner$Op" "TAKES" "[I") (.int 16)) (.int 1)) (by decide +kernel))
    | 17, _ => exact va_eqt (hs (Cond.eq (.elem (.static "PluginRunner$Op" "TAKES" "[I") (.int 17)) (.int 0)) (by decide +kernel))
    | 18, _ => exact va_eqt (hs (Cond.eq (.elem (.static "PluginRunner$Op" "TAKES" "[I") (.int 18)) (.int 1)) (by decide +kernel))
    | 19, _ => exact va_eqt (hs (Cond.eq (.elem (.static "PluginRunner$Op" "TAKES" "[I") (.int 19)) (.int 0)) (by decide +kernel))
    | n + 20, h => exact absurd h (by omega)
  have hPUTS : ∃ t : Nat, (Term.static "PluginRunner$Op" "PUTS" "[I").eval #[Value.ref b] s none [] s = some (.ref t) ∧ va_T .int t 20 (fun j => .int (tPuts j)) (fun q : Nat => s.heap.size ≤ q) s s.heap := by
    refine va_Tof (by decide) (hs _ (by decide +kernel)) (va_eqt (hs (Cond.eq (.length (.static "PluginRunner$Op" "PUTS" "[I")) (.int 20)) (by decide +kernel))) (fun j hj => ?_) (fun a ha => Nat.not_le.mpr ha)
    match j, hj with
    | 0, _ => exact va_eqt (hs (Cond.eq (.elem (.static "PluginRunner$Op" "PUTS" "[I") (.int 0)) (.int 1)) (by decide +kernel))
    | 1, _ => exact va_eqt (hs (Cond.eq (.elem (.static "PluginRunner$Op" "PUTS" "[I") (.int 1)) (.int 1)) (by decide +kernel))
    | 2, _ => exact va_eqt (hs (Cond.eq (.elem (.static "PluginRunner$Op" "PUTS" "[I") (.int 2)) (.int 0)) (by decide +kernel))
    | 3, _ => exact va_eqt (hs (Cond.eq (.elem (.static "PluginRunner$Op" "PUTS" "[I") (.int 3)) (.int 1)) (by decide +kernel))
    | 4, _ => exact va_eqt (hs (Cond.eq (.elem (.static "PluginRunner$Op" "PUTS" "[I") (.int 4)) (.int 1)) (by decide +kernel))
    | 5, _ => exact va_eqt (hs (Cond.eq (.elem (.static "PluginRunner$Op" "PUTS" "[I") (.int 5)) (.int 1)) (by decide +kernel))
    | 6, _ => exact va_eqt (hs (Cond.eq (.elem (.static "PluginRunner$Op" "PUTS" "[I") (.int 6)) (.int 1)) (by decide +kernel))
    | 7, _ => exact va_eqt (hs (Cond.eq (.elem (.static "PluginRunner$Op" "PUTS" "[I") (.int 7)) (.int 1)) (by decide +kernel))
    | 8, _ => exact va_eqt (hs (Cond.eq (.elem (.static "PluginRunner$Op" "PUTS" "[I") (.int 8)) (.int 1)) (by decide +kernel))
    | 9, _ => exact va_eqt (hs (Cond.eq (.elem (.static "PluginRunner$Op" "PUTS" "[I") (.int 9)) (.int 0)) (by decide +kernel))
    | 10, _ => exact va_eqt (hs (Cond.eq (.elem (.static "PluginRunner$Op" "PUTS" "[I") (.int 10)) (.int 1)) (by decide +kernel))
    | 11, _ => exact va_eqt (hs (Cond.eq (.elem (.static "PluginRunner$Op" "PUTS" "[I") (.int 11)) (.int 0)) (by decide +kernel))
    | 12, _ => exact va_eqt (hs (Cond.eq (.elem (.static "PluginRunner$Op" "PUTS" "[I") (.int 12)) (.int 0)) (by decide +kernel))
    | 13, _ => exact va_eqt (hs (Cond.eq (.elem (.static "PluginRunner$Op" "PUTS" "[I") (.int 13)) (.int 0)) (by decide +kernel))
    | 14, _ => exact va_eqt (hs (Cond.eq (.elem (.static "PluginRunner$Op" "PUTS" "[I") (.int 14)) (.int 0)) (by decide +kernel))
    | 15, _ => exact va_eqt (hs (Cond.eq (.elem (.static "PluginRunner$Op" "PUTS" "[I") (.int 15)) (.int 0)) (by decide +kernel))
    | 16, _ => exact va_eqt (hs (Cond.eq (.elem (.static "PluginRunner$Op" "PUTS" "[I") (.int 16)) (.int 0)) (by decide +kernel))
    | 17, _ => exact va_eqt (hs (Cond.eq (.elem (.static "PluginRunner$Op" "PUTS" "[I") (.int 17)) (.int 0)) (by decide +kernel))
    | 18, _ => exact va_eqt (hs (Cond.eq (.elem (.static "PluginRunner$Op" "PUTS" "[I") (.int 18)) (.int 1)) (by decide +kernel))
    | 19, _ => exact va_eqt (hs (Cond.eq (.elem (.static "PluginRunner$Op" "PUTS" "[I") (.int 19)) (.int 0)) (by decide +kernel))
    | n + 20, h => exact absurd h (by omega)
  obtain ⟨tT, eT, vT⟩ := hTAKES
  obtain ⟨tP, eP, vP⟩ := hPUTS
  have zT := va_Zref (A := fun q : Nat => s.heap.size ≤ q) (hts0 (Cond.laysStatic "PluginRunner$Op" "TAKES" "[I") (List.mem_of_getElem? (i := 311) (by decide +kernel))) (hts _ q_8) eT (fun a ha => Nat.not_le.mpr ha)
  have zP := va_Zref (A := fun q : Nat => s.heap.size ≤ q) (hts0 (Cond.laysStatic "PluginRunner$Op" "PUTS" "[I") (List.mem_of_getElem? (i := 329) (by decide +kernel))) (hts _ q_8) eP (fun a ha => Nat.not_le.mpr ha)
  have n1 := va_Nw.of rfl (hts0 (Cond.methodLinkNest "PluginRunner$Program" 21 y_Fn_init "PluginRunner") (List.mem_of_getElem? (i := 67) (by decide +kernel)))
  have n2 := va_Nw.of rfl (hts0 (Cond.methodLinkNest "PluginRunner$Machine" 60 y_Fr_init "PluginRunner") (List.mem_of_getElem? (i := 162) (by decide +kernel)))
  have n3 := va_Nw.of rfl (hts0 (Cond.methodLinkNest "PluginRunner$Checker" 104 y_PR_within "PluginRunner") (List.mem_of_getElem? (i := 304) (by decide +kernel)))
  have n4 := va_Nw.of rfl (hts0 (Cond.fieldLinkNest "PluginRunner$Program" 33 "PluginRunner$Op" "TAKES" "[I" "PluginRunner") (List.mem_of_getElem? (i := 310) (by decide +kernel)))
  have n5 := va_Nw.of rfl (hts0 (Cond.fieldLinkNest "PluginRunner$Program" 37 "PluginRunner$Op" "PUTS" "[I" "PluginRunner") (List.mem_of_getElem? (i := 328) (by decide +kernel)))
  have hn : nz s := ⟨n1, n2, va_AO.of wF, va_AO.of wR⟩
  obtain ⟨g, hge⟩ : ∃ g : gT, g = ((dC, dI), fun _ => 0, (cI, cZ, cF, cR), (tT, tP)) := ⟨_, rfl⟩
  have hK : va_K g.1 vcl (gty g) s := by
    rw [hge]
    exact ⟨hKc, fun k q hq => by
      match k, hq with
      | 0, hq => cases hq; exact ⟨hI1, hI2⟩
      | 1, hq => cases hq; exact ⟨hZ1, hZ2⟩
      | 2, hq => cases hq; exact ⟨hF1, hF2⟩
      | 3, hq => cases hq; exact ⟨hR1, hR2⟩
      | k + 4, hq => simp [gty] at hq⟩
  exact start_walk C0 hpure hK hn (by rw [hge]; exact zT) (by rw [hge]; exact vT) (by rw [hge]; exact zP) (by rw [hge]; exact vP) n3 n4 n5
