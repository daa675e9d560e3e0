section MM
variable {p : Program} {l : Launch} {e : Env} {s : State} {m : MethodId} {args : Array Value} {below : List Frame} {meth : Method} {c : Code} {H : Heap} {locs : List Loc}
variable {g : gT} {ls : Array Slot}
/-! Mo.changed -/
theorem d_Mo_changed_0 : decode prog_10_method_2_code 0 = .ok (.aload_n 0, 1) := by decide +kernel
theorem d_Mo_changed_1 : decode prog_10_method_2_code 1 = .ok (.iconst 0, 1) := by decide +kernel
theorem d_Mo_changed_2 : decode prog_10_method_2_code 2 = .ok (.putfield 57, 3) := by decide +kernel
theorem d_Mo_changed_5 : decode prog_10_method_2_code 5 = .ok (.aload_n 0, 1) := by decide +kernel
theorem d_Mo_changed_6 : decode prog_10_method_2_code 6 = .ok (.iconst 0, 1) := by decide +kernel
theorem d_Mo_changed_7 : decode prog_10_method_2_code 7 = .ok (.putfield 61, 3) := by decide +kernel
theorem d_Mo_changed_10 : decode prog_10_method_2_code 10 = .ok (.aload_n 0, 1) := by decide +kernel
theorem d_Mo_changed_11 : decode prog_10_method_2_code 11 = .ok (.iconst 0, 1) := by decide +kernel
theorem d_Mo_changed_12 : decode prog_10_method_2_code 12 = .ok (.putfield 64, 3) := by decide +kernel
theorem d_Mo_changed_15 : decode prog_10_method_2_code 15 = .ok (.aload_n 0, 1) := by decide +kernel
theorem d_Mo_changed_16 : decode prog_10_method_2_code 16 = .ok (.iconst (-1), 1) := by decide +kernel
theorem d_Mo_changed_17 : decode prog_10_method_2_code 17 = .ok (.putfield 46, 3) := by decide +kernel
theorem d_Mo_changed_20 : decode prog_10_method_2_code 20 = .ok (.return_, 1) := by decide +kernel
abbrev rm_Mo_changed : Room := { frames := 0, cells := 0, slots := 0, locals := 0 }
def p_Mo_changed (k : vS → Prop) (V : vS) : Prop := ∀ V1 : vS, V1 = sv V 34 8 0 → (∀ V2 : vS, V2 = sv V1 34 18 0 → (∀ V3 : vS, V3 = sv V2 34 19 0 → (∀ V4 : vS, V4 = sv V3 34 20 (-1) → (k V4))))
set_option maxRecDepth 100000 in
set_option maxHeartbeats 4000000 in
theorem c_Mo_changed {l : Launch} {g : gT} (hG : gd g) {V : vS} {k : vS → Prop} (h : p_Mo_changed k V) : Cv g l y_Mo_changed prog_10_method_2_code 1 (none) rm_Mo_changed [.ref (ga g 34)] V k := by
  unfold Cv
  refine Met.ofW (cc := prog_10_method_2_code) (maxL := 1) (ret := none) (by decide) rfl ?_
  intro p e s m args below meth c s₁ B hml hv
  obtain ⟨rfl, hP, hK, hZ⟩ := hv
  have X : cx g p s m meth c [.ref (ga g 34)].toArray R_Mo prog_10_method_2_code 1 (none) := ⟨B.exec, B.bytes, B.returns, hml, findClass_of_methodNamed B.named, fun w hw => atoms_spec (ws := Cond.code y_Mo_changed prog_10_method_2_code 1 (none) :: TBL) B.pre w (List.mem_cons_of_mem _ hw), B.notSynchronized, hK, hZ, hG⟩
  have hl := lv_entry [.ref (ga g 34)] (n := 1) (Nat.le_of_ble_eq_true rfl)
  rw [lg_entry_eq]
  generalize (lg_sl [.ref (ga g 34)] ++ List.replicate (1 - (lg_sl [.ref (ga g 34)]).length) Slot.unset).toArray = ls at hl ⊢
  have hl : lv_has ls 1 [(0, .ref (ga g 34))] := hl
  have hS : va_S (gA g) s.heap s.heap [] := va_S.rf
  obtain ⟨hx, hb, -, -, hown, hts, -, -, hz, -⟩ := id X
  show W p l e rm_Mo_changed s m _ below meth c s.heap [] 0 0 (MQ below (va_Qv k (Bw g) (gA g)) _ s 0 0 (gA g)) (F0 m 0 ls [])
  unfold p_Mo_changed at h
  refine lv_aload_n hx hb d_Mo_changed_0 rfl (lv_at hl 0 rfl) ?_
  refine lv_iconst (v := 0) hx hb d_Mo_changed_1 (by decide) ?_
  refine pf_Mo_checked X hP hS q_454 (by decide) d_Mo_changed_2 (fun V1 H locs eV1 hP hS => ?_)
  have h := h V1 eV1
  refine lv_aload_n hx hb d_Mo_changed_5 rfl (lv_at hl 0 rfl) ?_
  refine lv_iconst (v := 0) hx hb d_Mo_changed_6 (by decide) ?_
  refine pf_Mo_depth X hP hS q_464 d_Mo_changed_7 (fun V2 H locs eV2 hP hS => ?_)
  have h := h V2 eV2
  refine lv_aload_n hx hb d_Mo_changed_10 rfl (lv_at hl 0 rfl) ?_
  refine lv_iconst (v := 0) hx hb d_Mo_changed_11 (by decide) ?_
  refine pf_Mo_size X hP hS q_465 d_Mo_changed_12 (fun V3 H locs eV3 hP hS => ?_)
  have h := h V3 eV3
  refine lv_aload_n hx hb d_Mo_changed_15 rfl (lv_at hl 0 rfl) ?_
  refine lv_iconst (v := (-1)) hx hb d_Mo_changed_16 (by decide) ?_
  refine pf_Mo_waits X hP hS q_466 d_Mo_changed_17 (fun V4 H locs eV4 hP hS => ?_)
  have h := h V4 eV4
  exact rw_vret X hP hS h d_Mo_changed_20
theorem yv_Mo_changed : yV R_Mo y_Mo_changed prog_10_method_2_code 1 (none) 0 := ⟨by decide +kernel, q_543, qp_24, q_7, q_544⟩
/-! Mo.no -/
theorem d_Mo_no_0 : decode prog_10_method_3_code 0 = .ok (.iload_n 1, 1) := by decide +kernel
theorem d_Mo_no_1 : decode prog_10_method_3_code 1 = .ok (.ifCond .lt 11, 3) := by decide +kernel
theorem d_Mo_no_4 : decode prog_10_method_3_code 4 = .ok (.iload_n 1, 1) := by decide +kernel
theorem d_Mo_no_5 : decode prog_10_method_3_code 5 = .ok (.aload_n 0, 1) := by decide +kernel
theorem d_Mo_no_6 : decode prog_10_method_3_code 6 = .ok (.getfield 67, 3) := by decide +kernel
theorem d_Mo_no_9 : decode prog_10_method_3_code 9 = .ok (.if_icmp .lt 7, 3) := by decide +kernel
theorem d_Mo_no_12 : decode prog_10_method_3_code 12 = .ok (.iconst 1, 1) := by decide +kernel
theorem d_Mo_no_13 : decode prog_10_method_3_code 13 = .ok (.goto 4, 3) := by decide +kernel
theorem d_Mo_no_16 : decode prog_10_method_3_code 16 = .ok (.iconst 0, 1) := by decide +kernel
theorem d_Mo_no_17 : decode prog_10_method_3_code 17 = .ok (.ireturn, 1) := by decide +kernel
abbrev rm_Mo_no : Room := { frames := 0, cells := 0, slots := 0, locals := 0 }
def p_Mo_no_b17 (k : Int32 → vS → Prop) (V : vS) (s0 : Int32) : Prop := (s0 = 0 ∨ s0 = 1) ∧ (k s0 V)
set_option maxRecDepth 100000 in
set_option maxHeartbeats 4000000 in
theorem t_Mo_no_b17 {k : Int32 → vS → Prop} (X : cx g p s m meth c args R_Mo prog_10_method_3_code 2 (some .boolean)) {V : vS} {s0 : Int32} (h : p_Mo_no_b17 k V s0) (hP : va_P g.1 vcl (cw g V) H) (hS : va_S (gA g) s.heap H locs) (hl : lv_has ls 2 []) : W p l e rm_Mo_no s m args below meth c H locs 0 0 (MQ below (va_Qi k (Bw g) (gA g)) args s 0 0 (gA g)) (F0 m 17 ls [.int s0]) := by
  obtain ⟨hx, hb, -, -, hown, hts, -, -, hz, hG⟩ := id X
  unfold p_Mo_no_b17 at h
  obtain ⟨hb1, h⟩ := h
  exact rw_zret X hP hS hb1 h d_Mo_no_17
def p_Mo_no_b12 (k : Int32 → vS → Prop) (V : vS) : Prop := p_Mo_no_b17 k V 1
set_option maxRecDepth 100000 in
set_option maxHeartbeats 4000000 in
theorem t_Mo_no_b12 {k : Int32 → vS → Prop} (X : cx g p s m meth c args R_Mo prog_10_method_3_code 2 (some .boolean)) {V : vS} (h : p_Mo_no_b12 k V) (hP : va_P g.1 vcl (cw g V) H) (hS : va_S (gA g) s.heap H locs) (hl : lv_has ls 2 []) : W p l e rm_Mo_no s m args below meth c H locs 0 0 (MQ below (va_Qi k (Bw g) (gA g)) args s 0 0 (gA g)) (F0 m 12 ls []) := by
  obtain ⟨hx, hb, -, -, hown, hts, -, -, hz, hG⟩ := id X
  unfold p_Mo_no_b12 at h
  refine lv_iconst (v := 1) hx hb d_Mo_no_12 (by decide) ?_
  refine lv_goto (tgt := 17) hx hb d_Mo_no_13 (by decide) ?_
  exact t_Mo_no_b17 X h hP hS (lv_sub hl [] rfl)
def p_Mo_no (k : Int32 → vS → Prop) (V : vS) (x1 : Int32) : Prop := (x1 < 0 → (p_Mo_no_b12 k V)) ∧ (¬ x1 < 0 → ((x1 < (V.1 34 6) → (p_Mo_no_b17 k V 0)) ∧ (¬ x1 < (V.1 34 6) → (p_Mo_no_b12 k V))))
set_option maxRecDepth 100000 in
set_option maxHeartbeats 4000000 in
theorem c_Mo_no {l : Launch} {g : gT} (hG : gd g) {V : vS} {x1 : Int32} {k : Int32 → vS → Prop} (h : p_Mo_no k V x1) : Ci g l y_Mo_no prog_10_method_3_code 2 (some .boolean) rm_Mo_no [.ref (ga g 34), .int x1] V k := by
  unfold Ci
  refine Met.ofW (cc := prog_10_method_3_code) (maxL := 2) (ret := some .boolean) (by decide) rfl ?_
  intro p e s m args below meth c s₁ B hml hv
  obtain ⟨rfl, hP, hK, hZ⟩ := hv
  have X : cx g p s m meth c [.ref (ga g 34), .int x1].toArray R_Mo prog_10_method_3_code 2 (some .boolean) := ⟨B.exec, B.bytes, B.returns, hml, findClass_of_methodNamed B.named, fun w hw => atoms_spec (ws := Cond.code y_Mo_no prog_10_method_3_code 2 (some .boolean) :: TBL) B.pre w (List.mem_cons_of_mem _ hw), B.notSynchronized, hK, hZ, hG⟩
  have hl := lv_entry [.ref (ga g 34), .int x1] (n := 2) (Nat.le_of_ble_eq_true rfl)
  rw [lg_entry_eq]
  generalize (lg_sl [.ref (ga g 34), .int x1] ++ List.replicate (2 - (lg_sl [.ref (ga g 34), .int x1]).length) Slot.unset).toArray = ls at hl ⊢
  have hl : lv_has ls 2 [(0, .ref (ga g 34)), (1, .int x1)] := hl
  have hS : va_S (gA g) s.heap s.heap [] := va_S.rf
  obtain ⟨hx, hb, -, -, hown, hts, -, -, hz, -⟩ := id X
  show W p l e rm_Mo_no s m _ below meth c s.heap [] 0 0 (MQ below (va_Qi k (Bw g) (gA g)) _ s 0 0 (gA g)) (F0 m 0 ls [])
  unfold p_Mo_no at h
  refine lv_iload_n hx hb d_Mo_no_0 rfl (lv_at hl 1 rfl) ?_
  refine lv_if_lt (tgt := 12) hx hb d_Mo_no_1 (by decide) (fun c1 => ?_) (fun c1 => ?_)
  · have h := h.1 c1
    exact t_Mo_no_b12 X h hP hS (lv_sub hl [] rfl)
  · have h := h.2 c1
    refine lv_iload_n hx hb d_Mo_no_4 rfl (lv_at hl 1 rfl) ?_
    refine lv_aload_n hx hb d_Mo_no_5 rfl (lv_at hl 0 rfl) ?_
    refine gf_Mo_functions X hP q_452 d_Mo_no_6 ?_
    refine lv_icmp_lt (tgt := 16) hx hb d_Mo_no_9 (by decide) (fun c2 => ?_) (fun c2 => ?_)
    · have h := h.1 c2
      refine lv_iconst (v := 0) hx hb d_Mo_no_16 (by decide) ?_
      exact t_Mo_no_b17 X h hP hS (lv_sub hl [] rfl)
    · have h := h.2 c2
      exact t_Mo_no_b12 X h hP hS (lv_sub hl [] rfl)
theorem yv_Mo_no : yV R_Mo y_Mo_no prog_10_method_3_code 2 (some .boolean) 1 := ⟨by decide +kernel, q_551, qp_25, q_7, q_552⟩
/-! Mo.function -/
theorem d_Mo_function_0 : decode prog_10_method_4_code 0 = .ok (.iload_n 1, 1) := by decide +kernel
theorem d_Mo_function_1 : decode prog_10_method_4_code 1 = .ok (.ifCond .lt 26, 3) := by decide +kernel
theorem d_Mo_function_4 : decode prog_10_method_4_code 4 = .ok (.iload_n 1, 1) := by decide +kernel
theorem d_Mo_function_5 : decode prog_10_method_4_code 5 = .ok (.iconst 2, 1) := by decide +kernel
theorem d_Mo_function_6 : decode prog_10_method_4_code 6 = .ok (.if_icmp .gt 21, 3) := by decide +kernel
theorem d_Mo_function_9 : decode prog_10_method_4_code 9 = .ok (.iload_n 2, 1) := by decide +kernel
theorem d_Mo_function_10 : decode prog_10_method_4_code 10 = .ok (.ifCond .lt 17, 3) := by decide +kernel
theorem d_Mo_function_13 : decode prog_10_method_4_code 13 = .ok (.iload_n 2, 1) := by decide +kernel
theorem d_Mo_function_14 : decode prog_10_method_4_code 14 = .ok (.iconst 1, 1) := by decide +kernel
theorem d_Mo_function_15 : decode prog_10_method_4_code 15 = .ok (.if_icmp .gt 12, 3) := by decide +kernel
theorem d_Mo_function_18 : decode prog_10_method_4_code 18 = .ok (.iload_n 3, 1) := by decide +kernel
theorem d_Mo_function_19 : decode prog_10_method_4_code 19 = .ok (.ifCond .lt 8, 3) := by decide +kernel
theorem d_Mo_function_22 : decode prog_10_method_4_code 22 = .ok (.iload_n 3, 1) := by decide +kernel
theorem d_Mo_function_23 : decode prog_10_method_4_code 23 = .ok (.iconst 3, 1) := by decide +kernel
theorem d_Mo_function_24 : decode prog_10_method_4_code 24 = .ok (.if_icmp .le 5, 3) := by decide +kernel
theorem d_Mo_function_27 : decode prog_10_method_4_code 27 = .ok (.iconst (-1), 1) := by decide +kernel
theorem d_Mo_function_28 : decode prog_10_method_4_code 28 = .ok (.ireturn, 1) := by decide +kernel
theorem d_Mo_function_29 : decode prog_10_method_4_code 29 = .ok (.aload_n 0, 1) := by decide +kernel
theorem d_Mo_function_30 : decode prog_10_method_4_code 30 = .ok (.getfield 67, 3) := by decide +kernel
theorem d_Mo_function_33 : decode prog_10_method_4_code 33 = .ok (.iconst 4, 1) := by decide +kernel
theorem d_Mo_function_34 : decode prog_10_method_4_code 34 = .ok (.if_icmp .ne 6, 3) := by decide +kernel
theorem d_Mo_function_37 : decode prog_10_method_4_code 37 = .ok (.bipush (-2), 2) := by decide +kernel
theorem d_Mo_function_39 : decode prog_10_method_4_code 39 = .ok (.ireturn, 1) := by decide +kernel
theorem d_Mo_function_40 : decode prog_10_method_4_code 40 = .ok (.aload_n 0, 1) := by decide +kernel
theorem d_Mo_function_41 : decode prog_10_method_4_code 41 = .ok (.getfield 7, 3) := by decide +kernel
theorem d_Mo_function_44 : decode prog_10_method_4_code 44 = .ok (.aload_n 0, 1) := by decide +kernel
theorem d_Mo_function_45 : decode prog_10_method_4_code 45 = .ok (.getfield 67, 3) := by decide +kernel
theorem d_Mo_function_48 : decode prog_10_method_4_code 48 = .ok (.iload_n 1, 1) := by decide +kernel
theorem d_Mo_function_49 : decode prog_10_method_4_code 49 = .ok (.iastore, 1) := by decide +kernel
theorem d_Mo_function_50 : decode prog_10_method_4_code 50 = .ok (.aload_n 0, 1) := by decide +kernel
theorem d_Mo_function_51 : decode prog_10_method_4_code 51 = .ok (.getfield 13, 3) := by decide +kernel
theorem d_Mo_function_54 : decode prog_10_method_4_code 54 = .ok (.aload_n 0, 1) := by decide +kernel
theorem d_Mo_function_55 : decode prog_10_method_4_code 55 = .ok (.getfield 67, 3) := by decide +kernel
theorem d_Mo_function_58 : decode prog_10_method_4_code 58 = .ok (.iload_n 2, 1) := by decide +kernel
theorem d_Mo_function_59 : decode prog_10_method_4_code 59 = .ok (.iastore, 1) := by decide +kernel
theorem d_Mo_function_60 : decode prog_10_method_4_code 60 = .ok (.aload_n 0, 1) := by decide +kernel
theorem d_Mo_function_61 : decode prog_10_method_4_code 61 = .ok (.getfield 16, 3) := by decide +kernel
theorem d_Mo_function_64 : decode prog_10_method_4_code 64 = .ok (.aload_n 0, 1) := by decide +kernel
theorem d_Mo_function_65 : decode prog_10_method_4_code 65 = .ok (.getfield 67, 3) := by decide +kernel
theorem d_Mo_function_68 : decode prog_10_method_4_code 68 = .ok (.iload_n 3, 1) := by decide +kernel
theorem d_Mo_function_69 : decode prog_10_method_4_code 69 = .ok (.iastore, 1) := by decide +kernel
theorem d_Mo_function_70 : decode prog_10_method_4_code 70 = .ok (.aload_n 0, 1) := by decide +kernel
theorem d_Mo_function_71 : decode prog_10_method_4_code 71 = .ok (.dup, 1) := by decide +kernel
theorem d_Mo_function_72 : decode prog_10_method_4_code 72 = .ok (.getfield 67, 3) := by decide +kernel
theorem d_Mo_function_75 : decode prog_10_method_4_code 75 = .ok (.iconst 1, 1) := by decide +kernel
theorem d_Mo_function_76 : decode prog_10_method_4_code 76 = .ok (.iadd, 1) := by decide +kernel
theorem d_Mo_function_77 : decode prog_10_method_4_code 77 = .ok (.putfield 67, 3) := by decide +kernel
theorem d_Mo_function_80 : decode prog_10_method_4_code 80 = .ok (.aload_n 0, 1) := by decide +kernel
theorem d_Mo_function_81 : decode prog_10_method_4_code 81 = .ok (.invokevirtual 70, 3) := by decide +kernel
theorem d_Mo_function_84 : decode prog_10_method_4_code 84 = .ok (.aload_n 0, 1) := by decide +kernel
theorem d_Mo_function_85 : decode prog_10_method_4_code 85 = .ok (.getfield 67, 3) := by decide +kernel
theorem d_Mo_function_88 : decode prog_10_method_4_code 88 = .ok (.iconst 1, 1) := by decide +kernel
theorem d_Mo_function_89 : decode prog_10_method_4_code 89 = .ok (.isub, 1) := by decide +kernel
theorem d_Mo_function_90 : decode prog_10_method_4_code 90 = .ok (.ireturn, 1) := by decide +kernel
abbrev rm_Mo_function : Room := { frames := 1, cells := 0, slots := 0, locals := 20 }
def p_Mo_function_b27 (k : Int32 → vS → Prop) (V : vS) : Prop := k (-1) V
set_option maxRecDepth 100000 in
set_option maxHeartbeats 4000000 in
theorem t_Mo_function_b27 {k : Int32 → vS → Prop} (X : cx g p s m meth c args R_Mo prog_10_method_4_code 4 (some .int)) {V : vS} (h : p_Mo_function_b27 k V) (hP : va_P g.1 vcl (cw g V) H) (hS : va_S (gA g) s.heap H locs) (hl : lv_has ls 4 []) : W p l e rm_Mo_function s m args below meth c H locs 0 0 (MQ below (va_Qi k (Bw g) (gA g)) args s 0 0 (gA g)) (F0 m 27 ls []) := by
  obtain ⟨hx, hb, -, -, hown, hts, -, -, hz, hG⟩ := id X
  unfold p_Mo_function_b27 at h
  refine lv_iconst (v := (-1)) hx hb d_Mo_function_27 (by decide) ?_
  exact rw_iret X hP hS h d_Mo_function_28
def p_Mo_function (k : Int32 → vS → Prop) (V : vS) (x1 : Int32) (x2 : Int32) (x3 : Int32) : Prop := (x1 < 0 → (p_Mo_function_b27 k V)) ∧ (¬ x1 < 0 → ((2 < x1 → (p_Mo_function_b27 k V)) ∧ (¬ 2 < x1 → ((x2 < 0 → (p_Mo_function_b27 k V)) ∧ (¬ x2 < 0 → ((1 < x2 → (p_Mo_function_b27 k V)) ∧ (¬ 1 < x2 → ((x3 < 0 → (p_Mo_function_b27 k V)) ∧ (¬ x3 < 0 → ((x3 ≤ 3 → (((V.1 34 6) = 4 → (k (-2) V)) ∧ (¬ (V.1 34 6) = 4 → (vp_in (V.1 34 6) 4 ∧ ∀ V9 : vS, V9 = sv V 35 (nt (V.1 34 6)) x1 → (vp_in (V9.1 34 6) 4 ∧ ∀ V11 : vS, V11 = sv V9 36 (nt (V9.1 34 6)) x2 → (vp_in (V11.1 34 6) 4 ∧ ∀ V13 : vS, V13 = sv V11 37 (nt (V11.1 34 6)) x3 → (∀ V14 : vS, V14 = sv V13 34 6 ((V13.1 34 6) + 1) → (p_Mo_changed (fun V15 => k ((V15.1 34 6) - 1) V15) V14)))))))) ∧ (¬ x3 ≤ 3 → (p_Mo_function_b27 k V))))))))))))
set_option maxRecDepth 100000 in
set_option maxHeartbeats 4000000 in
theorem c_Mo_function {l : Launch} {g : gT} (hG : gd g) {V : vS} {x1 : Int32} {x2 : Int32} {x3 : Int32} {k : Int32 → vS → Prop} (h : p_Mo_function k V x1 x2 x3) : Ci g l y_Mo_function prog_10_method_4_code 4 (some .int) rm_Mo_function [.ref (ga g 34), .int x1, .int x2, .int x3] V k := by
  unfold Ci
  refine Met.ofW (cc := prog_10_method_4_code) (maxL := 4) (ret := some .int) (by decide) rfl ?_
  intro p e s m args below meth c s₁ B hml hv
  obtain ⟨rfl, hP, hK, hZ⟩ := hv
  have X : cx g p s m meth c [.ref (ga g 34), .int x1, .int x2, .int x3].toArray R_Mo prog_10_method_4_code 4 (some .int) := ⟨B.exec, B.bytes, B.returns, hml, findClass_of_methodNamed B.named, fun w hw => atoms_spec (ws := Cond.code y_Mo_function prog_10_method_4_code 4 (some .int) :: TBL) B.pre w (List.mem_cons_of_mem _ hw), B.notSynchronized, hK, hZ, hG⟩
  have hl := lv_entry [.ref (ga g 34), .int x1, .int x2, .int x3] (n := 4) (Nat.le_of_ble_eq_true rfl)
  rw [lg_entry_eq]
  generalize (lg_sl [.ref (ga g 34), .int x1, .int x2, .int x3] ++ List.replicate (4 - (lg_sl [.ref (ga g 34), .int x1, .int x2, .int x3]).length) Slot.unset).toArray = ls at hl ⊢
  have hl : lv_has ls 4 [(0, .ref (ga g 34)), (1, .int x1), (2, .int x2), (3, .int x3)] := hl
  have hS : va_S (gA g) s.heap s.heap [] := va_S.rf
  obtain ⟨hx, hb, -, -, hown, hts, -, -, hz, -⟩ := id X
  show W p l e rm_Mo_function s m _ below meth c s.heap [] 0 0 (MQ below (va_Qi k (Bw g) (gA g)) _ s 0 0 (gA g)) (F0 m 0 ls [])
  unfold p_Mo_function at h
  refine lv_iload_n hx hb d_Mo_function_0 rfl (lv_at hl 1 rfl) ?_
  refine lv_if_lt (tgt := 27) hx hb d_Mo_function_1 (by decide) (fun c1 => ?_) (fun c1 => ?_)
  · have h := h.1 c1
    exact t_Mo_function_b27 X h hP hS (lv_sub hl [] rfl)
  · have h := h.2 c1
    refine lv_iload_n hx hb d_Mo_function_4 rfl (lv_at hl 1 rfl) ?_
    refine lv_iconst (v := 2) hx hb d_Mo_function_5 (by decide) ?_
    refine lv_icmp_gt (tgt := 27) hx hb d_Mo_function_6 (by decide) (fun c2 => ?_) (fun c2 => ?_)
    · have h := h.1 c2
      exact t_Mo_function_b27 X h hP hS (lv_sub hl [] rfl)
    · have h := h.2 c2
      refine lv_iload_n hx hb d_Mo_function_9 rfl (lv_at hl 2 rfl) ?_
      refine lv_if_lt (tgt := 27) hx hb d_Mo_function_10 (by decide) (fun c3 => ?_) (fun c3 => ?_)
      · have h := h.1 c3
        exact t_Mo_function_b27 X h hP hS (lv_sub hl [] rfl)
      · have h := h.2 c3
        refine lv_iload_n hx hb d_Mo_function_13 rfl (lv_at hl 2 rfl) ?_
        refine lv_iconst (v := 1) hx hb d_Mo_function_14 (by decide) ?_
        refine lv_icmp_gt (tgt := 27) hx hb d_Mo_function_15 (by decide) (fun c4 => ?_) (fun c4 => ?_)
        · have h := h.1 c4
          exact t_Mo_function_b27 X h hP hS (lv_sub hl [] rfl)
        · have h := h.2 c4
          refine lv_iload_n hx hb d_Mo_function_18 rfl (lv_at hl 3 rfl) ?_
          refine lv_if_lt (tgt := 27) hx hb d_Mo_function_19 (by decide) (fun c5 => ?_) (fun c5 => ?_)
          · have h := h.1 c5
            exact t_Mo_function_b27 X h hP hS (lv_sub hl [] rfl)
          · have h := h.2 c5
            refine lv_iload_n hx hb d_Mo_function_22 rfl (lv_at hl 3 rfl) ?_
            refine lv_iconst (v := 3) hx hb d_Mo_function_23 (by decide) ?_
            refine lv_icmp_le (tgt := 29) hx hb d_Mo_function_24 (by decide) (fun c6 => ?_) (fun c6 => ?_)
            · have h := h.1 c6
              refine lv_aload_n hx hb d_Mo_function_29 rfl (lv_at hl 0 rfl) ?_
              refine gf_Mo_functions X hP q_452 d_Mo_function_30 ?_
              refine lv_iconst (v := 4) hx hb d_Mo_function_33 (by decide) ?_
              refine lv_icmp_ne (tgt := 40) hx hb d_Mo_function_34 (by decide) (fun c7 => ?_) (fun c7 => ?_)
              · have h := h.2 c7
                refine lv_aload_n hx hb d_Mo_function_40 rfl (lv_at hl 0 rfl) ?_
                refine gf_Mo_takes X hP q_446 d_Mo_function_41 ?_
                refine lv_aload_n hx hb d_Mo_function_44 rfl (lv_at hl 0 rfl) ?_
                refine gf_Mo_functions X hP q_452 d_Mo_function_45 ?_
                refine lv_iload_n hx hb d_Mo_function_48 rfl (lv_at hl 1 rfl) ?_
                obtain ⟨hi8, h⟩ := h
                refine rw_iast X hP hS isI_35 hi8 d_Mo_function_49 (fun V9 H locs eV9 hP hS => ?_)
                have h := h V9 eV9
                refine lv_aload_n hx hb d_Mo_function_50 rfl (lv_at hl 0 rfl) ?_
                refine gf_Mo_gives X hP q_447 d_Mo_function_51 ?_
                refine lv_aload_n hx hb d_Mo_function_54 rfl (lv_at hl 0 rfl) ?_
                refine gf_Mo_functions X hP q_452 d_Mo_function_55 ?_
                refine lv_iload_n hx hb d_Mo_function_58 rfl (lv_at hl 2 rfl) ?_
                obtain ⟨hi10, h⟩ := h
                refine rw_iast X hP hS isI_36 hi10 d_Mo_function_59 (fun V11 H locs eV11 hP hS => ?_)
                have h := h V11 eV11
                refine lv_aload_n hx hb d_Mo_function_60 rfl (lv_at hl 0 rfl) ?_
                refine gf_Mo_more X hP q_448 d_Mo_function_61 ?_
                refine lv_aload_n hx hb d_Mo_function_64 rfl (lv_at hl 0 rfl) ?_
                refine gf_Mo_functions X hP q_452 d_Mo_function_65 ?_
                refine lv_iload_n hx hb d_Mo_function_68 rfl (lv_at hl 3 rfl) ?_
                obtain ⟨hi12, h⟩ := h
                refine rw_iast X hP hS isI_37 hi12 d_Mo_function_69 (fun V13 H locs eV13 hP hS => ?_)
                have h := h V13 eV13
                refine lv_aload_n hx hb d_Mo_function_70 rfl (lv_at hl 0 rfl) ?_
                refine lv_dup hx hb d_Mo_function_71 rfl ?_
                refine gf_Mo_functions X hP q_452 d_Mo_function_72 ?_
                refine lv_iconst (v := 1) hx hb d_Mo_function_75 (by decide) ?_
                refine lv_iadd hx hb d_Mo_function_76 ?_
                refine pf_Mo_functions X hP hS q_452 d_Mo_function_77 (fun V14 H locs eV14 hP hS => ?_)
                have h := h V14 eV14
                refine lv_aload_n hx hb d_Mo_function_80 rfl (lv_at hl 0 rfl) ?_
                refine rw_cVv (rest := []) X hP hS yv_Mo_changed isO_Mo (c_Mo_changed hG h) q_541 ⟨rfl, rfl, by decide, by decide⟩ rfl rfl hl.1 (Nat.le_of_ble_eq_true rfl) ⟨Nat.zero_le _, Nat.zero_le _⟩ d_Mo_function_81 (fun V15 H locs h hP hS => ?_)
                refine lv_aload_n hx hb d_Mo_function_84 rfl (lv_at hl 0 rfl) ?_
                refine gf_Mo_functions X hP q_452 d_Mo_function_85 ?_
                refine lv_iconst (v := 1) hx hb d_Mo_function_88 (by decide) ?_
                refine lv_isub hx hb d_Mo_function_89 ?_
                exact rw_iret X hP hS h d_Mo_function_90
              · have h := h.1 c7
                refine lv_bipush (v := (-2)) hx hb d_Mo_function_37 (by decide) ?_
                exact rw_iret X hP hS h d_Mo_function_39
            · have h := h.2 c6
              exact t_Mo_function_b27 X h hP hS (lv_sub hl [] rfl)
theorem yv_Mo_function : yV R_Mo y_Mo_function prog_10_method_4_code 4 (some .int) 3 := ⟨by decide +kernel, q_538, q_539, q_7, q_540⟩
/-! Mo.emit -/
theorem d_Mo_emit_0 : decode prog_10_method_5_code 0 = .ok (.aload_n 0, 1) := by decide +kernel
theorem d_Mo_emit_1 : decode prog_10_method_5_code 1 = .ok (.iload_n 1, 1) := by decide +kernel
theorem d_Mo_emit_2 : decode prog_10_method_5_code 2 = .ok (.invokevirtual 73, 3) := by decide +kernel
theorem d_Mo_emit_5 : decode prog_10_method_5_code 5 = .ok (.ifCond .ne 13, 3) := by decide +kernel
theorem d_Mo_emit_8 : decode prog_10_method_5_code 8 = .ok (.iload_n 2, 1) := by decide +kernel
theorem d_Mo_emit_9 : decode prog_10_method_5_code 9 = .ok (.ifCond .lt 9, 3) := by decide +kernel
theorem d_Mo_emit_12 : decode prog_10_method_5_code 12 = .ok (.iload_n 2, 1) := by decide +kernel
theorem d_Mo_emit_13 : decode prog_10_method_5_code 13 = .ok (.bipush 19, 2) := by decide +kernel
theorem d_Mo_emit_15 : decode prog_10_method_5_code 15 = .ok (.if_icmp .le 5, 3) := by decide +kernel
theorem d_Mo_emit_18 : decode prog_10_method_5_code 18 = .ok (.iconst (-1), 1) := by decide +kernel
theorem d_Mo_emit_19 : decode prog_10_method_5_code 19 = .ok (.ireturn, 1) := by decide +kernel
theorem d_Mo_emit_20 : decode prog_10_method_5_code 20 = .ok (.aload_n 0, 1) := by decide +kernel
theorem d_Mo_emit_21 : decode prog_10_method_5_code 21 = .ok (.getfield 19, 3) := by decide +kernel
theorem d_Mo_emit_24 : decode prog_10_method_5_code 24 = .ok (.iload_n 1, 1) := by decide +kernel
theorem d_Mo_emit_25 : decode prog_10_method_5_code 25 = .ok (.iaload, 1) := by decide +kernel
theorem d_Mo_emit_26 : decode prog_10_method_5_code 26 = .ok (.bipush 24, 2) := by decide +kernel
theorem d_Mo_emit_28 : decode prog_10_method_5_code 28 = .ok (.if_icmp .ne 6, 3) := by decide +kernel
theorem d_Mo_emit_31 : decode prog_10_method_5_code 31 = .ok (.bipush (-2), 2) := by decide +kernel
theorem d_Mo_emit_33 : decode prog_10_method_5_code 33 = .ok (.ireturn, 1) := by decide +kernel
theorem d_Mo_emit_34 : decode prog_10_method_5_code 34 = .ok (.aload_n 0, 1) := by decide +kernel
theorem d_Mo_emit_35 : decode prog_10_method_5_code 35 = .ok (.getfield 22, 3) := by decide +kernel
theorem d_Mo_emit_38 : decode prog_10_method_5_code 38 = .ok (.iload_n 1, 1) := by decide +kernel
theorem d_Mo_emit_39 : decode prog_10_method_5_code 39 = .ok (.bipush 24, 2) := by decide +kernel
theorem d_Mo_emit_41 : decode prog_10_method_5_code 41 = .ok (.imul, 1) := by decide +kernel
theorem d_Mo_emit_42 : decode prog_10_method_5_code 42 = .ok (.aload_n 0, 1) := by decide +kernel
theorem d_Mo_emit_43 : decode prog_10_method_5_code 43 = .ok (.getfield 19, 3) := by decide +kernel
theorem d_Mo_emit_46 : decode prog_10_method_5_code 46 = .ok (.iload_n 1, 1) := by decide +kernel
theorem d_Mo_emit_47 : decode prog_10_method_5_code 47 = .ok (.iaload, 1) := by decide +kernel
theorem d_Mo_emit_48 : decode prog_10_method_5_code 48 = .ok (.iadd, 1) := by decide +kernel
theorem d_Mo_emit_49 : decode prog_10_method_5_code 49 = .ok (.iload_n 2, 1) := by decide +kernel
theorem d_Mo_emit_50 : decode prog_10_method_5_code 50 = .ok (.iastore, 1) := by decide +kernel
theorem d_Mo_emit_51 : decode prog_10_method_5_code 51 = .ok (.aload_n 0, 1) := by decide +kernel
theorem d_Mo_emit_52 : decode prog_10_method_5_code 52 = .ok (.getfield 25, 3) := by decide +kernel
theorem d_Mo_emit_55 : decode prog_10_method_5_code 55 = .ok (.iload_n 1, 1) := by decide +kernel
theorem d_Mo_emit_56 : decode prog_10_method_5_code 56 = .ok (.bipush 24, 2) := by decide +kernel
theorem d_Mo_emit_58 : decode prog_10_method_5_code 58 = .ok (.imul, 1) := by decide +kernel
theorem d_Mo_emit_59 : decode prog_10_method_5_code 59 = .ok (.aload_n 0, 1) := by decide +kernel
theorem d_Mo_emit_60 : decode prog_10_method_5_code 60 = .ok (.getfield 19, 3) := by decide +kernel
theorem d_Mo_emit_63 : decode prog_10_method_5_code 63 = .ok (.iload_n 1, 1) := by decide +kernel
theorem d_Mo_emit_64 : decode prog_10_method_5_code 64 = .ok (.iaload, 1) := by decide +kernel
theorem d_Mo_emit_65 : decode prog_10_method_5_code 65 = .ok (.iadd, 1) := by decide +kernel
theorem d_Mo_emit_66 : decode prog_10_method_5_code 66 = .ok (.iload_n 3, 1) := by decide +kernel
theorem d_Mo_emit_67 : decode prog_10_method_5_code 67 = .ok (.iastore, 1) := by decide +kernel
theorem d_Mo_emit_68 : decode prog_10_method_5_code 68 = .ok (.aload_n 0, 1) := by decide +kernel
theorem d_Mo_emit_69 : decode prog_10_method_5_code 69 = .ok (.getfield 19, 3) := by decide +kernel
theorem d_Mo_emit_72 : decode prog_10_method_5_code 72 = .ok (.iload_n 1, 1) := by decide +kernel
theorem d_Mo_emit_73 : decode prog_10_method_5_code 73 = .ok (.dup2, 1) := by decide +kernel
theorem d_Mo_emit_74 : decode prog_10_method_5_code 74 = .ok (.iaload, 1) := by decide +kernel
theorem d_Mo_emit_75 : decode prog_10_method_5_code 75 = .ok (.iconst 1, 1) := by decide +kernel
theorem d_Mo_emit_76 : decode prog_10_method_5_code 76 = .ok (.iadd, 1) := by decide +kernel
theorem d_Mo_emit_77 : decode prog_10_method_5_code 77 = .ok (.iastore, 1) := by decide +kernel
theorem d_Mo_emit_78 : decode prog_10_method_5_code 78 = .ok (.aload_n 0, 1) := by decide +kernel
theorem d_Mo_emit_79 : decode prog_10_method_5_code 79 = .ok (.invokevirtual 70, 3) := by decide +kernel
theorem d_Mo_emit_82 : decode prog_10_method_5_code 82 = .ok (.aload_n 0, 1) := by decide +kernel
theorem d_Mo_emit_83 : decode prog_10_method_5_code 83 = .ok (.getfield 19, 3) := by decide +kernel
theorem d_Mo_emit_86 : decode prog_10_method_5_code 86 = .ok (.iload_n 1, 1) := by decide +kernel
theorem d_Mo_emit_87 : decode prog_10_method_5_code 87 = .ok (.iaload, 1) := by decide +kernel
theorem d_Mo_emit_88 : decode prog_10_method_5_code 88 = .ok (.iconst 1, 1) := by decide +kernel
theorem d_Mo_emit_89 : decode prog_10_method_5_code 89 = .ok (.isub, 1) := by decide +kernel
theorem d_Mo_emit_90 : decode prog_10_method_5_code 90 = .ok (.ireturn, 1) := by decide +kernel
abbrev rm_Mo_emit : Room := { frames := 1, cells := 0, slots := 0, locals := 21 }
def p_Mo_emit_b18 (k : Int32 → vS → Prop) (V : vS) : Prop := k (-1) V
set_option maxRecDepth 100000 in
set_option maxHeartbeats 4000000 in
theorem t_Mo_emit_b18 {k : Int32 → vS → Prop} (X : cx g p s m meth c args R_Mo prog_10_method_5_code 4 (some .int)) {V : vS} (h : p_Mo_emit_b18 k V) (hP : va_P g.1 vcl (cw g V) H) (hS : va_S (gA g) s.heap H locs) (hl : lv_has ls 4 []) : W p l e rm_Mo_emit s m args below meth c H locs 0 0 (MQ below (va_Qi k (Bw g) (gA g)) args s 0 0 (gA g)) (F0 m 18 ls []) := by
  obtain ⟨hx, hb, -, -, hown, hts, -, -, hz, hG⟩ := id X
  unfold p_Mo_emit_b18 at h
  refine lv_iconst (v := (-1)) hx hb d_Mo_emit_18 (by decide) ?_
  exact rw_iret X hP hS h d_Mo_emit_19
def p_Mo_emit (k : Int32 → vS → Prop) (V : vS) (x1 : Int32) (x2 : Int32) (x3 : Int32) : Prop := p_Mo_no (fun r2 V1 => (r2 = 0 → ((x2 < 0 → (p_Mo_emit_b18 k V1)) ∧ (¬ x2 < 0 → ((x2 ≤ 19 → (vp_in x1 4 ∧ (((V1.1 38 (nt x1)) = 24 → (k (-2) V1)) ∧ (¬ (V1.1 38 (nt x1)) = 24 → (vp_in x1 4 ∧ (vp_in ((x1 * 24) + (V1.1 38 (nt x1))) 96 ∧ ∀ V11 : vS, V11 = sv V1 39 (nt ((x1 * 24) + (V1.1 38 (nt x1)))) x2 → (vp_in x1 4 ∧ (vp_in ((x1 * 24) + (V11.1 38 (nt x1))) 96 ∧ ∀ V14 : vS, V14 = sv V11 40 (nt ((x1 * 24) + (V11.1 38 (nt x1)))) x3 → (vp_in x1 4 ∧ (vp_in x1 4 ∧ ∀ V17 : vS, V17 = sv V14 38 (nt x1) ((V14.1 38 (nt x1)) + 1) → (p_Mo_changed (fun V18 => vp_in x1 4 ∧ (k ((V18.1 38 (nt x1)) - 1) V18)) V17))))))))))) ∧ (¬ x2 ≤ 19 → (p_Mo_emit_b18 k V1)))))) ∧ (¬ r2 = 0 → (p_Mo_emit_b18 k V1))) V x1
set_option maxRecDepth 100000 in
set_option maxHeartbeats 4000000 in
theorem c_Mo_emit {l : Launch} {g : gT} (hG : gd g) {V : vS} {x1 : Int32} {x2 : Int32} {x3 : Int32} {k : Int32 → vS → Prop} (h : p_Mo_emit k V x1 x2 x3) : Ci g l y_Mo_emit prog_10_method_5_code 4 (some .int) rm_Mo_emit [.ref (ga g 34), .int x1, .int x2, .int x3] V k := by
  unfold Ci
  refine Met.ofW (cc := prog_10_method_5_code) (maxL := 4) (ret := some .int) (by decide) rfl ?_
  intro p e s m args below meth c s₁ B hml hv
  obtain ⟨rfl, hP, hK, hZ⟩ := hv
  have X : cx g p s m meth c [.ref (ga g 34), .int x1, .int x2, .int x3].toArray R_Mo prog_10_method_5_code 4 (some .int) := ⟨B.exec, B.bytes, B.returns, hml, findClass_of_methodNamed B.named, fun w hw => atoms_spec (ws := Cond.code y_Mo_emit prog_10_method_5_code 4 (some .int) :: TBL) B.pre w (List.mem_cons_of_mem _ hw), B.notSynchronized, hK, hZ, hG⟩
  have hl := lv_entry [.ref (ga g 34), .int x1, .int x2, .int x3] (n := 4) (Nat.le_of_ble_eq_true rfl)
  rw [lg_entry_eq]
  generalize (lg_sl [.ref (ga g 34), .int x1, .int x2, .int x3] ++ List.replicate (4 - (lg_sl [.ref (ga g 34), .int x1, .int x2, .int x3]).length) Slot.unset).toArray = ls at hl ⊢
  have hl : lv_has ls 4 [(0, .ref (ga g 34)), (1, .int x1), (2, .int x2), (3, .int x3)] := hl
  have hS : va_S (gA g) s.heap s.heap [] := va_S.rf
  obtain ⟨hx, hb, -, -, hown, hts, -, -, hz, -⟩ := id X
  show W p l e rm_Mo_emit s m _ below meth c s.heap [] 0 0 (MQ below (va_Qi k (Bw g) (gA g)) _ s 0 0 (gA g)) (F0 m 0 ls [])
  unfold p_Mo_emit at h
  refine lv_aload_n hx hb d_Mo_emit_0 rfl (lv_at hl 0 rfl) ?_
  refine lv_iload_n hx hb d_Mo_emit_1 rfl (lv_at hl 1 rfl) ?_
  refine rw_cVi (rest := []) X hP hS yv_Mo_no isO_Mo (c_Mo_no hG h) q_549 ⟨rfl, rfl, by decide, by decide⟩ rfl rfl hl.1 (Nat.le_of_ble_eq_true rfl) ⟨Nat.zero_le _, Nat.zero_le _⟩ d_Mo_emit_2 (fun r2 V1 H locs h hP hS => ?_)
  refine lv_if_ne (tgt := 18) hx hb d_Mo_emit_5 (by decide) (fun c4 => ?_) (fun c4 => ?_)
  · have h := h.2 c4
    exact t_Mo_emit_b18 X h hP hS (lv_sub hl [] rfl)
  · have h := h.1 c4
    refine lv_iload_n hx hb d_Mo_emit_8 rfl (lv_at hl 2 rfl) ?_
    refine lv_if_lt (tgt := 18) hx hb d_Mo_emit_9 (by decide) (fun c5 => ?_) (fun c5 => ?_)
    · have h := h.1 c5
      exact t_Mo_emit_b18 X h hP hS (lv_sub hl [] rfl)
    · have h := h.2 c5
      refine lv_iload_n hx hb d_Mo_emit_12 rfl (lv_at hl 2 rfl) ?_
      refine lv_bipush (v := 19) hx hb d_Mo_emit_13 (by decide) ?_
      refine lv_icmp_le (tgt := 20) hx hb d_Mo_emit_15 (by decide) (fun c6 => ?_) (fun c6 => ?_)
      · have h := h.1 c6
        refine lv_aload_n hx hb d_Mo_emit_20 rfl (lv_at hl 0 rfl) ?_
        refine gf_Mo_length X hP q_449 d_Mo_emit_21 ?_
        refine lv_iload_n hx hb d_Mo_emit_24 rfl (lv_at hl 1 rfl) ?_
        obtain ⟨hi7, h⟩ := h
        refine rw_iald X hP isI_38 hi7 d_Mo_emit_25 ?_
        refine lv_bipush (v := 24) hx hb d_Mo_emit_26 (by decide) ?_
        refine lv_icmp_ne (tgt := 34) hx hb d_Mo_emit_28 (by decide) (fun c8 => ?_) (fun c8 => ?_)
        · have h := h.2 c8
          refine lv_aload_n hx hb d_Mo_emit_34 rfl (lv_at hl 0 rfl) ?_
          refine gf_Mo_op X hP q_450 d_Mo_emit_35 ?_
          refine lv_iload_n hx hb d_Mo_emit_38 rfl (lv_at hl 1 rfl) ?_
          refine lv_bipush (v := 24) hx hb d_Mo_emit_39 (by decide) ?_
          refine lv_imul hx hb d_Mo_emit_41 ?_
          refine lv_aload_n hx hb d_Mo_emit_42 rfl (lv_at hl 0 rfl) ?_
          refine gf_Mo_length X hP q_449 d_Mo_emit_43 ?_
          refine lv_iload_n hx hb d_Mo_emit_46 rfl (lv_at hl 1 rfl) ?_
          obtain ⟨hi9, h⟩ := h
          refine rw_iald X hP isI_38 hi9 d_Mo_emit_47 ?_
          refine lv_iadd hx hb d_Mo_emit_48 ?_
          refine lv_iload_n hx hb d_Mo_emit_49 rfl (lv_at hl 2 rfl) ?_
          obtain ⟨hi10, h⟩ := h
          refine rw_iast X hP hS isI_39 hi10 d_Mo_emit_50 (fun V11 H locs eV11 hP hS => ?_)
          have h := h V11 eV11
          refine lv_aload_n hx hb d_Mo_emit_51 rfl (lv_at hl 0 rfl) ?_
          refine gf_Mo_arg X hP q_451 d_Mo_emit_52 ?_
          refine lv_iload_n hx hb d_Mo_emit_55 rfl (lv_at hl 1 rfl) ?_
          refine lv_bipush (v := 24) hx hb d_Mo_emit_56 (by decide) ?_
          refine lv_imul hx hb d_Mo_emit_58 ?_
          refine lv_aload_n hx hb d_Mo_emit_59 rfl (lv_at hl 0 rfl) ?_
          refine gf_Mo_length X hP q_449 d_Mo_emit_60 ?_
          refine lv_iload_n hx hb d_Mo_emit_63 rfl (lv_at hl 1 rfl) ?_
          obtain ⟨hi12, h⟩ := h
          refine rw_iald X hP isI_38 hi12 d_Mo_emit_64 ?_
          refine lv_iadd hx hb d_Mo_emit_65 ?_
          refine lv_iload_n hx hb d_Mo_emit_66 rfl (lv_at hl 3 rfl) ?_
          obtain ⟨hi13, h⟩ := h
          refine rw_iast X hP hS isI_40 hi13 d_Mo_emit_67 (fun V14 H locs eV14 hP hS => ?_)
          have h := h V14 eV14
          refine lv_aload_n hx hb d_Mo_emit_68 rfl (lv_at hl 0 rfl) ?_
          refine gf_Mo_length X hP q_449 d_Mo_emit_69 ?_
          refine lv_iload_n hx hb d_Mo_emit_72 rfl (lv_at hl 1 rfl) ?_
          refine lv_dup2_11 hx hb d_Mo_emit_73 rfl rfl ?_
          obtain ⟨hi15, h⟩ := h
          refine rw_iald X hP isI_38 hi15 d_Mo_emit_74 ?_
          refine lv_iconst (v := 1) hx hb d_Mo_emit_75 (by decide) ?_
          refine lv_iadd hx hb d_Mo_emit_76 ?_
          obtain ⟨hi16, h⟩ := h
          refine rw_iast X hP hS isI_38 hi16 d_Mo_emit_77 (fun V17 H locs eV17 hP hS => ?_)
          have h := h V17 eV17
          refine lv_aload_n hx hb d_Mo_emit_78 rfl (lv_at hl 0 rfl) ?_
          refine rw_cVv (rest := []) X hP hS yv_Mo_changed isO_Mo (c_Mo_changed hG h) q_541 ⟨rfl, rfl, by decide, by decide⟩ rfl rfl hl.1 (Nat.le_of_ble_eq_true rfl) ⟨Nat.zero_le _, Nat.zero_le _⟩ d_Mo_emit_79 (fun V18 H locs h hP hS => ?_)
          refine lv_aload_n hx hb d_Mo_emit_82 rfl (lv_at hl 0 rfl) ?_
          refine gf_Mo_length X hP q_449 d_Mo_emit_83 ?_
          refine lv_iload_n hx hb d_Mo_emit_86 rfl (lv_at hl 1 rfl) ?_
          obtain ⟨hi20, h⟩ := h
          refine rw_iald X hP isI_38 hi20 d_Mo_emit_87 ?_
          refine lv_iconst (v := 1) hx hb d_Mo_emit_88 (by decide) ?_
          refine lv_isub hx hb d_Mo_emit_89 ?_
          exact rw_iret X hP hS h d_Mo_emit_90
        · have h := h.1 c8
          refine lv_bipush (v := (-2)) hx hb d_Mo_emit_31 (by decide) ?_
          exact rw_iret X hP hS h d_Mo_emit_33
      · have h := h.2 c6
        exact t_Mo_emit_b18 X h hP hS (lv_sub hl [] rfl)
theorem yv_Mo_emit : yV R_Mo y_Mo_emit prog_10_method_5_code 4 (some .int) 3 := ⟨by decide +kernel, q_546, q_547, q_7, q_548⟩
/-! Mo.erase -/
theorem d_Mo_erase_0 : decode prog_10_method_6_code 0 = .ok (.aload_n 0, 1) := by decide +kernel
theorem d_Mo_erase_1 : decode prog_10_method_6_code 1 = .ok (.iload_n 1, 1) := by decide +kernel
theorem d_Mo_erase_2 : decode prog_10_method_6_code 2 = .ok (.invokevirtual 73, 3) := by decide +kernel
theorem d_Mo_erase_5 : decode prog_10_method_6_code 5 = .ok (.ifCond .eq 5, 3) := by decide +kernel
theorem d_Mo_erase_8 : decode prog_10_method_6_code 8 = .ok (.iconst (-1), 1) := by decide +kernel
theorem d_Mo_erase_9 : decode prog_10_method_6_code 9 = .ok (.ireturn, 1) := by decide +kernel
theorem d_Mo_erase_10 : decode prog_10_method_6_code 10 = .ok (.aload_n 0, 1) := by decide +kernel
theorem d_Mo_erase_11 : decode prog_10_method_6_code 11 = .ok (.getfield 19, 3) := by decide +kernel
theorem d_Mo_erase_14 : decode prog_10_method_6_code 14 = .ok (.iload_n 1, 1) := by decide +kernel
theorem d_Mo_erase_15 : decode prog_10_method_6_code 15 = .ok (.iconst 0, 1) := by decide +kernel
theorem d_Mo_erase_16 : decode prog_10_method_6_code 16 = .ok (.iastore, 1) := by decide +kernel
theorem d_Mo_erase_17 : decode prog_10_method_6_code 17 = .ok (.aload_n 0, 1) := by decide +kernel
theorem d_Mo_erase_18 : decode prog_10_method_6_code 18 = .ok (.invokevirtual 70, 3) := by decide +kernel
theorem d_Mo_erase_21 : decode prog_10_method_6_code 21 = .ok (.iconst 0, 1) := by decide +kernel
theorem d_Mo_erase_22 : decode prog_10_method_6_code 22 = .ok (.ireturn, 1) := by decide +kernel
abbrev rm_Mo_erase : Room := { frames := 1, cells := 0, slots := 0, locals := 21 }
def p_Mo_erase (k : Int32 → vS → Prop) (V : vS) (x1 : Int32) : Prop := p_Mo_no (fun r2 V1 => (r2 = 0 → (vp_in x1 4 ∧ ∀ V6 : vS, V6 = sv V1 38 (nt x1) 0 → (p_Mo_changed (fun V7 => k 0 V7) V6))) ∧ (¬ r2 = 0 → (k (-1) V1))) V x1
set_option maxRecDepth 100000 in
set_option maxHeartbeats 4000000 in
theorem c_Mo_erase {l : Launch} {g : gT} (hG : gd g) {V : vS} {x1 : Int32} {k : Int32 → vS → Prop} (h : p_Mo_erase k V x1) : Ci g l y_Mo_erase prog_10_method_6_code 2 (some .int) rm_Mo_erase [.ref (ga g 34), .int x1] V k := by
  unfold Ci
  refine Met.ofW (cc := prog_10_method_6_code) (maxL := 2) (ret := some .int) (by decide) rfl ?_
  intro p e s m args below meth c s₁ B hml hv
  obtain ⟨rfl, hP, hK, hZ⟩ := hv
  have X : cx g p s m meth c [.ref (ga g 34), .int x1].toArray R_Mo prog_10_method_6_code 2 (some .int) := ⟨B.exec, B.bytes, B.returns, hml, findClass_of_methodNamed B.named, fun w hw => atoms_spec (ws := Cond.code y_Mo_erase prog_10_method_6_code 2 (some .int) :: TBL) B.pre w (List.mem_cons_of_mem _ hw), B.notSynchronized, hK, hZ, hG⟩
  have hl := lv_entry [.ref (ga g 34), .int x1] (n := 2) (Nat.le_of_ble_eq_true rfl)
  rw [lg_entry_eq]
  generalize (lg_sl [.ref (ga g 34), .int x1] ++ List.replicate (2 - (lg_sl [.ref (ga g 34), .int x1]).length) Slot.unset).toArray = ls at hl ⊢
  have hl : lv_has ls 2 [(0, .ref (ga g 34)), (1, .int x1)] := hl
  have hS : va_S (gA g) s.heap s.heap [] := va_S.rf
  obtain ⟨hx, hb, -, -, hown, hts, -, -, hz, -⟩ := id X
  show W p l e rm_Mo_erase s m _ below meth c s.heap [] 0 0 (MQ below (va_Qi k (Bw g) (gA g)) _ s 0 0 (gA g)) (F0 m 0 ls [])
  unfold p_Mo_erase at h
  refine lv_aload_n hx hb d_Mo_erase_0 rfl (lv_at hl 0 rfl) ?_
  refine lv_iload_n hx hb d_Mo_erase_1 rfl (lv_at hl 1 rfl) ?_
  refine rw_cVi (rest := []) X hP hS yv_Mo_no isO_Mo (c_Mo_no hG h) q_549 ⟨rfl, rfl, by decide, by decide⟩ rfl rfl hl.1 (Nat.le_of_ble_eq_true rfl) ⟨Nat.zero_le _, Nat.zero_le _⟩ d_Mo_erase_2 (fun r2 V1 H locs h hP hS => ?_)
  refine lv_if_eq (tgt := 10) hx hb d_Mo_erase_5 (by decide) (fun c4 => ?_) (fun c4 => ?_)
  · have h := h.1 c4
    refine lv_aload_n hx hb d_Mo_erase_10 rfl (lv_at hl 0 rfl) ?_
    refine gf_Mo_length X hP q_449 d_Mo_erase_11 ?_
    refine lv_iload_n hx hb d_Mo_erase_14 rfl (lv_at hl 1 rfl) ?_
    refine lv_iconst (v := 0) hx hb d_Mo_erase_15 (by decide) ?_
    obtain ⟨hi5, h⟩ := h
    refine rw_iast X hP hS isI_38 hi5 d_Mo_erase_16 (fun V6 H locs eV6 hP hS => ?_)
    have h := h V6 eV6
    refine lv_aload_n hx hb d_Mo_erase_17 rfl (lv_at hl 0 rfl) ?_
    refine rw_cVv (rest := []) X hP hS yv_Mo_changed isO_Mo (c_Mo_changed hG h) q_541 ⟨rfl, rfl, by decide, by decide⟩ rfl rfl hl.1 (Nat.le_of_ble_eq_true rfl) ⟨Nat.zero_le _, Nat.zero_le _⟩ d_Mo_erase_18 (fun V7 H locs h hP hS => ?_)
    refine lv_iconst (v := 0) hx hb d_Mo_erase_21 (by decide) ?_
    exact rw_iret X hP hS h d_Mo_erase_22
  · have h := h.2 c4
    refine lv_iconst (v := (-1)) hx hb d_Mo_erase_8 (by decide) ?_
    exact rw_iret X hP hS h d_Mo_erase_9
theorem yv_Mo_erase : yV R_Mo y_Mo_erase prog_10_method_6_code 2 (some .int) 1 := ⟨by decide +kernel, q_554, q_555, q_7, q_556⟩
/-! Mo.taken -/
theorem d_Mo_taken_0 : decode prog_10_method_7_code 0 = .ok (.iload_n 1, 1) := by decide +kernel
theorem d_Mo_taken_1 : decode prog_10_method_7_code 1 = .ok (.bipush 17, 2) := by decide +kernel
theorem d_Mo_taken_3 : decode prog_10_method_7_code 3 = .ok (.if_icmp .ne 10, 3) := by decide +kernel
theorem d_Mo_taken_6 : decode prog_10_method_7_code 6 = .ok (.aload_n 0, 1) := by decide +kernel
theorem d_Mo_taken_7 : decode prog_10_method_7_code 7 = .ok (.getfield 7, 3) := by decide +kernel
theorem d_Mo_taken_10 : decode prog_10_method_7_code 10 = .ok (.iload_n 2, 1) := by decide +kernel
theorem d_Mo_taken_11 : decode prog_10_method_7_code 11 = .ok (.iaload, 1) := by decide +kernel
theorem d_Mo_taken_12 : decode prog_10_method_7_code 12 = .ok (.ireturn, 1) := by decide +kernel
theorem d_Mo_taken_13 : decode prog_10_method_7_code 13 = .ok (.iload_n 1, 1) := by decide +kernel
theorem d_Mo_taken_14 : decode prog_10_method_7_code 14 = .ok (.iconst 3, 1) := by decide +kernel
theorem d_Mo_taken_15 : decode prog_10_method_7_code 15 = .ok (.if_icmp .lt 9, 3) := by decide +kernel
theorem d_Mo_taken_18 : decode prog_10_method_7_code 18 = .ok (.iload_n 1, 1) := by decide +kernel
theorem d_Mo_taken_19 : decode prog_10_method_7_code 19 = .ok (.bipush 8, 2) := by decide +kernel
theorem d_Mo_taken_21 : decode prog_10_method_7_code 21 = .ok (.if_icmp .le 9, 3) := by decide +kernel
theorem d_Mo_taken_24 : decode prog_10_method_7_code 24 = .ok (.iload_n 1, 1) := by decide +kernel
theorem d_Mo_taken_25 : decode prog_10_method_7_code 25 = .ok (.bipush 11, 2) := by decide +kernel
theorem d_Mo_taken_27 : decode prog_10_method_7_code 27 = .ok (.if_icmp .ne 5, 3) := by decide +kernel
theorem d_Mo_taken_30 : decode prog_10_method_7_code 30 = .ok (.iconst 2, 1) := by decide +kernel
theorem d_Mo_taken_31 : decode prog_10_method_7_code 31 = .ok (.ireturn, 1) := by decide +kernel
theorem d_Mo_taken_32 : decode prog_10_method_7_code 32 = .ok (.iload_n 1, 1) := by decide +kernel
theorem d_Mo_taken_33 : decode prog_10_method_7_code 33 = .ok (.iconst 2, 1) := by decide +kernel
theorem d_Mo_taken_34 : decode prog_10_method_7_code 34 = .ok (.if_icmp .eq 27, 3) := by decide +kernel
theorem d_Mo_taken_37 : decode prog_10_method_7_code 37 = .ok (.iload_n 1, 1) := by decide +kernel
theorem d_Mo_taken_38 : decode prog_10_method_7_code 38 = .ok (.bipush 9, 2) := by decide +kernel
theorem d_Mo_taken_40 : decode prog_10_method_7_code 40 = .ok (.if_icmp .eq 21, 3) := by decide +kernel
theorem d_Mo_taken_43 : decode prog_10_method_7_code 43 = .ok (.iload_n 1, 1) := by decide +kernel
theorem d_Mo_taken_44 : decode prog_10_method_7_code 44 = .ok (.bipush 10, 2) := by decide +kernel
theorem d_Mo_taken_46 : decode prog_10_method_7_code 46 = .ok (.if_icmp .eq 15, 3) := by decide +kernel
theorem d_Mo_taken_49 : decode prog_10_method_7_code 49 = .ok (.iload_n 1, 1) := by decide +kernel
theorem d_Mo_taken_50 : decode prog_10_method_7_code 50 = .ok (.bipush 16, 2) := by decide +kernel
theorem d_Mo_taken_52 : decode prog_10_method_7_code 52 = .ok (.if_icmp .eq 9, 3) := by decide +kernel
theorem d_Mo_taken_55 : decode prog_10_method_7_code 55 = .ok (.iload_n 1, 1) := by decide +kernel
theorem d_Mo_taken_56 : decode prog_10_method_7_code 56 = .ok (.bipush 18, 2) := by decide +kernel
theorem d_Mo_taken_58 : decode prog_10_method_7_code 58 = .ok (.if_icmp .ne 7, 3) := by decide +kernel
theorem d_Mo_taken_61 : decode prog_10_method_7_code 61 = .ok (.iconst 1, 1) := by decide +kernel
theorem d_Mo_taken_62 : decode prog_10_method_7_code 62 = .ok (.goto 4, 3) := by decide +kernel
theorem d_Mo_taken_65 : decode prog_10_method_7_code 65 = .ok (.iconst 0, 1) := by decide +kernel
theorem d_Mo_taken_66 : decode prog_10_method_7_code 66 = .ok (.ireturn, 1) := by decide +kernel
abbrev rm_Mo_taken : Room := { frames := 0, cells := 0, slots := 0, locals := 0 }
def p_Mo_taken_b30 (k : Int32 → vS → Prop) (V : vS) : Prop := k 2 V
set_option maxRecDepth 100000 in
set_option maxHeartbeats 4000000 in
theorem t_Mo_taken_b30 {k : Int32 → vS → Prop} (X : cx g p s m meth c args R_Mo prog_10_method_7_code 3 (some .int)) {V : vS} (h : p_Mo_taken_b30 k V) (hP : va_P g.1 vcl (cw g V) H) (hS : va_S (gA g) s.heap H locs) (hl : lv_has ls 3 []) : W p l e rm_Mo_taken s m args below meth c H locs 0 0 (MQ below (va_Qi k (Bw g) (gA g)) args s 0 0 (gA g)) (F0 m 30 ls []) := by
  obtain ⟨hx, hb, -, -, hown, hts, -, -, hz, hG⟩ := id X
  unfold p_Mo_taken_b30 at h
  refine lv_iconst (v := 2) hx hb d_Mo_taken_30 (by decide) ?_
  exact rw_iret X hP hS h d_Mo_taken_31
def p_Mo_taken_b66 (k : Int32 → vS → Prop) (V : vS) (s0 : Int32) : Prop := k s0 V
set_option maxRecDepth 100000 in
set_option maxHeartbeats 4000000 in
theorem t_Mo_taken_b66 {k : Int32 → vS → Prop} (X : cx g p s m meth c args R_Mo prog_10_method_7_code 3 (some .int)) {V : vS} {s0 : Int32} (h : p_Mo_taken_b66 k V s0) (hP : va_P g.1 vcl (cw g V) H) (hS : va_S (gA g) s.heap H locs) (hl : lv_has ls 3 []) : W p l e rm_Mo_taken s m args below meth c H locs 0 0 (MQ below (va_Qi k (Bw g) (gA g)) args s 0 0 (gA g)) (F0 m 66 ls [.int s0]) := by
  obtain ⟨hx, hb, -, -, hown, hts, -, -, hz, hG⟩ := id X
  unfold p_Mo_taken_b66 at h
  exact rw_iret X hP hS h d_Mo_taken_66
def p_Mo_taken_b61 (k : Int32 → vS → Prop) (V : vS) : Prop := p_Mo_taken_b66 k V 1
set_option maxRecDepth 100000 in
set_option maxHeartbeats 4000000 in
theorem t_Mo_taken_b61 {k : Int32 → vS → Prop} (X : cx g p s m meth c args R_Mo prog_10_method_7_code 3 (some .int)) {V : vS} (h : p_Mo_taken_b61 k V) (hP : va_P g.1 vcl (cw g V) H) (hS : va_S (gA g) s.heap H locs) (hl : lv_has ls 3 []) : W p l e rm_Mo_taken s m args below meth c H locs 0 0 (MQ below (va_Qi k (Bw g) (gA g)) args s 0 0 (gA g)) (F0 m 61 ls []) := by
  obtain ⟨hx, hb, -, -, hown, hts, -, -, hz, hG⟩ := id X
  unfold p_Mo_taken_b61 at h
  refine lv_iconst (v := 1) hx hb d_Mo_taken_61 (by decide) ?_
  refine lv_goto (tgt := 66) hx hb d_Mo_taken_62 (by decide) ?_
  exact t_Mo_taken_b66 X h hP hS (lv_sub hl [] rfl)
def p_Mo_taken_b24 (k : Int32 → vS → Prop) (V : vS) (x1 : Int32) : Prop := (x1 = 11 → (p_Mo_taken_b30 k V)) ∧ (¬ x1 = 11 → ((x1 = 2 → (p_Mo_taken_b61 k V)) ∧ (¬ x1 = 2 → ((x1 = 9 → (p_Mo_taken_b61 k V)) ∧ (¬ x1 = 9 → ((x1 = 10 → (p_Mo_taken_b61 k V)) ∧ (¬ x1 = 10 → ((x1 = 16 → (p_Mo_taken_b61 k V)) ∧ (¬ x1 = 16 → ((x1 = 18 → (p_Mo_taken_b61 k V)) ∧ (¬ x1 = 18 → (p_Mo_taken_b66 k V 0))))))))))))
set_option maxRecDepth 100000 in
set_option maxHeartbeats 4000000 in
theorem t_Mo_taken_b24 {k : Int32 → vS → Prop} (X : cx g p s m meth c args R_Mo prog_10_method_7_code 3 (some .int)) {V : vS} {x1 : Int32} (h : p_Mo_taken_b24 k V x1) (hP : va_P g.1 vcl (cw g V) H) (hS : va_S (gA g) s.heap H locs) (hl : lv_has ls 3 [(1, .int x1)]) : W p l e rm_Mo_taken s m args below meth c H locs 0 0 (MQ below (va_Qi k (Bw g) (gA g)) args s 0 0 (gA g)) (F0 m 24 ls []) := by
  obtain ⟨hx, hb, -, -, hown, hts, -, -, hz, hG⟩ := id X
  unfold p_Mo_taken_b24 at h
  refine lv_iload_n hx hb d_Mo_taken_24 rfl (lv_at hl 0 rfl) ?_
  refine lv_bipush (v := 11) hx hb d_Mo_taken_25 (by decide) ?_
  refine lv_icmp_ne (tgt := 32) hx hb d_Mo_taken_27 (by decide) (fun c1 => ?_) (fun c1 => ?_)
  · have h := h.2 c1
    refine lv_iload_n hx hb d_Mo_taken_32 rfl (lv_at hl 0 rfl) ?_
    refine lv_iconst (v := 2) hx hb d_Mo_taken_33 (by decide) ?_
    refine lv_icmp_eq (tgt := 61) hx hb d_Mo_taken_34 (by decide) (fun c2 => ?_) (fun c2 => ?_)
    · have h := h.1 c2
      exact t_Mo_taken_b61 X h hP hS (lv_sub hl [] rfl)
    · have h := h.2 c2
      refine lv_iload_n hx hb d_Mo_taken_37 rfl (lv_at hl 0 rfl) ?_
      refine lv_bipush (v := 9) hx hb d_Mo_taken_38 (by decide) ?_
      refine lv_icmp_eq (tgt := 61) hx hb d_Mo_taken_40 (by decide) (fun c3 => ?_) (fun c3 => ?_)
      · have h := h.1 c3
        exact t_Mo_taken_b61 X h hP hS (lv_sub hl [] rfl)
      · have h := h.2 c3
        refine lv_iload_n hx hb d_Mo_taken_43 rfl (lv_at hl 0 rfl) ?_
        refine lv_bipush (v := 10) hx hb d_Mo_taken_44 (by decide) ?_
        refine lv_icmp_eq (tgt := 61) hx hb d_Mo_taken_46 (by decide) (fun c4 => ?_) (fun c4 => ?_)
        · have h := h.1 c4
          exact t_Mo_taken_b61 X h hP hS (lv_sub hl [] rfl)
        · have h := h.2 c4
          refine lv_iload_n hx hb d_Mo_taken_49 rfl (lv_at hl 0 rfl) ?_
          refine lv_bipush (v := 16) hx hb d_Mo_taken_50 (by decide) ?_
          refine lv_icmp_eq (tgt := 61) hx hb d_Mo_taken_52 (by decide) (fun c5 => ?_) (fun c5 => ?_)
          · have h := h.1 c5
            exact t_Mo_taken_b61 X h hP hS (lv_sub hl [] rfl)
          · have h := h.2 c5
            refine lv_iload_n hx hb d_Mo_taken_55 rfl (lv_at hl 0 rfl) ?_
            refine lv_bipush (v := 18) hx hb d_Mo_taken_56 (by decide) ?_
            refine lv_icmp_ne (tgt := 65) hx hb d_Mo_taken_58 (by decide) (fun c6 => ?_) (fun c6 => ?_)
            · have h := h.2 c6
              refine lv_iconst (v := 0) hx hb d_Mo_taken_65 (by decide) ?_
              exact t_Mo_taken_b66 X h hP hS (lv_sub hl [] rfl)
            · have h := h.1 c6
              exact t_Mo_taken_b61 X h hP hS (lv_sub hl [] rfl)
  · have h := h.1 c1
    exact t_Mo_taken_b30 X h hP hS (lv_sub hl [] rfl)
def p_Mo_taken (k : Int32 → vS → Prop) (V : vS) (x1 : Int32) (x2 : Int32) : Prop := (x1 = 17 → (vp_in x2 4 ∧ (k (V.1 35 (nt x2)) V))) ∧ (¬ x1 = 17 → ((x1 < 3 → (p_Mo_taken_b24 k V x1)) ∧ (¬ x1 < 3 → ((x1 ≤ 8 → (p_Mo_taken_b30 k V)) ∧ (¬ x1 ≤ 8 → (p_Mo_taken_b24 k V x1))))))
set_option maxRecDepth 100000 in
set_option maxHeartbeats 4000000 in
theorem c_Mo_taken {l : Launch} {g : gT} (hG : gd g) {V : vS} {x1 : Int32} {x2 : Int32} {k : Int32 → vS → Prop} (h : p_Mo_taken k V x1 x2) : Ci g l y_Mo_taken prog_10_method_7_code 3 (some .int) rm_Mo_taken [.ref (ga g 34), .int x1, .int x2] V k := by
  unfold Ci
  refine Met.ofW (cc := prog_10_method_7_code) (maxL := 3) (ret := some .int) (by decide) rfl ?_
  intro p e s m args below meth c s₁ B hml hv
  obtain ⟨rfl, hP, hK, hZ⟩ := hv
  have X : cx g p s m meth c [.ref (ga g 34), .int x1, .int x2].toArray R_Mo prog_10_method_7_code 3 (some .int) := ⟨B.exec, B.bytes, B.returns, hml, findClass_of_methodNamed B.named, fun w hw => atoms_spec (ws := Cond.code y_Mo_taken prog_10_method_7_code 3 (some .int) :: TBL) B.pre w (List.mem_cons_of_mem _ hw), B.notSynchronized, hK, hZ, hG⟩
  have hl := lv_entry [.ref (ga g 34), .int x1, .int x2] (n := 3) (Nat.le_of_ble_eq_true rfl)
  rw [lg_entry_eq]
  generalize (lg_sl [.ref (ga g 34), .int x1, .int x2] ++ List.replicate (3 - (lg_sl [.ref (ga g 34), .int x1, .int x2]).length) Slot.unset).toArray = ls at hl ⊢
  have hl : lv_has ls 3 [(0, .ref (ga g 34)), (1, .int x1), (2, .int x2)] := hl
  have hS : va_S (gA g) s.heap s.heap [] := va_S.rf
  obtain ⟨hx, hb, -, -, hown, hts, -, -, hz, -⟩ := id X
  show W p l e rm_Mo_taken s m _ below meth c s.heap [] 0 0 (MQ below (va_Qi k (Bw g) (gA g)) _ s 0 0 (gA g)) (F0 m 0 ls [])
  unfold p_Mo_taken at h
  refine lv_iload_n hx hb d_Mo_taken_0 rfl (lv_at hl 1 rfl) ?_
  refine lv_bipush (v := 17) hx hb d_Mo_taken_1 (by decide) ?_
  refine lv_icmp_ne (tgt := 13) hx hb d_Mo_taken_3 (by decide) (fun c1 => ?_) (fun c1 => ?_)
  · have h := h.2 c1
    refine lv_iload_n hx hb d_Mo_taken_13 rfl (lv_at hl 1 rfl) ?_
    refine lv_iconst (v := 3) hx hb d_Mo_taken_14 (by decide) ?_
    refine lv_icmp_lt (tgt := 24) hx hb d_Mo_taken_15 (by decide) (fun c2 => ?_) (fun c2 => ?_)
    · have h := h.1 c2
      exact t_Mo_taken_b24 X h hP hS (lv_sub hl [1] rfl)
    · have h := h.2 c2
      refine lv_iload_n hx hb d_Mo_taken_18 rfl (lv_at hl 1 rfl) ?_
      refine lv_bipush (v := 8) hx hb d_Mo_taken_19 (by decide) ?_
      refine lv_icmp_le (tgt := 30) hx hb d_Mo_taken_21 (by decide) (fun c3 => ?_) (fun c3 => ?_)
      · have h := h.1 c3
        exact t_Mo_taken_b30 X h hP hS (lv_sub hl [] rfl)
      · have h := h.2 c3
        exact t_Mo_taken_b24 X h hP hS (lv_sub hl [1] rfl)
  · have h := h.1 c1
    refine lv_aload_n hx hb d_Mo_taken_6 rfl (lv_at hl 0 rfl) ?_
    refine gf_Mo_takes X hP q_446 d_Mo_taken_7 ?_
    refine lv_iload_n hx hb d_Mo_taken_10 rfl (lv_at hl 2 rfl) ?_
    obtain ⟨hi4, h⟩ := h
    refine rw_iald X hP isI_35 hi4 d_Mo_taken_11 ?_
    exact rw_iret X hP hS h d_Mo_taken_12
theorem yv_Mo_taken : yV R_Mo y_Mo_taken prog_10_method_7_code 3 (some .int) 2 := ⟨by decide +kernel, q_575, qp_29, q_7, q_576⟩
/-! Mo.put -/
theorem d_Mo_put_0 : decode prog_10_method_8_code 0 = .ok (.iload_n 1, 1) := by decide +kernel
theorem d_Mo_put_1 : decode prog_10_method_8_code 1 = .ok (.bipush 17, 2) := by decide +kernel
theorem d_Mo_put_3 : decode prog_10_method_8_code 3 = .ok (.if_icmp .ne 10, 3) := by decide +kernel
theorem d_Mo_put_6 : decode prog_10_method_8_code 6 = .ok (.aload_n 0, 1) := by decide +kernel
theorem d_Mo_put_7 : decode prog_10_method_8_code 7 = .ok (.getfield 13, 3) := by decide +kernel
theorem d_Mo_put_10 : decode prog_10_method_8_code 10 = .ok (.iload_n 2, 1) := by decide +kernel
theorem d_Mo_put_11 : decode prog_10_method_8_code 11 = .ok (.iaload, 1) := by decide +kernel
theorem d_Mo_put_12 : decode prog_10_method_8_code 12 = .ok (.ireturn, 1) := by decide +kernel
theorem d_Mo_put_13 : decode prog_10_method_8_code 13 = .ok (.iload_n 1, 1) := by decide +kernel
theorem d_Mo_put_14 : decode prog_10_method_8_code 14 = .ok (.iconst 1, 1) := by decide +kernel
theorem d_Mo_put_15 : decode prog_10_method_8_code 15 = .ok (.if_icmp .le 26, 3) := by decide +kernel
theorem d_Mo_put_18 : decode prog_10_method_8_code 18 = .ok (.iload_n 1, 1) := by decide +kernel
theorem d_Mo_put_19 : decode prog_10_method_8_code 19 = .ok (.iconst 3, 1) := by decide +kernel
theorem d_Mo_put_20 : decode prog_10_method_8_code 20 = .ok (.if_icmp .lt 9, 3) := by decide +kernel
theorem d_Mo_put_23 : decode prog_10_method_8_code 23 = .ok (.iload_n 1, 1) := by decide +kernel
theorem d_Mo_put_24 : decode prog_10_method_8_code 24 = .ok (.bipush 8, 2) := by decide +kernel
theorem d_Mo_put_26 : decode prog_10_method_8_code 26 = .ok (.if_icmp .le 15, 3) := by decide +kernel
theorem d_Mo_put_29 : decode prog_10_method_8_code 29 = .ok (.iload_n 1, 1) := by decide +kernel
theorem d_Mo_put_30 : decode prog_10_method_8_code 30 = .ok (.bipush 10, 2) := by decide +kernel
theorem d_Mo_put_32 : decode prog_10_method_8_code 32 = .ok (.if_icmp .eq 9, 3) := by decide +kernel
theorem d_Mo_put_35 : decode prog_10_method_8_code 35 = .ok (.iload_n 1, 1) := by decide +kernel
theorem d_Mo_put_36 : decode prog_10_method_8_code 36 = .ok (.bipush 18, 2) := by decide +kernel
theorem d_Mo_put_38 : decode prog_10_method_8_code 38 = .ok (.if_icmp .ne 7, 3) := by decide +kernel
theorem d_Mo_put_41 : decode prog_10_method_8_code 41 = .ok (.iconst 1, 1) := by decide +kernel
theorem d_Mo_put_42 : decode prog_10_method_8_code 42 = .ok (.goto 4, 3) := by decide +kernel
theorem d_Mo_put_45 : decode prog_10_method_8_code 45 = .ok (.iconst 0, 1) := by decide +kernel
theorem d_Mo_put_46 : decode prog_10_method_8_code 46 = .ok (.ireturn, 1) := by decide +kernel
abbrev rm_Mo_put : Room := { frames := 0, cells := 0, slots := 0, locals := 0 }
def p_Mo_put_b46 (k : Int32 → vS → Prop) (V : vS) (s0 : Int32) : Prop := k s0 V
set_option maxRecDepth 100000 in
set_option maxHeartbeats 4000000 in
theorem t_Mo_put_b46 {k : Int32 → vS → Prop} (X : cx g p s m meth c args R_Mo prog_10_method_8_code 3 (some .int)) {V : vS} {s0 : Int32} (h : p_Mo_put_b46 k V s0) (hP : va_P g.1 vcl (cw g V) H) (hS : va_S (gA g) s.heap H locs) (hl : lv_has ls 3 []) : W p l e rm_Mo_put s m args below meth c H locs 0 0 (MQ below (va_Qi k (Bw g) (gA g)) args s 0 0 (gA g)) (F0 m 46 ls [.int s0]) := by
  obtain ⟨hx, hb, -, -, hown, hts, -, -, hz, hG⟩ := id X
  unfold p_Mo_put_b46 at h
  exact rw_iret X hP hS h d_Mo_put_46
def p_Mo_put_b41 (k : Int32 → vS → Prop) (V : vS) : Prop := p_Mo_put_b46 k V 1
set_option maxRecDepth 100000 in
set_option maxHeartbeats 4000000 in
theorem t_Mo_put_b41 {k : Int32 → vS → Prop} (X : cx g p s m meth c args R_Mo prog_10_method_8_code 3 (some .int)) {V : vS} (h : p_Mo_put_b41 k V) (hP : va_P g.1 vcl (cw g V) H) (hS : va_S (gA g) s.heap H locs) (hl : lv_has ls 3 []) : W p l e rm_Mo_put s m args below meth c H locs 0 0 (MQ below (va_Qi k (Bw g) (gA g)) args s 0 0 (gA g)) (F0 m 41 ls []) := by
  obtain ⟨hx, hb, -, -, hown, hts, -, -, hz, hG⟩ := id X
  unfold p_Mo_put_b41 at h
  refine lv_iconst (v := 1) hx hb d_Mo_put_41 (by decide) ?_
  refine lv_goto (tgt := 46) hx hb d_Mo_put_42 (by decide) ?_
  exact t_Mo_put_b46 X h hP hS (lv_sub hl [] rfl)
def p_Mo_put_b29 (k : Int32 → vS → Prop) (V : vS) (x1 : Int32) : Prop := (x1 = 10 → (p_Mo_put_b41 k V)) ∧ (¬ x1 = 10 → ((x1 = 18 → (p_Mo_put_b41 k V)) ∧ (¬ x1 = 18 → (p_Mo_put_b46 k V 0))))
set_option maxRecDepth 100000 in
set_option maxHeartbeats 4000000 in
theorem t_Mo_put_b29 {k : Int32 → vS → Prop} (X : cx g p s m meth c args R_Mo prog_10_method_8_code 3 (some .int)) {V : vS} {x1 : Int32} (h : p_Mo_put_b29 k V x1) (hP : va_P g.1 vcl (cw g V) H) (hS : va_S (gA g) s.heap H locs) (hl : lv_has ls 3 [(1, .int x1)]) : W p l e rm_Mo_put s m args below meth c H locs 0 0 (MQ below (va_Qi k (Bw g) (gA g)) args s 0 0 (gA g)) (F0 m 29 ls []) := by
  obtain ⟨hx, hb, -, -, hown, hts, -, -, hz, hG⟩ := id X
  unfold p_Mo_put_b29 at h
  refine lv_iload_n hx hb d_Mo_put_29 rfl (lv_at hl 0 rfl) ?_
  refine lv_bipush (v := 10) hx hb d_Mo_put_30 (by decide) ?_
  refine lv_icmp_eq (tgt := 41) hx hb d_Mo_put_32 (by decide) (fun c1 => ?_) (fun c1 => ?_)
  · have h := h.1 c1
    exact t_Mo_put_b41 X h hP hS (lv_sub hl [] rfl)
  · have h := h.2 c1
    refine lv_iload_n hx hb d_Mo_put_35 rfl (lv_at hl 0 rfl) ?_
    refine lv_bipush (v := 18) hx hb d_Mo_put_36 (by decide) ?_
    refine lv_icmp_ne (tgt := 45) hx hb d_Mo_put_38 (by decide) (fun c2 => ?_) (fun c2 => ?_)
    · have h := h.2 c2
      refine lv_iconst (v := 0) hx hb d_Mo_put_45 (by decide) ?_
      exact t_Mo_put_b46 X h hP hS (lv_sub hl [] rfl)
    · have h := h.1 c2
      exact t_Mo_put_b41 X h hP hS (lv_sub hl [] rfl)
def p_Mo_put (k : Int32 → vS → Prop) (V : vS) (x1 : Int32) (x2 : Int32) : Prop := (x1 = 17 → (vp_in x2 4 ∧ (k (V.1 36 (nt x2)) V))) ∧ (¬ x1 = 17 → ((x1 ≤ 1 → (p_Mo_put_b41 k V)) ∧ (¬ x1 ≤ 1 → ((x1 < 3 → (p_Mo_put_b29 k V x1)) ∧ (¬ x1 < 3 → ((x1 ≤ 8 → (p_Mo_put_b41 k V)) ∧ (¬ x1 ≤ 8 → (p_Mo_put_b29 k V x1))))))))
set_option maxRecDepth 100000 in
set_option maxHeartbeats 4000000 in
theorem c_Mo_put {l : Launch} {g : gT} (hG : gd g) {V : vS} {x1 : Int32} {x2 : Int32} {k : Int32 → vS → Prop} (h : p_Mo_put k V x1 x2) : Ci g l y_Mo_put prog_10_method_8_code 3 (some .int) rm_Mo_put [.ref (ga g 34), .int x1, .int x2] V k := by
  unfold Ci
  refine Met.ofW (cc := prog_10_method_8_code) (maxL := 3) (ret := some .int) (by decide) rfl ?_
  intro p e s m args below meth c s₁ B hml hv
  obtain ⟨rfl, hP, hK, hZ⟩ := hv
  have X : cx g p s m meth c [.ref (ga g 34), .int x1, .int x2].toArray R_Mo prog_10_method_8_code 3 (some .int) := ⟨B.exec, B.bytes, B.returns, hml, findClass_of_methodNamed B.named, fun w hw => atoms_spec (ws := Cond.code y_Mo_put prog_10_method_8_code 3 (some .int) :: TBL) B.pre w (List.mem_cons_of_mem _ hw), B.notSynchronized, hK, hZ, hG⟩
  have hl := lv_entry [.ref (ga g 34), .int x1, .int x2] (n := 3) (Nat.le_of_ble_eq_true rfl)
  rw [lg_entry_eq]
  generalize (lg_sl [.ref (ga g 34), .int x1, .int x2] ++ List.replicate (3 - (lg_sl [.ref (ga g 34), .int x1, .int x2]).length) Slot.unset).toArray = ls at hl ⊢
  have hl : lv_has ls 3 [(0, .ref (ga g 34)), (1, .int x1), (2, .int x2)] := hl
  have hS : va_S (gA g) s.heap s.heap [] := va_S.rf
  obtain ⟨hx, hb, -, -, hown, hts, -, -, hz, -⟩ := id X
  show W p l e rm_Mo_put s m _ below meth c s.heap [] 0 0 (MQ below (va_Qi k (Bw g) (gA g)) _ s 0 0 (gA g)) (F0 m 0 ls [])
  unfold p_Mo_put at h
  refine lv_iload_n hx hb d_Mo_put_0 rfl (lv_at hl 1 rfl) ?_
  refine lv_bipush (v := 17) hx hb d_Mo_put_1 (by decide) ?_
  refine lv_icmp_ne (tgt := 13) hx hb d_Mo_put_3 (by decide) (fun c1 => ?_) (fun c1 => ?_)
  · have h := h.2 c1
    refine lv_iload_n hx hb d_Mo_put_13 rfl (lv_at hl 1 rfl) ?_
    refine lv_iconst (v := 1) hx hb d_Mo_put_14 (by decide) ?_
    refine lv_icmp_le (tgt := 41) hx hb d_Mo_put_15 (by decide) (fun c2 => ?_) (fun c2 => ?_)
    · have h := h.1 c2
      exact t_Mo_put_b41 X h hP hS (lv_sub hl [] rfl)
    · have h := h.2 c2
      refine lv_iload_n hx hb d_Mo_put_18 rfl (lv_at hl 1 rfl) ?_
      refine lv_iconst (v := 3) hx hb d_Mo_put_19 (by decide) ?_
      refine lv_icmp_lt (tgt := 29) hx hb d_Mo_put_20 (by decide) (fun c3 => ?_) (fun c3 => ?_)
      · have h := h.1 c3
        exact t_Mo_put_b29 X h hP hS (lv_sub hl [1] rfl)
      · have h := h.2 c3
        refine lv_iload_n hx hb d_Mo_put_23 rfl (lv_at hl 1 rfl) ?_
        refine lv_bipush (v := 8) hx hb d_Mo_put_24 (by decide) ?_
        refine lv_icmp_le (tgt := 41) hx hb d_Mo_put_26 (by decide) (fun c4 => ?_) (fun c4 => ?_)
        · have h := h.1 c4
          exact t_Mo_put_b41 X h hP hS (lv_sub hl [] rfl)
        · have h := h.2 c4
          exact t_Mo_put_b29 X h hP hS (lv_sub hl [1] rfl)
  · have h := h.1 c1
    refine lv_aload_n hx hb d_Mo_put_6 rfl (lv_at hl 0 rfl) ?_
    refine gf_Mo_gives X hP q_447 d_Mo_put_7 ?_
    refine lv_iload_n hx hb d_Mo_put_10 rfl (lv_at hl 2 rfl) ?_
    obtain ⟨hi5, h⟩ := h
    refine rw_iald X hP isI_36 hi5 d_Mo_put_11 ?_
    exact rw_iret X hP hS h d_Mo_put_12
theorem yv_Mo_put : yV R_Mo y_Mo_put prog_10_method_8_code 3 (some .int) 2 := ⟨by decide +kernel, q_579, qp_30, q_7, q_580⟩
/-! Mo.badArgument -/
theorem d_Mo_badArgument_0 : decode prog_10_method_9_code 0 = .ok (.iconst 0, 1) := by decide +kernel
theorem d_Mo_badArgument_1 : decode prog_10_method_9_code 1 = .ok (.istore 4, 2) := by decide +kernel
theorem d_Mo_badArgument_3 : decode prog_10_method_9_code 3 = .ok (.iload_n 2, 1) := by decide +kernel
theorem d_Mo_badArgument_4 : decode prog_10_method_9_code 4 = .ok (.iconst 1, 1) := by decide +kernel
theorem d_Mo_badArgument_5 : decode prog_10_method_9_code 5 = .ok (.if_icmp .eq 8, 3) := by decide +kernel
theorem d_Mo_badArgument_8 : decode prog_10_method_9_code 8 = .ok (.iload_n 2, 1) := by decide +kernel
theorem d_Mo_badArgument_9 : decode prog_10_method_9_code 9 = .ok (.iconst 2, 1) := by decide +kernel
theorem d_Mo_badArgument_10 : decode prog_10_method_9_code 10 = .ok (.if_icmp .ne 23, 3) := by decide +kernel
theorem d_Mo_badArgument_13 : decode prog_10_method_9_code 13 = .ok (.aload_n 0, 1) := by decide +kernel
theorem d_Mo_badArgument_14 : decode prog_10_method_9_code 14 = .ok (.getfield 7, 3) := by decide +kernel
theorem d_Mo_badArgument_17 : decode prog_10_method_9_code 17 = .ok (.iload_n 1, 1) := by decide +kernel
theorem d_Mo_badArgument_18 : decode prog_10_method_9_code 18 = .ok (.iaload, 1) := by decide +kernel
theorem d_Mo_badArgument_19 : decode prog_10_method_9_code 19 = .ok (.aload_n 0, 1) := by decide +kernel
theorem d_Mo_badArgument_20 : decode prog_10_method_9_code 20 = .ok (.getfield 16, 3) := by decide +kernel
theorem d_Mo_badArgument_23 : decode prog_10_method_9_code 23 = .ok (.iload_n 1, 1) := by decide +kernel
theorem d_Mo_badArgument_24 : decode prog_10_method_9_code 24 = .ok (.iaload, 1) := by decide +kernel
theorem d_Mo_badArgument_25 : decode prog_10_method_9_code 25 = .ok (.iadd, 1) := by decide +kernel
theorem d_Mo_badArgument_26 : decode prog_10_method_9_code 26 = .ok (.iconst 1, 1) := by decide +kernel
theorem d_Mo_badArgument_27 : decode prog_10_method_9_code 27 = .ok (.isub, 1) := by decide +kernel
theorem d_Mo_badArgument_28 : decode prog_10_method_9_code 28 = .ok (.istore 4, 2) := by decide +kernel
theorem d_Mo_badArgument_30 : decode prog_10_method_9_code 30 = .ok (.goto 74, 3) := by decide +kernel
theorem d_Mo_badArgument_33 : decode prog_10_method_9_code 33 = .ok (.iload_n 2, 1) := by decide +kernel
theorem d_Mo_badArgument_34 : decode prog_10_method_9_code 34 = .ok (.bipush 15, 2) := by decide +kernel
theorem d_Mo_badArgument_36 : decode prog_10_method_9_code 36 = .ok (.if_icmp .eq 9, 3) := by decide +kernel
theorem d_Mo_badArgument_39 : decode prog_10_method_9_code 39 = .ok (.iload_n 2, 1) := by decide +kernel
theorem d_Mo_badArgument_40 : decode prog_10_method_9_code 40 = .ok (.bipush 16, 2) := by decide +kernel
theorem d_Mo_badArgument_42 : decode prog_10_method_9_code 42 = .ok (.if_icmp .ne 12, 3) := by decide +kernel
theorem d_Mo_badArgument_45 : decode prog_10_method_9_code 45 = .ok (.aload_n 0, 1) := by decide +kernel
theorem d_Mo_badArgument_46 : decode prog_10_method_9_code 46 = .ok (.getfield 77, 3) := by decide +kernel
theorem d_Mo_badArgument_49 : decode prog_10_method_9_code 49 = .ok (.istore 4, 2) := by decide +kernel
theorem d_Mo_badArgument_51 : decode prog_10_method_9_code 51 = .ok (.goto 53, 3) := by decide +kernel
theorem d_Mo_badArgument_54 : decode prog_10_method_9_code 54 = .ok (.iload_n 2, 1) := by decide +kernel
theorem d_Mo_badArgument_55 : decode prog_10_method_9_code 55 = .ok (.bipush 17, 2) := by decide +kernel
theorem d_Mo_badArgument_57 : decode prog_10_method_9_code 57 = .ok (.if_icmp .ne 14, 3) := by decide +kernel
theorem d_Mo_badArgument_60 : decode prog_10_method_9_code 60 = .ok (.aload_n 0, 1) := by decide +kernel
theorem d_Mo_badArgument_61 : decode prog_10_method_9_code 61 = .ok (.getfield 67, 3) := by decide +kernel
theorem d_Mo_badArgument_64 : decode prog_10_method_9_code 64 = .ok (.iconst 1, 1) := by decide +kernel
theorem d_Mo_badArgument_65 : decode prog_10_method_9_code 65 = .ok (.isub, 1) := by decide +kernel
theorem d_Mo_badArgument_66 : decode prog_10_method_9_code 66 = .ok (.istore 4, 2) := by decide +kernel
theorem d_Mo_badArgument_68 : decode prog_10_method_9_code 68 = .ok (.goto 36, 3) := by decide +kernel
theorem d_Mo_badArgument_71 : decode prog_10_method_9_code 71 = .ok (.iload_n 2, 1) := by decide +kernel
theorem d_Mo_badArgument_72 : decode prog_10_method_9_code 72 = .ok (.bipush 18, 2) := by decide +kernel
theorem d_Mo_badArgument_74 : decode prog_10_method_9_code 74 = .ok (.if_icmp .ne 9, 3) := by decide +kernel
theorem d_Mo_badArgument_77 : decode prog_10_method_9_code 77 = .ok (.iconst 3, 1) := by decide +kernel
theorem d_Mo_badArgument_78 : decode prog_10_method_9_code 78 = .ok (.istore 4, 2) := by decide +kernel
theorem d_Mo_badArgument_80 : decode prog_10_method_9_code 80 = .ok (.goto 24, 3) := by decide +kernel
theorem d_Mo_badArgument_83 : decode prog_10_method_9_code 83 = .ok (.iload_n 2, 1) := by decide +kernel
theorem d_Mo_badArgument_84 : decode prog_10_method_9_code 84 = .ok (.bipush 10, 2) := by decide +kernel
theorem d_Mo_badArgument_86 : decode prog_10_method_9_code 86 = .ok (.if_icmp .eq 9, 3) := by decide +kernel
theorem d_Mo_badArgument_89 : decode prog_10_method_9_code 89 = .ok (.iload_n 2, 1) := by decide +kernel
theorem d_Mo_badArgument_90 : decode prog_10_method_9_code 90 = .ok (.bipush 11, 2) := by decide +kernel
theorem d_Mo_badArgument_92 : decode prog_10_method_9_code 92 = .ok (.if_icmp .ne 10, 3) := by decide +kernel
theorem d_Mo_badArgument_95 : decode prog_10_method_9_code 95 = .ok (.bipush 31, 2) := by decide +kernel
theorem d_Mo_badArgument_97 : decode prog_10_method_9_code 97 = .ok (.istore 4, 2) := by decide +kernel
theorem d_Mo_badArgument_99 : decode prog_10_method_9_code 99 = .ok (.goto 5, 3) := by decide +kernel
theorem d_Mo_badArgument_102 : decode prog_10_method_9_code 102 = .ok (.iconst 0, 1) := by decide +kernel
theorem d_Mo_badArgument_103 : decode prog_10_method_9_code 103 = .ok (.ireturn, 1) := by decide +kernel
theorem d_Mo_badArgument_104 : decode prog_10_method_9_code 104 = .ok (.iload_n 3, 1) := by decide +kernel
theorem d_Mo_badArgument_105 : decode prog_10_method_9_code 105 = .ok (.ifCond .lt 9, 3) := by decide +kernel
theorem d_Mo_badArgument_108 : decode prog_10_method_9_code 108 = .ok (.iload_n 3, 1) := by decide +kernel
theorem d_Mo_badArgument_109 : decode prog_10_method_9_code 109 = .ok (.iload 4, 2) := by decide +kernel
theorem d_Mo_badArgument_111 : decode prog_10_method_9_code 111 = .ok (.if_icmp .le 7, 3) := by decide +kernel
theorem d_Mo_badArgument_114 : decode prog_10_method_9_code 114 = .ok (.iconst 1, 1) := by decide +kernel
theorem d_Mo_badArgument_115 : decode prog_10_method_9_code 115 = .ok (.goto 4, 3) := by decide +kernel
theorem d_Mo_badArgument_118 : decode prog_10_method_9_code 118 = .ok (.iconst 0, 1) := by decide +kernel
theorem d_Mo_badArgument_119 : decode prog_10_method_9_code 119 = .ok (.ireturn, 1) := by decide +kernel
abbrev rm_Mo_badArgument : Room := { frames := 0, cells := 0, slots := 0, locals := 0 }
def p_Mo_badArgument_b119 (k : Int32 → vS → Prop) (V : vS) (s0 : Int32) : Prop := (s0 = 0 ∨ s0 = 1) ∧ (k s0 V)
set_option maxRecDepth 100000 in
set_option maxHeartbeats 4000000 in
theorem t_Mo_badArgument_b119 {k : Int32 → vS → Prop} (X : cx g p s m meth c args R_Mo prog_10_method_9_code 5 (some .boolean)) {V : vS} {s0 : Int32} (h : p_Mo_badArgument_b119 k V s0) (hP : va_P g.1 vcl (cw g V) H) (hS : va_S (gA g) s.heap H locs) (hl : lv_has ls 5 []) : W p l e rm_Mo_badArgument s m args below meth c H locs 0 0 (MQ below (va_Qi k (Bw g) (gA g)) args s 0 0 (gA g)) (F0 m 119 ls [.int s0]) := by
  obtain ⟨hx, hb, -, -, hown, hts, -, -, hz, hG⟩ := id X
  unfold p_Mo_badArgument_b119 at h
  obtain ⟨hb1, h⟩ := h
  exact rw_zret X hP hS hb1 h d_Mo_badArgument_119
def p_Mo_badArgument_b114 (k : Int32 → vS → Prop) (V : vS) : Prop := p_Mo_badArgument_b119 k V 1
set_option maxRecDepth 100000 in
set_option maxHeartbeats 4000000 in
theorem t_Mo_badArgument_b114 {k : Int32 → vS → Prop} (X : cx g p s m meth c args R_Mo prog_10_method_9_code 5 (some .boolean)) {V : vS} (h : p_Mo_badArgument_b114 k V) (hP : va_P g.1 vcl (cw g V) H) (hS : va_S (gA g) s.heap H locs) (hl : lv_has ls 5 []) : W p l e rm_Mo_badArgument s m args below meth c H locs 0 0 (MQ below (va_Qi k (Bw g) (gA g)) args s 0 0 (gA g)) (F0 m 114 ls []) := by
  obtain ⟨hx, hb, -, -, hown, hts, -, -, hz, hG⟩ := id X
  unfold p_Mo_badArgument_b114 at h
  refine lv_iconst (v := 1) hx hb d_Mo_badArgument_114 (by decide) ?_
  refine lv_goto (tgt := 119) hx hb d_Mo_badArgument_115 (by decide) ?_
  exact t_Mo_badArgument_b119 X h hP hS (lv_sub hl [] rfl)
def p_Mo_badArgument_b104 (k : Int32 → vS → Prop) (V : vS) (x3 : Int32) (x4 : Int32) : Prop := (x3 < 0 → (p_Mo_badArgument_b114 k V)) ∧ (¬ x3 < 0 → ((x3 ≤ x4 → (p_Mo_badArgument_b119 k V 0)) ∧ (¬ x3 ≤ x4 → (p_Mo_badArgument_b114 k V))))
set_option maxRecDepth 100000 in
set_option maxHeartbeats 4000000 in
theorem t_Mo_badArgument_b104 {k : Int32 → vS → Prop} (X : cx g p s m meth c args R_Mo prog_10_method_9_code 5 (some .boolean)) {V : vS} {x3 : Int32} {x4 : Int32} (h : p_Mo_badArgument_b104 k V x3 x4) (hP : va_P g.1 vcl (cw g V) H) (hS : va_S (gA g) s.heap H locs) (hl : lv_has ls 5 [(3, .int x3), (4, .int x4)]) : W p l e rm_Mo_badArgument s m args below meth c H locs 0 0 (MQ below (va_Qi k (Bw g) (gA g)) args s 0 0 (gA g)) (F0 m 104 ls []) := by
  obtain ⟨hx, hb, -, -, hown, hts, -, -, hz, hG⟩ := id X
  unfold p_Mo_badArgument_b104 at h
  refine lv_iload_n hx hb d_Mo_badArgument_104 rfl (lv_at hl 0 rfl) ?_
  refine lv_if_lt (tgt := 114) hx hb d_Mo_badArgument_105 (by decide) (fun c1 => ?_) (fun c1 => ?_)
  · have h := h.1 c1
    exact t_Mo_badArgument_b114 X h hP hS (lv_sub hl [] rfl)
  · have h := h.2 c1
    refine lv_iload_n hx hb d_Mo_badArgument_108 rfl (lv_at hl 0 rfl) ?_
    refine lv_iload hx hb d_Mo_badArgument_109 (lv_at hl 1 rfl) ?_
    refine lv_icmp_le (tgt := 118) hx hb d_Mo_badArgument_111 (by decide) (fun c2 => ?_) (fun c2 => ?_)
    · have h := h.1 c2
      refine lv_iconst (v := 0) hx hb d_Mo_badArgument_118 (by decide) ?_
      exact t_Mo_badArgument_b119 X h hP hS (lv_sub hl [] rfl)
    · have h := h.2 c2
      exact t_Mo_badArgument_b114 X h hP hS (lv_sub hl [] rfl)
def p_Mo_badArgument_b13 (k : Int32 → vS → Prop) (V : vS) (x1 : Int32) (x3 : Int32) : Prop := vp_in x1 4 ∧ (vp_in x1 4 ∧ (∀ y3 : Int32, y3 = ((V.1 35 (nt x1)) + (V.1 37 (nt x1))) - 1 → (p_Mo_badArgument_b104 k V x3 y3)))
set_option maxRecDepth 100000 in
set_option maxHeartbeats 4000000 in
theorem t_Mo_badArgument_b13 {k : Int32 → vS → Prop} (X : cx g p s m meth c args R_Mo prog_10_method_9_code 5 (some .boolean)) {V : vS} {x1 : Int32} {x3 : Int32} (h : p_Mo_badArgument_b13 k V x1 x3) (hP : va_P g.1 vcl (cw g V) H) (hS : va_S (gA g) s.heap H locs) (hl : lv_has ls 5 [(0, .ref (ga g 34)), (1, .int x1), (3, .int x3)]) : W p l e rm_Mo_badArgument s m args below meth c H locs 0 0 (MQ below (va_Qi k (Bw g) (gA g)) args s 0 0 (gA g)) (F0 m 13 ls []) := by
  obtain ⟨hx, hb, -, -, hown, hts, -, -, hz, hG⟩ := id X
  unfold p_Mo_badArgument_b13 at h
  refine lv_aload_n hx hb d_Mo_badArgument_13 rfl (lv_at hl 0 rfl) ?_
  refine gf_Mo_takes X hP q_446 d_Mo_badArgument_14 ?_
  refine lv_iload_n hx hb d_Mo_badArgument_17 rfl (lv_at hl 1 rfl) ?_
  obtain ⟨hi1, h⟩ := h
  refine rw_iald X hP isI_35 hi1 d_Mo_badArgument_18 ?_
  refine lv_aload_n hx hb d_Mo_badArgument_19 rfl (lv_at hl 0 rfl) ?_
  refine gf_Mo_more X hP q_448 d_Mo_badArgument_20 ?_
  refine lv_iload_n hx hb d_Mo_badArgument_23 rfl (lv_at hl 1 rfl) ?_
  obtain ⟨hi2, h⟩ := h
  refine rw_iald X hP isI_37 hi2 d_Mo_badArgument_24 ?_
  refine lv_iadd hx hb d_Mo_badArgument_25 ?_
  refine lv_iconst (v := 1) hx hb d_Mo_badArgument_26 (by decide) ?_
  refine lv_isub hx hb d_Mo_badArgument_27 ?_
  refine lv_topi (fun y3 ey3 => ?_)
  have h := h y3 ey3
  refine lv_istore (lv' := [(4, .int y3), (0, .ref (ga g 34)), (1, .int x1), (3, .int x3)]) hx hb d_Mo_badArgument_28 hl (by decide) rfl (fun ls hl => ?_)
  refine lv_goto (tgt := 104) hx hb d_Mo_badArgument_30 (by decide) ?_
  exact t_Mo_badArgument_b104 X h hP hS (lv_sub hl [3, 0] rfl)
def p_Mo_badArgument_b45 (k : Int32 → vS → Prop) (V : vS) (x3 : Int32) : Prop := ∀ y1 : Int32, y1 = V.1 34 11 → (p_Mo_badArgument_b104 k V x3 y1)
set_option maxRecDepth 100000 in
set_option maxHeartbeats 4000000 in
theorem t_Mo_badArgument_b45 {k : Int32 → vS → Prop} (X : cx g p s m meth c args R_Mo prog_10_method_9_code 5 (some .boolean)) {V : vS} {x3 : Int32} (h : p_Mo_badArgument_b45 k V x3) (hP : va_P g.1 vcl (cw g V) H) (hS : va_S (gA g) s.heap H locs) (hl : lv_has ls 5 [(0, .ref (ga g 34)), (3, .int x3)]) : W p l e rm_Mo_badArgument s m args below meth c H locs 0 0 (MQ below (va_Qi k (Bw g) (gA g)) args s 0 0 (gA g)) (F0 m 45 ls []) := by
  obtain ⟨hx, hb, -, -, hown, hts, -, -, hz, hG⟩ := id X
  unfold p_Mo_badArgument_b45 at h
  refine lv_aload_n hx hb d_Mo_badArgument_45 rfl (lv_at hl 0 rfl) ?_
  refine gf_Mo_open X hP q_457 d_Mo_badArgument_46 ?_
  refine lv_topi (fun y1 ey1 => ?_)
  have h := h y1 ey1
  refine lv_istore (lv' := [(4, .int y1), (0, .ref (ga g 34)), (3, .int x3)]) hx hb d_Mo_badArgument_49 hl (by decide) rfl (fun ls hl => ?_)
  refine lv_goto (tgt := 104) hx hb d_Mo_badArgument_51 (by decide) ?_
  exact t_Mo_badArgument_b104 X h hP hS (lv_sub hl [2, 0] rfl)
def p_Mo_badArgument_b95 (k : Int32 → vS → Prop) (V : vS) (x3 : Int32) : Prop := p_Mo_badArgument_b104 k V x3 31
set_option maxRecDepth 100000 in
set_option maxHeartbeats 4000000 in
theorem t_Mo_badArgument_b95 {k : Int32 → vS → Prop} (X : cx g p s m meth c args R_Mo prog_10_method_9_code 5 (some .boolean)) {V : vS} {x3 : Int32} (h : p_Mo_badArgument_b95 k V x3) (hP : va_P g.1 vcl (cw g V) H) (hS : va_S (gA g) s.heap H locs) (hl : lv_has ls 5 [(3, .int x3)]) : W p l e rm_Mo_badArgument s m args below meth c H locs 0 0 (MQ below (va_Qi k (Bw g) (gA g)) args s 0 0 (gA g)) (F0 m 95 ls []) := by
  obtain ⟨hx, hb, -, -, hown, hts, -, -, hz, hG⟩ := id X
  unfold p_Mo_badArgument_b95 at h
  refine lv_bipush (v := 31) hx hb d_Mo_badArgument_95 (by decide) ?_
  refine lv_istore (lv' := [(4, .int 31), (3, .int x3)]) hx hb d_Mo_badArgument_97 hl (by decide) rfl (fun ls hl => ?_)
  refine lv_goto (tgt := 104) hx hb d_Mo_badArgument_99 (by decide) ?_
  exact t_Mo_badArgument_b104 X h hP hS (lv_sub hl [1, 0] rfl)
def p_Mo_badArgument (k : Int32 → vS → Prop) (V : vS) (x1 : Int32) (x2 : Int32) (x3 : Int32) : Prop := (x2 = 1 → (p_Mo_badArgument_b13 k V x1 x3)) ∧ (¬ x2 = 1 → ((x2 = 2 → (p_Mo_badArgument_b13 k V x1 x3)) ∧ (¬ x2 = 2 → ((x2 = 15 → (p_Mo_badArgument_b45 k V x3)) ∧ (¬ x2 = 15 → ((x2 = 16 → (p_Mo_badArgument_b45 k V x3)) ∧ (¬ x2 = 16 → ((x2 = 17 → (∀ y9 : Int32, y9 = (V.1 34 6) - 1 → (p_Mo_badArgument_b104 k V x3 y9))) ∧ (¬ x2 = 17 → ((x2 = 18 → (p_Mo_badArgument_b104 k V x3 3)) ∧ (¬ x2 = 18 → ((x2 = 10 → (p_Mo_badArgument_b95 k V x3)) ∧ (¬ x2 = 10 → ((x2 = 11 → (p_Mo_badArgument_b95 k V x3)) ∧ (¬ x2 = 11 → (k 0 V))))))))))))))))
set_option maxRecDepth 100000 in
set_option maxHeartbeats 4000000 in
theorem c_Mo_badArgument {l : Launch} {g : gT} (hG : gd g) {V : vS} {x1 : Int32} {x2 : Int32} {x3 : Int32} {k : Int32 → vS → Prop} (h : p_Mo_badArgument k V x1 x2 x3) : Ci g l y_Mo_badArgument prog_10_method_9_code 5 (some .boolean) rm_Mo_badArgument [.ref (ga g 34), .int x1, .int x2, .int x3] V k := by
  unfold Ci
  refine Met.ofW (cc := prog_10_method_9_code) (maxL := 5) (ret := some .boolean) (by decide) rfl ?_
  intro p e s m args below meth c s₁ B hml hv
  obtain ⟨rfl, hP, hK, hZ⟩ := hv
  have X : cx g p s m meth c [.ref (ga g 34), .int x1, .int x2, .int x3].toArray R_Mo prog_10_method_9_code 5 (some .boolean) := ⟨B.exec, B.bytes, B.returns, hml, findClass_of_methodNamed B.named, fun w hw => atoms_spec (ws := Cond.code y_Mo_badArgument prog_10_method_9_code 5 (some .boolean) :: TBL) B.pre w (List.mem_cons_of_mem _ hw), B.notSynchronized, hK, hZ, hG⟩
  have hl := lv_entry [.ref (ga g 34), .int x1, .int x2, .int x3] (n := 5) (Nat.le_of_ble_eq_true rfl)
  rw [lg_entry_eq]
  generalize (lg_sl [.ref (ga g 34), .int x1, .int x2, .int x3] ++ List.replicate (5 - (lg_sl [.ref (ga g 34), .int x1, .int x2, .int x3]).length) Slot.unset).toArray = ls at hl ⊢
  have hl : lv_has ls 5 [(0, .ref (ga g 34)), (1, .int x1), (2, .int x2), (3, .int x3)] := hl
  have hS : va_S (gA g) s.heap s.heap [] := va_S.rf
  obtain ⟨hx, hb, -, -, hown, hts, -, -, hz, -⟩ := id X
  show W p l e rm_Mo_badArgument s m _ below meth c s.heap [] 0 0 (MQ below (va_Qi k (Bw g) (gA g)) _ s 0 0 (gA g)) (F0 m 0 ls [])
  unfold p_Mo_badArgument at h
  refine lv_iconst (v := 0) hx hb d_Mo_badArgument_0 (by decide) ?_
  refine lv_istore (lv' := [(4, .int 0), (0, .ref (ga g 34)), (1, .int x1), (2, .int x2), (3, .int x3)]) hx hb d_Mo_badArgument_1 hl (by decide) rfl (fun ls hl => ?_)
  refine lv_iload_n hx hb d_Mo_badArgument_3 rfl (lv_at hl 3 rfl) ?_
  refine lv_iconst (v := 1) hx hb d_Mo_badArgument_4 (by decide) ?_
  refine lv_icmp_eq (tgt := 13) hx hb d_Mo_badArgument_5 (by decide) (fun c1 => ?_) (fun c1 => ?_)
  · have h := h.1 c1
    exact t_Mo_badArgument_b13 X h hP hS (lv_sub hl [1, 2, 4] rfl)
  · have h := h.2 c1
    refine lv_iload_n hx hb d_Mo_badArgument_8 rfl (lv_at hl 3 rfl) ?_
    refine lv_iconst (v := 2) hx hb d_Mo_badArgument_9 (by decide) ?_
    refine lv_icmp_ne (tgt := 33) hx hb d_Mo_badArgument_10 (by decide) (fun c2 => ?_) (fun c2 => ?_)
    · have h := h.2 c2
      refine lv_iload_n hx hb d_Mo_badArgument_33 rfl (lv_at hl 3 rfl) ?_
      refine lv_bipush (v := 15) hx hb d_Mo_badArgument_34 (by decide) ?_
      refine lv_icmp_eq (tgt := 45) hx hb d_Mo_badArgument_36 (by decide) (fun c3 => ?_) (fun c3 => ?_)
      · have h := h.1 c3
        exact t_Mo_badArgument_b45 X h hP hS (lv_sub hl [1, 4] rfl)
      · have h := h.2 c3
        refine lv_iload_n hx hb d_Mo_badArgument_39 rfl (lv_at hl 3 rfl) ?_
        refine lv_bipush (v := 16) hx hb d_Mo_badArgument_40 (by decide) ?_
        refine lv_icmp_ne (tgt := 54) hx hb d_Mo_badArgument_42 (by decide) (fun c4 => ?_) (fun c4 => ?_)
        · have h := h.2 c4
          refine lv_iload_n hx hb d_Mo_badArgument_54 rfl (lv_at hl 3 rfl) ?_
          refine lv_bipush (v := 17) hx hb d_Mo_badArgument_55 (by decide) ?_
          refine lv_icmp_ne (tgt := 71) hx hb d_Mo_badArgument_57 (by decide) (fun c5 => ?_) (fun c5 => ?_)
          · have h := h.2 c5
            refine lv_iload_n hx hb d_Mo_badArgument_71 rfl (lv_at hl 3 rfl) ?_
            refine lv_bipush (v := 18) hx hb d_Mo_badArgument_72 (by decide) ?_
            refine lv_icmp_ne (tgt := 83) hx hb d_Mo_badArgument_74 (by decide) (fun c6 => ?_) (fun c6 => ?_)
            · have h := h.2 c6
              refine lv_iload_n hx hb d_Mo_badArgument_83 rfl (lv_at hl 3 rfl) ?_
              refine lv_bipush (v := 10) hx hb d_Mo_badArgument_84 (by decide) ?_
              refine lv_icmp_eq (tgt := 95) hx hb d_Mo_badArgument_86 (by decide) (fun c7 => ?_) (fun c7 => ?_)
              · have h := h.1 c7
                exact t_Mo_badArgument_b95 X h hP hS (lv_sub hl [4] rfl)
              · have h := h.2 c7
                refine lv_iload_n hx hb d_Mo_badArgument_89 rfl (lv_at hl 3 rfl) ?_
                refine lv_bipush (v := 11) hx hb d_Mo_badArgument_90 (by decide) ?_
                refine lv_icmp_ne (tgt := 102) hx hb d_Mo_badArgument_92 (by decide) (fun c8 => ?_) (fun c8 => ?_)
                · have h := h.2 c8
                  refine lv_iconst (v := 0) hx hb d_Mo_badArgument_102 (by decide) ?_
                  exact rw_zret X hP hS (by decide) h d_Mo_badArgument_103
                · have h := h.1 c8
                  exact t_Mo_badArgument_b95 X h hP hS (lv_sub hl [4] rfl)
            · have h := h.1 c6
              refine lv_iconst (v := 3) hx hb d_Mo_badArgument_77 (by decide) ?_
              refine lv_istore (lv' := [(4, .int 3), (0, .ref (ga g 34)), (1, .int x1), (2, .int x2), (3, .int x3)]) hx hb d_Mo_badArgument_78 hl (by decide) rfl (fun ls hl => ?_)
              refine lv_goto (tgt := 104) hx hb d_Mo_badArgument_80 (by decide) ?_
              exact t_Mo_badArgument_b104 X h hP hS (lv_sub hl [4, 0] rfl)
          · have h := h.1 c5
            refine lv_aload_n hx hb d_Mo_badArgument_60 rfl (lv_at hl 1 rfl) ?_
            refine gf_Mo_functions X hP q_452 d_Mo_badArgument_61 ?_
            refine lv_iconst (v := 1) hx hb d_Mo_badArgument_64 (by decide) ?_
            refine lv_isub hx hb d_Mo_badArgument_65 ?_
            refine lv_topi (fun y9 ey9 => ?_)
            have h := h y9 ey9
            refine lv_istore (lv' := [(4, .int y9), (0, .ref (ga g 34)), (1, .int x1), (2, .int x2), (3, .int x3)]) hx hb d_Mo_badArgument_66 hl (by decide) rfl (fun ls hl => ?_)
            refine lv_goto (tgt := 104) hx hb d_Mo_badArgument_68 (by decide) ?_
            exact t_Mo_badArgument_b104 X h hP hS (lv_sub hl [4, 0] rfl)
        · have h := h.1 c4
          exact t_Mo_badArgument_b45 X h hP hS (lv_sub hl [1, 4] rfl)
    · have h := h.1 c2
      exact t_Mo_badArgument_b13 X h hP hS (lv_sub hl [1, 2, 4] rfl)
theorem yv_Mo_badArgument : yV R_Mo y_Mo_badArgument prog_10_method_9_code 5 (some .boolean) 3 := ⟨by decide +kernel, q_571, qp_28, q_7, q_572⟩
/-! Mo.examine -/
theorem d_Mo_examine_0 : decode prog_10_method_10_code 0 = .ok (.aload_n 0, 1) := by decide +kernel
theorem d_Mo_examine_1 : decode prog_10_method_10_code 1 = .ok (.getfield 22, 3) := by decide +kernel
theorem d_Mo_examine_4 : decode prog_10_method_10_code 4 = .ok (.iload_n 1, 1) := by decide +kernel
theorem d_Mo_examine_5 : decode prog_10_method_10_code 5 = .ok (.bipush 24, 2) := by decide +kernel
theorem d_Mo_examine_7 : decode prog_10_method_10_code 7 = .ok (.imul, 1) := by decide +kernel
theorem d_Mo_examine_8 : decode prog_10_method_10_code 8 = .ok (.iload_n 2, 1) := by decide +kernel
theorem d_Mo_examine_9 : decode prog_10_method_10_code 9 = .ok (.iadd, 1) := by decide +kernel
theorem d_Mo_examine_10 : decode prog_10_method_10_code 10 = .ok (.iaload, 1) := by decide +kernel
theorem d_Mo_examine_11 : decode prog_10_method_10_code 11 = .ok (.istore_n 3, 1) := by decide +kernel
theorem d_Mo_examine_12 : decode prog_10_method_10_code 12 = .ok (.aload_n 0, 1) := by decide +kernel
theorem d_Mo_examine_13 : decode prog_10_method_10_code 13 = .ok (.getfield 25, 3) := by decide +kernel
theorem d_Mo_examine_16 : decode prog_10_method_10_code 16 = .ok (.iload_n 1, 1) := by decide +kernel
theorem d_Mo_examine_17 : decode prog_10_method_10_code 17 = .ok (.bipush 24, 2) := by decide +kernel
theorem d_Mo_examine_19 : decode prog_10_method_10_code 19 = .ok (.imul, 1) := by decide +kernel
theorem d_Mo_examine_20 : decode prog_10_method_10_code 20 = .ok (.iload_n 2, 1) := by decide +kernel
theorem d_Mo_examine_21 : decode prog_10_method_10_code 21 = .ok (.iadd, 1) := by decide +kernel
theorem d_Mo_examine_22 : decode prog_10_method_10_code 22 = .ok (.iaload, 1) := by decide +kernel
theorem d_Mo_examine_23 : decode prog_10_method_10_code 23 = .ok (.istore 4, 2) := by decide +kernel
theorem d_Mo_examine_25 : decode prog_10_method_10_code 25 = .ok (.aload_n 0, 1) := by decide +kernel
theorem d_Mo_examine_26 : decode prog_10_method_10_code 26 = .ok (.getfield 80, 3) := by decide +kernel
theorem d_Mo_examine_29 : decode prog_10_method_10_code 29 = .ok (.ifCond .eq 11, 3) := by decide +kernel
theorem d_Mo_examine_32 : decode prog_10_method_10_code 32 = .ok (.iload_n 3, 1) := by decide +kernel
theorem d_Mo_examine_33 : decode prog_10_method_10_code 33 = .ok (.bipush 14, 2) := by decide +kernel
theorem d_Mo_examine_35 : decode prog_10_method_10_code 35 = .ok (.if_icmp .eq 5, 3) := by decide +kernel
theorem d_Mo_examine_38 : decode prog_10_method_10_code 38 = .ok (.iconst 5, 1) := by decide +kernel
theorem d_Mo_examine_39 : decode prog_10_method_10_code 39 = .ok (.ireturn, 1) := by decide +kernel
theorem d_Mo_examine_40 : decode prog_10_method_10_code 40 = .ok (.aload_n 0, 1) := by decide +kernel
theorem d_Mo_examine_41 : decode prog_10_method_10_code 41 = .ok (.iload_n 1, 1) := by decide +kernel
theorem d_Mo_examine_42 : decode prog_10_method_10_code 42 = .ok (.iload_n 3, 1) := by decide +kernel
theorem d_Mo_examine_43 : decode prog_10_method_10_code 43 = .ok (.iload 4, 2) := by decide +kernel
theorem d_Mo_examine_45 : decode prog_10_method_10_code 45 = .ok (.invokevirtual 83, 3) := by decide +kernel
theorem d_Mo_examine_48 : decode prog_10_method_10_code 48 = .ok (.ifCond .eq 5, 3) := by decide +kernel
theorem d_Mo_examine_51 : decode prog_10_method_10_code 51 = .ok (.iconst 1, 1) := by decide +kernel
theorem d_Mo_examine_52 : decode prog_10_method_10_code 52 = .ok (.ireturn, 1) := by decide +kernel
theorem d_Mo_examine_53 : decode prog_10_method_10_code 53 = .ok (.aload_n 0, 1) := by decide +kernel
theorem d_Mo_examine_54 : decode prog_10_method_10_code 54 = .ok (.getfield 77, 3) := by decide +kernel
theorem d_Mo_examine_57 : decode prog_10_method_10_code 57 = .ok (.ifCond .ne 7, 3) := by decide +kernel
theorem d_Mo_examine_60 : decode prog_10_method_10_code 60 = .ok (.iconst 0, 1) := by decide +kernel
theorem d_Mo_examine_61 : decode prog_10_method_10_code 61 = .ok (.goto 14, 3) := by decide +kernel
theorem d_Mo_examine_64 : decode prog_10_method_10_code 64 = .ok (.aload_n 0, 1) := by decide +kernel
theorem d_Mo_examine_65 : decode prog_10_method_10_code 65 = .ok (.getfield 31, 3) := by decide +kernel
theorem d_Mo_examine_68 : decode prog_10_method_10_code 68 = .ok (.aload_n 0, 1) := by decide +kernel
theorem d_Mo_examine_69 : decode prog_10_method_10_code 69 = .ok (.getfield 77, 3) := by decide +kernel
theorem d_Mo_examine_72 : decode prog_10_method_10_code 72 = .ok (.iconst 1, 1) := by decide +kernel
theorem d_Mo_examine_73 : decode prog_10_method_10_code 73 = .ok (.isub, 1) := by decide +kernel
theorem d_Mo_examine_74 : decode prog_10_method_10_code 74 = .ok (.iaload, 1) := by decide +kernel
theorem d_Mo_examine_75 : decode prog_10_method_10_code 75 = .ok (.istore 5, 2) := by decide +kernel
theorem d_Mo_examine_77 : decode prog_10_method_10_code 77 = .ok (.aload_n 0, 1) := by decide +kernel
theorem d_Mo_examine_78 : decode prog_10_method_10_code 78 = .ok (.iload_n 3, 1) := by decide +kernel
theorem d_Mo_examine_79 : decode prog_10_method_10_code 79 = .ok (.iload 4, 2) := by decide +kernel
theorem d_Mo_examine_81 : decode prog_10_method_10_code 81 = .ok (.invokevirtual 87, 3) := by decide +kernel
theorem d_Mo_examine_84 : decode prog_10_method_10_code 84 = .ok (.aload_n 0, 1) := by decide +kernel
theorem d_Mo_examine_85 : decode prog_10_method_10_code 85 = .ok (.getfield 91, 3) := by decide +kernel
theorem d_Mo_examine_88 : decode prog_10_method_10_code 88 = .ok (.iload 5, 2) := by decide +kernel
theorem d_Mo_examine_90 : decode prog_10_method_10_code 90 = .ok (.isub, 1) := by decide +kernel
theorem d_Mo_examine_91 : decode prog_10_method_10_code 91 = .ok (.if_icmp .le 5, 3) := by decide +kernel
theorem d_Mo_examine_94 : decode prog_10_method_10_code 94 = .ok (.iconst 2, 1) := by decide +kernel
theorem d_Mo_examine_95 : decode prog_10_method_10_code 95 = .ok (.ireturn, 1) := by decide +kernel
theorem d_Mo_examine_96 : decode prog_10_method_10_code 96 = .ok (.iload_n 3, 1) := by decide +kernel
theorem d_Mo_examine_97 : decode prog_10_method_10_code 97 = .ok (.bipush 14, 2) := by decide +kernel
theorem d_Mo_examine_99 : decode prog_10_method_10_code 99 = .ok (.if_icmp .ne 51, 3) := by decide +kernel
theorem d_Mo_examine_102 : decode prog_10_method_10_code 102 = .ok (.aload_n 0, 1) := by decide +kernel
theorem d_Mo_examine_103 : decode prog_10_method_10_code 103 = .ok (.getfield 77, 3) := by decide +kernel
theorem d_Mo_examine_106 : decode prog_10_method_10_code 106 = .ok (.ifCond .eq 19, 3) := by decide +kernel
theorem d_Mo_examine_109 : decode prog_10_method_10_code 109 = .ok (.aload_n 0, 1) := by decide +kernel
theorem d_Mo_examine_110 : decode prog_10_method_10_code 110 = .ok (.getfield 80, 3) := by decide +kernel
theorem d_Mo_examine_113 : decode prog_10_method_10_code 113 = .ok (.ifCond .ne 14, 3) := by decide +kernel
theorem d_Mo_examine_116 : decode prog_10_method_10_code 116 = .ok (.aload_n 0, 1) := by decide +kernel
theorem d_Mo_examine_117 : decode prog_10_method_10_code 117 = .ok (.getfield 91, 3) := by decide +kernel
theorem d_Mo_examine_120 : decode prog_10_method_10_code 120 = .ok (.iload 5, 2) := by decide +kernel
theorem d_Mo_examine_122 : decode prog_10_method_10_code 122 = .ok (.if_icmp .eq 5, 3) := by decide +kernel
theorem d_Mo_examine_125 : decode prog_10_method_10_code 125 = .ok (.iconst 3, 1) := by decide +kernel
theorem d_Mo_examine_126 : decode prog_10_method_10_code 126 = .ok (.ireturn, 1) := by decide +kernel
theorem d_Mo_examine_127 : decode prog_10_method_10_code 127 = .ok (.aload_n 0, 1) := by decide +kernel
theorem d_Mo_examine_128 : decode prog_10_method_10_code 128 = .ok (.iload 5, 2) := by decide +kernel
theorem d_Mo_examine_130 : decode prog_10_method_10_code 130 = .ok (.putfield 91, 3) := by decide +kernel
theorem d_Mo_examine_133 : decode prog_10_method_10_code 133 = .ok (.aload_n 0, 1) := by decide +kernel
theorem d_Mo_examine_134 : decode prog_10_method_10_code 134 = .ok (.dup, 1) := by decide +kernel
theorem d_Mo_examine_135 : decode prog_10_method_10_code 135 = .ok (.getfield 77, 3) := by decide +kernel
theorem d_Mo_examine_138 : decode prog_10_method_10_code 138 = .ok (.iconst 1, 1) := by decide +kernel
theorem d_Mo_examine_139 : decode prog_10_method_10_code 139 = .ok (.isub, 1) := by decide +kernel
theorem d_Mo_examine_140 : decode prog_10_method_10_code 140 = .ok (.putfield 77, 3) := by decide +kernel
theorem d_Mo_examine_143 : decode prog_10_method_10_code 143 = .ok (.aload_n 0, 1) := by decide +kernel
theorem d_Mo_examine_144 : decode prog_10_method_10_code 144 = .ok (.iconst 0, 1) := by decide +kernel
theorem d_Mo_examine_145 : decode prog_10_method_10_code 145 = .ok (.putfield 80, 3) := by decide +kernel
theorem d_Mo_examine_148 : decode prog_10_method_10_code 148 = .ok (.iconst 0, 1) := by decide +kernel
theorem d_Mo_examine_149 : decode prog_10_method_10_code 149 = .ok (.ireturn, 1) := by decide +kernel
theorem d_Mo_examine_150 : decode prog_10_method_10_code 150 = .ok (.aload_n 0, 1) := by decide +kernel
theorem d_Mo_examine_151 : decode prog_10_method_10_code 151 = .ok (.dup, 1) := by decide +kernel
theorem d_Mo_examine_152 : decode prog_10_method_10_code 152 = .ok (.getfield 91, 3) := by decide +kernel
theorem d_Mo_examine_155 : decode prog_10_method_10_code 155 = .ok (.aload_n 0, 1) := by decide +kernel
theorem d_Mo_examine_156 : decode prog_10_method_10_code 156 = .ok (.iload_n 3, 1) := by decide +kernel
theorem d_Mo_examine_157 : decode prog_10_method_10_code 157 = .ok (.iload 4, 2) := by decide +kernel
theorem d_Mo_examine_159 : decode prog_10_method_10_code 159 = .ok (.invokevirtual 87, 3) := by decide +kernel
theorem d_Mo_examine_162 : decode prog_10_method_10_code 162 = .ok (.isub, 1) := by decide +kernel
theorem d_Mo_examine_163 : decode prog_10_method_10_code 163 = .ok (.putfield 91, 3) := by decide +kernel
theorem d_Mo_examine_166 : decode prog_10_method_10_code 166 = .ok (.iload_n 3, 1) := by decide +kernel
theorem d_Mo_examine_167 : decode prog_10_method_10_code 167 = .ok (.bipush 15, 2) := by decide +kernel
theorem d_Mo_examine_169 : decode prog_10_method_10_code 169 = .ok (.if_icmp .eq 9, 3) := by decide +kernel
theorem d_Mo_examine_172 : decode prog_10_method_10_code 172 = .ok (.iload_n 3, 1) := by decide +kernel
theorem d_Mo_examine_173 : decode prog_10_method_10_code 173 = .ok (.bipush 16, 2) := by decide +kernel
theorem d_Mo_examine_175 : decode prog_10_method_10_code 175 = .ok (.if_icmp .ne 48, 3) := by decide +kernel
theorem d_Mo_examine_178 : decode prog_10_method_10_code 178 = .ok (.iload 4, 2) := by decide +kernel
theorem d_Mo_examine_180 : decode prog_10_method_10_code 180 = .ok (.aload_n 0, 1) := by decide +kernel
theorem d_Mo_examine_181 : decode prog_10_method_10_code 181 = .ok (.getfield 77, 3) := by decide +kernel
theorem d_Mo_examine_184 : decode prog_10_method_10_code 184 = .ok (.if_icmp .ne 12, 3) := by decide +kernel
theorem d_Mo_examine_187 : decode prog_10_method_10_code 187 = .ok (.aload_n 0, 1) := by decide +kernel
theorem d_Mo_examine_188 : decode prog_10_method_10_code 188 = .ok (.getfield 13, 3) := by decide +kernel
theorem d_Mo_examine_191 : decode prog_10_method_10_code 191 = .ok (.iload_n 1, 1) := by decide +kernel
theorem d_Mo_examine_192 : decode prog_10_method_10_code 192 = .ok (.iaload, 1) := by decide +kernel
theorem d_Mo_examine_193 : decode prog_10_method_10_code 193 = .ok (.goto 17, 3) := by decide +kernel
theorem d_Mo_examine_196 : decode prog_10_method_10_code 196 = .ok (.aload_n 0, 1) := by decide +kernel
theorem d_Mo_examine_197 : decode prog_10_method_10_code 197 = .ok (.getfield 31, 3) := by decide +kernel
theorem d_Mo_examine_200 : decode prog_10_method_10_code 200 = .ok (.aload_n 0, 1) := by decide +kernel
theorem d_Mo_examine_201 : decode prog_10_method_10_code 201 = .ok (.getfield 77, 3) := by decide +kernel
theorem d_Mo_examine_204 : decode prog_10_method_10_code 204 = .ok (.iconst 1, 1) := by decide +kernel
theorem d_Mo_examine_205 : decode prog_10_method_10_code 205 = .ok (.isub, 1) := by decide +kernel
theorem d_Mo_examine_206 : decode prog_10_method_10_code 206 = .ok (.iload 4, 2) := by decide +kernel
theorem d_Mo_examine_208 : decode prog_10_method_10_code 208 = .ok (.isub, 1) := by decide +kernel
theorem d_Mo_examine_209 : decode prog_10_method_10_code 209 = .ok (.iaload, 1) := by decide +kernel
theorem d_Mo_examine_210 : decode prog_10_method_10_code 210 = .ok (.istore 6, 2) := by decide +kernel
theorem d_Mo_examine_212 : decode prog_10_method_10_code 212 = .ok (.aload_n 0, 1) := by decide +kernel
theorem d_Mo_examine_213 : decode prog_10_method_10_code 213 = .ok (.getfield 91, 3) := by decide +kernel
theorem d_Mo_examine_216 : decode prog_10_method_10_code 216 = .ok (.iload 6, 2) := by decide +kernel
theorem d_Mo_examine_218 : decode prog_10_method_10_code 218 = .ok (.if_icmp .eq 5, 3) := by decide +kernel
theorem d_Mo_examine_221 : decode prog_10_method_10_code 221 = .ok (.iconst 4, 1) := by decide +kernel
theorem d_Mo_examine_222 : decode prog_10_method_10_code 222 = .ok (.ireturn, 1) := by decide +kernel
theorem d_Mo_examine_223 : decode prog_10_method_10_code 223 = .ok (.iload_n 3, 1) := by decide +kernel
theorem d_Mo_examine_224 : decode prog_10_method_10_code 224 = .ok (.bipush 19, 2) := by decide +kernel
theorem d_Mo_examine_226 : decode prog_10_method_10_code 226 = .ok (.if_icmp .ne 18, 3) := by decide +kernel
theorem d_Mo_examine_229 : decode prog_10_method_10_code 229 = .ok (.aload_n 0, 1) := by decide +kernel
theorem d_Mo_examine_230 : decode prog_10_method_10_code 230 = .ok (.getfield 91, 3) := by decide +kernel
theorem d_Mo_examine_233 : decode prog_10_method_10_code 233 = .ok (.aload_n 0, 1) := by decide +kernel
theorem d_Mo_examine_234 : decode prog_10_method_10_code 234 = .ok (.getfield 13, 3) := by decide +kernel
theorem d_Mo_examine_237 : decode prog_10_method_10_code 237 = .ok (.iload_n 1, 1) := by decide +kernel
theorem d_Mo_examine_238 : decode prog_10_method_10_code 238 = .ok (.iaload, 1) := by decide +kernel
theorem d_Mo_examine_239 : decode prog_10_method_10_code 239 = .ok (.if_icmp .eq 5, 3) := by decide +kernel
theorem d_Mo_examine_242 : decode prog_10_method_10_code 242 = .ok (.iconst 4, 1) := by decide +kernel
theorem d_Mo_examine_243 : decode prog_10_method_10_code 243 = .ok (.ireturn, 1) := by decide +kernel
theorem d_Mo_examine_244 : decode prog_10_method_10_code 244 = .ok (.aload_n 0, 1) := by decide +kernel
theorem d_Mo_examine_245 : decode prog_10_method_10_code 245 = .ok (.dup, 1) := by decide +kernel
theorem d_Mo_examine_246 : decode prog_10_method_10_code 246 = .ok (.getfield 91, 3) := by decide +kernel
theorem d_Mo_examine_249 : decode prog_10_method_10_code 249 = .ok (.aload_n 0, 1) := by decide +kernel
theorem d_Mo_examine_250 : decode prog_10_method_10_code 250 = .ok (.iload_n 3, 1) := by decide +kernel
theorem d_Mo_examine_251 : decode prog_10_method_10_code 251 = .ok (.iload 4, 2) := by decide +kernel
theorem d_Mo_examine_253 : decode prog_10_method_10_code 253 = .ok (.invokevirtual 94, 3) := by decide +kernel
theorem d_Mo_examine_256 : decode prog_10_method_10_code 256 = .ok (.iadd, 1) := by decide +kernel
theorem d_Mo_examine_257 : decode prog_10_method_10_code 257 = .ok (.putfield 91, 3) := by decide +kernel
theorem d_Mo_examine_260 : decode prog_10_method_10_code 260 = .ok (.iload_n 3, 1) := by decide +kernel
theorem d_Mo_examine_261 : decode prog_10_method_10_code 261 = .ok (.bipush 12, 2) := by decide +kernel
theorem d_Mo_examine_263 : decode prog_10_method_10_code 263 = .ok (.if_icmp .eq 9, 3) := by decide +kernel
theorem d_Mo_examine_266 : decode prog_10_method_10_code 266 = .ok (.iload_n 3, 1) := by decide +kernel
theorem d_Mo_examine_267 : decode prog_10_method_10_code 267 = .ok (.bipush 13, 2) := by decide +kernel
theorem d_Mo_examine_269 : decode prog_10_method_10_code 269 = .ok (.if_icmp .ne 36, 3) := by decide +kernel
theorem d_Mo_examine_272 : decode prog_10_method_10_code 272 = .ok (.aload_n 0, 1) := by decide +kernel
theorem d_Mo_examine_273 : decode prog_10_method_10_code 273 = .ok (.getfield 28, 3) := by decide +kernel
theorem d_Mo_examine_276 : decode prog_10_method_10_code 276 = .ok (.aload_n 0, 1) := by decide +kernel
theorem d_Mo_examine_277 : decode prog_10_method_10_code 277 = .ok (.getfield 77, 3) := by decide +kernel
theorem d_Mo_examine_280 : decode prog_10_method_10_code 280 = .ok (.iload_n 2, 1) := by decide +kernel
theorem d_Mo_examine_281 : decode prog_10_method_10_code 281 = .ok (.iastore, 1) := by decide +kernel
theorem d_Mo_examine_282 : decode prog_10_method_10_code 282 = .ok (.aload_n 0, 1) := by decide +kernel
theorem d_Mo_examine_283 : decode prog_10_method_10_code 283 = .ok (.getfield 31, 3) := by decide +kernel
theorem d_Mo_examine_286 : decode prog_10_method_10_code 286 = .ok (.aload_n 0, 1) := by decide +kernel
theorem d_Mo_examine_287 : decode prog_10_method_10_code 287 = .ok (.getfield 77, 3) := by decide +kernel
theorem d_Mo_examine_290 : decode prog_10_method_10_code 290 = .ok (.aload_n 0, 1) := by decide +kernel
theorem d_Mo_examine_291 : decode prog_10_method_10_code 291 = .ok (.getfield 91, 3) := by decide +kernel
theorem d_Mo_examine_294 : decode prog_10_method_10_code 294 = .ok (.iastore, 1) := by decide +kernel
theorem d_Mo_examine_295 : decode prog_10_method_10_code 295 = .ok (.aload_n 0, 1) := by decide +kernel
theorem d_Mo_examine_296 : decode prog_10_method_10_code 296 = .ok (.dup, 1) := by decide +kernel
theorem d_Mo_examine_297 : decode prog_10_method_10_code 297 = .ok (.getfield 77, 3) := by decide +kernel
theorem d_Mo_examine_300 : decode prog_10_method_10_code 300 = .ok (.iconst 1, 1) := by decide +kernel
theorem d_Mo_examine_301 : decode prog_10_method_10_code 301 = .ok (.iadd, 1) := by decide +kernel
theorem d_Mo_examine_302 : decode prog_10_method_10_code 302 = .ok (.putfield 77, 3) := by decide +kernel
theorem d_Mo_examine_305 : decode prog_10_method_10_code 305 = .ok (.aload_n 0, 1) := by decide +kernel
theorem d_Mo_examine_306 : decode prog_10_method_10_code 306 = .ok (.iload_n 3, 1) := by decide +kernel
theorem d_Mo_examine_307 : decode prog_10_method_10_code 307 = .ok (.bipush 15, 2) := by decide +kernel
theorem d_Mo_examine_309 : decode prog_10_method_10_code 309 = .ok (.if_icmp .eq 9, 3) := by decide +kernel
theorem d_Mo_examine_312 : decode prog_10_method_10_code 312 = .ok (.iload_n 3, 1) := by decide +kernel
theorem d_Mo_examine_313 : decode prog_10_method_10_code 313 = .ok (.bipush 19, 2) := by decide +kernel
theorem d_Mo_examine_315 : decode prog_10_method_10_code 315 = .ok (.if_icmp .ne 7, 3) := by decide +kernel
theorem d_Mo_examine_318 : decode prog_10_method_10_code 318 = .ok (.iconst 1, 1) := by decide +kernel
theorem d_Mo_examine_319 : decode prog_10_method_10_code 319 = .ok (.goto 4, 3) := by decide +kernel
theorem d_Mo_examine_322 : decode prog_10_method_10_code 322 = .ok (.iconst 0, 1) := by decide +kernel
theorem d_Mo_examine_323 : decode prog_10_method_10_code 323 = .ok (.putfield 80, 3) := by decide +kernel
theorem d_Mo_examine_326 : decode prog_10_method_10_code 326 = .ok (.iconst 0, 1) := by decide +kernel
theorem d_Mo_examine_327 : decode prog_10_method_10_code 327 = .ok (.ireturn, 1) := by decide +kernel
abbrev rm_Mo_examine : Room := { frames := 1, cells := 0, slots := 0, locals := 24 }
def p_Mo_examine_b125 (k : Int32 → vS → Prop) (V : vS) : Prop := k 3 V
set_option maxRecDepth 100000 in
set_option maxHeartbeats 4000000 in
theorem t_Mo_examine_b125 {k : Int32 → vS → Prop} (X : cx g p s m meth c args R_Mo prog_10_method_10_code 7 (some .int)) {V : vS} (h : p_Mo_examine_b125 k V) (hP : va_P g.1 vcl (cw g V) H) (hS : va_S (gA g) s.heap H locs) (hl : lv_has ls 7 []) : W p l e rm_Mo_examine s m args below meth c H locs 0 0 (MQ below (va_Qi k (Bw g) (gA g)) args s 0 0 (gA g)) (F0 m 125 ls []) := by
  obtain ⟨hx, hb, -, -, hown, hts, -, -, hz, hG⟩ := id X
  unfold p_Mo_examine_b125 at h
  refine lv_iconst (v := 3) hx hb d_Mo_examine_125 (by decide) ?_
  exact rw_iret X hP hS h d_Mo_examine_126
def p_Mo_examine_b127 (k : Int32 → vS → Prop) (V : vS) (x5 : Int32) : Prop := ∀ V1 : vS, V1 = sv V 34 12 x5 → (∀ V2 : vS, V2 = sv V1 34 11 ((V1.1 34 11) - 1) → (∀ V3 : vS, V3 = sv V2 34 13 0 → (k 0 V3)))
set_option maxRecDepth 100000 in
set_option maxHeartbeats 4000000 in
theorem t_Mo_examine_b127 {k : Int32 → vS → Prop} (X : cx g p s m meth c args R_Mo prog_10_method_10_code 7 (some .int)) {V : vS} {x5 : Int32} (h : p_Mo_examine_b127 k V x5) (hP : va_P g.1 vcl (cw g V) H) (hS : va_S (gA g) s.heap H locs) (hl : lv_has ls 7 [(0, .ref (ga g 34)), (5, .int x5)]) : W p l e rm_Mo_examine s m args below meth c H locs 0 0 (MQ below (va_Qi k (Bw g) (gA g)) args s 0 0 (gA g)) (F0 m 127 ls []) := by
  obtain ⟨hx, hb, -, -, hown, hts, -, -, hz, hG⟩ := id X
  unfold p_Mo_examine_b127 at h
  refine lv_aload_n hx hb d_Mo_examine_127 rfl (lv_at hl 0 rfl) ?_
  refine lv_iload hx hb d_Mo_examine_128 (lv_at hl 1 rfl) ?_
  refine pf_Mo_height X hP hS q_458 d_Mo_examine_130 (fun V1 H locs eV1 hP hS => ?_)
  have h := h V1 eV1
  refine lv_aload_n hx hb d_Mo_examine_133 rfl (lv_at hl 0 rfl) ?_
  refine lv_dup hx hb d_Mo_examine_134 rfl ?_
  refine gf_Mo_open X hP q_457 d_Mo_examine_135 ?_
  refine lv_iconst (v := 1) hx hb d_Mo_examine_138 (by decide) ?_
  refine lv_isub hx hb d_Mo_examine_139 ?_
  refine pf_Mo_open X hP hS q_457 d_Mo_examine_140 (fun V2 H locs eV2 hP hS => ?_)
  have h := h V2 eV2
  refine lv_aload_n hx hb d_Mo_examine_143 rfl (lv_at hl 0 rfl) ?_
  refine lv_iconst (v := 0) hx hb d_Mo_examine_144 (by decide) ?_
  refine pf_Mo_dead X hP hS q_459 (by decide) d_Mo_examine_145 (fun V3 H locs eV3 hP hS => ?_)
  have h := h V3 eV3
  refine lv_iconst (v := 0) hx hb d_Mo_examine_148 (by decide) ?_
  exact rw_iret X hP hS h d_Mo_examine_149
def p_Mo_examine_b323 (k : Int32 → vS → Prop) (V : vS) (s1 : Int32) : Prop := (s1 = 0 ∨ s1 = 1) ∧ (∀ V1 : vS, V1 = sv V 34 13 s1 → (k 0 V1))
set_option maxRecDepth 100000 in
set_option maxHeartbeats 4000000 in
theorem t_Mo_examine_b323 {k : Int32 → vS → Prop} (X : cx g p s m meth c args R_Mo prog_10_method_10_code 7 (some .int)) {V : vS} {s1 : Int32} (h : p_Mo_examine_b323 k V s1) (hP : va_P g.1 vcl (cw g V) H) (hS : va_S (gA g) s.heap H locs) (hl : lv_has ls 7 []) : W p l e rm_Mo_examine s m args below meth c H locs 0 0 (MQ below (va_Qi k (Bw g) (gA g)) args s 0 0 (gA g)) (F0 m 323 ls [.int s1, .ref (ga g 34)]) := by
  obtain ⟨hx, hb, -, -, hown, hts, -, -, hz, hG⟩ := id X
  unfold p_Mo_examine_b323 at h
  obtain ⟨hb2, h⟩ := h
  refine pf_Mo_dead X hP hS q_459 hb2 d_Mo_examine_323 (fun V1 H locs eV1 hP hS => ?_)
  have h := h V1 eV1
  refine lv_iconst (v := 0) hx hb d_Mo_examine_326 (by decide) ?_
  exact rw_iret X hP hS h d_Mo_examine_327
def p_Mo_examine_b318 (k : Int32 → vS → Prop) (V : vS) : Prop := p_Mo_examine_b323 k V 1
set_option maxRecDepth 100000 in
set_option maxHeartbeats 4000000 in
theorem t_Mo_examine_b318 {k : Int32 → vS → Prop} (X : cx g p s m meth c args R_Mo prog_10_method_10_code 7 (some .int)) {V : vS} (h : p_Mo_examine_b318 k V) (hP : va_P g.1 vcl (cw g V) H) (hS : va_S (gA g) s.heap H locs) (hl : lv_has ls 7 []) : W p l e rm_Mo_examine s m args below meth c H locs 0 0 (MQ below (va_Qi k (Bw g) (gA g)) args s 0 0 (gA g)) (F0 m 318 ls [.ref (ga g 34)]) := by
  obtain ⟨hx, hb, -, -, hown, hts, -, -, hz, hG⟩ := id X
  unfold p_Mo_examine_b318 at h
  refine lv_iconst (v := 1) hx hb d_Mo_examine_318 (by decide) ?_
  refine lv_goto (tgt := 323) hx hb d_Mo_examine_319 (by decide) ?_
  exact t_Mo_examine_b323 X h hP hS (lv_sub hl [] rfl)
def p_Mo_examine_b305 (k : Int32 → vS → Prop) (V : vS) (x3 : Int32) : Prop := (x3 = 15 → (p_Mo_examine_b318 k V)) ∧ (¬ x3 = 15 → ((x3 = 19 → (p_Mo_examine_b318 k V)) ∧ (¬ x3 = 19 → (p_Mo_examine_b323 k V 0))))
set_option maxRecDepth 100000 in
set_option maxHeartbeats 4000000 in
theorem t_Mo_examine_b305 {k : Int32 → vS → Prop} (X : cx g p s m meth c args R_Mo prog_10_method_10_code 7 (some .int)) {V : vS} {x3 : Int32} (h : p_Mo_examine_b305 k V x3) (hP : va_P g.1 vcl (cw g V) H) (hS : va_S (gA g) s.heap H locs) (hl : lv_has ls 7 [(0, .ref (ga g 34)), (3, .int x3)]) : W p l e rm_Mo_examine s m args below meth c H locs 0 0 (MQ below (va_Qi k (Bw g) (gA g)) args s 0 0 (gA g)) (F0 m 305 ls []) := by
  obtain ⟨hx, hb, -, -, hown, hts, -, -, hz, hG⟩ := id X
  unfold p_Mo_examine_b305 at h
  refine lv_aload_n hx hb d_Mo_examine_305 rfl (lv_at hl 0 rfl) ?_
  refine lv_iload_n hx hb d_Mo_examine_306 rfl (lv_at hl 1 rfl) ?_
  refine lv_bipush (v := 15) hx hb d_Mo_examine_307 (by decide) ?_
  refine lv_icmp_eq (tgt := 318) hx hb d_Mo_examine_309 (by decide) (fun c1 => ?_) (fun c1 => ?_)
  · have h := h.1 c1
    exact t_Mo_examine_b318 X h hP hS (lv_sub hl [] rfl)
  · have h := h.2 c1
    refine lv_iload_n hx hb d_Mo_examine_312 rfl (lv_at hl 1 rfl) ?_
    refine lv_bipush (v := 19) hx hb d_Mo_examine_313 (by decide) ?_
    refine lv_icmp_ne (tgt := 322) hx hb d_Mo_examine_315 (by decide) (fun c2 => ?_) (fun c2 => ?_)
    · have h := h.2 c2
      refine lv_iconst (v := 0) hx hb d_Mo_examine_322 (by decide) ?_
      exact t_Mo_examine_b323 X h hP hS (lv_sub hl [] rfl)
    · have h := h.1 c2
      exact t_Mo_examine_b318 X h hP hS (lv_sub hl [] rfl)
def p_Mo_examine_b272 (k : Int32 → vS → Prop) (V : vS) (x2 : Int32) (x3 : Int32) : Prop := vp_in (V.1 34 11) 26 ∧ ∀ V2 : vS, V2 = sv V 41 (nt (V.1 34 11)) x2 → (vp_in (V2.1 34 11) 26 ∧ ∀ V4 : vS, V4 = sv V2 42 (nt (V2.1 34 11)) (V2.1 34 12) → (∀ V5 : vS, V5 = sv V4 34 11 ((V4.1 34 11) + 1) → (p_Mo_examine_b305 k V5 x3)))
set_option maxRecDepth 100000 in
set_option maxHeartbeats 4000000 in
theorem t_Mo_examine_b272 {k : Int32 → vS → Prop} (X : cx g p s m meth c args R_Mo prog_10_method_10_code 7 (some .int)) {V : vS} {x2 : Int32} {x3 : Int32} (h : p_Mo_examine_b272 k V x2 x3) (hP : va_P g.1 vcl (cw g V) H) (hS : va_S (gA g) s.heap H locs) (hl : lv_has ls 7 [(0, .ref (ga g 34)), (2, .int x2), (3, .int x3)]) : W p l e rm_Mo_examine s m args below meth c H locs 0 0 (MQ below (va_Qi k (Bw g) (gA g)) args s 0 0 (gA g)) (F0 m 272 ls []) := by
  obtain ⟨hx, hb, -, -, hown, hts, -, -, hz, hG⟩ := id X
  unfold p_Mo_examine_b272 at h
  refine lv_aload_n hx hb d_Mo_examine_272 rfl (lv_at hl 0 rfl) ?_
  refine gf_Mo_opened X hP q_455 d_Mo_examine_273 ?_
  refine lv_aload_n hx hb d_Mo_examine_276 rfl (lv_at hl 0 rfl) ?_
  refine gf_Mo_open X hP q_457 d_Mo_examine_277 ?_
  refine lv_iload_n hx hb d_Mo_examine_280 rfl (lv_at hl 1 rfl) ?_
  obtain ⟨hi1, h⟩ := h
  refine rw_iast X hP hS isI_41 hi1 d_Mo_examine_281 (fun V2 H locs eV2 hP hS => ?_)
  have h := h V2 eV2
  refine lv_aload_n hx hb d_Mo_examine_282 rfl (lv_at hl 0 rfl) ?_
  refine gf_Mo_base X hP q_456 d_Mo_examine_283 ?_
  refine lv_aload_n hx hb d_Mo_examine_286 rfl (lv_at hl 0 rfl) ?_
  refine gf_Mo_open X hP q_457 d_Mo_examine_287 ?_
  refine lv_aload_n hx hb d_Mo_examine_290 rfl (lv_at hl 0 rfl) ?_
  refine gf_Mo_height X hP q_458 d_Mo_examine_291 ?_
  obtain ⟨hi3, h⟩ := h
  refine rw_iast X hP hS isI_42 hi3 d_Mo_examine_294 (fun V4 H locs eV4 hP hS => ?_)
  have h := h V4 eV4
  refine lv_aload_n hx hb d_Mo_examine_295 rfl (lv_at hl 0 rfl) ?_
  refine lv_dup hx hb d_Mo_examine_296 rfl ?_
  refine gf_Mo_open X hP q_457 d_Mo_examine_297 ?_
  refine lv_iconst (v := 1) hx hb d_Mo_examine_300 (by decide) ?_
  refine lv_iadd hx hb d_Mo_examine_301 ?_
  refine pf_Mo_open X hP hS q_457 d_Mo_examine_302 (fun V5 H locs eV5 hP hS => ?_)
  have h := h V5 eV5
  exact t_Mo_examine_b305 X h hP hS (lv_sub hl [0, 2] rfl)
def p_Mo_examine_b244 (k : Int32 → vS → Prop) (V : vS) (x2 : Int32) (x3 : Int32) (x4 : Int32) : Prop := p_Mo_put (fun r2 V1 => ∀ V4 : vS, V4 = sv V1 34 12 ((V.1 34 12) + r2) → ((x3 = 12 → (p_Mo_examine_b272 k V4 x2 x3)) ∧ (¬ x3 = 12 → ((x3 = 13 → (p_Mo_examine_b272 k V4 x2 x3)) ∧ (¬ x3 = 13 → (p_Mo_examine_b305 k V4 x3)))))) V x3 x4
set_option maxRecDepth 100000 in
set_option maxHeartbeats 4000000 in
theorem t_Mo_examine_b244 {k : Int32 → vS → Prop} (X : cx g p s m meth c args R_Mo prog_10_method_10_code 7 (some .int)) {V : vS} {x2 : Int32} {x3 : Int32} {x4 : Int32} (h : p_Mo_examine_b244 k V x2 x3 x4) (hP : va_P g.1 vcl (cw g V) H) (hS : va_S (gA g) s.heap H locs) (hl : lv_has ls 7 [(0, .ref (ga g 34)), (2, .int x2), (3, .int x3), (4, .int x4)]) : W p l e rm_Mo_examine s m args below meth c H locs 0 0 (MQ below (va_Qi k (Bw g) (gA g)) args s 0 0 (gA g)) (F0 m 244 ls []) := by
  obtain ⟨hx, hb, -, -, hown, hts, -, -, hz, hG⟩ := id X
  unfold p_Mo_examine_b244 at h
  refine lv_aload_n hx hb d_Mo_examine_244 rfl (lv_at hl 0 rfl) ?_
  refine lv_dup hx hb d_Mo_examine_245 rfl ?_
  refine gf_Mo_height X hP q_458 d_Mo_examine_246 ?_
  refine lv_aload_n hx hb d_Mo_examine_249 rfl (lv_at hl 0 rfl) ?_
  refine lv_iload_n hx hb d_Mo_examine_250 rfl (lv_at hl 2 rfl) ?_
  refine lv_iload hx hb d_Mo_examine_251 (lv_at hl 3 rfl) ?_
  refine rw_cVi (rest := [.int (V.1 34 12), .ref (ga g 34)]) X hP hS yv_Mo_put isO_Mo (c_Mo_put hG h) q_577 ⟨rfl, rfl, by decide, by decide⟩ rfl rfl hl.1 (Nat.le_of_ble_eq_true rfl) ⟨Nat.zero_le _, Nat.zero_le _⟩ d_Mo_examine_253 (fun r2 V1 H locs h hP hS => ?_)
  refine lv_iadd hx hb d_Mo_examine_256 ?_
  refine pf_Mo_height X hP hS q_458 d_Mo_examine_257 (fun V4 H locs eV4 hP hS => ?_)
  have h := h V4 eV4
  refine lv_iload_n hx hb d_Mo_examine_260 rfl (lv_at hl 2 rfl) ?_
  refine lv_bipush (v := 12) hx hb d_Mo_examine_261 (by decide) ?_
  refine lv_icmp_eq (tgt := 272) hx hb d_Mo_examine_263 (by decide) (fun c5 => ?_) (fun c5 => ?_)
  · have h := h.1 c5
    exact t_Mo_examine_b272 X h hP hS (lv_sub hl [0, 1, 2] rfl)
  · have h := h.2 c5
    refine lv_iload_n hx hb d_Mo_examine_266 rfl (lv_at hl 2 rfl) ?_
    refine lv_bipush (v := 13) hx hb d_Mo_examine_267 (by decide) ?_
    refine lv_icmp_ne (tgt := 305) hx hb d_Mo_examine_269 (by decide) (fun c6 => ?_) (fun c6 => ?_)
    · have h := h.2 c6
      exact t_Mo_examine_b305 X h hP hS (lv_sub hl [0, 2] rfl)
    · have h := h.1 c6
      exact t_Mo_examine_b272 X h hP hS (lv_sub hl [0, 1, 2] rfl)
def p_Mo_examine_b223 (k : Int32 → vS → Prop) (V : vS) (x1 : Int32) (x2 : Int32) (x3 : Int32) (x4 : Int32) : Prop := (x3 = 19 → (vp_in x1 4 ∧ (((V.1 34 12) = (V.1 36 (nt x1)) → (p_Mo_examine_b244 k V x2 x3 x4)) ∧ (¬ (V.1 34 12) = (V.1 36 (nt x1)) → (k 4 V))))) ∧ (¬ x3 = 19 → (p_Mo_examine_b244 k V x2 x3 x4))
set_option maxRecDepth 100000 in
set_option maxHeartbeats 4000000 in
theorem t_Mo_examine_b223 {k : Int32 → vS → Prop} (X : cx g p s m meth c args R_Mo prog_10_method_10_code 7 (some .int)) {V : vS} {x1 : Int32} {x2 : Int32} {x3 : Int32} {x4 : Int32} (h : p_Mo_examine_b223 k V x1 x2 x3 x4) (hP : va_P g.1 vcl (cw g V) H) (hS : va_S (gA g) s.heap H locs) (hl : lv_has ls 7 [(0, .ref (ga g 34)), (1, .int x1), (2, .int x2), (3, .int x3), (4, .int x4)]) : W p l e rm_Mo_examine s m args below meth c H locs 0 0 (MQ below (va_Qi k (Bw g) (gA g)) args s 0 0 (gA g)) (F0 m 223 ls []) := by
  obtain ⟨hx, hb, -, -, hown, hts, -, -, hz, hG⟩ := id X
  unfold p_Mo_examine_b223 at h
  refine lv_iload_n hx hb d_Mo_examine_223 rfl (lv_at hl 3 rfl) ?_
  refine lv_bipush (v := 19) hx hb d_Mo_examine_224 (by decide) ?_
  refine lv_icmp_ne (tgt := 244) hx hb d_Mo_examine_226 (by decide) (fun c1 => ?_) (fun c1 => ?_)
  · have h := h.2 c1
    exact t_Mo_examine_b244 X h hP hS (lv_sub hl [0, 2, 3, 4] rfl)
  · have h := h.1 c1
    refine lv_aload_n hx hb d_Mo_examine_229 rfl (lv_at hl 0 rfl) ?_
    refine gf_Mo_height X hP q_458 d_Mo_examine_230 ?_
    refine lv_aload_n hx hb d_Mo_examine_233 rfl (lv_at hl 0 rfl) ?_
    refine gf_Mo_gives X hP q_447 d_Mo_examine_234 ?_
    refine lv_iload_n hx hb d_Mo_examine_237 rfl (lv_at hl 1 rfl) ?_
    obtain ⟨hi2, h⟩ := h
    refine rw_iald X hP isI_36 hi2 d_Mo_examine_238 ?_
    refine lv_icmp_eq (tgt := 244) hx hb d_Mo_examine_239 (by decide) (fun c3 => ?_) (fun c3 => ?_)
    · have h := h.1 c3
      exact t_Mo_examine_b244 X h hP hS (lv_sub hl [0, 2, 3, 4] rfl)
    · have h := h.2 c3
      refine lv_iconst (v := 4) hx hb d_Mo_examine_242 (by decide) ?_
      exact rw_iret X hP hS h d_Mo_examine_243
def p_Mo_examine_b210 (k : Int32 → vS → Prop) (V : vS) (x1 : Int32) (x2 : Int32) (x3 : Int32) (x4 : Int32) (s0 : Int32) : Prop := ((V.1 34 12) = s0 → (p_Mo_examine_b223 k V x1 x2 x3 x4)) ∧ (¬ (V.1 34 12) = s0 → (k 4 V))
set_option maxRecDepth 100000 in
set_option maxHeartbeats 4000000 in
theorem t_Mo_examine_b210 {k : Int32 → vS → Prop} (X : cx g p s m meth c args R_Mo prog_10_method_10_code 7 (some .int)) {V : vS} {x1 : Int32} {x2 : Int32} {x3 : Int32} {x4 : Int32} {s0 : Int32} (h : p_Mo_examine_b210 k V x1 x2 x3 x4 s0) (hP : va_P g.1 vcl (cw g V) H) (hS : va_S (gA g) s.heap H locs) (hl : lv_has ls 7 [(0, .ref (ga g 34)), (1, .int x1), (2, .int x2), (3, .int x3), (4, .int x4)]) : W p l e rm_Mo_examine s m args below meth c H locs 0 0 (MQ below (va_Qi k (Bw g) (gA g)) args s 0 0 (gA g)) (F0 m 210 ls [.int s0]) := by
  obtain ⟨hx, hb, -, -, hown, hts, -, -, hz, hG⟩ := id X
  unfold p_Mo_examine_b210 at h
  refine lv_istore (lv' := [(6, .int s0), (0, .ref (ga g 34)), (1, .int x1), (2, .int x2), (3, .int x3), (4, .int x4)]) hx hb d_Mo_examine_210 hl (by decide) rfl (fun ls hl => ?_)
  refine lv_aload_n hx hb d_Mo_examine_212 rfl (lv_at hl 1 rfl) ?_
  refine gf_Mo_height X hP q_458 d_Mo_examine_213 ?_
  refine lv_iload hx hb d_Mo_examine_216 (lv_at hl 0 rfl) ?_
  refine lv_icmp_eq (tgt := 223) hx hb d_Mo_examine_218 (by decide) (fun c1 => ?_) (fun c1 => ?_)
  · have h := h.1 c1
    exact t_Mo_examine_b223 X h hP hS (lv_sub hl [1, 2, 3, 4, 5] rfl)
  · have h := h.2 c1
    refine lv_iconst (v := 4) hx hb d_Mo_examine_221 (by decide) ?_
    exact rw_iret X hP hS h d_Mo_examine_222
def p_Mo_examine_b178 (k : Int32 → vS → Prop) (V : vS) (x1 : Int32) (x2 : Int32) (x3 : Int32) (x4 : Int32) : Prop := (x4 = (V.1 34 11) → (vp_in x1 4 ∧ (p_Mo_examine_b210 k V x1 x2 x3 x4 (V.1 36 (nt x1))))) ∧ (¬ x4 = (V.1 34 11) → (vp_in (((V.1 34 11) - 1) - x4) 26 ∧ (p_Mo_examine_b210 k V x1 x2 x3 x4 (V.1 42 (nt (((V.1 34 11) - 1) - x4))))))
set_option maxRecDepth 100000 in
set_option maxHeartbeats 4000000 in
theorem t_Mo_examine_b178 {k : Int32 → vS → Prop} (X : cx g p s m meth c args R_Mo prog_10_method_10_code 7 (some .int)) {V : vS} {x1 : Int32} {x2 : Int32} {x3 : Int32} {x4 : Int32} (h : p_Mo_examine_b178 k V x1 x2 x3 x4) (hP : va_P g.1 vcl (cw g V) H) (hS : va_S (gA g) s.heap H locs) (hl : lv_has ls 7 [(0, .ref (ga g 34)), (1, .int x1), (2, .int x2), (3, .int x3), (4, .int x4)]) : W p l e rm_Mo_examine s m args below meth c H locs 0 0 (MQ below (va_Qi k (Bw g) (gA g)) args s 0 0 (gA g)) (F0 m 178 ls []) := by
  obtain ⟨hx, hb, -, -, hown, hts, -, -, hz, hG⟩ := id X
  unfold p_Mo_examine_b178 at h
  refine lv_iload hx hb d_Mo_examine_178 (lv_at hl 4 rfl) ?_
  refine lv_aload_n hx hb d_Mo_examine_180 rfl (lv_at hl 0 rfl) ?_
  refine gf_Mo_open X hP q_457 d_Mo_examine_181 ?_
  refine lv_icmp_ne (tgt := 196) hx hb d_Mo_examine_184 (by decide) (fun c1 => ?_) (fun c1 => ?_)
  · have h := h.2 c1
    refine lv_aload_n hx hb d_Mo_examine_196 rfl (lv_at hl 0 rfl) ?_
    refine gf_Mo_base X hP q_456 d_Mo_examine_197 ?_
    refine lv_aload_n hx hb d_Mo_examine_200 rfl (lv_at hl 0 rfl) ?_
    refine gf_Mo_open X hP q_457 d_Mo_examine_201 ?_
    refine lv_iconst (v := 1) hx hb d_Mo_examine_204 (by decide) ?_
    refine lv_isub hx hb d_Mo_examine_205 ?_
    refine lv_iload hx hb d_Mo_examine_206 (lv_at hl 4 rfl) ?_
    refine lv_isub hx hb d_Mo_examine_208 ?_
    obtain ⟨hi2, h⟩ := h
    refine rw_iald X hP isI_42 hi2 d_Mo_examine_209 ?_
    exact t_Mo_examine_b210 X h hP hS (lv_sub hl [0, 1, 2, 3, 4] rfl)
  · have h := h.1 c1
    refine lv_aload_n hx hb d_Mo_examine_187 rfl (lv_at hl 0 rfl) ?_
    refine gf_Mo_gives X hP q_447 d_Mo_examine_188 ?_
    refine lv_iload_n hx hb d_Mo_examine_191 rfl (lv_at hl 1 rfl) ?_
    obtain ⟨hi3, h⟩ := h
    refine rw_iald X hP isI_36 hi3 d_Mo_examine_192 ?_
    refine lv_goto (tgt := 210) hx hb d_Mo_examine_193 (by decide) ?_
    exact t_Mo_examine_b210 X h hP hS (lv_sub hl [0, 1, 2, 3, 4] rfl)
def p_Mo_examine_b75 (k : Int32 → vS → Prop) (V : vS) (x1 : Int32) (x2 : Int32) (x3 : Int32) (x4 : Int32) (s0 : Int32) : Prop := p_Mo_taken (fun r2 V1 => (r2 ≤ ((V1.1 34 12) - s0) → ((x3 = 14 → (((V1.1 34 11) = 0 → (p_Mo_examine_b125 k V1)) ∧ (¬ (V1.1 34 11) = 0 → (((V1.1 34 13) = 0 → (((V1.1 34 12) = s0 → (p_Mo_examine_b127 k V1 s0)) ∧ (¬ (V1.1 34 12) = s0 → (p_Mo_examine_b125 k V1)))) ∧ (¬ (V1.1 34 13) = 0 → (p_Mo_examine_b127 k V1 s0)))))) ∧ (¬ x3 = 14 → (p_Mo_taken (fun r7 V6 => ∀ V9 : vS, V9 = sv V6 34 12 ((V1.1 34 12) - r7) → ((x3 = 15 → (p_Mo_examine_b178 k V9 x1 x2 x3 x4)) ∧ (¬ x3 = 15 → ((x3 = 16 → (p_Mo_examine_b178 k V9 x1 x2 x3 x4)) ∧ (¬ x3 = 16 → (p_Mo_examine_b223 k V9 x1 x2 x3 x4)))))) V1 x3 x4)))) ∧ (¬ r2 ≤ ((V1.1 34 12) - s0) → (k 2 V1))) V x3 x4
set_option maxRecDepth 100000 in
set_option maxHeartbeats 4000000 in
theorem t_Mo_examine_b75 {k : Int32 → vS → Prop} (X : cx g p s m meth c args R_Mo prog_10_method_10_code 7 (some .int)) {V : vS} {x1 : Int32} {x2 : Int32} {x3 : Int32} {x4 : Int32} {s0 : Int32} (h : p_Mo_examine_b75 k V x1 x2 x3 x4 s0) (hP : va_P g.1 vcl (cw g V) H) (hS : va_S (gA g) s.heap H locs) (hl : lv_has ls 7 [(0, .ref (ga g 34)), (1, .int x1), (2, .int x2), (3, .int x3), (4, .int x4)]) : W p l e rm_Mo_examine s m args below meth c H locs 0 0 (MQ below (va_Qi k (Bw g) (gA g)) args s 0 0 (gA g)) (F0 m 75 ls [.int s0]) := by
  obtain ⟨hx, hb, -, -, hown, hts, -, -, hz, hG⟩ := id X
  unfold p_Mo_examine_b75 at h
  refine lv_istore (lv' := [(5, .int s0), (0, .ref (ga g 34)), (1, .int x1), (2, .int x2), (3, .int x3), (4, .int x4)]) hx hb d_Mo_examine_75 hl (by decide) rfl (fun ls hl => ?_)
  refine lv_aload_n hx hb d_Mo_examine_77 rfl (lv_at hl 1 rfl) ?_
  refine lv_iload_n hx hb d_Mo_examine_78 rfl (lv_at hl 4 rfl) ?_
  refine lv_iload hx hb d_Mo_examine_79 (lv_at hl 5 rfl) ?_
  refine rw_cVi (rest := []) X hP hS yv_Mo_taken isO_Mo (c_Mo_taken hG h) q_573 ⟨rfl, rfl, by decide, by decide⟩ rfl rfl hl.1 (Nat.le_of_ble_eq_true rfl) ⟨Nat.zero_le _, Nat.zero_le _⟩ d_Mo_examine_81 (fun r2 V1 H locs h hP hS => ?_)
  refine lv_aload_n hx hb d_Mo_examine_84 rfl (lv_at hl 1 rfl) ?_
  refine gf_Mo_height X hP q_458 d_Mo_examine_85 ?_
  refine lv_iload hx hb d_Mo_examine_88 (lv_at hl 0 rfl) ?_
  refine lv_isub hx hb d_Mo_examine_90 ?_
  refine lv_icmp_le (tgt := 96) hx hb d_Mo_examine_91 (by decide) (fun c4 => ?_) (fun c4 => ?_)
  · have h := h.1 c4
    refine lv_iload_n hx hb d_Mo_examine_96 rfl (lv_at hl 4 rfl) ?_
    refine lv_bipush (v := 14) hx hb d_Mo_examine_97 (by decide) ?_
    refine lv_icmp_ne (tgt := 150) hx hb d_Mo_examine_99 (by decide) (fun c5 => ?_) (fun c5 => ?_)
    · have h := h.2 c5
      refine lv_aload_n hx hb d_Mo_examine_150 rfl (lv_at hl 1 rfl) ?_
      refine lv_dup hx hb d_Mo_examine_151 rfl ?_
      refine gf_Mo_height X hP q_458 d_Mo_examine_152 ?_
      refine lv_aload_n hx hb d_Mo_examine_155 rfl (lv_at hl 1 rfl) ?_
      refine lv_iload_n hx hb d_Mo_examine_156 rfl (lv_at hl 4 rfl) ?_
      refine lv_iload hx hb d_Mo_examine_157 (lv_at hl 5 rfl) ?_
      refine rw_cVi (rest := [.int (V1.1 34 12), .ref (ga g 34)]) X hP hS yv_Mo_taken isO_Mo (c_Mo_taken hG h) q_573 ⟨rfl, rfl, by decide, by decide⟩ rfl rfl hl.1 (Nat.le_of_ble_eq_true rfl) ⟨Nat.zero_le _, Nat.zero_le _⟩ d_Mo_examine_159 (fun r7 V6 H locs h hP hS => ?_)
      refine lv_isub hx hb d_Mo_examine_162 ?_
      refine pf_Mo_height X hP hS q_458 d_Mo_examine_163 (fun V9 H locs eV9 hP hS => ?_)
      have h := h V9 eV9
      refine lv_iload_n hx hb d_Mo_examine_166 rfl (lv_at hl 4 rfl) ?_
      refine lv_bipush (v := 15) hx hb d_Mo_examine_167 (by decide) ?_
      refine lv_icmp_eq (tgt := 178) hx hb d_Mo_examine_169 (by decide) (fun c10 => ?_) (fun c10 => ?_)
      · have h := h.1 c10
        exact t_Mo_examine_b178 X h hP hS (lv_sub hl [1, 2, 3, 4, 5] rfl)
      · have h := h.2 c10
        refine lv_iload_n hx hb d_Mo_examine_172 rfl (lv_at hl 4 rfl) ?_
        refine lv_bipush (v := 16) hx hb d_Mo_examine_173 (by decide) ?_
        refine lv_icmp_ne (tgt := 223) hx hb d_Mo_examine_175 (by decide) (fun c11 => ?_) (fun c11 => ?_)
        · have h := h.2 c11
          exact t_Mo_examine_b223 X h hP hS (lv_sub hl [1, 2, 3, 4, 5] rfl)
        · have h := h.1 c11
          exact t_Mo_examine_b178 X h hP hS (lv_sub hl [1, 2, 3, 4, 5] rfl)
    · have h := h.1 c5
      refine lv_aload_n hx hb d_Mo_examine_102 rfl (lv_at hl 1 rfl) ?_
      refine gf_Mo_open X hP q_457 d_Mo_examine_103 ?_
      refine lv_if_eq (tgt := 125) hx hb d_Mo_examine_106 (by decide) (fun c12 => ?_) (fun c12 => ?_)
      · have h := h.1 c12
        exact t_Mo_examine_b125 X h hP hS (lv_sub hl [] rfl)
      · have h := h.2 c12
        refine lv_aload_n hx hb d_Mo_examine_109 rfl (lv_at hl 1 rfl) ?_
        refine gf_Mo_dead X hP q_459 d_Mo_examine_110 ?_
        refine lv_if_ne (tgt := 127) hx hb d_Mo_examine_113 (by decide) (fun c13 => ?_) (fun c13 => ?_)
        · have h := h.2 c13
          exact t_Mo_examine_b127 X h hP hS (lv_sub hl [1, 0] rfl)
        · have h := h.1 c13
          refine lv_aload_n hx hb d_Mo_examine_116 rfl (lv_at hl 1 rfl) ?_
          refine gf_Mo_height X hP q_458 d_Mo_examine_117 ?_
          refine lv_iload hx hb d_Mo_examine_120 (lv_at hl 0 rfl) ?_
          refine lv_icmp_eq (tgt := 127) hx hb d_Mo_examine_122 (by decide) (fun c14 => ?_) (fun c14 => ?_)
          · have h := h.1 c14
            exact t_Mo_examine_b127 X h hP hS (lv_sub hl [1, 0] rfl)
          · have h := h.2 c14
            exact t_Mo_examine_b125 X h hP hS (lv_sub hl [] rfl)
  · have h := h.2 c4
    refine lv_iconst (v := 2) hx hb d_Mo_examine_94 (by decide) ?_
    exact rw_iret X hP hS h d_Mo_examine_95
def p_Mo_examine_b40 (k : Int32 → vS → Prop) (V : vS) (x1 : Int32) (x2 : Int32) (x3 : Int32) (x4 : Int32) : Prop := p_Mo_badArgument (fun r2 V1 => (r2 = 0 → (((V1.1 34 11) = 0 → (p_Mo_examine_b75 k V1 x1 x2 x3 x4 0)) ∧ (¬ (V1.1 34 11) = 0 → (vp_in ((V1.1 34 11) - 1) 26 ∧ (p_Mo_examine_b75 k V1 x1 x2 x3 x4 (V1.1 42 (nt ((V1.1 34 11) - 1)))))))) ∧ (¬ r2 = 0 → (k 1 V1))) V x1 x3 x4
set_option maxRecDepth 100000 in
set_option maxHeartbeats 4000000 in
theorem t_Mo_examine_b40 {k : Int32 → vS → Prop} (X : cx g p s m meth c args R_Mo prog_10_method_10_code 7 (some .int)) {V : vS} {x1 : Int32} {x2 : Int32} {x3 : Int32} {x4 : Int32} (h : p_Mo_examine_b40 k V x1 x2 x3 x4) (hP : va_P g.1 vcl (cw g V) H) (hS : va_S (gA g) s.heap H locs) (hl : lv_has ls 7 [(0, .ref (ga g 34)), (1, .int x1), (2, .int x2), (3, .int x3), (4, .int x4)]) : W p l e rm_Mo_examine s m args below meth c H locs 0 0 (MQ below (va_Qi k (Bw g) (gA g)) args s 0 0 (gA g)) (F0 m 40 ls []) := by
  obtain ⟨hx, hb, -, -, hown, hts, -, -, hz, hG⟩ := id X
  unfold p_Mo_examine_b40 at h
  refine lv_aload_n hx hb d_Mo_examine_40 rfl (lv_at hl 0 rfl) ?_
  refine lv_iload_n hx hb d_Mo_examine_41 rfl (lv_at hl 1 rfl) ?_
  refine lv_iload_n hx hb d_Mo_examine_42 rfl (lv_at hl 3 rfl) ?_
  refine lv_iload hx hb d_Mo_examine_43 (lv_at hl 4 rfl) ?_
  refine rw_cVi (rest := []) X hP hS yv_Mo_badArgument isO_Mo (c_Mo_badArgument hG h) q_569 ⟨rfl, rfl, by decide, by decide⟩ rfl rfl hl.1 (Nat.le_of_ble_eq_true rfl) ⟨Nat.zero_le _, Nat.zero_le _⟩ d_Mo_examine_45 (fun r2 V1 H locs h hP hS => ?_)
  refine lv_if_eq (tgt := 53) hx hb d_Mo_examine_48 (by decide) (fun c4 => ?_) (fun c4 => ?_)
  · have h := h.1 c4
    refine lv_aload_n hx hb d_Mo_examine_53 rfl (lv_at hl 0 rfl) ?_
    refine gf_Mo_open X hP q_457 d_Mo_examine_54 ?_
    refine lv_if_ne (tgt := 64) hx hb d_Mo_examine_57 (by decide) (fun c5 => ?_) (fun c5 => ?_)
    · have h := h.2 c5
      refine lv_aload_n hx hb d_Mo_examine_64 rfl (lv_at hl 0 rfl) ?_
      refine gf_Mo_base X hP q_456 d_Mo_examine_65 ?_
      refine lv_aload_n hx hb d_Mo_examine_68 rfl (lv_at hl 0 rfl) ?_
      refine gf_Mo_open X hP q_457 d_Mo_examine_69 ?_
      refine lv_iconst (v := 1) hx hb d_Mo_examine_72 (by decide) ?_
      refine lv_isub hx hb d_Mo_examine_73 ?_
      obtain ⟨hi6, h⟩ := h
      refine rw_iald X hP isI_42 hi6 d_Mo_examine_74 ?_
      exact t_Mo_examine_b75 X h hP hS (lv_sub hl [0, 1, 2, 3, 4] rfl)
    · have h := h.1 c5
      refine lv_iconst (v := 0) hx hb d_Mo_examine_60 (by decide) ?_
      refine lv_goto (tgt := 75) hx hb d_Mo_examine_61 (by decide) ?_
      exact t_Mo_examine_b75 X h hP hS (lv_sub hl [0, 1, 2, 3, 4] rfl)
  · have h := h.2 c4
    refine lv_iconst (v := 1) hx hb d_Mo_examine_51 (by decide) ?_
    exact rw_iret X hP hS h d_Mo_examine_52
def p_Mo_examine (k : Int32 → vS → Prop) (V : vS) (x1 : Int32) (x2 : Int32) : Prop := vp_in ((x1 * 24) + x2) 96 ∧ (∀ y2 : Int32, y2 = V.1 39 (nt ((x1 * 24) + x2)) → (vp_in ((x1 * 24) + x2) 96 ∧ (∀ y4 : Int32, y4 = V.1 40 (nt ((x1 * 24) + x2)) → (((V.1 34 13) = 0 → (p_Mo_examine_b40 k V x1 x2 y2 y4)) ∧ (¬ (V.1 34 13) = 0 → ((y2 = 14 → (p_Mo_examine_b40 k V x1 x2 y2 y4)) ∧ (¬ y2 = 14 → (k 5 V))))))))
set_option maxRecDepth 100000 in
set_option maxHeartbeats 4000000 in
theorem c_Mo_examine {l : Launch} {g : gT} (hG : gd g) {V : vS} {x1 : Int32} {x2 : Int32} {k : Int32 → vS → Prop} (h : p_Mo_examine k V x1 x2) : Ci g l y_Mo_examine prog_10_method_10_code 7 (some .int) rm_Mo_examine [.ref (ga g 34), .int x1, .int x2] V k := by
  unfold Ci
  refine Met.ofW (cc := prog_10_method_10_code) (maxL := 7) (ret := some .int) (by decide) rfl ?_
  intro p e s m args below meth c s₁ B hml hv
  obtain ⟨rfl, hP, hK, hZ⟩ := hv
  have X : cx g p s m meth c [.ref (ga g 34), .int x1, .int x2].toArray R_Mo prog_10_method_10_code 7 (some .int) := ⟨B.exec, B.bytes, B.returns, hml, findClass_of_methodNamed B.named, fun w hw => atoms_spec (ws := Cond.code y_Mo_examine prog_10_method_10_code 7 (some .int) :: TBL) B.pre w (List.mem_cons_of_mem _ hw), B.notSynchronized, hK, hZ, hG⟩
  have hl := lv_entry [.ref (ga g 34), .int x1, .int x2] (n := 7) (Nat.le_of_ble_eq_true rfl)
  rw [lg_entry_eq]
  generalize (lg_sl [.ref (ga g 34), .int x1, .int x2] ++ List.replicate (7 - (lg_sl [.ref (ga g 34), .int x1, .int x2]).length) Slot.unset).toArray = ls at hl ⊢
  have hl : lv_has ls 7 [(0, .ref (ga g 34)), (1, .int x1), (2, .int x2)] := hl
  have hS : va_S (gA g) s.heap s.heap [] := va_S.rf
  obtain ⟨hx, hb, -, -, hown, hts, -, -, hz, -⟩ := id X
  show W p l e rm_Mo_examine s m _ below meth c s.heap [] 0 0 (MQ below (va_Qi k (Bw g) (gA g)) _ s 0 0 (gA g)) (F0 m 0 ls [])
  unfold p_Mo_examine at h
  refine lv_aload_n hx hb d_Mo_examine_0 rfl (lv_at hl 0 rfl) ?_
  refine gf_Mo_op X hP q_450 d_Mo_examine_1 ?_
  refine lv_iload_n hx hb d_Mo_examine_4 rfl (lv_at hl 1 rfl) ?_
  refine lv_bipush (v := 24) hx hb d_Mo_examine_5 (by decide) ?_
  refine lv_imul hx hb d_Mo_examine_7 ?_
  refine lv_iload_n hx hb d_Mo_examine_8 rfl (lv_at hl 2 rfl) ?_
  refine lv_iadd hx hb d_Mo_examine_9 ?_
  obtain ⟨hi1, h⟩ := h
  refine rw_iald X hP isI_39 hi1 d_Mo_examine_10 ?_
  refine lv_topi (fun y2 ey2 => ?_)
  have h := h y2 ey2
  refine lv_istore_n (lv' := [(3, .int y2), (0, .ref (ga g 34)), (1, .int x1), (2, .int x2)]) hx hb d_Mo_examine_11 rfl hl (by decide) rfl (fun ls hl => ?_)
  refine lv_aload_n hx hb d_Mo_examine_12 rfl (lv_at hl 1 rfl) ?_
  refine gf_Mo_arg X hP q_451 d_Mo_examine_13 ?_
  refine lv_iload_n hx hb d_Mo_examine_16 rfl (lv_at hl 2 rfl) ?_
  refine lv_bipush (v := 24) hx hb d_Mo_examine_17 (by decide) ?_
  refine lv_imul hx hb d_Mo_examine_19 ?_
  refine lv_iload_n hx hb d_Mo_examine_20 rfl (lv_at hl 3 rfl) ?_
  refine lv_iadd hx hb d_Mo_examine_21 ?_
  obtain ⟨hi3, h⟩ := h
  refine rw_iald X hP isI_40 hi3 d_Mo_examine_22 ?_
  refine lv_topi (fun y4 ey4 => ?_)
  have h := h y4 ey4
  refine lv_istore (lv' := [(4, .int y4), (3, .int y2), (0, .ref (ga g 34)), (1, .int x1), (2, .int x2)]) hx hb d_Mo_examine_23 hl (by decide) rfl (fun ls hl => ?_)
  refine lv_aload_n hx hb d_Mo_examine_25 rfl (lv_at hl 2 rfl) ?_
  refine gf_Mo_dead X hP q_459 d_Mo_examine_26 ?_
  refine lv_if_eq (tgt := 40) hx hb d_Mo_examine_29 (by decide) (fun c5 => ?_) (fun c5 => ?_)
  · have h := h.1 c5
    exact t_Mo_examine_b40 X h hP hS (lv_sub hl [2, 3, 4, 1, 0] rfl)
  · have h := h.2 c5
    refine lv_iload_n hx hb d_Mo_examine_32 rfl (lv_at hl 1 rfl) ?_
    refine lv_bipush (v := 14) hx hb d_Mo_examine_33 (by decide) ?_
    refine lv_icmp_eq (tgt := 40) hx hb d_Mo_examine_35 (by decide) (fun c6 => ?_) (fun c6 => ?_)
    · have h := h.1 c6
      exact t_Mo_examine_b40 X h hP hS (lv_sub hl [2, 3, 4, 1, 0] rfl)
    · have h := h.2 c6
      refine lv_iconst (v := 5) hx hb d_Mo_examine_38 (by decide) ?_
      exact rw_iret X hP hS h d_Mo_examine_39
theorem yv_Mo_examine : yV R_Mo y_Mo_examine prog_10_method_10_code 7 (some .int) 2 := ⟨by decide +kernel, q_567, qp_27, q_7, q_568⟩
/-! Mo.checkOne -/
theorem d_Mo_checkOne_0 : decode prog_10_method_11_code 0 = .ok (.aload_n 0, 1) := by decide +kernel
theorem d_Mo_checkOne_1 : decode prog_10_method_11_code 1 = .ok (.iconst 0, 1) := by decide +kernel
theorem d_Mo_checkOne_2 : decode prog_10_method_11_code 2 = .ok (.putfield 77, 3) := by decide +kernel
theorem d_Mo_checkOne_5 : decode prog_10_method_11_code 5 = .ok (.aload_n 0, 1) := by decide +kernel
theorem d_Mo_checkOne_6 : decode prog_10_method_11_code 6 = .ok (.iconst 0, 1) := by decide +kernel
theorem d_Mo_checkOne_7 : decode prog_10_method_11_code 7 = .ok (.putfield 91, 3) := by decide +kernel
theorem d_Mo_checkOne_10 : decode prog_10_method_11_code 10 = .ok (.aload_n 0, 1) := by decide +kernel
theorem d_Mo_checkOne_11 : decode prog_10_method_11_code 11 = .ok (.iconst 0, 1) := by decide +kernel
theorem d_Mo_checkOne_12 : decode prog_10_method_11_code 12 = .ok (.putfield 80, 3) := by decide +kernel
theorem d_Mo_checkOne_15 : decode prog_10_method_11_code 15 = .ok (.iconst 0, 1) := by decide +kernel
theorem d_Mo_checkOne_16 : decode prog_10_method_11_code 16 = .ok (.istore_n 2, 1) := by decide +kernel
theorem d_Mo_checkOne_17 : decode prog_10_method_11_code 17 = .ok (.iload_n 2, 1) := by decide +kernel
theorem d_Mo_checkOne_18 : decode prog_10_method_11_code 18 = .ok (.aload_n 0, 1) := by decide +kernel
theorem d_Mo_checkOne_19 : decode prog_10_method_11_code 19 = .ok (.getfield 19, 3) := by decide +kernel
theorem d_Mo_checkOne_22 : decode prog_10_method_11_code 22 = .ok (.iload_n 1, 1) := by decide +kernel
theorem d_Mo_checkOne_23 : decode prog_10_method_11_code 23 = .ok (.iaload, 1) := by decide +kernel
theorem d_Mo_checkOne_24 : decode prog_10_method_11_code 24 = .ok (.if_icmp .ge 37, 3) := by decide +kernel
theorem d_Mo_checkOne_27 : decode prog_10_method_11_code 27 = .ok (.aload_n 0, 1) := by decide +kernel
theorem d_Mo_checkOne_28 : decode prog_10_method_11_code 28 = .ok (.aload_n 0, 1) := by decide +kernel
theorem d_Mo_checkOne_29 : decode prog_10_method_11_code 29 = .ok (.iload_n 1, 1) := by decide +kernel
theorem d_Mo_checkOne_30 : decode prog_10_method_11_code 30 = .ok (.iload_n 2, 1) := by decide +kernel
theorem d_Mo_checkOne_31 : decode prog_10_method_11_code 31 = .ok (.invokevirtual 97, 3) := by decide +kernel
theorem d_Mo_checkOne_34 : decode prog_10_method_11_code 34 = .ok (.putfield 100, 3) := by decide +kernel
theorem d_Mo_checkOne_37 : decode prog_10_method_11_code 37 = .ok (.aload_n 0, 1) := by decide +kernel
theorem d_Mo_checkOne_38 : decode prog_10_method_11_code 38 = .ok (.getfield 100, 3) := by decide +kernel
theorem d_Mo_checkOne_41 : decode prog_10_method_11_code 41 = .ok (.ifCond .eq 14, 3) := by decide +kernel
theorem d_Mo_checkOne_44 : decode prog_10_method_11_code 44 = .ok (.sipush (-1000), 3) := by decide +kernel
theorem d_Mo_checkOne_47 : decode prog_10_method_11_code 47 = .ok (.bipush 100, 2) := by decide +kernel
theorem d_Mo_checkOne_49 : decode prog_10_method_11_code 49 = .ok (.iload_n 1, 1) := by decide +kernel
theorem d_Mo_checkOne_50 : decode prog_10_method_11_code 50 = .ok (.imul, 1) := by decide +kernel
theorem d_Mo_checkOne_51 : decode prog_10_method_11_code 51 = .ok (.isub, 1) := by decide +kernel
theorem d_Mo_checkOne_52 : decode prog_10_method_11_code 52 = .ok (.iload_n 2, 1) := by decide +kernel
theorem d_Mo_checkOne_53 : decode prog_10_method_11_code 53 = .ok (.isub, 1) := by decide +kernel
theorem d_Mo_checkOne_54 : decode prog_10_method_11_code 54 = .ok (.ireturn, 1) := by decide +kernel
theorem d_Mo_checkOne_55 : decode prog_10_method_11_code 55 = .ok (.iinc 2 1, 3) := by decide +kernel
theorem d_Mo_checkOne_58 : decode prog_10_method_11_code 58 = .ok (.goto (-41), 3) := by decide +kernel
theorem d_Mo_checkOne_61 : decode prog_10_method_11_code 61 = .ok (.aload_n 0, 1) := by decide +kernel
theorem d_Mo_checkOne_62 : decode prog_10_method_11_code 62 = .ok (.aload_n 0, 1) := by decide +kernel
theorem d_Mo_checkOne_63 : decode prog_10_method_11_code 63 = .ok (.getfield 77, 3) := by decide +kernel
theorem d_Mo_checkOne_66 : decode prog_10_method_11_code 66 = .ok (.ifCond .le 7, 3) := by decide +kernel
theorem d_Mo_checkOne_69 : decode prog_10_method_11_code 69 = .ok (.iconst 3, 1) := by decide +kernel
theorem d_Mo_checkOne_70 : decode prog_10_method_11_code 70 = .ok (.goto 28, 3) := by decide +kernel
theorem d_Mo_checkOne_73 : decode prog_10_method_11_code 73 = .ok (.aload_n 0, 1) := by decide +kernel
theorem d_Mo_checkOne_74 : decode prog_10_method_11_code 74 = .ok (.getfield 80, 3) := by decide +kernel
theorem d_Mo_checkOne_77 : decode prog_10_method_11_code 77 = .ok (.ifCond .ne 20, 3) := by decide +kernel
theorem d_Mo_checkOne_80 : decode prog_10_method_11_code 80 = .ok (.aload_n 0, 1) := by decide +kernel
theorem d_Mo_checkOne_81 : decode prog_10_method_11_code 81 = .ok (.getfield 91, 3) := by decide +kernel
theorem d_Mo_checkOne_84 : decode prog_10_method_11_code 84 = .ok (.aload_n 0, 1) := by decide +kernel
theorem d_Mo_checkOne_85 : decode prog_10_method_11_code 85 = .ok (.getfield 13, 3) := by decide +kernel
theorem d_Mo_checkOne_88 : decode prog_10_method_11_code 88 = .ok (.iload_n 1, 1) := by decide +kernel
theorem d_Mo_checkOne_89 : decode prog_10_method_11_code 89 = .ok (.iaload, 1) := by decide +kernel
theorem d_Mo_checkOne_90 : decode prog_10_method_11_code 90 = .ok (.if_icmp .eq 7, 3) := by decide +kernel
theorem d_Mo_checkOne_93 : decode prog_10_method_11_code 93 = .ok (.iconst 4, 1) := by decide +kernel
theorem d_Mo_checkOne_94 : decode prog_10_method_11_code 94 = .ok (.goto 4, 3) := by decide +kernel
theorem d_Mo_checkOne_97 : decode prog_10_method_11_code 97 = .ok (.iconst 0, 1) := by decide +kernel
theorem d_Mo_checkOne_98 : decode prog_10_method_11_code 98 = .ok (.putfield 100, 3) := by decide +kernel
theorem d_Mo_checkOne_101 : decode prog_10_method_11_code 101 = .ok (.aload_n 0, 1) := by decide +kernel
theorem d_Mo_checkOne_102 : decode prog_10_method_11_code 102 = .ok (.getfield 100, 3) := by decide +kernel
theorem d_Mo_checkOne_105 : decode prog_10_method_11_code 105 = .ok (.ifCond .ne 7, 3) := by decide +kernel
theorem d_Mo_checkOne_108 : decode prog_10_method_11_code 108 = .ok (.iconst 0, 1) := by decide +kernel
theorem d_Mo_checkOne_109 : decode prog_10_method_11_code 109 = .ok (.goto 18, 3) := by decide +kernel
theorem d_Mo_checkOne_112 : decode prog_10_method_11_code 112 = .ok (.sipush (-1000), 3) := by decide +kernel
theorem d_Mo_checkOne_115 : decode prog_10_method_11_code 115 = .ok (.bipush 100, 2) := by decide +kernel
theorem d_Mo_checkOne_117 : decode prog_10_method_11_code 117 = .ok (.iload_n 1, 1) := by decide +kernel
theorem d_Mo_checkOne_118 : decode prog_10_method_11_code 118 = .ok (.imul, 1) := by decide +kernel
theorem d_Mo_checkOne_119 : decode prog_10_method_11_code 119 = .ok (.isub, 1) := by decide +kernel
theorem d_Mo_checkOne_120 : decode prog_10_method_11_code 120 = .ok (.aload_n 0, 1) := by decide +kernel
theorem d_Mo_checkOne_121 : decode prog_10_method_11_code 121 = .ok (.getfield 19, 3) := by decide +kernel
theorem d_Mo_checkOne_124 : decode prog_10_method_11_code 124 = .ok (.iload_n 1, 1) := by decide +kernel
theorem d_Mo_checkOne_125 : decode prog_10_method_11_code 125 = .ok (.iaload, 1) := by decide +kernel
theorem d_Mo_checkOne_126 : decode prog_10_method_11_code 126 = .ok (.isub, 1) := by decide +kernel
theorem d_Mo_checkOne_127 : decode prog_10_method_11_code 127 = .ok (.ireturn, 1) := by decide +kernel
abbrev rm_Mo_checkOne : Room := { frames := 2, cells := 0, slots := 0, locals := 50 }
def p_Mo_checkOne_b127 (k : Int32 → vS → Prop) (V : vS) (s0 : Int32) : Prop := k s0 V
set_option maxRecDepth 100000 in
set_option maxHeartbeats 4000000 in
theorem t_Mo_checkOne_b127 {k : Int32 → vS → Prop} (X : cx g p s m meth c args R_Mo prog_10_method_11_code 3 (some .int)) {V : vS} {s0 : Int32} (h : p_Mo_checkOne_b127 k V s0) (hP : va_P g.1 vcl (cw g V) H) (hS : va_S (gA g) s.heap H locs) (hl : lv_has ls 3 []) : W p l e rm_Mo_checkOne s m args below meth c H locs 0 0 (MQ below (va_Qi k (Bw g) (gA g)) args s 0 0 (gA g)) (F0 m 127 ls [.int s0]) := by
  obtain ⟨hx, hb, -, -, hown, hts, -, -, hz, hG⟩ := id X
  unfold p_Mo_checkOne_b127 at h
  exact rw_iret X hP hS h d_Mo_checkOne_127
def p_Mo_checkOne_b98 (k : Int32 → vS → Prop) (V : vS) (x1 : Int32) (s1 : Int32) : Prop := ∀ V1 : vS, V1 = sv V 34 7 s1 → (((V1.1 34 7) = 0 → (p_Mo_checkOne_b127 k V1 0)) ∧ (¬ (V1.1 34 7) = 0 → (vp_in x1 4 ∧ (p_Mo_checkOne_b127 k V1 (((-1000) - (100 * x1)) - (V1.1 38 (nt x1)))))))
set_option maxRecDepth 100000 in
set_option maxHeartbeats 4000000 in
theorem t_Mo_checkOne_b98 {k : Int32 → vS → Prop} (X : cx g p s m meth c args R_Mo prog_10_method_11_code 3 (some .int)) {V : vS} {x1 : Int32} {s1 : Int32} (h : p_Mo_checkOne_b98 k V x1 s1) (hP : va_P g.1 vcl (cw g V) H) (hS : va_S (gA g) s.heap H locs) (hl : lv_has ls 3 [(0, .ref (ga g 34)), (1, .int x1)]) : W p l e rm_Mo_checkOne s m args below meth c H locs 0 0 (MQ below (va_Qi k (Bw g) (gA g)) args s 0 0 (gA g)) (F0 m 98 ls [.int s1, .ref (ga g 34)]) := by
  obtain ⟨hx, hb, -, -, hown, hts, -, -, hz, hG⟩ := id X
  unfold p_Mo_checkOne_b98 at h
  refine pf_Mo_fault X hP hS q_453 d_Mo_checkOne_98 (fun V1 H locs eV1 hP hS => ?_)
  have h := h V1 eV1
  refine lv_aload_n hx hb d_Mo_checkOne_101 rfl (lv_at hl 0 rfl) ?_
  refine gf_Mo_fault X hP q_453 d_Mo_checkOne_102 ?_
  refine lv_if_ne (tgt := 112) hx hb d_Mo_checkOne_105 (by decide) (fun c2 => ?_) (fun c2 => ?_)
  · have h := h.2 c2
    refine lv_sipush (v := (-1000)) hx hb d_Mo_checkOne_112 (by decide) ?_
    refine lv_bipush (v := 100) hx hb d_Mo_checkOne_115 (by decide) ?_
    refine lv_iload_n hx hb d_Mo_checkOne_117 rfl (lv_at hl 1 rfl) ?_
    refine lv_imul hx hb d_Mo_checkOne_118 ?_
    refine lv_isub hx hb d_Mo_checkOne_119 ?_
    refine lv_aload_n hx hb d_Mo_checkOne_120 rfl (lv_at hl 0 rfl) ?_
    refine gf_Mo_length X hP q_449 d_Mo_checkOne_121 ?_
    refine lv_iload_n hx hb d_Mo_checkOne_124 rfl (lv_at hl 1 rfl) ?_
    obtain ⟨hi3, h⟩ := h
    refine rw_iald X hP isI_38 hi3 d_Mo_checkOne_125 ?_
    refine lv_isub hx hb d_Mo_checkOne_126 ?_
    exact t_Mo_checkOne_b127 X h hP hS (lv_sub hl [] rfl)
  · have h := h.1 c2
    refine lv_iconst (v := 0) hx hb d_Mo_checkOne_108 (by decide) ?_
    refine lv_goto (tgt := 127) hx hb d_Mo_checkOne_109 (by decide) ?_
    exact t_Mo_checkOne_b127 X h hP hS (lv_sub hl [] rfl)
def p_Mo_checkOne_b97 (k : Int32 → vS → Prop) (V : vS) (x1 : Int32) : Prop := p_Mo_checkOne_b98 k V x1 0
set_option maxRecDepth 100000 in
set_option maxHeartbeats 4000000 in
theorem t_Mo_checkOne_b97 {k : Int32 → vS → Prop} (X : cx g p s m meth c args R_Mo prog_10_method_11_code 3 (some .int)) {V : vS} {x1 : Int32} (h : p_Mo_checkOne_b97 k V x1) (hP : va_P g.1 vcl (cw g V) H) (hS : va_S (gA g) s.heap H locs) (hl : lv_has ls 3 [(0, .ref (ga g 34)), (1, .int x1)]) : W p l e rm_Mo_checkOne s m args below meth c H locs 0 0 (MQ below (va_Qi k (Bw g) (gA g)) args s 0 0 (gA g)) (F0 m 97 ls [.ref (ga g 34)]) := by
  obtain ⟨hx, hb, -, -, hown, hts, -, -, hz, hG⟩ := id X
  unfold p_Mo_checkOne_b97 at h
  refine lv_iconst (v := 0) hx hb d_Mo_checkOne_97 (by decide) ?_
  exact t_Mo_checkOne_b98 X h hP hS (lv_sub hl [0, 1] rfl)
def p_Mo_checkOne_b17 (k : Int32 → vS → Prop) : Nat → vS → Int32 → Int32 → Prop
  | 0, _, _, _ => False
  | n + 1, V, x1, x2 => vp_in x1 4 ∧ (((V.1 38 (nt x1)) ≤ x2 → (((V.1 34 11) ≤ 0 → (((V.1 34 13) = 0 → (vp_in x1 4 ∧ (((V.1 34 12) = (V.1 36 (nt x1)) → (p_Mo_checkOne_b97 k V x1)) ∧ (¬ (V.1 34 12) = (V.1 36 (nt x1)) → (p_Mo_checkOne_b98 k V x1 4))))) ∧ (¬ (V.1 34 13) = 0 → (p_Mo_checkOne_b97 k V x1)))) ∧ (¬ (V.1 34 11) ≤ 0 → (p_Mo_checkOne_b98 k V x1 3)))) ∧ (¬ (V.1 38 (nt x1)) ≤ x2 → (p_Mo_examine (fun r8 V7 => ∀ V10 : vS, V10 = sv V7 34 7 r8 → (((V10.1 34 7) = 0 → (∀ y12 : Int32, y12 = x2 + 1 → ((p_Mo_checkOne_b17 k n) V10 x1 y12))) ∧ (¬ (V10.1 34 7) = 0 → (k (((-1000) - (100 * x1)) - x2) V10)))) V x1 x2)))
set_option maxRecDepth 100000 in
set_option maxHeartbeats 4000000 in
theorem t_Mo_checkOne_b17 {k : Int32 → vS → Prop} (X : cx g p s m meth c args R_Mo prog_10_method_11_code 3 (some .int)) : ∀ (n : Nat) (V : vS) (x1 : Int32) (x2 : Int32), p_Mo_checkOne_b17 k n V x1 x2 → ∀ (H : Heap) (locs : List Loc) (ls : Array Slot), va_P g.1 vcl (cw g V) H → va_S (gA g) s.heap H locs → lv_has ls 3 [(0, .ref (ga g 34)), (1, .int x1), (2, .int x2)] → W p l e rm_Mo_checkOne s m args below meth c H locs 0 0 (MQ below (va_Qi k (Bw g) (gA g)) args s 0 0 (gA g)) (F0 m 17 ls []) := by
  obtain ⟨hx, hb, -, -, hown, hts, -, -, hz, hG⟩ := id X
  intro n
  induction n with
  | zero =>
    intro V x1 x2 h
    exact h.elim
  | succ n ih =>
    intro V x1 x2 h H locs ls hP hS hl
    unfold p_Mo_checkOne_b17 at h
    refine lv_iload_n hx hb d_Mo_checkOne_17 rfl (lv_at hl 2 rfl) ?_
    refine lv_aload_n hx hb d_Mo_checkOne_18 rfl (lv_at hl 0 rfl) ?_
    refine gf_Mo_length X hP q_449 d_Mo_checkOne_19 ?_
    refine lv_iload_n hx hb d_Mo_checkOne_22 rfl (lv_at hl 1 rfl) ?_
    obtain ⟨hi1, h⟩ := h
    refine rw_iald X hP isI_38 hi1 d_Mo_checkOne_23 ?_
    refine lv_icmp_ge (tgt := 61) hx hb d_Mo_checkOne_24 (by decide) (fun c2 => ?_) (fun c2 => ?_)
    · have h := h.1 c2
      refine lv_aload_n hx hb d_Mo_checkOne_61 rfl (lv_at hl 0 rfl) ?_
      refine lv_aload_n hx hb d_Mo_checkOne_62 rfl (lv_at hl 0 rfl) ?_
      refine gf_Mo_open X hP q_457 d_Mo_checkOne_63 ?_
      refine lv_if_le (tgt := 73) hx hb d_Mo_checkOne_66 (by decide) (fun c3 => ?_) (fun c3 => ?_)
      · have h := h.1 c3
        refine lv_aload_n hx hb d_Mo_checkOne_73 rfl (lv_at hl 0 rfl) ?_
        refine gf_Mo_dead X hP q_459 d_Mo_checkOne_74 ?_
        refine lv_if_ne (tgt := 97) hx hb d_Mo_checkOne_77 (by decide) (fun c4 => ?_) (fun c4 => ?_)
        · have h := h.2 c4
          exact t_Mo_checkOne_b97 X h hP hS (lv_sub hl [0, 1] rfl)
        · have h := h.1 c4
          refine lv_aload_n hx hb d_Mo_checkOne_80 rfl (lv_at hl 0 rfl) ?_
          refine gf_Mo_height X hP q_458 d_Mo_checkOne_81 ?_
          refine lv_aload_n hx hb d_Mo_checkOne_84 rfl (lv_at hl 0 rfl) ?_
          refine gf_Mo_gives X hP q_447 d_Mo_checkOne_85 ?_
          refine lv_iload_n hx hb d_Mo_checkOne_88 rfl (lv_at hl 1 rfl) ?_
          obtain ⟨hi5, h⟩ := h
          refine rw_iald X hP isI_36 hi5 d_Mo_checkOne_89 ?_
          refine lv_icmp_eq (tgt := 97) hx hb d_Mo_checkOne_90 (by decide) (fun c6 => ?_) (fun c6 => ?_)
          · have h := h.1 c6
            exact t_Mo_checkOne_b97 X h hP hS (lv_sub hl [0, 1] rfl)
          · have h := h.2 c6
            refine lv_iconst (v := 4) hx hb d_Mo_checkOne_93 (by decide) ?_
            refine lv_goto (tgt := 98) hx hb d_Mo_checkOne_94 (by decide) ?_
            exact t_Mo_checkOne_b98 X h hP hS (lv_sub hl [0, 1] rfl)
      · have h := h.2 c3
        refine lv_iconst (v := 3) hx hb d_Mo_checkOne_69 (by decide) ?_
        refine lv_goto (tgt := 98) hx hb d_Mo_checkOne_70 (by decide) ?_
        exact t_Mo_checkOne_b98 X h hP hS (lv_sub hl [0, 1] rfl)
    · have h := h.2 c2
      refine lv_aload_n hx hb d_Mo_checkOne_27 rfl (lv_at hl 0 rfl) ?_
      refine lv_aload_n hx hb d_Mo_checkOne_28 rfl (lv_at hl 0 rfl) ?_
      refine lv_iload_n hx hb d_Mo_checkOne_29 rfl (lv_at hl 1 rfl) ?_
      refine lv_iload_n hx hb d_Mo_checkOne_30 rfl (lv_at hl 2 rfl) ?_
      refine rw_cVi (rest := [.ref (ga g 34)]) X hP hS yv_Mo_examine isO_Mo (c_Mo_examine hG h) q_565 ⟨rfl, rfl, by decide, by decide⟩ rfl rfl hl.1 (Nat.le_of_ble_eq_true rfl) ⟨Nat.zero_le _, Nat.zero_le _⟩ d_Mo_checkOne_31 (fun r8 V7 H locs h hP hS => ?_)
      refine pf_Mo_fault X hP hS q_453 d_Mo_checkOne_34 (fun V10 H locs eV10 hP hS => ?_)
      have h := h V10 eV10
      refine lv_aload_n hx hb d_Mo_checkOne_37 rfl (lv_at hl 0 rfl) ?_
      refine gf_Mo_fault X hP q_453 d_Mo_checkOne_38 ?_
      refine lv_if_eq (tgt := 55) hx hb d_Mo_checkOne_41 (by decide) (fun c11 => ?_) (fun c11 => ?_)
      · have h := h.1 c11
        obtain ⟨y12, ey12⟩ : ∃ z : Int32, z = x2 + 1 := ⟨_, rfl⟩
        have h := h y12 ey12
        refine lv_iinc (v := y12) (lv' := [(2, .int y12), (0, .ref (ga g 34)), (1, .int x1)]) hx hb d_Mo_checkOne_55 hl (k := 2) rfl (by rw [ey12]; rfl) (by decide) rfl (fun ls hl => ?_)
        refine lv_goto (tgt := 17) hx hb d_Mo_checkOne_58 (by decide) ?_
        exact ih V10 x1 y12 h _ _ _ hP hS (lv_sub hl [1, 2, 0] rfl)
      · have h := h.2 c11
        refine lv_sipush (v := (-1000)) hx hb d_Mo_checkOne_44 (by decide) ?_
        refine lv_bipush (v := 100) hx hb d_Mo_checkOne_47 (by decide) ?_
        refine lv_iload_n hx hb d_Mo_checkOne_49 rfl (lv_at hl 1 rfl) ?_
        refine lv_imul hx hb d_Mo_checkOne_50 ?_
        refine lv_isub hx hb d_Mo_checkOne_51 ?_
        refine lv_iload_n hx hb d_Mo_checkOne_52 rfl (lv_at hl 2 rfl) ?_
        refine lv_isub hx hb d_Mo_checkOne_53 ?_
        exact rw_iret X hP hS h d_Mo_checkOne_54
def p_Mo_checkOne (k : Int32 → vS → Prop) (V : vS) (x1 : Int32) : Prop := ∀ V1 : vS, V1 = sv V 34 11 0 → (∀ V2 : vS, V2 = sv V1 34 12 0 → (∀ V3 : vS, V3 = sv V2 34 13 0 → (∃ n, p_Mo_checkOne_b17 k n V3 x1 0)))
set_option maxRecDepth 100000 in
set_option maxHeartbeats 4000000 in
theorem c_Mo_checkOne {l : Launch} {g : gT} (hG : gd g) {V : vS} {x1 : Int32} {k : Int32 → vS → Prop} (h : p_Mo_checkOne k V x1) : Ci g l y_Mo_checkOne prog_10_method_11_code 3 (some .int) rm_Mo_checkOne [.ref (ga g 34), .int x1] V k := by
  unfold Ci
  refine Met.ofW (cc := prog_10_method_11_code) (maxL := 3) (ret := some .int) (by decide) rfl ?_
  intro p e s m args below meth c s₁ B hml hv
  obtain ⟨rfl, hP, hK, hZ⟩ := hv
  have X : cx g p s m meth c [.ref (ga g 34), .int x1].toArray R_Mo prog_10_method_11_code 3 (some .int) := ⟨B.exec, B.bytes, B.returns, hml, findClass_of_methodNamed B.named, fun w hw => atoms_spec (ws := Cond.code y_Mo_checkOne prog_10_method_11_code 3 (some .int) :: TBL) B.pre w (List.mem_cons_of_mem _ hw), B.notSynchronized, hK, hZ, hG⟩
  have hl := lv_entry [.ref (ga g 34), .int x1] (n := 3) (Nat.le_of_ble_eq_true rfl)
  rw [lg_entry_eq]
  generalize (lg_sl [.ref (ga g 34), .int x1] ++ List.replicate (3 - (lg_sl [.ref (ga g 34), .int x1]).length) Slot.unset).toArray = ls at hl ⊢
  have hl : lv_has ls 3 [(0, .ref (ga g 34)), (1, .int x1)] := hl
  have hS : va_S (gA g) s.heap s.heap [] := va_S.rf
  obtain ⟨hx, hb, -, -, hown, hts, -, -, hz, -⟩ := id X
  show W p l e rm_Mo_checkOne s m _ below meth c s.heap [] 0 0 (MQ below (va_Qi k (Bw g) (gA g)) _ s 0 0 (gA g)) (F0 m 0 ls [])
  unfold p_Mo_checkOne at h
  refine lv_aload_n hx hb d_Mo_checkOne_0 rfl (lv_at hl 0 rfl) ?_
  refine lv_iconst (v := 0) hx hb d_Mo_checkOne_1 (by decide) ?_
  refine pf_Mo_open X hP hS q_457 d_Mo_checkOne_2 (fun V1 H locs eV1 hP hS => ?_)
  have h := h V1 eV1
  refine lv_aload_n hx hb d_Mo_checkOne_5 rfl (lv_at hl 0 rfl) ?_
  refine lv_iconst (v := 0) hx hb d_Mo_checkOne_6 (by decide) ?_
  refine pf_Mo_height X hP hS q_458 d_Mo_checkOne_7 (fun V2 H locs eV2 hP hS => ?_)
  have h := h V2 eV2
  refine lv_aload_n hx hb d_Mo_checkOne_10 rfl (lv_at hl 0 rfl) ?_
  refine lv_iconst (v := 0) hx hb d_Mo_checkOne_11 (by decide) ?_
  refine pf_Mo_dead X hP hS q_459 (by decide) d_Mo_checkOne_12 (fun V3 H locs eV3 hP hS => ?_)
  have h := h V3 eV3
  refine lv_iconst (v := 0) hx hb d_Mo_checkOne_15 (by decide) ?_
  refine lv_istore_n (lv' := [(2, .int 0), (0, .ref (ga g 34)), (1, .int x1)]) hx hb d_Mo_checkOne_16 rfl hl (by decide) rfl (fun ls hl => ?_)
  obtain ⟨n, h⟩ := h
  exact t_Mo_checkOne_b17 X n V3 x1 0 h _ _ _ hP hS (lv_sub hl [1, 2, 0] rfl)
theorem yv_Mo_checkOne : yV R_Mo y_Mo_checkOne prog_10_method_11_code 3 (some .int) 1 := ⟨by decide +kernel, q_563, qp_26, q_7, q_564⟩
/-! Mo.check -/
theorem d_Mo_check_0 : decode prog_10_method_12_code 0 = .ok (.aload_n 0, 1) := by decide +kernel
theorem d_Mo_check_1 : decode prog_10_method_12_code 1 = .ok (.getfield 67, 3) := by decide +kernel
theorem d_Mo_check_4 : decode prog_10_method_12_code 4 = .ok (.ifCond .ne 6, 3) := by decide +kernel
theorem d_Mo_check_7 : decode prog_10_method_12_code 7 = .ok (.bipush (-3), 2) := by decide +kernel
theorem d_Mo_check_9 : decode prog_10_method_12_code 9 = .ok (.ireturn, 1) := by decide +kernel
theorem d_Mo_check_10 : decode prog_10_method_12_code 10 = .ok (.aload_n 0, 1) := by decide +kernel
theorem d_Mo_check_11 : decode prog_10_method_12_code 11 = .ok (.iconst 0, 1) := by decide +kernel
theorem d_Mo_check_12 : decode prog_10_method_12_code 12 = .ok (.putfield 57, 3) := by decide +kernel
theorem d_Mo_check_15 : decode prog_10_method_12_code 15 = .ok (.iconst 0, 1) := by decide +kernel
theorem d_Mo_check_16 : decode prog_10_method_12_code 16 = .ok (.istore_n 1, 1) := by decide +kernel
theorem d_Mo_check_17 : decode prog_10_method_12_code 17 = .ok (.iload_n 1, 1) := by decide +kernel
theorem d_Mo_check_18 : decode prog_10_method_12_code 18 = .ok (.aload_n 0, 1) := by decide +kernel
theorem d_Mo_check_19 : decode prog_10_method_12_code 19 = .ok (.getfield 67, 3) := by decide +kernel
theorem d_Mo_check_22 : decode prog_10_method_12_code 22 = .ok (.if_icmp .ge 21, 3) := by decide +kernel
theorem d_Mo_check_25 : decode prog_10_method_12_code 25 = .ok (.aload_n 0, 1) := by decide +kernel
theorem d_Mo_check_26 : decode prog_10_method_12_code 26 = .ok (.iload_n 1, 1) := by decide +kernel
theorem d_Mo_check_27 : decode prog_10_method_12_code 27 = .ok (.invokevirtual 103, 3) := by decide +kernel
theorem d_Mo_check_30 : decode prog_10_method_12_code 30 = .ok (.istore_n 2, 1) := by decide +kernel
theorem d_Mo_check_31 : decode prog_10_method_12_code 31 = .ok (.iload_n 2, 1) := by decide +kernel
theorem d_Mo_check_32 : decode prog_10_method_12_code 32 = .ok (.ifCond .ge 5, 3) := by decide +kernel
theorem d_Mo_check_35 : decode prog_10_method_12_code 35 = .ok (.iload_n 2, 1) := by decide +kernel
theorem d_Mo_check_36 : decode prog_10_method_12_code 36 = .ok (.ireturn, 1) := by decide +kernel
theorem d_Mo_check_37 : decode prog_10_method_12_code 37 = .ok (.iinc 1 1, 3) := by decide +kernel
theorem d_Mo_check_40 : decode prog_10_method_12_code 40 = .ok (.goto (-23), 3) := by decide +kernel
theorem d_Mo_check_43 : decode prog_10_method_12_code 43 = .ok (.aload_n 0, 1) := by decide +kernel
theorem d_Mo_check_44 : decode prog_10_method_12_code 44 = .ok (.iconst 1, 1) := by decide +kernel
theorem d_Mo_check_45 : decode prog_10_method_12_code 45 = .ok (.putfield 57, 3) := by decide +kernel
theorem d_Mo_check_48 : decode prog_10_method_12_code 48 = .ok (.iconst 0, 1) := by decide +kernel
theorem d_Mo_check_49 : decode prog_10_method_12_code 49 = .ok (.ireturn, 1) := by decide +kernel
abbrev rm_Mo_check : Room := { frames := 3, cells := 0, slots := 0, locals := 72 }
def p_Mo_check_b17 (k : Int32 → vS → Prop) : Nat → vS → Int32 → Prop
  | 0, _, _ => False
  | n + 1, V, x1 => ((V.1 34 6) ≤ x1 → (∀ V2 : vS, V2 = sv V 34 8 1 → (k 0 V2))) ∧ (¬ (V.1 34 6) ≤ x1 → (p_Mo_checkOne (fun r4 V3 => (0 ≤ r4 → (∀ y7 : Int32, y7 = x1 + 1 → ((p_Mo_check_b17 k n) V3 y7))) ∧ (¬ 0 ≤ r4 → (k r4 V3))) V x1))
set_option maxRecDepth 100000 in
set_option maxHeartbeats 4000000 in
theorem t_Mo_check_b17 {k : Int32 → vS → Prop} (X : cx g p s m meth c args R_Mo prog_10_method_12_code 3 (some .int)) : ∀ (n : Nat) (V : vS) (x1 : Int32), p_Mo_check_b17 k n V x1 → ∀ (H : Heap) (locs : List Loc) (ls : Array Slot), va_P g.1 vcl (cw g V) H → va_S (gA g) s.heap H locs → lv_has ls 3 [(0, .ref (ga g 34)), (1, .int x1)] → W p l e rm_Mo_check s m args below meth c H locs 0 0 (MQ below (va_Qi k (Bw g) (gA g)) args s 0 0 (gA g)) (F0 m 17 ls []) := by
  obtain ⟨hx, hb, -, -, hown, hts, -, -, hz, hG⟩ := id X
  intro n
  induction n with
  | zero =>
    intro V x1 h
    exact h.elim
  | succ n ih =>
    intro V x1 h H locs ls hP hS hl
    unfold p_Mo_check_b17 at h
    refine lv_iload_n hx hb d_Mo_check_17 rfl (lv_at hl 1 rfl) ?_
    refine lv_aload_n hx hb d_Mo_check_18 rfl (lv_at hl 0 rfl) ?_
    refine gf_Mo_functions X hP q_452 d_Mo_check_19 ?_
    refine lv_icmp_ge (tgt := 43) hx hb d_Mo_check_22 (by decide) (fun c1 => ?_) (fun c1 => ?_)
    · have h := h.1 c1
      refine lv_aload_n hx hb d_Mo_check_43 rfl (lv_at hl 0 rfl) ?_
      refine lv_iconst (v := 1) hx hb d_Mo_check_44 (by decide) ?_
      refine pf_Mo_checked X hP hS q_454 (by decide) d_Mo_check_45 (fun V2 H locs eV2 hP hS => ?_)
      have h := h V2 eV2
      refine lv_iconst (v := 0) hx hb d_Mo_check_48 (by decide) ?_
      exact rw_iret X hP hS h d_Mo_check_49
    · have h := h.2 c1
      refine lv_aload_n hx hb d_Mo_check_25 rfl (lv_at hl 0 rfl) ?_
      refine lv_iload_n hx hb d_Mo_check_26 rfl (lv_at hl 1 rfl) ?_
      refine rw_cVi (rest := []) X hP hS yv_Mo_checkOne isO_Mo (c_Mo_checkOne hG h) q_561 ⟨rfl, rfl, by decide, by decide⟩ rfl rfl hl.1 (Nat.le_of_ble_eq_true rfl) ⟨Nat.zero_le _, Nat.zero_le _⟩ d_Mo_check_27 (fun r4 V3 H locs h hP hS => ?_)
      refine lv_istore_n (lv' := [(2, .int r4), (0, .ref (ga g 34)), (1, .int x1)]) hx hb d_Mo_check_30 rfl hl (by decide) rfl (fun ls hl => ?_)
      refine lv_iload_n hx hb d_Mo_check_31 rfl (lv_at hl 0 rfl) ?_
      refine lv_if_ge (tgt := 37) hx hb d_Mo_check_32 (by decide) (fun c6 => ?_) (fun c6 => ?_)
      · have h := h.1 c6
        obtain ⟨y7, ey7⟩ : ∃ z : Int32, z = x1 + 1 := ⟨_, rfl⟩
        have h := h y7 ey7
        refine lv_iinc (v := y7) (lv' := [(1, .int y7), (2, .int r4), (0, .ref (ga g 34))]) hx hb d_Mo_check_37 hl (k := 2) rfl (by rw [ey7]; rfl) (by decide) rfl (fun ls hl => ?_)
        refine lv_goto (tgt := 17) hx hb d_Mo_check_40 (by decide) ?_
        exact ih V3 y7 h _ _ _ hP hS (lv_sub hl [2, 0] rfl)
      · have h := h.2 c6
        refine lv_iload_n hx hb d_Mo_check_35 rfl (lv_at hl 0 rfl) ?_
        exact rw_iret X hP hS h d_Mo_check_36
def p_Mo_check (k : Int32 → vS → Prop) (V : vS) : Prop := ((V.1 34 6) = 0 → (k (-3) V)) ∧ (¬ (V.1 34 6) = 0 → (∀ V2 : vS, V2 = sv V 34 8 0 → (∃ n, p_Mo_check_b17 k n V2 0)))
set_option maxRecDepth 100000 in
set_option maxHeartbeats 4000000 in
theorem c_Mo_check {l : Launch} {g : gT} (hG : gd g) {V : vS} {k : Int32 → vS → Prop} (h : p_Mo_check k V) : Ci g l y_Mo_check prog_10_method_12_code 3 (some .int) rm_Mo_check [.ref (ga g 34)] V k := by
  unfold Ci
  refine Met.ofW (cc := prog_10_method_12_code) (maxL := 3) (ret := some .int) (by decide) rfl ?_
  intro p e s m args below meth c s₁ B hml hv
  obtain ⟨rfl, hP, hK, hZ⟩ := hv
  have X : cx g p s m meth c [.ref (ga g 34)].toArray R_Mo prog_10_method_12_code 3 (some .int) := ⟨B.exec, B.bytes, B.returns, hml, findClass_of_methodNamed B.named, fun w hw => atoms_spec (ws := Cond.code y_Mo_check prog_10_method_12_code 3 (some .int) :: TBL) B.pre w (List.mem_cons_of_mem _ hw), B.notSynchronized, hK, hZ, hG⟩
  have hl := lv_entry [.ref (ga g 34)] (n := 3) (Nat.le_of_ble_eq_true rfl)
  rw [lg_entry_eq]
  generalize (lg_sl [.ref (ga g 34)] ++ List.replicate (3 - (lg_sl [.ref (ga g 34)]).length) Slot.unset).toArray = ls at hl ⊢
  have hl : lv_has ls 3 [(0, .ref (ga g 34))] := hl
  have hS : va_S (gA g) s.heap s.heap [] := va_S.rf
  obtain ⟨hx, hb, -, -, hown, hts, -, -, hz, -⟩ := id X
  show W p l e rm_Mo_check s m _ below meth c s.heap [] 0 0 (MQ below (va_Qi k (Bw g) (gA g)) _ s 0 0 (gA g)) (F0 m 0 ls [])
  unfold p_Mo_check at h
  refine lv_aload_n hx hb d_Mo_check_0 rfl (lv_at hl 0 rfl) ?_
  refine gf_Mo_functions X hP q_452 d_Mo_check_1 ?_
  refine lv_if_ne (tgt := 10) hx hb d_Mo_check_4 (by decide) (fun c1 => ?_) (fun c1 => ?_)
  · have h := h.2 c1
    refine lv_aload_n hx hb d_Mo_check_10 rfl (lv_at hl 0 rfl) ?_
    refine lv_iconst (v := 0) hx hb d_Mo_check_11 (by decide) ?_
    refine pf_Mo_checked X hP hS q_454 (by decide) d_Mo_check_12 (fun V2 H locs eV2 hP hS => ?_)
    have h := h V2 eV2
    refine lv_iconst (v := 0) hx hb d_Mo_check_15 (by decide) ?_
    refine lv_istore_n (lv' := [(1, .int 0), (0, .ref (ga g 34))]) hx hb d_Mo_check_16 rfl hl (by decide) rfl (fun ls hl => ?_)
    obtain ⟨n, h⟩ := h
    exact t_Mo_check_b17 X n V2 0 h _ _ _ hP hS (lv_sub hl [1, 0] rfl)
  · have h := h.1 c1
    refine lv_bipush (v := (-3)) hx hb d_Mo_check_7 (by decide) ?_
    exact rw_iret X hP hS h d_Mo_check_9
theorem yv_Mo_check : yV R_Mo y_Mo_check prog_10_method_12_code 3 (some .int) 0 := ⟨by decide +kernel, q_558, q_559, q_7, q_560⟩
/-! Mo.fault -/
theorem d_Mo_fault_0 : decode prog_10_method_13_code 0 = .ok (.aload_n 0, 1) := by decide +kernel
theorem d_Mo_fault_1 : decode prog_10_method_13_code 1 = .ok (.getfield 100, 3) := by decide +kernel
theorem d_Mo_fault_4 : decode prog_10_method_13_code 4 = .ok (.ireturn, 1) := by decide +kernel
abbrev rm_Mo_fault : Room := { frames := 0, cells := 0, slots := 0, locals := 0 }
def p_Mo_fault (k : Int32 → vS → Prop) (V : vS) : Prop := k (V.1 34 7) V
set_option maxRecDepth 100000 in
set_option maxHeartbeats 4000000 in
theorem c_Mo_fault {l : Launch} {g : gT} (hG : gd g) {V : vS} {k : Int32 → vS → Prop} (h : p_Mo_fault k V) : Ci g l y_Mo_fault prog_10_method_13_code 1 (some .int) rm_Mo_fault [.ref (ga g 34)] V k := by
  unfold Ci
  refine Met.ofW (cc := prog_10_method_13_code) (maxL := 1) (ret := some .int) (by decide) rfl ?_
  intro p e s m args below meth c s₁ B hml hv
  obtain ⟨rfl, hP, hK, hZ⟩ := hv
  have X : cx g p s m meth c [.ref (ga g 34)].toArray R_Mo prog_10_method_13_code 1 (some .int) := ⟨B.exec, B.bytes, B.returns, hml, findClass_of_methodNamed B.named, fun w hw => atoms_spec (ws := Cond.code y_Mo_fault prog_10_method_13_code 1 (some .int) :: TBL) B.pre w (List.mem_cons_of_mem _ hw), B.notSynchronized, hK, hZ, hG⟩
  have hl := lv_entry [.ref (ga g 34)] (n := 1) (Nat.le_of_ble_eq_true rfl)
  rw [lg_entry_eq]
  generalize (lg_sl [.ref (ga g 34)] ++ List.replicate (1 - (lg_sl [.ref (ga g 34)]).length) Slot.unset).toArray = ls at hl ⊢
  have hl : lv_has ls 1 [(0, .ref (ga g 34))] := hl
  have hS : va_S (gA g) s.heap s.heap [] := va_S.rf
  obtain ⟨hx, hb, -, -, hown, hts, -, -, hz, -⟩ := id X
  show W p l e rm_Mo_fault s m _ below meth c s.heap [] 0 0 (MQ below (va_Qi k (Bw g) (gA g)) _ s 0 0 (gA g)) (F0 m 0 ls [])
  unfold p_Mo_fault at h
  refine lv_aload_n hx hb d_Mo_fault_0 rfl (lv_at hl 0 rfl) ?_
  refine gf_Mo_fault X hP q_453 d_Mo_fault_1 ?_
  exact rw_iret X hP hS h d_Mo_fault_4
theorem yv_Mo_fault : yV R_Mo y_Mo_fault prog_10_method_13_code 1 (some .int) 0 := ⟨by decide +kernel, q_582, q_583, q_7, q_584⟩
end MM
