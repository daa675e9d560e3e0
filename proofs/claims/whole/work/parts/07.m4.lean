section MM
variable {p : Program} {l : Launch} {e : Env} {s : State} {m : MethodId} {args : Array Value} {below : List Frame} {meth : Method} {c : Code} {H : Heap} {locs : List Loc}
variable {g : gT} {ls : Array Slot}
/-! PR.forgetCheckAndRun -/
theorem d_PR_forgetCheckAndRun_0 : decode prog_1_method_16_code 0 = .ok (.aload_n 0, 1) := by decide +kernel
theorem d_PR_forgetCheckAndRun_1 : decode prog_1_method_16_code 1 = .ok (.iconst 0, 1) := by decide +kernel
theorem d_PR_forgetCheckAndRun_2 : decode prog_1_method_16_code 2 = .ok (.putfield 32, 3) := by decide +kernel
theorem d_PR_forgetCheckAndRun_5 : decode prog_1_method_16_code 5 = .ok (.aload_n 0, 1) := by decide +kernel
theorem d_PR_forgetCheckAndRun_6 : decode prog_1_method_16_code 6 = .ok (.getfield 28, 3) := by decide +kernel
theorem d_PR_forgetCheckAndRun_9 : decode prog_1_method_16_code 9 = .ok (.invokevirtual 147, 3) := by decide +kernel
theorem d_PR_forgetCheckAndRun_12 : decode prog_1_method_16_code 12 = .ok (.return_, 1) := by decide +kernel
abbrev rm_PR_forgetCheckAndRun : Room := { frames := 2, cells := 0, slots := 0, locals := 40 }
def p_PR_forgetCheckAndRun (k : vS → Prop) (V : vS) : Prop := ∀ V1 : vS, V1 = sv V 0 3 0 → (p_Mc_dropRun (fun V2 => k V2) V1)
set_option maxRecDepth 100000 in
set_option maxHeartbeats 4000000 in
theorem c_PR_forgetCheckAndRun {l : Launch} {g : gT} (hG : gd g) {V : vS} {k : vS → Prop} (h : p_PR_forgetCheckAndRun k V) : Cv g l y_PR_forgetCheckAndRun prog_1_method_16_code 1 (none) rm_PR_forgetCheckAndRun [.ref (ga g 0)] V k := by
  unfold Cv
  refine Met.ofW (cc := prog_1_method_16_code) (maxL := 1) (ret := none) (by decide) rfl ?_
  intro p e s m args below meth c s₁ B hml hv
  obtain ⟨rfl, hP, hK, hZ⟩ := hv
  have X : cx g p s m meth c [.ref (ga g 0)].toArray R_PR prog_1_method_16_code 1 (none) := ⟨B.exec, B.bytes, B.returns, hml, findClass_of_methodNamed B.named, fun w hw => atoms_spec (ws := Cond.code y_PR_forgetCheckAndRun prog_1_method_16_code 1 (none) :: TBL) B.pre w (List.mem_cons_of_mem _ hw), B.notSynchronized, hK, hZ, hG⟩
  have hl := lv_entry [.ref (ga g 0)] (n := 1) (Nat.le_of_ble_eq_true rfl)
  rw [lg_entry_eq]
  generalize (lg_sl [.ref (ga g 0)] ++ List.replicate (1 - (lg_sl [.ref (ga g 0)]).length) Slot.unset).toArray = ls at hl ⊢
  have hl : lv_has ls 1 [(0, .ref (ga g 0))] := hl
  have hS : va_S (gA g) s.heap s.heap [] := va_S.rf
  obtain ⟨hx, hb, -, -, hown, hts, -, -, hz, -⟩ := id X
  show W p l e rm_PR_forgetCheckAndRun s m _ below meth c s.heap [] 0 0 (MQ below (va_Qv k (Bw g) (gA g)) _ s 0 0 (gA g)) (F0 m 0 ls [])
  unfold p_PR_forgetCheckAndRun at h
  refine lv_aload_n hx hb d_PR_forgetCheckAndRun_0 rfl (lv_at hl 0 rfl) ?_
  refine lv_iconst (v := 0) hx hb d_PR_forgetCheckAndRun_1 (by decide) ?_
  refine pf_PR_checked X hP hS q_194 (by decide) d_PR_forgetCheckAndRun_2 (fun V1 H locs eV1 hP hS => ?_)
  have h := h V1 eV1
  refine lv_aload_n hx hb d_PR_forgetCheckAndRun_5 rfl (lv_at hl 0 rfl) ?_
  refine gf_PR_machine X hP q_193 d_PR_forgetCheckAndRun_6 ?_
  refine rw_cVv (rest := []) X hP hS yv_Mc_dropRun isO_Mc (c_Mc_dropRun hG h) q_215 ⟨rfl, rfl, by decide, by decide⟩ rfl rfl hl.1 (Nat.le_of_ble_eq_true rfl) ⟨Nat.zero_le _, Nat.zero_le _⟩ d_PR_forgetCheckAndRun_9 (fun V2 H locs h hP hS => ?_)
  exact rw_vret X hP hS h d_PR_forgetCheckAndRun_12
theorem yv_PR_forgetCheckAndRun : yV R_PR y_PR_forgetCheckAndRun prog_1_method_16_code 1 (none) 0 := ⟨by decide +kernel, q_213, qp_0, q_1, q_214⟩
/-! PR.function -/
theorem d_PR_function_0 : decode prog_1_method_2_code 0 = .ok (.iload_n 1, 1) := by decide +kernel
theorem d_PR_function_1 : decode prog_1_method_2_code 1 = .ok (.iconst 2, 1) := by decide +kernel
theorem d_PR_function_2 : decode prog_1_method_2_code 2 = .ok (.invokestatic 36, 3) := by decide +kernel
theorem d_PR_function_5 : decode prog_1_method_2_code 5 = .ok (.ifCond .eq 19, 3) := by decide +kernel
theorem d_PR_function_8 : decode prog_1_method_2_code 8 = .ok (.iload_n 2, 1) := by decide +kernel
theorem d_PR_function_9 : decode prog_1_method_2_code 9 = .ok (.iconst 1, 1) := by decide +kernel
theorem d_PR_function_10 : decode prog_1_method_2_code 10 = .ok (.invokestatic 36, 3) := by decide +kernel
theorem d_PR_function_13 : decode prog_1_method_2_code 13 = .ok (.ifCond .eq 11, 3) := by decide +kernel
theorem d_PR_function_16 : decode prog_1_method_2_code 16 = .ok (.iload_n 3, 1) := by decide +kernel
theorem d_PR_function_17 : decode prog_1_method_2_code 17 = .ok (.iconst 3, 1) := by decide +kernel
theorem d_PR_function_18 : decode prog_1_method_2_code 18 = .ok (.invokestatic 36, 3) := by decide +kernel
theorem d_PR_function_21 : decode prog_1_method_2_code 21 = .ok (.ifCond .ne 5, 3) := by decide +kernel
theorem d_PR_function_24 : decode prog_1_method_2_code 24 = .ok (.iconst (-1), 1) := by decide +kernel
theorem d_PR_function_25 : decode prog_1_method_2_code 25 = .ok (.ireturn, 1) := by decide +kernel
theorem d_PR_function_26 : decode prog_1_method_2_code 26 = .ok (.aload_n 0, 1) := by decide +kernel
theorem d_PR_function_27 : decode prog_1_method_2_code 27 = .ok (.getfield 10, 3) := by decide +kernel
theorem d_PR_function_30 : decode prog_1_method_2_code 30 = .ok (.getfield 40, 3) := by decide +kernel
theorem d_PR_function_33 : decode prog_1_method_2_code 33 = .ok (.iconst 4, 1) := by decide +kernel
theorem d_PR_function_34 : decode prog_1_method_2_code 34 = .ok (.if_icmp .ne 6, 3) := by decide +kernel
theorem d_PR_function_37 : decode prog_1_method_2_code 37 = .ok (.bipush (-2), 2) := by decide +kernel
theorem d_PR_function_39 : decode prog_1_method_2_code 39 = .ok (.ireturn, 1) := by decide +kernel
theorem d_PR_function_40 : decode prog_1_method_2_code 40 = .ok (.aload_n 0, 1) := by decide +kernel
theorem d_PR_function_41 : decode prog_1_method_2_code 41 = .ok (.invokevirtual 44, 3) := by decide +kernel
theorem d_PR_function_44 : decode prog_1_method_2_code 44 = .ok (.aload_n 0, 1) := by decide +kernel
theorem d_PR_function_45 : decode prog_1_method_2_code 45 = .ok (.getfield 10, 3) := by decide +kernel
theorem d_PR_function_48 : decode prog_1_method_2_code 48 = .ok (.iload_n 1, 1) := by decide +kernel
theorem d_PR_function_49 : decode prog_1_method_2_code 49 = .ok (.iload_n 2, 1) := by decide +kernel
theorem d_PR_function_50 : decode prog_1_method_2_code 50 = .ok (.iload_n 3, 1) := by decide +kernel
theorem d_PR_function_51 : decode prog_1_method_2_code 51 = .ok (.invokevirtual 47, 3) := by decide +kernel
theorem d_PR_function_54 : decode prog_1_method_2_code 54 = .ok (.ireturn, 1) := by decide +kernel
abbrev rm_PR_function : Room := { frames := 3, cells := 0, slots := 0, locals := 60 }
def p_PR_function_b24 (k : Int32 → vS → Prop) (V : vS) : Prop := k (-1) V
set_option maxRecDepth 100000 in
set_option maxHeartbeats 4000000 in
theorem t_PR_function_b24 {k : Int32 → vS → Prop} (X : cx g p s m meth c args R_PR prog_1_method_2_code 4 (some .int)) {V : vS} (h : p_PR_function_b24 k V) (hP : va_P g.1 vcl (cw g V) H) (hS : va_S (gA g) s.heap H locs) (hl : lv_has ls 4 []) : W p l e rm_PR_function s m args below meth c H locs 0 0 (MQ below (va_Qi k (Bw g) (gA g)) args s 0 0 (gA g)) (F0 m 24 ls []) := by
  obtain ⟨hx, hb, -, -, hown, hts, -, -, hz, hG⟩ := id X
  unfold p_PR_function_b24 at h
  refine lv_iconst (v := (-1)) hx hb d_PR_function_24 (by decide) ?_
  exact rw_iret X hP hS h d_PR_function_25
def p_PR_function (k : Int32 → vS → Prop) (V : vS) (x1 : Int32) (x2 : Int32) (x3 : Int32) : Prop := p_PR_within (fun r2 V1 => (r2 = 0 → (p_PR_function_b24 k V1)) ∧ (¬ r2 = 0 → (p_PR_within (fun r6 V5 => (r6 = 0 → (p_PR_function_b24 k V5)) ∧ (¬ r6 = 0 → (p_PR_within (fun r10 V9 => (r10 = 0 → (p_PR_function_b24 k V9)) ∧ (¬ r10 = 0 → (((V9.1 1 1) = 4 → (k (-2) V9)) ∧ (¬ (V9.1 1 1) = 4 → (p_PR_forgetCheckAndRun (fun V14 => p_Pg_add (fun r17 V16 => k r17 V16) V14 x1 x2 x3) V9))))) V5 x3 3))) V1 x2 1))) V x1 2
set_option maxRecDepth 100000 in
set_option maxHeartbeats 4000000 in
theorem c_PR_function {l : Launch} {g : gT} (hG : gd g) {V : vS} {x1 : Int32} {x2 : Int32} {x3 : Int32} {k : Int32 → vS → Prop} (h : p_PR_function k V x1 x2 x3) : Ci g l y_PR_function prog_1_method_2_code 4 (some .int) rm_PR_function [.ref (ga g 0), .int x1, .int x2, .int x3] V k := by
  unfold Ci
  refine Met.ofW (cc := prog_1_method_2_code) (maxL := 4) (ret := some .int) (by decide) rfl ?_
  intro p e s m args below meth c s₁ B hml hv
  obtain ⟨rfl, hP, hK, hZ⟩ := hv
  have X : cx g p s m meth c [.ref (ga g 0), .int x1, .int x2, .int x3].toArray R_PR prog_1_method_2_code 4 (some .int) := ⟨B.exec, B.bytes, B.returns, hml, findClass_of_methodNamed B.named, fun w hw => atoms_spec (ws := Cond.code y_PR_function prog_1_method_2_code 4 (some .int) :: TBL) B.pre w (List.mem_cons_of_mem _ hw), B.notSynchronized, hK, hZ, hG⟩
  have hl := lv_entry [.ref (ga g 0), .int x1, .int x2, .int x3] (n := 4) (Nat.le_of_ble_eq_true rfl)
  rw [lg_entry_eq]
  generalize (lg_sl [.ref (ga g 0), .int x1, .int x2, .int x3] ++ List.replicate (4 - (lg_sl [.ref (ga g 0), .int x1, .int x2, .int x3]).length) Slot.unset).toArray = ls at hl ⊢
  have hl : lv_has ls 4 [(0, .ref (ga g 0)), (1, .int x1), (2, .int x2), (3, .int x3)] := hl
  have hS : va_S (gA g) s.heap s.heap [] := va_S.rf
  obtain ⟨hx, hb, -, -, hown, hts, -, -, hz, -⟩ := id X
  show W p l e rm_PR_function s m _ below meth c s.heap [] 0 0 (MQ below (va_Qi k (Bw g) (gA g)) _ s 0 0 (gA g)) (F0 m 0 ls [])
  unfold p_PR_function at h
  refine lv_iload_n hx hb d_PR_function_0 rfl (lv_at hl 1 rfl) ?_
  refine lv_iconst (v := 2) hx hb d_PR_function_1 (by decide) ?_
  refine rw_cSi (rest := []) X hP hS ys_PR_within (c_PR_within hG h) q_208 ⟨rfl, rfl, by decide, by decide⟩ rfl rfl hl.1 (Nat.le_of_ble_eq_true rfl) ⟨Nat.zero_le _, Nat.zero_le _⟩ d_PR_function_2 (fun r2 V1 H locs h hP hS => ?_)
  refine lv_if_eq (tgt := 24) hx hb d_PR_function_5 (by decide) (fun c4 => ?_) (fun c4 => ?_)
  · have h := h.1 c4
    exact t_PR_function_b24 X h hP hS (lv_sub hl [] rfl)
  · have h := h.2 c4
    refine lv_iload_n hx hb d_PR_function_8 rfl (lv_at hl 2 rfl) ?_
    refine lv_iconst (v := 1) hx hb d_PR_function_9 (by decide) ?_
    refine rw_cSi (rest := []) X hP hS ys_PR_within (c_PR_within hG h) q_208 ⟨rfl, rfl, by decide, by decide⟩ rfl rfl hl.1 (Nat.le_of_ble_eq_true rfl) ⟨Nat.zero_le _, Nat.zero_le _⟩ d_PR_function_10 (fun r6 V5 H locs h hP hS => ?_)
    refine lv_if_eq (tgt := 24) hx hb d_PR_function_13 (by decide) (fun c8 => ?_) (fun c8 => ?_)
    · have h := h.1 c8
      exact t_PR_function_b24 X h hP hS (lv_sub hl [] rfl)
    · have h := h.2 c8
      refine lv_iload_n hx hb d_PR_function_16 rfl (lv_at hl 3 rfl) ?_
      refine lv_iconst (v := 3) hx hb d_PR_function_17 (by decide) ?_
      refine rw_cSi (rest := []) X hP hS ys_PR_within (c_PR_within hG h) q_208 ⟨rfl, rfl, by decide, by decide⟩ rfl rfl hl.1 (Nat.le_of_ble_eq_true rfl) ⟨Nat.zero_le _, Nat.zero_le _⟩ d_PR_function_18 (fun r10 V9 H locs h hP hS => ?_)
      refine lv_if_ne (tgt := 26) hx hb d_PR_function_21 (by decide) (fun c12 => ?_) (fun c12 => ?_)
      · have h := h.2 c12
        refine lv_aload_n hx hb d_PR_function_26 rfl (lv_at hl 0 rfl) ?_
        refine gf_PR_program X hP q_191 d_PR_function_27 ?_
        refine gf_Pg_size X hP q_71 d_PR_function_30 ?_
        refine lv_iconst (v := 4) hx hb d_PR_function_33 (by decide) ?_
        refine lv_icmp_ne (tgt := 40) hx hb d_PR_function_34 (by decide) (fun c13 => ?_) (fun c13 => ?_)
        · have h := h.2 c13
          refine lv_aload_n hx hb d_PR_function_40 rfl (lv_at hl 0 rfl) ?_
          refine rw_cVv (rest := []) X hP hS yv_PR_forgetCheckAndRun isO_PR (c_PR_forgetCheckAndRun hG h) q_211 ⟨rfl, rfl, by decide, by decide⟩ rfl rfl hl.1 (Nat.le_of_ble_eq_true rfl) ⟨Nat.zero_le _, Nat.zero_le _⟩ d_PR_function_41 (fun V14 H locs h hP hS => ?_)
          refine lv_aload_n hx hb d_PR_function_44 rfl (lv_at hl 0 rfl) ?_
          refine gf_PR_program X hP q_191 d_PR_function_45 ?_
          refine lv_iload_n hx hb d_PR_function_48 rfl (lv_at hl 1 rfl) ?_
          refine lv_iload_n hx hb d_PR_function_49 rfl (lv_at hl 2 rfl) ?_
          refine lv_iload_n hx hb d_PR_function_50 rfl (lv_at hl 3 rfl) ?_
          refine rw_cVi (rest := []) X hP hS yv_Pg_add isO_Pg (c_Pg_add hG h) q_223 ⟨rfl, rfl, by decide, by decide⟩ rfl rfl hl.1 (Nat.le_of_ble_eq_true rfl) ⟨Nat.zero_le _, Nat.zero_le _⟩ d_PR_function_51 (fun r17 V16 H locs h hP hS => ?_)
          exact rw_iret X hP hS h d_PR_function_54
        · have h := h.1 c13
          refine lv_bipush (v := (-2)) hx hb d_PR_function_37 (by decide) ?_
          exact rw_iret X hP hS h d_PR_function_39
      · have h := h.1 c12
        exact t_PR_function_b24 X h hP hS (lv_sub hl [] rfl)
theorem yv_PR_function : yV R_PR y_PR_function prog_1_method_2_code 4 (some .int) 3 := ⟨by decide +kernel, q_205, q_206, q_1, q_207⟩
/-! PR.emit -/
theorem d_PR_emit_0 : decode prog_1_method_3_code 0 = .ok (.aload_n 0, 1) := by decide +kernel
theorem d_PR_emit_1 : decode prog_1_method_3_code 1 = .ok (.getfield 10, 3) := by decide +kernel
theorem d_PR_emit_4 : decode prog_1_method_3_code 4 = .ok (.iload_n 1, 1) := by decide +kernel
theorem d_PR_emit_5 : decode prog_1_method_3_code 5 = .ok (.invokevirtual 51, 3) := by decide +kernel
theorem d_PR_emit_8 : decode prog_1_method_3_code 8 = .ok (.ifCond .eq 12, 3) := by decide +kernel
theorem d_PR_emit_11 : decode prog_1_method_3_code 11 = .ok (.iload_n 2, 1) := by decide +kernel
theorem d_PR_emit_12 : decode prog_1_method_3_code 12 = .ok (.bipush 19, 2) := by decide +kernel
theorem d_PR_emit_14 : decode prog_1_method_3_code 14 = .ok (.invokestatic 36, 3) := by decide +kernel
theorem d_PR_emit_17 : decode prog_1_method_3_code 17 = .ok (.ifCond .ne 5, 3) := by decide +kernel
theorem d_PR_emit_20 : decode prog_1_method_3_code 20 = .ok (.iconst (-1), 1) := by decide +kernel
theorem d_PR_emit_21 : decode prog_1_method_3_code 21 = .ok (.ireturn, 1) := by decide +kernel
theorem d_PR_emit_22 : decode prog_1_method_3_code 22 = .ok (.aload_n 0, 1) := by decide +kernel
theorem d_PR_emit_23 : decode prog_1_method_3_code 23 = .ok (.getfield 10, 3) := by decide +kernel
theorem d_PR_emit_26 : decode prog_1_method_3_code 26 = .ok (.getfield 57, 3) := by decide +kernel
theorem d_PR_emit_29 : decode prog_1_method_3_code 29 = .ok (.iload_n 1, 1) := by decide +kernel
theorem d_PR_emit_30 : decode prog_1_method_3_code 30 = .ok (.aaload, 1) := by decide +kernel
theorem d_PR_emit_31 : decode prog_1_method_3_code 31 = .ok (.astore 4, 2) := by decide +kernel
theorem d_PR_emit_33 : decode prog_1_method_3_code 33 = .ok (.aload 4, 2) := by decide +kernel
theorem d_PR_emit_35 : decode prog_1_method_3_code 35 = .ok (.getfield 61, 3) := by decide +kernel
theorem d_PR_emit_38 : decode prog_1_method_3_code 38 = .ok (.bipush 24, 2) := by decide +kernel
theorem d_PR_emit_40 : decode prog_1_method_3_code 40 = .ok (.if_icmp .ne 6, 3) := by decide +kernel
theorem d_PR_emit_43 : decode prog_1_method_3_code 43 = .ok (.bipush (-2), 2) := by decide +kernel
theorem d_PR_emit_45 : decode prog_1_method_3_code 45 = .ok (.ireturn, 1) := by decide +kernel
theorem d_PR_emit_46 : decode prog_1_method_3_code 46 = .ok (.aload_n 0, 1) := by decide +kernel
theorem d_PR_emit_47 : decode prog_1_method_3_code 47 = .ok (.invokevirtual 44, 3) := by decide +kernel
theorem d_PR_emit_50 : decode prog_1_method_3_code 50 = .ok (.aload 4, 2) := by decide +kernel
theorem d_PR_emit_52 : decode prog_1_method_3_code 52 = .ok (.iload_n 2, 1) := by decide +kernel
theorem d_PR_emit_53 : decode prog_1_method_3_code 53 = .ok (.iload_n 3, 1) := by decide +kernel
theorem d_PR_emit_54 : decode prog_1_method_3_code 54 = .ok (.invokevirtual 66, 3) := by decide +kernel
theorem d_PR_emit_57 : decode prog_1_method_3_code 57 = .ok (.ireturn, 1) := by decide +kernel
abbrev rm_PR_emit : Room := { frames := 3, cells := 0, slots := 0, locals := 60 }
def p_PR_emit_b20 (k : Int32 → vS → Prop) (V : vS) : Prop := k (-1) V
set_option maxRecDepth 100000 in
set_option maxHeartbeats 4000000 in
theorem t_PR_emit_b20 {k : Int32 → vS → Prop} (X : cx g p s m meth c args R_PR prog_1_method_3_code 5 (some .int)) {V : vS} (h : p_PR_emit_b20 k V) (hP : va_P g.1 vcl (cw g V) H) (hS : va_S (gA g) s.heap H locs) (hl : lv_has ls 5 []) : W p l e rm_PR_emit s m args below meth c H locs 0 0 (MQ below (va_Qi k (Bw g) (gA g)) args s 0 0 (gA g)) (F0 m 20 ls []) := by
  obtain ⟨hx, hb, -, -, hown, hts, -, -, hz, hG⟩ := id X
  unfold p_PR_emit_b20 at h
  refine lv_iconst (v := (-1)) hx hb d_PR_emit_20 (by decide) ?_
  exact rw_iret X hP hS h d_PR_emit_21
def p_PR_emit (k : Int32 → vS → Prop) (V : vS) (x1 : Int32) (x2 : Int32) (x3 : Int32) : Prop := p_Pg_has (fun r2 V1 => (r2 = 0 → (p_PR_emit_b20 k V1)) ∧ (¬ r2 = 0 → (p_PR_within (fun r6 V5 => (r6 = 0 → (p_PR_emit_b20 k V5)) ∧ (¬ r6 = 0 → (vp_in x1 4 ∧ (((V5.1 (3 + nt x1) 2) = 24 → (k (-2) V5)) ∧ (¬ (V5.1 (3 + nt x1) 2) = 24 → (p_PR_forgetCheckAndRun (fun V11 => p_Fn_add (fun r14 V13 => k r14 V13) V11 (3 + nt x1) x2 x3) V5)))))) V1 x2 19))) V x1
set_option maxRecDepth 100000 in
set_option maxHeartbeats 4000000 in
theorem c_PR_emit {l : Launch} {g : gT} (hG : gd g) {V : vS} {x1 : Int32} {x2 : Int32} {x3 : Int32} {k : Int32 → vS → Prop} (h : p_PR_emit k V x1 x2 x3) : Ci g l y_PR_emit prog_1_method_3_code 5 (some .int) rm_PR_emit [.ref (ga g 0), .int x1, .int x2, .int x3] V k := by
  unfold Ci
  refine Met.ofW (cc := prog_1_method_3_code) (maxL := 5) (ret := some .int) (by decide) rfl ?_
  intro p e s m args below meth c s₁ B hml hv
  obtain ⟨rfl, hP, hK, hZ⟩ := hv
  have X : cx g p s m meth c [.ref (ga g 0), .int x1, .int x2, .int x3].toArray R_PR prog_1_method_3_code 5 (some .int) := ⟨B.exec, B.bytes, B.returns, hml, findClass_of_methodNamed B.named, fun w hw => atoms_spec (ws := Cond.code y_PR_emit prog_1_method_3_code 5 (some .int) :: TBL) B.pre w (List.mem_cons_of_mem _ hw), B.notSynchronized, hK, hZ, hG⟩
  have hl := lv_entry [.ref (ga g 0), .int x1, .int x2, .int x3] (n := 5) (Nat.le_of_ble_eq_true rfl)
  rw [lg_entry_eq]
  generalize (lg_sl [.ref (ga g 0), .int x1, .int x2, .int x3] ++ List.replicate (5 - (lg_sl [.ref (ga g 0), .int x1, .int x2, .int x3]).length) Slot.unset).toArray = ls at hl ⊢
  have hl : lv_has ls 5 [(0, .ref (ga g 0)), (1, .int x1), (2, .int x2), (3, .int x3)] := hl
  have hS : va_S (gA g) s.heap s.heap [] := va_S.rf
  obtain ⟨hx, hb, -, -, hown, hts, -, -, hz, -⟩ := id X
  show W p l e rm_PR_emit s m _ below meth c s.heap [] 0 0 (MQ below (va_Qi k (Bw g) (gA g)) _ s 0 0 (gA g)) (F0 m 0 ls [])
  unfold p_PR_emit at h
  refine lv_aload_n hx hb d_PR_emit_0 rfl (lv_at hl 0 rfl) ?_
  refine gf_PR_program X hP q_191 d_PR_emit_1 ?_
  refine lv_iload_n hx hb d_PR_emit_4 rfl (lv_at hl 1 rfl) ?_
  refine rw_cVi (rest := []) X hP hS yv_Pg_has isO_Pg (c_Pg_has hG h) q_231 ⟨rfl, rfl, by decide, by decide⟩ rfl rfl hl.1 (Nat.le_of_ble_eq_true rfl) ⟨Nat.zero_le _, Nat.zero_le _⟩ d_PR_emit_5 (fun r2 V1 H locs h hP hS => ?_)
  refine lv_if_eq (tgt := 20) hx hb d_PR_emit_8 (by decide) (fun c4 => ?_) (fun c4 => ?_)
  · have h := h.1 c4
    exact t_PR_emit_b20 X h hP hS (lv_sub hl [] rfl)
  · have h := h.2 c4
    refine lv_iload_n hx hb d_PR_emit_11 rfl (lv_at hl 2 rfl) ?_
    refine lv_bipush (v := 19) hx hb d_PR_emit_12 (by decide) ?_
    refine rw_cSi (rest := []) X hP hS ys_PR_within (c_PR_within hG h) q_208 ⟨rfl, rfl, by decide, by decide⟩ rfl rfl hl.1 (Nat.le_of_ble_eq_true rfl) ⟨Nat.zero_le _, Nat.zero_le _⟩ d_PR_emit_14 (fun r6 V5 H locs h hP hS => ?_)
    refine lv_if_ne (tgt := 22) hx hb d_PR_emit_17 (by decide) (fun c8 => ?_) (fun c8 => ?_)
    · have h := h.2 c8
      refine lv_aload_n hx hb d_PR_emit_22 rfl (lv_at hl 0 rfl) ?_
      refine gf_PR_program X hP q_191 d_PR_emit_23 ?_
      refine gf_Pg_functions X hP q_67 d_PR_emit_26 ?_
      refine lv_iload_n hx hb d_PR_emit_29 rfl (lv_at hl 1 rfl) ?_
      obtain ⟨hi9, h⟩ := h
      refine rw_aaldF X hP hi9 d_PR_emit_30 ?_
      refine lv_astore (lv' := [(4, .ref (ga g (3 + nt x1))), (0, .ref (ga g 0)), (1, .int x1), (2, .int x2), (3, .int x3)]) hx hb d_PR_emit_31 hl (by decide) rfl (fun ls hl => ?_)
      refine lv_aload hx hb d_PR_emit_33 (lv_at hl 0 rfl) ?_
      refine gf_Fn_length X hP (fn_of hi9) q_38 d_PR_emit_35 ?_
      refine lv_bipush (v := 24) hx hb d_PR_emit_38 (by decide) ?_
      refine lv_icmp_ne (tgt := 46) hx hb d_PR_emit_40 (by decide) (fun c10 => ?_) (fun c10 => ?_)
      · have h := h.2 c10
        refine lv_aload_n hx hb d_PR_emit_46 rfl (lv_at hl 1 rfl) ?_
        refine rw_cVv (rest := []) X hP hS yv_PR_forgetCheckAndRun isO_PR (c_PR_forgetCheckAndRun hG h) q_211 ⟨rfl, rfl, by decide, by decide⟩ rfl rfl hl.1 (Nat.le_of_ble_eq_true rfl) ⟨Nat.zero_le _, Nat.zero_le _⟩ d_PR_emit_47 (fun V11 H locs h hP hS => ?_)
        refine lv_aload hx hb d_PR_emit_50 (lv_at hl 0 rfl) ?_
        refine lv_iload_n hx hb d_PR_emit_52 rfl (lv_at hl 3 rfl) ?_
        refine lv_iload_n hx hb d_PR_emit_53 rfl (lv_at hl 4 rfl) ?_
        refine rw_cVi (rest := []) X hP hS yv_Fn_add (isO_Fn (fn_of hi9)) (c_Fn_add hG (fn_of hi9) h) q_235 ⟨rfl, rfl, by decide, by decide⟩ rfl rfl hl.1 (Nat.le_of_ble_eq_true rfl) ⟨Nat.zero_le _, Nat.zero_le _⟩ d_PR_emit_54 (fun r14 V13 H locs h hP hS => ?_)
        exact rw_iret X hP hS h d_PR_emit_57
      · have h := h.1 c10
        refine lv_bipush (v := (-2)) hx hb d_PR_emit_43 (by decide) ?_
        exact rw_iret X hP hS h d_PR_emit_45
    · have h := h.1 c8
      exact t_PR_emit_b20 X h hP hS (lv_sub hl [] rfl)
theorem yv_PR_emit : yV R_PR y_PR_emit prog_1_method_3_code 5 (some .int) 3 := ⟨by decide +kernel, q_228, q_229, q_1, q_230⟩
/-! PR.erase -/
theorem d_PR_erase_0 : decode prog_1_method_4_code 0 = .ok (.aload_n 0, 1) := by decide +kernel
theorem d_PR_erase_1 : decode prog_1_method_4_code 1 = .ok (.getfield 10, 3) := by decide +kernel
theorem d_PR_erase_4 : decode prog_1_method_4_code 4 = .ok (.iload_n 1, 1) := by decide +kernel
theorem d_PR_erase_5 : decode prog_1_method_4_code 5 = .ok (.invokevirtual 51, 3) := by decide +kernel
theorem d_PR_erase_8 : decode prog_1_method_4_code 8 = .ok (.ifCond .ne 5, 3) := by decide +kernel
theorem d_PR_erase_11 : decode prog_1_method_4_code 11 = .ok (.iconst (-1), 1) := by decide +kernel
theorem d_PR_erase_12 : decode prog_1_method_4_code 12 = .ok (.ireturn, 1) := by decide +kernel
theorem d_PR_erase_13 : decode prog_1_method_4_code 13 = .ok (.aload_n 0, 1) := by decide +kernel
theorem d_PR_erase_14 : decode prog_1_method_4_code 14 = .ok (.invokevirtual 44, 3) := by decide +kernel
theorem d_PR_erase_17 : decode prog_1_method_4_code 17 = .ok (.aload_n 0, 1) := by decide +kernel
theorem d_PR_erase_18 : decode prog_1_method_4_code 18 = .ok (.getfield 10, 3) := by decide +kernel
theorem d_PR_erase_21 : decode prog_1_method_4_code 21 = .ok (.getfield 57, 3) := by decide +kernel
theorem d_PR_erase_24 : decode prog_1_method_4_code 24 = .ok (.iload_n 1, 1) := by decide +kernel
theorem d_PR_erase_25 : decode prog_1_method_4_code 25 = .ok (.aaload, 1) := by decide +kernel
theorem d_PR_erase_26 : decode prog_1_method_4_code 26 = .ok (.iconst 0, 1) := by decide +kernel
theorem d_PR_erase_27 : decode prog_1_method_4_code 27 = .ok (.putfield 61, 3) := by decide +kernel
theorem d_PR_erase_30 : decode prog_1_method_4_code 30 = .ok (.iconst 0, 1) := by decide +kernel
theorem d_PR_erase_31 : decode prog_1_method_4_code 31 = .ok (.ireturn, 1) := by decide +kernel
abbrev rm_PR_erase : Room := { frames := 3, cells := 0, slots := 0, locals := 60 }
def p_PR_erase (k : Int32 → vS → Prop) (V : vS) (x1 : Int32) : Prop := p_Pg_has (fun r2 V1 => (r2 = 0 → (k (-1) V1)) ∧ (¬ r2 = 0 → (p_PR_forgetCheckAndRun (fun V5 => vp_in x1 4 ∧ (∀ V8 : vS, V8 = sv V5 (3 + nt x1) 2 0 → (k 0 V8))) V1))) V x1
set_option maxRecDepth 100000 in
set_option maxHeartbeats 4000000 in
theorem c_PR_erase {l : Launch} {g : gT} (hG : gd g) {V : vS} {x1 : Int32} {k : Int32 → vS → Prop} (h : p_PR_erase k V x1) : Ci g l y_PR_erase prog_1_method_4_code 2 (some .int) rm_PR_erase [.ref (ga g 0), .int x1] V k := by
  unfold Ci
  refine Met.ofW (cc := prog_1_method_4_code) (maxL := 2) (ret := some .int) (by decide) rfl ?_
  intro p e s m args below meth c s₁ B hml hv
  obtain ⟨rfl, hP, hK, hZ⟩ := hv
  have X : cx g p s m meth c [.ref (ga g 0), .int x1].toArray R_PR prog_1_method_4_code 2 (some .int) := ⟨B.exec, B.bytes, B.returns, hml, findClass_of_methodNamed B.named, fun w hw => atoms_spec (ws := Cond.code y_PR_erase prog_1_method_4_code 2 (some .int) :: TBL) B.pre w (List.mem_cons_of_mem _ hw), B.notSynchronized, hK, hZ, hG⟩
  have hl := lv_entry [.ref (ga g 0), .int x1] (n := 2) (Nat.le_of_ble_eq_true rfl)
  rw [lg_entry_eq]
  generalize (lg_sl [.ref (ga g 0), .int x1] ++ List.replicate (2 - (lg_sl [.ref (ga g 0), .int x1]).length) Slot.unset).toArray = ls at hl ⊢
  have hl : lv_has ls 2 [(0, .ref (ga g 0)), (1, .int x1)] := hl
  have hS : va_S (gA g) s.heap s.heap [] := va_S.rf
  obtain ⟨hx, hb, -, -, hown, hts, -, -, hz, -⟩ := id X
  show W p l e rm_PR_erase s m _ below meth c s.heap [] 0 0 (MQ below (va_Qi k (Bw g) (gA g)) _ s 0 0 (gA g)) (F0 m 0 ls [])
  unfold p_PR_erase at h
  refine lv_aload_n hx hb d_PR_erase_0 rfl (lv_at hl 0 rfl) ?_
  refine gf_PR_program X hP q_191 d_PR_erase_1 ?_
  refine lv_iload_n hx hb d_PR_erase_4 rfl (lv_at hl 1 rfl) ?_
  refine rw_cVi (rest := []) X hP hS yv_Pg_has isO_Pg (c_Pg_has hG h) q_231 ⟨rfl, rfl, by decide, by decide⟩ rfl rfl hl.1 (Nat.le_of_ble_eq_true rfl) ⟨Nat.zero_le _, Nat.zero_le _⟩ d_PR_erase_5 (fun r2 V1 H locs h hP hS => ?_)
  refine lv_if_ne (tgt := 13) hx hb d_PR_erase_8 (by decide) (fun c4 => ?_) (fun c4 => ?_)
  · have h := h.2 c4
    refine lv_aload_n hx hb d_PR_erase_13 rfl (lv_at hl 0 rfl) ?_
    refine rw_cVv (rest := []) X hP hS yv_PR_forgetCheckAndRun isO_PR (c_PR_forgetCheckAndRun hG h) q_211 ⟨rfl, rfl, by decide, by decide⟩ rfl rfl hl.1 (Nat.le_of_ble_eq_true rfl) ⟨Nat.zero_le _, Nat.zero_le _⟩ d_PR_erase_14 (fun V5 H locs h hP hS => ?_)
    refine lv_aload_n hx hb d_PR_erase_17 rfl (lv_at hl 0 rfl) ?_
    refine gf_PR_program X hP q_191 d_PR_erase_18 ?_
    refine gf_Pg_functions X hP q_67 d_PR_erase_21 ?_
    refine lv_iload_n hx hb d_PR_erase_24 rfl (lv_at hl 1 rfl) ?_
    obtain ⟨hi7, h⟩ := h
    refine rw_aaldF X hP hi7 d_PR_erase_25 ?_
    refine lv_iconst (v := 0) hx hb d_PR_erase_26 (by decide) ?_
    refine pf_Fn_length X hP hS (fn_of hi7) q_38 d_PR_erase_27 (fun V8 H locs eV8 hP hS => ?_)
    have h := h V8 eV8
    refine lv_iconst (v := 0) hx hb d_PR_erase_30 (by decide) ?_
    exact rw_iret X hP hS h d_PR_erase_31
  · have h := h.1 c4
    refine lv_iconst (v := (-1)) hx hb d_PR_erase_11 (by decide) ?_
    exact rw_iret X hP hS h d_PR_erase_12
theorem yv_PR_erase : yV R_PR y_PR_erase prog_1_method_4_code 2 (some .int) 1 := ⟨by decide +kernel, q_240, q_241, q_1, q_242⟩
/-! PR.check -/
theorem d_PR_check_0 : decode prog_1_method_5_code 0 = .ok (.aload_n 0, 1) := by decide +kernel
theorem d_PR_check_1 : decode prog_1_method_5_code 1 = .ok (.getfield 10, 3) := by decide +kernel
theorem d_PR_check_4 : decode prog_1_method_5_code 4 = .ok (.getfield 40, 3) := by decide +kernel
theorem d_PR_check_7 : decode prog_1_method_5_code 7 = .ok (.ifCond .ne 6, 3) := by decide +kernel
theorem d_PR_check_10 : decode prog_1_method_5_code 10 = .ok (.bipush (-3), 2) := by decide +kernel
theorem d_PR_check_12 : decode prog_1_method_5_code 12 = .ok (.ireturn, 1) := by decide +kernel
theorem d_PR_check_13 : decode prog_1_method_5_code 13 = .ok (.aload_n 0, 1) := by decide +kernel
theorem d_PR_check_14 : decode prog_1_method_5_code 14 = .ok (.getfield 21, 3) := by decide +kernel
theorem d_PR_check_17 : decode prog_1_method_5_code 17 = .ok (.invokevirtual 69, 3) := by decide +kernel
theorem d_PR_check_20 : decode prog_1_method_5_code 20 = .ok (.aload_n 0, 1) := by decide +kernel
theorem d_PR_check_21 : decode prog_1_method_5_code 21 = .ok (.aload_n 0, 1) := by decide +kernel
theorem d_PR_check_22 : decode prog_1_method_5_code 22 = .ok (.getfield 21, 3) := by decide +kernel
theorem d_PR_check_25 : decode prog_1_method_5_code 25 = .ok (.getfield 72, 3) := by decide +kernel
theorem d_PR_check_28 : decode prog_1_method_5_code 28 = .ok (.ifCond .ne 7, 3) := by decide +kernel
theorem d_PR_check_31 : decode prog_1_method_5_code 31 = .ok (.iconst 1, 1) := by decide +kernel
theorem d_PR_check_32 : decode prog_1_method_5_code 32 = .ok (.goto 4, 3) := by decide +kernel
theorem d_PR_check_35 : decode prog_1_method_5_code 35 = .ok (.iconst 0, 1) := by decide +kernel
theorem d_PR_check_36 : decode prog_1_method_5_code 36 = .ok (.putfield 32, 3) := by decide +kernel
theorem d_PR_check_39 : decode prog_1_method_5_code 39 = .ok (.aload_n 0, 1) := by decide +kernel
theorem d_PR_check_40 : decode prog_1_method_5_code 40 = .ok (.getfield 32, 3) := by decide +kernel
theorem d_PR_check_43 : decode prog_1_method_5_code 43 = .ok (.ifCond .eq 5, 3) := by decide +kernel
theorem d_PR_check_46 : decode prog_1_method_5_code 46 = .ok (.iconst 0, 1) := by decide +kernel
theorem d_PR_check_47 : decode prog_1_method_5_code 47 = .ok (.ireturn, 1) := by decide +kernel
theorem d_PR_check_48 : decode prog_1_method_5_code 48 = .ok (.sipush (-1000), 3) := by decide +kernel
theorem d_PR_check_51 : decode prog_1_method_5_code 51 = .ok (.bipush 100, 2) := by decide +kernel
theorem d_PR_check_53 : decode prog_1_method_5_code 53 = .ok (.aload_n 0, 1) := by decide +kernel
theorem d_PR_check_54 : decode prog_1_method_5_code 54 = .ok (.getfield 21, 3) := by decide +kernel
theorem d_PR_check_57 : decode prog_1_method_5_code 57 = .ok (.getfield 75, 3) := by decide +kernel
theorem d_PR_check_60 : decode prog_1_method_5_code 60 = .ok (.imul, 1) := by decide +kernel
theorem d_PR_check_61 : decode prog_1_method_5_code 61 = .ok (.isub, 1) := by decide +kernel
theorem d_PR_check_62 : decode prog_1_method_5_code 62 = .ok (.aload_n 0, 1) := by decide +kernel
theorem d_PR_check_63 : decode prog_1_method_5_code 63 = .ok (.getfield 21, 3) := by decide +kernel
theorem d_PR_check_66 : decode prog_1_method_5_code 66 = .ok (.getfield 78, 3) := by decide +kernel
theorem d_PR_check_69 : decode prog_1_method_5_code 69 = .ok (.isub, 1) := by decide +kernel
theorem d_PR_check_70 : decode prog_1_method_5_code 70 = .ok (.ireturn, 1) := by decide +kernel
abbrev rm_PR_check : Room := { frames := 5, cells := 0, slots := 0, locals := 113 }
def p_PR_check_b36 (k : Int32 → vS → Prop) (V : vS) (s1 : Int32) : Prop := (s1 = 0 ∨ s1 = 1) ∧ (∀ V1 : vS, V1 = sv V 0 3 s1 → (((V1.1 0 3) = 0 → (k (((-1000) - (100 * (V1.1 15 6))) - (V1.1 15 7)) V1)) ∧ (¬ (V1.1 0 3) = 0 → (k 0 V1))))
set_option maxRecDepth 100000 in
set_option maxHeartbeats 4000000 in
theorem t_PR_check_b36 {k : Int32 → vS → Prop} (X : cx g p s m meth c args R_PR prog_1_method_5_code 1 (some .int)) {V : vS} {s1 : Int32} (h : p_PR_check_b36 k V s1) (hP : va_P g.1 vcl (cw g V) H) (hS : va_S (gA g) s.heap H locs) (hl : lv_has ls 1 [(0, .ref (ga g 0))]) : W p l e rm_PR_check s m args below meth c H locs 0 0 (MQ below (va_Qi k (Bw g) (gA g)) args s 0 0 (gA g)) (F0 m 36 ls [.int s1, .ref (ga g 0)]) := by
  obtain ⟨hx, hb, -, -, hown, hts, -, -, hz, hG⟩ := id X
  unfold p_PR_check_b36 at h
  obtain ⟨hb2, h⟩ := h
  refine pf_PR_checked X hP hS q_194 hb2 d_PR_check_36 (fun V1 H locs eV1 hP hS => ?_)
  have h := h V1 eV1
  refine lv_aload_n hx hb d_PR_check_39 rfl (lv_at hl 0 rfl) ?_
  refine gf_PR_checked X hP q_194 d_PR_check_40 ?_
  refine lv_if_eq (tgt := 48) hx hb d_PR_check_43 (by decide) (fun c3 => ?_) (fun c3 => ?_)
  · have h := h.1 c3
    refine lv_sipush (v := (-1000)) hx hb d_PR_check_48 (by decide) ?_
    refine lv_bipush (v := 100) hx hb d_PR_check_51 (by decide) ?_
    refine lv_aload_n hx hb d_PR_check_53 rfl (lv_at hl 0 rfl) ?_
    refine gf_PR_checker X hP q_192 d_PR_check_54 ?_
    refine gf_Ck_faultyFunction X hP q_91 d_PR_check_57 ?_
    refine lv_imul hx hb d_PR_check_60 ?_
    refine lv_isub hx hb d_PR_check_61 ?_
    refine lv_aload_n hx hb d_PR_check_62 rfl (lv_at hl 0 rfl) ?_
    refine gf_PR_checker X hP q_192 d_PR_check_63 ?_
    refine gf_Ck_faultyInstruction X hP q_93 d_PR_check_66 ?_
    refine lv_isub hx hb d_PR_check_69 ?_
    exact rw_iret X hP hS h d_PR_check_70
  · have h := h.2 c3
    refine lv_iconst (v := 0) hx hb d_PR_check_46 (by decide) ?_
    exact rw_iret X hP hS h d_PR_check_47
def p_PR_check (k : Int32 → vS → Prop) (V : vS) : Prop := ((V.1 1 1) = 0 → (k (-3) V)) ∧ (¬ (V.1 1 1) = 0 → (p_Ck_goThroughAll (fun V2 => ((V2.1 15 5) = 0 → (p_PR_check_b36 k V2 1)) ∧ (¬ (V2.1 15 5) = 0 → (p_PR_check_b36 k V2 0))) V))
set_option maxRecDepth 100000 in
set_option maxHeartbeats 4000000 in
theorem c_PR_check {l : Launch} {g : gT} (hG : gd g) {V : vS} {k : Int32 → vS → Prop} (h : p_PR_check k V) : Ci g l y_PR_check prog_1_method_5_code 1 (some .int) rm_PR_check [.ref (ga g 0)] V k := by
  unfold Ci
  refine Met.ofW (cc := prog_1_method_5_code) (maxL := 1) (ret := some .int) (by decide) rfl ?_
  intro p e s m args below meth c s₁ B hml hv
  obtain ⟨rfl, hP, hK, hZ⟩ := hv
  have X : cx g p s m meth c [.ref (ga g 0)].toArray R_PR prog_1_method_5_code 1 (some .int) := ⟨B.exec, B.bytes, B.returns, hml, findClass_of_methodNamed B.named, fun w hw => atoms_spec (ws := Cond.code y_PR_check prog_1_method_5_code 1 (some .int) :: TBL) B.pre w (List.mem_cons_of_mem _ hw), B.notSynchronized, hK, hZ, hG⟩
  have hl := lv_entry [.ref (ga g 0)] (n := 1) (Nat.le_of_ble_eq_true rfl)
  rw [lg_entry_eq]
  generalize (lg_sl [.ref (ga g 0)] ++ List.replicate (1 - (lg_sl [.ref (ga g 0)]).length) Slot.unset).toArray = ls at hl ⊢
  have hl : lv_has ls 1 [(0, .ref (ga g 0))] := hl
  have hS : va_S (gA g) s.heap s.heap [] := va_S.rf
  obtain ⟨hx, hb, -, -, hown, hts, -, -, hz, -⟩ := id X
  show W p l e rm_PR_check s m _ below meth c s.heap [] 0 0 (MQ below (va_Qi k (Bw g) (gA g)) _ s 0 0 (gA g)) (F0 m 0 ls [])
  unfold p_PR_check at h
  refine lv_aload_n hx hb d_PR_check_0 rfl (lv_at hl 0 rfl) ?_
  refine gf_PR_program X hP q_191 d_PR_check_1 ?_
  refine gf_Pg_size X hP q_71 d_PR_check_4 ?_
  refine lv_if_ne (tgt := 13) hx hb d_PR_check_7 (by decide) (fun c1 => ?_) (fun c1 => ?_)
  · have h := h.2 c1
    refine lv_aload_n hx hb d_PR_check_13 rfl (lv_at hl 0 rfl) ?_
    refine gf_PR_checker X hP q_192 d_PR_check_14 ?_
    refine rw_cVv (rest := []) X hP hS yv_Ck_goThroughAll isO_Ck (c_Ck_goThroughAll hG h) q_247 ⟨rfl, rfl, by decide, by decide⟩ rfl rfl hl.1 (Nat.le_of_ble_eq_true rfl) ⟨Nat.zero_le _, Nat.zero_le _⟩ d_PR_check_17 (fun V2 H locs h hP hS => ?_)
    refine lv_aload_n hx hb d_PR_check_20 rfl (lv_at hl 0 rfl) ?_
    refine lv_aload_n hx hb d_PR_check_21 rfl (lv_at hl 0 rfl) ?_
    refine gf_PR_checker X hP q_192 d_PR_check_22 ?_
    refine gf_Ck_sort X hP q_89 d_PR_check_25 ?_
    refine lv_if_ne (tgt := 35) hx hb d_PR_check_28 (by decide) (fun c4 => ?_) (fun c4 => ?_)
    · have h := h.2 c4
      refine lv_iconst (v := 0) hx hb d_PR_check_35 (by decide) ?_
      exact t_PR_check_b36 X h hP hS (lv_sub hl [0] rfl)
    · have h := h.1 c4
      refine lv_iconst (v := 1) hx hb d_PR_check_31 (by decide) ?_
      refine lv_goto (tgt := 36) hx hb d_PR_check_32 (by decide) ?_
      exact t_PR_check_b36 X h hP hS (lv_sub hl [0] rfl)
  · have h := h.1 c1
    refine lv_bipush (v := (-3)) hx hb d_PR_check_10 (by decide) ?_
    exact rw_iret X hP hS h d_PR_check_12
theorem yv_PR_check : yV R_PR y_PR_check prog_1_method_5_code 1 (some .int) 0 := ⟨by decide +kernel, q_244, q_245, q_1, q_246⟩
/-! PR.fault -/
theorem d_PR_fault_0 : decode prog_1_method_6_code 0 = .ok (.aload_n 0, 1) := by decide +kernel
theorem d_PR_fault_1 : decode prog_1_method_6_code 1 = .ok (.getfield 21, 3) := by decide +kernel
theorem d_PR_fault_4 : decode prog_1_method_6_code 4 = .ok (.getfield 72, 3) := by decide +kernel
theorem d_PR_fault_7 : decode prog_1_method_6_code 7 = .ok (.ireturn, 1) := by decide +kernel
abbrev rm_PR_fault : Room := { frames := 0, cells := 0, slots := 0, locals := 0 }
def p_PR_fault (k : Int32 → vS → Prop) (V : vS) : Prop := k (V.1 15 5) V
set_option maxRecDepth 100000 in
set_option maxHeartbeats 4000000 in
theorem c_PR_fault {l : Launch} {g : gT} (hG : gd g) {V : vS} {k : Int32 → vS → Prop} (h : p_PR_fault k V) : Ci g l y_PR_fault prog_1_method_6_code 1 (some .int) rm_PR_fault [.ref (ga g 0)] V k := by
  unfold Ci
  refine Met.ofW (cc := prog_1_method_6_code) (maxL := 1) (ret := some .int) (by decide) rfl ?_
  intro p e s m args below meth c s₁ B hml hv
  obtain ⟨rfl, hP, hK, hZ⟩ := hv
  have X : cx g p s m meth c [.ref (ga g 0)].toArray R_PR prog_1_method_6_code 1 (some .int) := ⟨B.exec, B.bytes, B.returns, hml, findClass_of_methodNamed B.named, fun w hw => atoms_spec (ws := Cond.code y_PR_fault prog_1_method_6_code 1 (some .int) :: TBL) B.pre w (List.mem_cons_of_mem _ hw), B.notSynchronized, hK, hZ, hG⟩
  have hl := lv_entry [.ref (ga g 0)] (n := 1) (Nat.le_of_ble_eq_true rfl)
  rw [lg_entry_eq]
  generalize (lg_sl [.ref (ga g 0)] ++ List.replicate (1 - (lg_sl [.ref (ga g 0)]).length) Slot.unset).toArray = ls at hl ⊢
  have hl : lv_has ls 1 [(0, .ref (ga g 0))] := hl
  have hS : va_S (gA g) s.heap s.heap [] := va_S.rf
  obtain ⟨hx, hb, -, -, hown, hts, -, -, hz, -⟩ := id X
  show W p l e rm_PR_fault s m _ below meth c s.heap [] 0 0 (MQ below (va_Qi k (Bw g) (gA g)) _ s 0 0 (gA g)) (F0 m 0 ls [])
  unfold p_PR_fault at h
  refine lv_aload_n hx hb d_PR_fault_0 rfl (lv_at hl 0 rfl) ?_
  refine gf_PR_checker X hP q_192 d_PR_fault_1 ?_
  refine gf_Ck_sort X hP q_89 d_PR_fault_4 ?_
  exact rw_iret X hP hS h d_PR_fault_7
theorem yv_PR_fault : yV R_PR y_PR_fault prog_1_method_6_code 1 (some .int) 0 := ⟨by decide +kernel, q_300, q_301, q_1, q_302⟩
/-! PR.start -/
theorem d_PR_start_0 : decode prog_1_method_7_code 0 = .ok (.aload_n 0, 1) := by decide +kernel
theorem d_PR_start_1 : decode prog_1_method_7_code 1 = .ok (.getfield 32, 3) := by decide +kernel
theorem d_PR_start_4 : decode prog_1_method_7_code 4 = .ok (.ifCond .ne 6, 3) := by decide +kernel
theorem d_PR_start_7 : decode prog_1_method_7_code 7 = .ok (.bipush (-3), 2) := by decide +kernel
theorem d_PR_start_9 : decode prog_1_method_7_code 9 = .ok (.ireturn, 1) := by decide +kernel
theorem d_PR_start_10 : decode prog_1_method_7_code 10 = .ok (.aload_n 0, 1) := by decide +kernel
theorem d_PR_start_11 : decode prog_1_method_7_code 11 = .ok (.getfield 10, 3) := by decide +kernel
theorem d_PR_start_14 : decode prog_1_method_7_code 14 = .ok (.iload_n 1, 1) := by decide +kernel
theorem d_PR_start_15 : decode prog_1_method_7_code 15 = .ok (.invokevirtual 51, 3) := by decide +kernel
theorem d_PR_start_18 : decode prog_1_method_7_code 18 = .ok (.ifCond .ne 5, 3) := by decide +kernel
theorem d_PR_start_21 : decode prog_1_method_7_code 21 = .ok (.iconst (-1), 1) := by decide +kernel
theorem d_PR_start_22 : decode prog_1_method_7_code 22 = .ok (.ireturn, 1) := by decide +kernel
theorem d_PR_start_23 : decode prog_1_method_7_code 23 = .ok (.aload_n 0, 1) := by decide +kernel
theorem d_PR_start_24 : decode prog_1_method_7_code 24 = .ok (.getfield 28, 3) := by decide +kernel
theorem d_PR_start_27 : decode prog_1_method_7_code 27 = .ok (.iload_n 1, 1) := by decide +kernel
theorem d_PR_start_28 : decode prog_1_method_7_code 28 = .ok (.iload_n 2, 1) := by decide +kernel
theorem d_PR_start_29 : decode prog_1_method_7_code 29 = .ok (.iload_n 3, 1) := by decide +kernel
theorem d_PR_start_30 : decode prog_1_method_7_code 30 = .ok (.invokevirtual 81, 3) := by decide +kernel
theorem d_PR_start_33 : decode prog_1_method_7_code 33 = .ok (.iconst 0, 1) := by decide +kernel
theorem d_PR_start_34 : decode prog_1_method_7_code 34 = .ok (.ireturn, 1) := by decide +kernel
abbrev rm_PR_start : Room := { frames := 3, cells := 0, slots := 0, locals := 69 }
def p_PR_start (k : Int32 → vS → Prop) (V : vS) (x1 : Int32) (x2 : Int32) (x3 : Int32) : Prop := ((V.1 0 3) = 0 → (k (-3) V)) ∧ (¬ (V.1 0 3) = 0 → (p_Pg_has (fun r3 V2 => (r3 = 0 → (k (-1) V2)) ∧ (¬ r3 = 0 → (p_Mc_begin (fun V6 => k 0 V6) V2 x1 x2 x3))) V x1))
set_option maxRecDepth 100000 in
set_option maxHeartbeats 4000000 in
theorem c_PR_start {l : Launch} {g : gT} (hG : gd g) {V : vS} {x1 : Int32} {x2 : Int32} {x3 : Int32} {k : Int32 → vS → Prop} (h : p_PR_start k V x1 x2 x3) : Ci g l y_PR_start prog_1_method_7_code 4 (some .int) rm_PR_start [.ref (ga g 0), .int x1, .int x2, .int x3] V k := by
  unfold Ci
  refine Met.ofW (cc := prog_1_method_7_code) (maxL := 4) (ret := some .int) (by decide) rfl ?_
  intro p e s m args below meth c s₁ B hml hv
  obtain ⟨rfl, hP, hK, hZ⟩ := hv
  have X : cx g p s m meth c [.ref (ga g 0), .int x1, .int x2, .int x3].toArray R_PR prog_1_method_7_code 4 (some .int) := ⟨B.exec, B.bytes, B.returns, hml, findClass_of_methodNamed B.named, fun w hw => atoms_spec (ws := Cond.code y_PR_start prog_1_method_7_code 4 (some .int) :: TBL) B.pre w (List.mem_cons_of_mem _ hw), B.notSynchronized, hK, hZ, hG⟩
  have hl := lv_entry [.ref (ga g 0), .int x1, .int x2, .int x3] (n := 4) (Nat.le_of_ble_eq_true rfl)
  rw [lg_entry_eq]
  generalize (lg_sl [.ref (ga g 0), .int x1, .int x2, .int x3] ++ List.replicate (4 - (lg_sl [.ref (ga g 0), .int x1, .int x2, .int x3]).length) Slot.unset).toArray = ls at hl ⊢
  have hl : lv_has ls 4 [(0, .ref (ga g 0)), (1, .int x1), (2, .int x2), (3, .int x3)] := hl
  have hS : va_S (gA g) s.heap s.heap [] := va_S.rf
  obtain ⟨hx, hb, -, -, hown, hts, -, -, hz, -⟩ := id X
  show W p l e rm_PR_start s m _ below meth c s.heap [] 0 0 (MQ below (va_Qi k (Bw g) (gA g)) _ s 0 0 (gA g)) (F0 m 0 ls [])
  unfold p_PR_start at h
  refine lv_aload_n hx hb d_PR_start_0 rfl (lv_at hl 0 rfl) ?_
  refine gf_PR_checked X hP q_194 d_PR_start_1 ?_
  refine lv_if_ne (tgt := 10) hx hb d_PR_start_4 (by decide) (fun c1 => ?_) (fun c1 => ?_)
  · have h := h.2 c1
    refine lv_aload_n hx hb d_PR_start_10 rfl (lv_at hl 0 rfl) ?_
    refine gf_PR_program X hP q_191 d_PR_start_11 ?_
    refine lv_iload_n hx hb d_PR_start_14 rfl (lv_at hl 1 rfl) ?_
    refine rw_cVi (rest := []) X hP hS yv_Pg_has isO_Pg (c_Pg_has hG h) q_231 ⟨rfl, rfl, by decide, by decide⟩ rfl rfl hl.1 (Nat.le_of_ble_eq_true rfl) ⟨Nat.zero_le _, Nat.zero_le _⟩ d_PR_start_15 (fun r3 V2 H locs h hP hS => ?_)
    refine lv_if_ne (tgt := 23) hx hb d_PR_start_18 (by decide) (fun c5 => ?_) (fun c5 => ?_)
    · have h := h.2 c5
      refine lv_aload_n hx hb d_PR_start_23 rfl (lv_at hl 0 rfl) ?_
      refine gf_PR_machine X hP q_193 d_PR_start_24 ?_
      refine lv_iload_n hx hb d_PR_start_27 rfl (lv_at hl 1 rfl) ?_
      refine lv_iload_n hx hb d_PR_start_28 rfl (lv_at hl 2 rfl) ?_
      refine lv_iload_n hx hb d_PR_start_29 rfl (lv_at hl 3 rfl) ?_
      refine rw_cVv (rest := []) X hP hS yv_Mc_begin isO_Mc (c_Mc_begin hG h) q_307 ⟨rfl, rfl, by decide, by decide⟩ rfl rfl hl.1 (Nat.le_of_ble_eq_true rfl) ⟨Nat.zero_le _, Nat.zero_le _⟩ d_PR_start_30 (fun V6 H locs h hP hS => ?_)
      refine lv_iconst (v := 0) hx hb d_PR_start_33 (by decide) ?_
      exact rw_iret X hP hS h d_PR_start_34
    · have h := h.1 c5
      refine lv_iconst (v := (-1)) hx hb d_PR_start_21 (by decide) ?_
      exact rw_iret X hP hS h d_PR_start_22
  · have h := h.1 c1
    refine lv_bipush (v := (-3)) hx hb d_PR_start_7 (by decide) ?_
    exact rw_iret X hP hS h d_PR_start_9
theorem yv_PR_start : yV R_PR y_PR_start prog_1_method_7_code 4 (some .int) 3 := ⟨by decide +kernel, q_304, q_305, q_1, q_306⟩
/-! PR.resume -/
theorem d_PR_resume_0 : decode prog_1_method_8_code 0 = .ok (.iload_n 1, 1) := by decide +kernel
theorem d_PR_resume_1 : decode prog_1_method_8_code 1 = .ok (.iconst 1, 1) := by decide +kernel
theorem d_PR_resume_2 : decode prog_1_method_8_code 2 = .ok (.if_icmp .lt 10, 3) := by decide +kernel
theorem d_PR_resume_5 : decode prog_1_method_8_code 5 = .ok (.iload_n 1, 1) := by decide +kernel
theorem d_PR_resume_6 : decode prog_1_method_8_code 6 = .ok (.sipush 200, 3) := by decide +kernel
theorem d_PR_resume_9 : decode prog_1_method_8_code 9 = .ok (.if_icmp .le 5, 3) := by decide +kernel
theorem d_PR_resume_12 : decode prog_1_method_8_code 12 = .ok (.iconst (-1), 1) := by decide +kernel
theorem d_PR_resume_13 : decode prog_1_method_8_code 13 = .ok (.ireturn, 1) := by decide +kernel
theorem d_PR_resume_14 : decode prog_1_method_8_code 14 = .ok (.aload_n 0, 1) := by decide +kernel
theorem d_PR_resume_15 : decode prog_1_method_8_code 15 = .ok (.getfield 28, 3) := by decide +kernel
theorem d_PR_resume_18 : decode prog_1_method_8_code 18 = .ok (.invokevirtual 85, 3) := by decide +kernel
theorem d_PR_resume_21 : decode prog_1_method_8_code 21 = .ok (.ifCond .eq 13, 3) := by decide +kernel
theorem d_PR_resume_24 : decode prog_1_method_8_code 24 = .ok (.aload_n 0, 1) := by decide +kernel
theorem d_PR_resume_25 : decode prog_1_method_8_code 25 = .ok (.getfield 28, 3) := by decide +kernel
theorem d_PR_resume_28 : decode prog_1_method_8_code 28 = .ok (.invokevirtual 89, 3) := by decide +kernel
theorem d_PR_resume_31 : decode prog_1_method_8_code 31 = .ok (.ifCond .eq 6, 3) := by decide +kernel
theorem d_PR_resume_34 : decode prog_1_method_8_code 34 = .ok (.bipush (-3), 2) := by decide +kernel
theorem d_PR_resume_36 : decode prog_1_method_8_code 36 = .ok (.ireturn, 1) := by decide +kernel
theorem d_PR_resume_37 : decode prog_1_method_8_code 37 = .ok (.aload_n 0, 1) := by decide +kernel
theorem d_PR_resume_38 : decode prog_1_method_8_code 38 = .ok (.getfield 28, 3) := by decide +kernel
theorem d_PR_resume_41 : decode prog_1_method_8_code 41 = .ok (.iload_n 1, 1) := by decide +kernel
theorem d_PR_resume_42 : decode prog_1_method_8_code 42 = .ok (.invokevirtual 92, 3) := by decide +kernel
theorem d_PR_resume_45 : decode prog_1_method_8_code 45 = .ok (.ireturn, 1) := by decide +kernel
abbrev rm_PR_resume : Room := { frames := 5, cells := 0, slots := 0, locals := 115 }
def p_PR_resume_b12 (k : Int32 → vS → Prop) (V : vS) : Prop := k (-1) V
set_option maxRecDepth 100000 in
set_option maxHeartbeats 4000000 in
theorem t_PR_resume_b12 {k : Int32 → vS → Prop} (X : cx g p s m meth c args R_PR prog_1_method_8_code 2 (some .int)) {V : vS} (h : p_PR_resume_b12 k V) (hP : va_P g.1 vcl (cw g V) H) (hS : va_S (gA g) s.heap H locs) (hl : lv_has ls 2 []) : W p l e rm_PR_resume s m args below meth c H locs 0 0 (MQ below (va_Qi k (Bw g) (gA g)) args s 0 0 (gA g)) (F0 m 12 ls []) := by
  obtain ⟨hx, hb, -, -, hown, hts, -, -, hz, hG⟩ := id X
  unfold p_PR_resume_b12 at h
  refine lv_iconst (v := (-1)) hx hb d_PR_resume_12 (by decide) ?_
  exact rw_iret X hP hS h d_PR_resume_13
def p_PR_resume_b34 (k : Int32 → vS → Prop) (V : vS) : Prop := k (-3) V
set_option maxRecDepth 100000 in
set_option maxHeartbeats 4000000 in
theorem t_PR_resume_b34 {k : Int32 → vS → Prop} (X : cx g p s m meth c args R_PR prog_1_method_8_code 2 (some .int)) {V : vS} (h : p_PR_resume_b34 k V) (hP : va_P g.1 vcl (cw g V) H) (hS : va_S (gA g) s.heap H locs) (hl : lv_has ls 2 []) : W p l e rm_PR_resume s m args below meth c H locs 0 0 (MQ below (va_Qi k (Bw g) (gA g)) args s 0 0 (gA g)) (F0 m 34 ls []) := by
  obtain ⟨hx, hb, -, -, hown, hts, -, -, hz, hG⟩ := id X
  unfold p_PR_resume_b34 at h
  refine lv_bipush (v := (-3)) hx hb d_PR_resume_34 (by decide) ?_
  exact rw_iret X hP hS h d_PR_resume_36
def p_PR_resume (k : Int32 → vS → Prop) (V : vS) (x1 : Int32) : Prop := (x1 < 1 → (p_PR_resume_b12 k V)) ∧ (¬ x1 < 1 → ((x1 ≤ 200 → (p_Mc_isUnderWay (fun r4 V3 => (r4 = 0 → (p_PR_resume_b34 k V3)) ∧ (¬ r4 = 0 → (p_Mc_isWaiting (fun r8 V7 => (r8 = 0 → (p_Mc_go (fun r12 V11 => k r12 V11) V7 x1)) ∧ (¬ r8 = 0 → (p_PR_resume_b34 k V7))) V3))) V)) ∧ (¬ x1 ≤ 200 → (p_PR_resume_b12 k V))))
set_option maxRecDepth 100000 in
set_option maxHeartbeats 4000000 in
theorem c_PR_resume {l : Launch} {g : gT} (hG : gd g) {V : vS} {x1 : Int32} {k : Int32 → vS → Prop} (h : p_PR_resume k V x1) : Ci g l y_PR_resume prog_1_method_8_code 2 (some .int) rm_PR_resume [.ref (ga g 0), .int x1] V k := by
  unfold Ci
  refine Met.ofW (cc := prog_1_method_8_code) (maxL := 2) (ret := some .int) (by decide) rfl ?_
  intro p e s m args below meth c s₁ B hml hv
  obtain ⟨rfl, hP, hK, hZ⟩ := hv
  have X : cx g p s m meth c [.ref (ga g 0), .int x1].toArray R_PR prog_1_method_8_code 2 (some .int) := ⟨B.exec, B.bytes, B.returns, hml, findClass_of_methodNamed B.named, fun w hw => atoms_spec (ws := Cond.code y_PR_resume prog_1_method_8_code 2 (some .int) :: TBL) B.pre w (List.mem_cons_of_mem _ hw), B.notSynchronized, hK, hZ, hG⟩
  have hl := lv_entry [.ref (ga g 0), .int x1] (n := 2) (Nat.le_of_ble_eq_true rfl)
  rw [lg_entry_eq]
  generalize (lg_sl [.ref (ga g 0), .int x1] ++ List.replicate (2 - (lg_sl [.ref (ga g 0), .int x1]).length) Slot.unset).toArray = ls at hl ⊢
  have hl : lv_has ls 2 [(0, .ref (ga g 0)), (1, .int x1)] := hl
  have hS : va_S (gA g) s.heap s.heap [] := va_S.rf
  obtain ⟨hx, hb, -, -, hown, hts, -, -, hz, -⟩ := id X
  show W p l e rm_PR_resume s m _ below meth c s.heap [] 0 0 (MQ below (va_Qi k (Bw g) (gA g)) _ s 0 0 (gA g)) (F0 m 0 ls [])
  unfold p_PR_resume at h
  refine lv_iload_n hx hb d_PR_resume_0 rfl (lv_at hl 1 rfl) ?_
  refine lv_iconst (v := 1) hx hb d_PR_resume_1 (by decide) ?_
  refine lv_icmp_lt (tgt := 12) hx hb d_PR_resume_2 (by decide) (fun c1 => ?_) (fun c1 => ?_)
  · have h := h.1 c1
    exact t_PR_resume_b12 X h hP hS (lv_sub hl [] rfl)
  · have h := h.2 c1
    refine lv_iload_n hx hb d_PR_resume_5 rfl (lv_at hl 1 rfl) ?_
    refine lv_sipush (v := 200) hx hb d_PR_resume_6 (by decide) ?_
    refine lv_icmp_le (tgt := 14) hx hb d_PR_resume_9 (by decide) (fun c2 => ?_) (fun c2 => ?_)
    · have h := h.1 c2
      refine lv_aload_n hx hb d_PR_resume_14 rfl (lv_at hl 0 rfl) ?_
      refine gf_PR_machine X hP q_193 d_PR_resume_15 ?_
      refine rw_cVi (rest := []) X hP hS yv_Mc_isUnderWay isO_Mc (c_Mc_isUnderWay hG h) q_324 ⟨rfl, rfl, by decide, by decide⟩ rfl rfl hl.1 (Nat.le_of_ble_eq_true rfl) ⟨Nat.zero_le _, Nat.zero_le _⟩ d_PR_resume_18 (fun r4 V3 H locs h hP hS => ?_)
      refine lv_if_eq (tgt := 34) hx hb d_PR_resume_21 (by decide) (fun c6 => ?_) (fun c6 => ?_)
      · have h := h.1 c6
        exact t_PR_resume_b34 X h hP hS (lv_sub hl [] rfl)
      · have h := h.2 c6
        refine lv_aload_n hx hb d_PR_resume_24 rfl (lv_at hl 0 rfl) ?_
        refine gf_PR_machine X hP q_193 d_PR_resume_25 ?_
        refine rw_cVi (rest := []) X hP hS yv_Mc_isWaiting isO_Mc (c_Mc_isWaiting hG h) q_328 ⟨rfl, rfl, by decide, by decide⟩ rfl rfl hl.1 (Nat.le_of_ble_eq_true rfl) ⟨Nat.zero_le _, Nat.zero_le _⟩ d_PR_resume_28 (fun r8 V7 H locs h hP hS => ?_)
        refine lv_if_eq (tgt := 37) hx hb d_PR_resume_31 (by decide) (fun c10 => ?_) (fun c10 => ?_)
        · have h := h.1 c10
          refine lv_aload_n hx hb d_PR_resume_37 rfl (lv_at hl 0 rfl) ?_
          refine gf_PR_machine X hP q_193 d_PR_resume_38 ?_
          refine lv_iload_n hx hb d_PR_resume_41 rfl (lv_at hl 1 rfl) ?_
          refine rw_cVi (rest := []) X hP hS yv_Mc_go isO_Mc (c_Mc_go hG h) q_332 ⟨rfl, rfl, by decide, by decide⟩ rfl rfl hl.1 (Nat.le_of_ble_eq_true rfl) ⟨Nat.zero_le _, Nat.zero_le _⟩ d_PR_resume_42 (fun r12 V11 H locs h hP hS => ?_)
          exact rw_iret X hP hS h d_PR_resume_45
        · have h := h.2 c10
          exact t_PR_resume_b34 X h hP hS (lv_sub hl [] rfl)
    · have h := h.2 c2
      exact t_PR_resume_b12 X h hP hS (lv_sub hl [] rfl)
theorem yv_PR_resume : yV R_PR y_PR_resume prog_1_method_8_code 2 (some .int) 1 := ⟨by decide +kernel, q_321, q_322, q_1, q_323⟩
/-! PR.reply -/
theorem d_PR_reply_0 : decode prog_1_method_9_code 0 = .ok (.aload_n 0, 1) := by decide +kernel
theorem d_PR_reply_1 : decode prog_1_method_9_code 1 = .ok (.getfield 28, 3) := by decide +kernel
theorem d_PR_reply_4 : decode prog_1_method_9_code 4 = .ok (.invokevirtual 89, 3) := by decide +kernel
theorem d_PR_reply_7 : decode prog_1_method_9_code 7 = .ok (.ifCond .ne 6, 3) := by decide +kernel
theorem d_PR_reply_10 : decode prog_1_method_9_code 10 = .ok (.bipush (-3), 2) := by decide +kernel
theorem d_PR_reply_12 : decode prog_1_method_9_code 12 = .ok (.ireturn, 1) := by decide +kernel
theorem d_PR_reply_13 : decode prog_1_method_9_code 13 = .ok (.aload_n 0, 1) := by decide +kernel
theorem d_PR_reply_14 : decode prog_1_method_9_code 14 = .ok (.getfield 28, 3) := by decide +kernel
theorem d_PR_reply_17 : decode prog_1_method_9_code 17 = .ok (.iload_n 1, 1) := by decide +kernel
theorem d_PR_reply_18 : decode prog_1_method_9_code 18 = .ok (.invokevirtual 96, 3) := by decide +kernel
theorem d_PR_reply_21 : decode prog_1_method_9_code 21 = .ok (.iconst 0, 1) := by decide +kernel
theorem d_PR_reply_22 : decode prog_1_method_9_code 22 = .ok (.ireturn, 1) := by decide +kernel
abbrev rm_PR_reply : Room := { frames := 2, cells := 0, slots := 0, locals := 42 }
def p_PR_reply (k : Int32 → vS → Prop) (V : vS) (x1 : Int32) : Prop := p_Mc_isWaiting (fun r2 V1 => (r2 = 0 → (k (-3) V1)) ∧ (¬ r2 = 0 → (p_Mc_takeAnswer (fun V5 => k 0 V5) V1 x1))) V
set_option maxRecDepth 100000 in
set_option maxHeartbeats 4000000 in
theorem c_PR_reply {l : Launch} {g : gT} (hG : gd g) {V : vS} {x1 : Int32} {k : Int32 → vS → Prop} (h : p_PR_reply k V x1) : Ci g l y_PR_reply prog_1_method_9_code 2 (some .int) rm_PR_reply [.ref (ga g 0), .int x1] V k := by
  unfold Ci
  refine Met.ofW (cc := prog_1_method_9_code) (maxL := 2) (ret := some .int) (by decide) rfl ?_
  intro p e s m args below meth c s₁ B hml hv
  obtain ⟨rfl, hP, hK, hZ⟩ := hv
  have X : cx g p s m meth c [.ref (ga g 0), .int x1].toArray R_PR prog_1_method_9_code 2 (some .int) := ⟨B.exec, B.bytes, B.returns, hml, findClass_of_methodNamed B.named, fun w hw => atoms_spec (ws := Cond.code y_PR_reply prog_1_method_9_code 2 (some .int) :: TBL) B.pre w (List.mem_cons_of_mem _ hw), B.notSynchronized, hK, hZ, hG⟩
  have hl := lv_entry [.ref (ga g 0), .int x1] (n := 2) (Nat.le_of_ble_eq_true rfl)
  rw [lg_entry_eq]
  generalize (lg_sl [.ref (ga g 0), .int x1] ++ List.replicate (2 - (lg_sl [.ref (ga g 0), .int x1]).length) Slot.unset).toArray = ls at hl ⊢
  have hl : lv_has ls 2 [(0, .ref (ga g 0)), (1, .int x1)] := hl
  have hS : va_S (gA g) s.heap s.heap [] := va_S.rf
  obtain ⟨hx, hb, -, -, hown, hts, -, -, hz, -⟩ := id X
  show W p l e rm_PR_reply s m _ below meth c s.heap [] 0 0 (MQ below (va_Qi k (Bw g) (gA g)) _ s 0 0 (gA g)) (F0 m 0 ls [])
  unfold p_PR_reply at h
  refine lv_aload_n hx hb d_PR_reply_0 rfl (lv_at hl 0 rfl) ?_
  refine gf_PR_machine X hP q_193 d_PR_reply_1 ?_
  refine rw_cVi (rest := []) X hP hS yv_Mc_isWaiting isO_Mc (c_Mc_isWaiting hG h) q_328 ⟨rfl, rfl, by decide, by decide⟩ rfl rfl hl.1 (Nat.le_of_ble_eq_true rfl) ⟨Nat.zero_le _, Nat.zero_le _⟩ d_PR_reply_4 (fun r2 V1 H locs h hP hS => ?_)
  refine lv_if_ne (tgt := 13) hx hb d_PR_reply_7 (by decide) (fun c4 => ?_) (fun c4 => ?_)
  · have h := h.2 c4
    refine lv_aload_n hx hb d_PR_reply_13 rfl (lv_at hl 0 rfl) ?_
    refine gf_PR_machine X hP q_193 d_PR_reply_14 ?_
    refine lv_iload_n hx hb d_PR_reply_17 rfl (lv_at hl 1 rfl) ?_
    refine rw_cVv (rest := []) X hP hS yv_Mc_takeAnswer isO_Mc (c_Mc_takeAnswer hG h) q_410 ⟨rfl, rfl, by decide, by decide⟩ rfl rfl hl.1 (Nat.le_of_ble_eq_true rfl) ⟨Nat.zero_le _, Nat.zero_le _⟩ d_PR_reply_18 (fun V5 H locs h hP hS => ?_)
    refine lv_iconst (v := 0) hx hb d_PR_reply_21 (by decide) ?_
    exact rw_iret X hP hS h d_PR_reply_22
  · have h := h.1 c4
    refine lv_bipush (v := (-3)) hx hb d_PR_reply_10 (by decide) ?_
    exact rw_iret X hP hS h d_PR_reply_12
theorem yv_PR_reply : yV R_PR y_PR_reply prog_1_method_9_code 2 (some .int) 1 := ⟨by decide +kernel, q_407, q_408, q_1, q_409⟩
/-! PR.grant -/
theorem d_PR_grant_0 : decode prog_1_method_10_code 0 = .ok (.iload_n 1, 1) := by decide +kernel
theorem d_PR_grant_1 : decode prog_1_method_10_code 1 = .ok (.iconst 3, 1) := by decide +kernel
theorem d_PR_grant_2 : decode prog_1_method_10_code 2 = .ok (.invokestatic 36, 3) := by decide +kernel
theorem d_PR_grant_5 : decode prog_1_method_10_code 5 = .ok (.ifCond .ne 5, 3) := by decide +kernel
theorem d_PR_grant_8 : decode prog_1_method_10_code 8 = .ok (.iconst (-1), 1) := by decide +kernel
theorem d_PR_grant_9 : decode prog_1_method_10_code 9 = .ok (.ireturn, 1) := by decide +kernel
theorem d_PR_grant_10 : decode prog_1_method_10_code 10 = .ok (.aload_n 0, 1) := by decide +kernel
theorem d_PR_grant_11 : decode prog_1_method_10_code 11 = .ok (.getfield 28, 3) := by decide +kernel
theorem d_PR_grant_14 : decode prog_1_method_10_code 14 = .ok (.getfield 100, 3) := by decide +kernel
theorem d_PR_grant_17 : decode prog_1_method_10_code 17 = .ok (.iload_n 1, 1) := by decide +kernel
theorem d_PR_grant_18 : decode prog_1_method_10_code 18 = .ok (.iload_n 2, 1) := by decide +kernel
theorem d_PR_grant_19 : decode prog_1_method_10_code 19 = .ok (.bastore, 1) := by decide +kernel
theorem d_PR_grant_20 : decode prog_1_method_10_code 20 = .ok (.iconst 0, 1) := by decide +kernel
theorem d_PR_grant_21 : decode prog_1_method_10_code 21 = .ok (.ireturn, 1) := by decide +kernel
abbrev rm_PR_grant : Room := { frames := 1, cells := 0, slots := 0, locals := 21 }
def p_PR_grant (k : Int32 → vS → Prop) (V : vS) (x1 : Int32) (x2 : Int32) : Prop := p_PR_within (fun r2 V1 => (r2 = 0 → (k (-1) V1)) ∧ (¬ r2 = 0 → (vp_in x1 4 ∧ ∀ V6 : vS, V6 = sv V1 33 (nt x1) (vp_nar .boolean x2) → (k 0 V6)))) V x1 3
set_option maxRecDepth 100000 in
set_option maxHeartbeats 4000000 in
theorem c_PR_grant {l : Launch} {g : gT} (hG : gd g) {V : vS} {x1 : Int32} {x2 : Int32} {k : Int32 → vS → Prop} (h : p_PR_grant k V x1 x2) : Ci g l y_PR_grant prog_1_method_10_code 3 (some .int) rm_PR_grant [.ref (ga g 0), .int x1, .int x2] V k := by
  unfold Ci
  refine Met.ofW (cc := prog_1_method_10_code) (maxL := 3) (ret := some .int) (by decide) rfl ?_
  intro p e s m args below meth c s₁ B hml hv
  obtain ⟨rfl, hP, hK, hZ⟩ := hv
  have X : cx g p s m meth c [.ref (ga g 0), .int x1, .int x2].toArray R_PR prog_1_method_10_code 3 (some .int) := ⟨B.exec, B.bytes, B.returns, hml, findClass_of_methodNamed B.named, fun w hw => atoms_spec (ws := Cond.code y_PR_grant prog_1_method_10_code 3 (some .int) :: TBL) B.pre w (List.mem_cons_of_mem _ hw), B.notSynchronized, hK, hZ, hG⟩
  have hl := lv_entry [.ref (ga g 0), .int x1, .int x2] (n := 3) (Nat.le_of_ble_eq_true rfl)
  rw [lg_entry_eq]
  generalize (lg_sl [.ref (ga g 0), .int x1, .int x2] ++ List.replicate (3 - (lg_sl [.ref (ga g 0), .int x1, .int x2]).length) Slot.unset).toArray = ls at hl ⊢
  have hl : lv_has ls 3 [(0, .ref (ga g 0)), (1, .int x1), (2, .int x2)] := hl
  have hS : va_S (gA g) s.heap s.heap [] := va_S.rf
  obtain ⟨hx, hb, -, -, hown, hts, -, -, hz, -⟩ := id X
  show W p l e rm_PR_grant s m _ below meth c s.heap [] 0 0 (MQ below (va_Qi k (Bw g) (gA g)) _ s 0 0 (gA g)) (F0 m 0 ls [])
  unfold p_PR_grant at h
  refine lv_iload_n hx hb d_PR_grant_0 rfl (lv_at hl 1 rfl) ?_
  refine lv_iconst (v := 3) hx hb d_PR_grant_1 (by decide) ?_
  refine rw_cSi (rest := []) X hP hS ys_PR_within (c_PR_within hG h) q_208 ⟨rfl, rfl, by decide, by decide⟩ rfl rfl hl.1 (Nat.le_of_ble_eq_true rfl) ⟨Nat.zero_le _, Nat.zero_le _⟩ d_PR_grant_2 (fun r2 V1 H locs h hP hS => ?_)
  refine lv_if_ne (tgt := 10) hx hb d_PR_grant_5 (by decide) (fun c4 => ?_) (fun c4 => ?_)
  · have h := h.2 c4
    refine lv_aload_n hx hb d_PR_grant_10 rfl (lv_at hl 0 rfl) ?_
    refine gf_PR_machine X hP q_193 d_PR_grant_11 ?_
    refine gf_Mc_granted X hP q_147 d_PR_grant_14 ?_
    refine lv_iload_n hx hb d_PR_grant_17 rfl (lv_at hl 1 rfl) ?_
    refine lv_iload_n hx hb d_PR_grant_18 rfl (lv_at hl 2 rfl) ?_
    obtain ⟨hi5, h⟩ := h
    refine rw_zast X hP hS isZ_33 hi5 d_PR_grant_19 (fun V6 H locs eV6 hP hS => ?_)
    have h := h V6 eV6
    refine lv_iconst (v := 0) hx hb d_PR_grant_20 (by decide) ?_
    exact rw_iret X hP hS h d_PR_grant_21
  · have h := h.1 c4
    refine lv_iconst (v := (-1)) hx hb d_PR_grant_8 (by decide) ?_
    exact rw_iret X hP hS h d_PR_grant_9
theorem yv_PR_grant : yV R_PR y_PR_grant prog_1_method_10_code 3 (some .int) 2 := ⟨by decide +kernel, q_415, q_416, q_1, q_417⟩
/-! PR.result -/
theorem d_PR_result_0 : decode prog_1_method_11_code 0 = .ok (.aload_n 0, 1) := by decide +kernel
theorem d_PR_result_1 : decode prog_1_method_11_code 1 = .ok (.getfield 28, 3) := by decide +kernel
theorem d_PR_result_4 : decode prog_1_method_11_code 4 = .ok (.getfield 104, 3) := by decide +kernel
theorem d_PR_result_7 : decode prog_1_method_11_code 7 = .ok (.lreturn, 1) := by decide +kernel
abbrev rm_PR_result : Room := { frames := 0, cells := 0, slots := 0, locals := 0 }
def p_PR_result (k : Int64 → vS → Prop) (V : vS) : Prop := k (V.2) V
set_option maxRecDepth 100000 in
set_option maxHeartbeats 4000000 in
theorem c_PR_result {l : Launch} {g : gT} (hG : gd g) {V : vS} {k : Int64 → vS → Prop} (h : p_PR_result k V) : Cl g l y_PR_result prog_1_method_11_code 1 (some .long) rm_PR_result [.ref (ga g 0)] V k := by
  unfold Cl
  refine Met.ofW (cc := prog_1_method_11_code) (maxL := 1) (ret := some .long) (by decide) rfl ?_
  intro p e s m args below meth c s₁ B hml hv
  obtain ⟨rfl, hP, hK, hZ⟩ := hv
  have X : cx g p s m meth c [.ref (ga g 0)].toArray R_PR prog_1_method_11_code 1 (some .long) := ⟨B.exec, B.bytes, B.returns, hml, findClass_of_methodNamed B.named, fun w hw => atoms_spec (ws := Cond.code y_PR_result prog_1_method_11_code 1 (some .long) :: TBL) B.pre w (List.mem_cons_of_mem _ hw), B.notSynchronized, hK, hZ, hG⟩
  have hl := lv_entry [.ref (ga g 0)] (n := 1) (Nat.le_of_ble_eq_true rfl)
  rw [lg_entry_eq]
  generalize (lg_sl [.ref (ga g 0)] ++ List.replicate (1 - (lg_sl [.ref (ga g 0)]).length) Slot.unset).toArray = ls at hl ⊢
  have hl : lv_has ls 1 [(0, .ref (ga g 0))] := hl
  have hS : va_S (gA g) s.heap s.heap [] := va_S.rf
  obtain ⟨hx, hb, -, -, hown, hts, -, -, hz, -⟩ := id X
  show W p l e rm_PR_result s m _ below meth c s.heap [] 0 0 (MQ below (va_Ql k (Bw g) (gA g)) _ s 0 0 (gA g)) (F0 m 0 ls [])
  unfold p_PR_result at h
  refine lv_aload_n hx hb d_PR_result_0 rfl (lv_at hl 0 rfl) ?_
  refine gf_PR_machine X hP q_193 d_PR_result_1 ?_
  refine gf_Mc_latestResult X hP q_163 d_PR_result_4 ?_
  exact rw_lret X hP hS h d_PR_result_7
theorem yv_PR_result : yV R_PR y_PR_result prog_1_method_11_code 1 (some .long) 0 := ⟨by decide +kernel, q_419, q_420, q_1, q_421⟩
/-! PR.memory -/
theorem d_PR_memory_0 : decode prog_1_method_12_code 0 = .ok (.iload_n 1, 1) := by decide +kernel
theorem d_PR_memory_1 : decode prog_1_method_12_code 1 = .ok (.bipush 31, 2) := by decide +kernel
theorem d_PR_memory_3 : decode prog_1_method_12_code 3 = .ok (.invokestatic 36, 3) := by decide +kernel
theorem d_PR_memory_6 : decode prog_1_method_12_code 6 = .ok (.ifCond .eq 16, 3) := by decide +kernel
theorem d_PR_memory_9 : decode prog_1_method_12_code 9 = .ok (.aload_n 0, 1) := by decide +kernel
theorem d_PR_memory_10 : decode prog_1_method_12_code 10 = .ok (.getfield 28, 3) := by decide +kernel
theorem d_PR_memory_13 : decode prog_1_method_12_code 13 = .ok (.getfield 108, 3) := by decide +kernel
theorem d_PR_memory_16 : decode prog_1_method_12_code 16 = .ok (.iload_n 1, 1) := by decide +kernel
theorem d_PR_memory_17 : decode prog_1_method_12_code 17 = .ok (.iaload, 1) := by decide +kernel
theorem d_PR_memory_18 : decode prog_1_method_12_code 18 = .ok (.i2l, 1) := by decide +kernel
theorem d_PR_memory_19 : decode prog_1_method_12_code 19 = .ok (.goto 6, 3) := by decide +kernel
theorem d_PR_memory_22 : decode prog_1_method_12_code 22 = .ok (.ldc2_w 112, 3) := by decide +kernel
theorem d_PR_memory_25 : decode prog_1_method_12_code 25 = .ok (.lreturn, 1) := by decide +kernel
abbrev rm_PR_memory : Room := { frames := 1, cells := 0, slots := 0, locals := 21 }
def p_PR_memory_b25 (k : Int64 → vS → Prop) (V : vS) (s0 : Int64) : Prop := k s0 V
set_option maxRecDepth 100000 in
set_option maxHeartbeats 4000000 in
theorem t_PR_memory_b25 {k : Int64 → vS → Prop} (X : cx g p s m meth c args R_PR prog_1_method_12_code 2 (some .long)) {V : vS} {s0 : Int64} (h : p_PR_memory_b25 k V s0) (hP : va_P g.1 vcl (cw g V) H) (hS : va_S (gA g) s.heap H locs) (hl : lv_has ls 2 []) : W p l e rm_PR_memory s m args below meth c H locs 0 0 (MQ below (va_Ql k (Bw g) (gA g)) args s 0 0 (gA g)) (F0 m 25 ls [.long s0]) := by
  obtain ⟨hx, hb, -, -, hown, hts, -, -, hz, hG⟩ := id X
  unfold p_PR_memory_b25 at h
  exact rw_lret X hP hS h d_PR_memory_25
def p_PR_memory (k : Int64 → vS → Prop) (V : vS) (x1 : Int32) : Prop := p_PR_within (fun r2 V1 => (r2 = 0 → (p_PR_memory_b25 k V1 (-1000000000000))) ∧ (¬ r2 = 0 → (vp_in x1 32 ∧ (p_PR_memory_b25 k V1 ((V1.1 32 (nt x1) : Int32).toInt64))))) V x1 31
set_option maxRecDepth 100000 in
set_option maxHeartbeats 4000000 in
theorem c_PR_memory {l : Launch} {g : gT} (hG : gd g) {V : vS} {x1 : Int32} {k : Int64 → vS → Prop} (h : p_PR_memory k V x1) : Cl g l y_PR_memory prog_1_method_12_code 2 (some .long) rm_PR_memory [.ref (ga g 0), .int x1] V k := by
  unfold Cl
  refine Met.ofW (cc := prog_1_method_12_code) (maxL := 2) (ret := some .long) (by decide) rfl ?_
  intro p e s m args below meth c s₁ B hml hv
  obtain ⟨rfl, hP, hK, hZ⟩ := hv
  have X : cx g p s m meth c [.ref (ga g 0), .int x1].toArray R_PR prog_1_method_12_code 2 (some .long) := ⟨B.exec, B.bytes, B.returns, hml, findClass_of_methodNamed B.named, fun w hw => atoms_spec (ws := Cond.code y_PR_memory prog_1_method_12_code 2 (some .long) :: TBL) B.pre w (List.mem_cons_of_mem _ hw), B.notSynchronized, hK, hZ, hG⟩
  have hl := lv_entry [.ref (ga g 0), .int x1] (n := 2) (Nat.le_of_ble_eq_true rfl)
  rw [lg_entry_eq]
  generalize (lg_sl [.ref (ga g 0), .int x1] ++ List.replicate (2 - (lg_sl [.ref (ga g 0), .int x1]).length) Slot.unset).toArray = ls at hl ⊢
  have hl : lv_has ls 2 [(0, .ref (ga g 0)), (1, .int x1)] := hl
  have hS : va_S (gA g) s.heap s.heap [] := va_S.rf
  obtain ⟨hx, hb, -, -, hown, hts, -, -, hz, -⟩ := id X
  show W p l e rm_PR_memory s m _ below meth c s.heap [] 0 0 (MQ below (va_Ql k (Bw g) (gA g)) _ s 0 0 (gA g)) (F0 m 0 ls [])
  unfold p_PR_memory at h
  refine lv_iload_n hx hb d_PR_memory_0 rfl (lv_at hl 1 rfl) ?_
  refine lv_bipush (v := 31) hx hb d_PR_memory_1 (by decide) ?_
  refine rw_cSi (rest := []) X hP hS ys_PR_within (c_PR_within hG h) q_208 ⟨rfl, rfl, by decide, by decide⟩ rfl rfl hl.1 (Nat.le_of_ble_eq_true rfl) ⟨Nat.zero_le _, Nat.zero_le _⟩ d_PR_memory_3 (fun r2 V1 H locs h hP hS => ?_)
  refine lv_if_eq (tgt := 22) hx hb d_PR_memory_6 (by decide) (fun c4 => ?_) (fun c4 => ?_)
  · have h := h.1 c4
    refine lv_ldc2 (v := (-1000000000000)) hx hb hown (hts _ q_426) d_PR_memory_22 ?_
    exact t_PR_memory_b25 X h hP hS (lv_sub hl [] rfl)
  · have h := h.2 c4
    refine lv_aload_n hx hb d_PR_memory_9 rfl (lv_at hl 0 rfl) ?_
    refine gf_PR_machine X hP q_193 d_PR_memory_10 ?_
    refine gf_Mc_cells X hP q_145 d_PR_memory_13 ?_
    refine lv_iload_n hx hb d_PR_memory_16 rfl (lv_at hl 1 rfl) ?_
    obtain ⟨hi5, h⟩ := h
    refine rw_iald X hP isI_32 hi5 d_PR_memory_17 ?_
    refine lv_i2l (v := (V1.1 32 (nt x1) : Int32).toInt64) hx hb d_PR_memory_18 rfl ?_
    refine lv_goto (tgt := 25) hx hb d_PR_memory_19 (by decide) ?_
    exact t_PR_memory_b25 X h hP hS (lv_sub hl [] rfl)
theorem yv_PR_memory : yV R_PR y_PR_memory prog_1_method_12_code 2 (some .long) 1 := ⟨by decide +kernel, q_423, q_424, q_1, q_425⟩
/-! PR.poke -/
theorem d_PR_poke_0 : decode prog_1_method_13_code 0 = .ok (.iload_n 1, 1) := by decide +kernel
theorem d_PR_poke_1 : decode prog_1_method_13_code 1 = .ok (.bipush 31, 2) := by decide +kernel
theorem d_PR_poke_3 : decode prog_1_method_13_code 3 = .ok (.invokestatic 36, 3) := by decide +kernel
theorem d_PR_poke_6 : decode prog_1_method_13_code 6 = .ok (.ifCond .ne 5, 3) := by decide +kernel
theorem d_PR_poke_9 : decode prog_1_method_13_code 9 = .ok (.iconst (-1), 1) := by decide +kernel
theorem d_PR_poke_10 : decode prog_1_method_13_code 10 = .ok (.ireturn, 1) := by decide +kernel
theorem d_PR_poke_11 : decode prog_1_method_13_code 11 = .ok (.aload_n 0, 1) := by decide +kernel
theorem d_PR_poke_12 : decode prog_1_method_13_code 12 = .ok (.getfield 28, 3) := by decide +kernel
theorem d_PR_poke_15 : decode prog_1_method_13_code 15 = .ok (.getfield 108, 3) := by decide +kernel
theorem d_PR_poke_18 : decode prog_1_method_13_code 18 = .ok (.iload_n 1, 1) := by decide +kernel
theorem d_PR_poke_19 : decode prog_1_method_13_code 19 = .ok (.iload_n 2, 1) := by decide +kernel
theorem d_PR_poke_20 : decode prog_1_method_13_code 20 = .ok (.iastore, 1) := by decide +kernel
theorem d_PR_poke_21 : decode prog_1_method_13_code 21 = .ok (.iconst 0, 1) := by decide +kernel
theorem d_PR_poke_22 : decode prog_1_method_13_code 22 = .ok (.ireturn, 1) := by decide +kernel
abbrev rm_PR_poke : Room := { frames := 1, cells := 0, slots := 0, locals := 21 }
def p_PR_poke (k : Int32 → vS → Prop) (V : vS) (x1 : Int32) (x2 : Int32) : Prop := p_PR_within (fun r2 V1 => (r2 = 0 → (k (-1) V1)) ∧ (¬ r2 = 0 → (vp_in x1 32 ∧ ∀ V6 : vS, V6 = sv V1 32 (nt x1) x2 → (k 0 V6)))) V x1 31
set_option maxRecDepth 100000 in
set_option maxHeartbeats 4000000 in
theorem c_PR_poke {l : Launch} {g : gT} (hG : gd g) {V : vS} {x1 : Int32} {x2 : Int32} {k : Int32 → vS → Prop} (h : p_PR_poke k V x1 x2) : Ci g l y_PR_poke prog_1_method_13_code 3 (some .int) rm_PR_poke [.ref (ga g 0), .int x1, .int x2] V k := by
  unfold Ci
  refine Met.ofW (cc := prog_1_method_13_code) (maxL := 3) (ret := some .int) (by decide) rfl ?_
  intro p e s m args below meth c s₁ B hml hv
  obtain ⟨rfl, hP, hK, hZ⟩ := hv
  have X : cx g p s m meth c [.ref (ga g 0), .int x1, .int x2].toArray R_PR prog_1_method_13_code 3 (some .int) := ⟨B.exec, B.bytes, B.returns, hml, findClass_of_methodNamed B.named, fun w hw => atoms_spec (ws := Cond.code y_PR_poke prog_1_method_13_code 3 (some .int) :: TBL) B.pre w (List.mem_cons_of_mem _ hw), B.notSynchronized, hK, hZ, hG⟩
  have hl := lv_entry [.ref (ga g 0), .int x1, .int x2] (n := 3) (Nat.le_of_ble_eq_true rfl)
  rw [lg_entry_eq]
  generalize (lg_sl [.ref (ga g 0), .int x1, .int x2] ++ List.replicate (3 - (lg_sl [.ref (ga g 0), .int x1, .int x2]).length) Slot.unset).toArray = ls at hl ⊢
  have hl : lv_has ls 3 [(0, .ref (ga g 0)), (1, .int x1), (2, .int x2)] := hl
  have hS : va_S (gA g) s.heap s.heap [] := va_S.rf
  obtain ⟨hx, hb, -, -, hown, hts, -, -, hz, -⟩ := id X
  show W p l e rm_PR_poke s m _ below meth c s.heap [] 0 0 (MQ below (va_Qi k (Bw g) (gA g)) _ s 0 0 (gA g)) (F0 m 0 ls [])
  unfold p_PR_poke at h
  refine lv_iload_n hx hb d_PR_poke_0 rfl (lv_at hl 1 rfl) ?_
  refine lv_bipush (v := 31) hx hb d_PR_poke_1 (by decide) ?_
  refine rw_cSi (rest := []) X hP hS ys_PR_within (c_PR_within hG h) q_208 ⟨rfl, rfl, by decide, by decide⟩ rfl rfl hl.1 (Nat.le_of_ble_eq_true rfl) ⟨Nat.zero_le _, Nat.zero_le _⟩ d_PR_poke_3 (fun r2 V1 H locs h hP hS => ?_)
  refine lv_if_ne (tgt := 11) hx hb d_PR_poke_6 (by decide) (fun c4 => ?_) (fun c4 => ?_)
  · have h := h.2 c4
    refine lv_aload_n hx hb d_PR_poke_11 rfl (lv_at hl 0 rfl) ?_
    refine gf_PR_machine X hP q_193 d_PR_poke_12 ?_
    refine gf_Mc_cells X hP q_145 d_PR_poke_15 ?_
    refine lv_iload_n hx hb d_PR_poke_18 rfl (lv_at hl 1 rfl) ?_
    refine lv_iload_n hx hb d_PR_poke_19 rfl (lv_at hl 2 rfl) ?_
    obtain ⟨hi5, h⟩ := h
    refine rw_iast X hP hS isI_32 hi5 d_PR_poke_20 (fun V6 H locs eV6 hP hS => ?_)
    have h := h V6 eV6
    refine lv_iconst (v := 0) hx hb d_PR_poke_21 (by decide) ?_
    exact rw_iret X hP hS h d_PR_poke_22
  · have h := h.1 c4
    refine lv_iconst (v := (-1)) hx hb d_PR_poke_9 (by decide) ?_
    exact rw_iret X hP hS h d_PR_poke_10
theorem yv_PR_poke : yV R_PR y_PR_poke prog_1_method_13_code 3 (some .int) 2 := ⟨by decide +kernel, q_428, q_429, q_1, q_430⟩
/-! PR.state -/
theorem d_PR_state_0 : decode prog_1_method_14_code 0 = .ok (.iload_n 1, 1) := by decide +kernel
theorem d_PR_state_1 : decode prog_1_method_14_code 1 = .ok (.iconst 5, 1) := by decide +kernel
theorem d_PR_state_2 : decode prog_1_method_14_code 2 = .ok (.invokestatic 36, 3) := by decide +kernel
theorem d_PR_state_5 : decode prog_1_method_14_code 5 = .ok (.ifCond .ne 5, 3) := by decide +kernel
theorem d_PR_state_8 : decode prog_1_method_14_code 8 = .ok (.iconst (-1), 1) := by decide +kernel
theorem d_PR_state_9 : decode prog_1_method_14_code 9 = .ok (.ireturn, 1) := by decide +kernel
theorem d_PR_state_10 : decode prog_1_method_14_code 10 = .ok (.aload_n 0, 1) := by decide +kernel
theorem d_PR_state_11 : decode prog_1_method_14_code 11 = .ok (.getfield 28, 3) := by decide +kernel
theorem d_PR_state_14 : decode prog_1_method_14_code 14 = .ok (.invokevirtual 85, 3) := by decide +kernel
theorem d_PR_state_17 : decode prog_1_method_14_code 17 = .ok (.ifCond .ne 5, 3) := by decide +kernel
theorem d_PR_state_20 : decode prog_1_method_14_code 20 = .ok (.iconst (-1), 1) := by decide +kernel
theorem d_PR_state_21 : decode prog_1_method_14_code 21 = .ok (.ireturn, 1) := by decide +kernel
theorem d_PR_state_22 : decode prog_1_method_14_code 22 = .ok (.iload_n 1, 1) := by decide +kernel
theorem d_PR_state_23 : decode prog_1_method_14_code 23 = .ok (.tableswitch 79 0 4 #[33, 41, 52, 63, 71], 33) := by decide +kernel
theorem d_PR_state_56 : decode prog_1_method_14_code 56 = .ok (.aload_n 0, 1) := by decide +kernel
theorem d_PR_state_57 : decode prog_1_method_14_code 57 = .ok (.getfield 28, 3) := by decide +kernel
theorem d_PR_state_60 : decode prog_1_method_14_code 60 = .ok (.getfield 114, 3) := by decide +kernel
theorem d_PR_state_63 : decode prog_1_method_14_code 63 = .ok (.ireturn, 1) := by decide +kernel
theorem d_PR_state_64 : decode prog_1_method_14_code 64 = .ok (.aload_n 0, 1) := by decide +kernel
theorem d_PR_state_65 : decode prog_1_method_14_code 65 = .ok (.getfield 28, 3) := by decide +kernel
theorem d_PR_state_68 : decode prog_1_method_14_code 68 = .ok (.invokevirtual 117, 3) := by decide +kernel
theorem d_PR_state_71 : decode prog_1_method_14_code 71 = .ok (.getfield 121, 3) := by decide +kernel
theorem d_PR_state_74 : decode prog_1_method_14_code 74 = .ok (.ireturn, 1) := by decide +kernel
theorem d_PR_state_75 : decode prog_1_method_14_code 75 = .ok (.aload_n 0, 1) := by decide +kernel
theorem d_PR_state_76 : decode prog_1_method_14_code 76 = .ok (.getfield 28, 3) := by decide +kernel
theorem d_PR_state_79 : decode prog_1_method_14_code 79 = .ok (.invokevirtual 117, 3) := by decide +kernel
theorem d_PR_state_82 : decode prog_1_method_14_code 82 = .ok (.getfield 126, 3) := by decide +kernel
theorem d_PR_state_85 : decode prog_1_method_14_code 85 = .ok (.ireturn, 1) := by decide +kernel
theorem d_PR_state_86 : decode prog_1_method_14_code 86 = .ok (.aload_n 0, 1) := by decide +kernel
theorem d_PR_state_87 : decode prog_1_method_14_code 87 = .ok (.getfield 28, 3) := by decide +kernel
theorem d_PR_state_90 : decode prog_1_method_14_code 90 = .ok (.getfield 129, 3) := by decide +kernel
theorem d_PR_state_93 : decode prog_1_method_14_code 93 = .ok (.ireturn, 1) := by decide +kernel
theorem d_PR_state_94 : decode prog_1_method_14_code 94 = .ok (.aload_n 0, 1) := by decide +kernel
theorem d_PR_state_95 : decode prog_1_method_14_code 95 = .ok (.getfield 28, 3) := by decide +kernel
theorem d_PR_state_98 : decode prog_1_method_14_code 98 = .ok (.getfield 132, 3) := by decide +kernel
theorem d_PR_state_101 : decode prog_1_method_14_code 101 = .ok (.ireturn, 1) := by decide +kernel
theorem d_PR_state_102 : decode prog_1_method_14_code 102 = .ok (.aload_n 0, 1) := by decide +kernel
theorem d_PR_state_103 : decode prog_1_method_14_code 103 = .ok (.getfield 28, 3) := by decide +kernel
theorem d_PR_state_106 : decode prog_1_method_14_code 106 = .ok (.getfield 135, 3) := by decide +kernel
theorem d_PR_state_109 : decode prog_1_method_14_code 109 = .ok (.ireturn, 1) := by decide +kernel
abbrev rm_PR_state : Room := { frames := 1, cells := 0, slots := 0, locals := 21 }
def p_PR_state (k : Int32 → vS → Prop) (V : vS) (x1 : Int32) : Prop := p_PR_within (fun r2 V1 => (r2 = 0 → (k (-1) V1)) ∧ (¬ r2 = 0 → (p_Mc_isUnderWay (fun r6 V5 => (r6 = 0 → (k (-1) V5)) ∧ (¬ r6 = 0 → ((x1 = 0 → (k (V5.1 17 5) V5)) ∧ (¬ x1 = 0 → ((x1 = 1 → (p_Mc_innermost (fun r12 V11 => k (V11.1 r12 1) V11) V5)) ∧ (¬ x1 = 1 → ((x1 = 2 → (p_Mc_innermost (fun r16 V15 => k (V15.1 r16 2) V15) V5)) ∧ (¬ x1 = 2 → ((x1 = 3 → (k (V5.1 17 6) V5)) ∧ (¬ x1 = 3 → ((x1 = 4 → (k (V5.1 17 7) V5)) ∧ (¬ x1 = 4 → (k (V5.1 17 8) V5))))))))))))) V1))) V x1 5
set_option maxRecDepth 100000 in
set_option maxHeartbeats 4000000 in
theorem c_PR_state {l : Launch} {g : gT} (hG : gd g) {V : vS} {x1 : Int32} {k : Int32 → vS → Prop} (h : p_PR_state k V x1) : Ci g l y_PR_state prog_1_method_14_code 2 (some .int) rm_PR_state [.ref (ga g 0), .int x1] V k := by
  unfold Ci
  refine Met.ofW (cc := prog_1_method_14_code) (maxL := 2) (ret := some .int) (by decide) rfl ?_
  intro p e s m args below meth c s₁ B hml hv
  obtain ⟨rfl, hP, hK, hZ⟩ := hv
  have X : cx g p s m meth c [.ref (ga g 0), .int x1].toArray R_PR prog_1_method_14_code 2 (some .int) := ⟨B.exec, B.bytes, B.returns, hml, findClass_of_methodNamed B.named, fun w hw => atoms_spec (ws := Cond.code y_PR_state prog_1_method_14_code 2 (some .int) :: TBL) B.pre w (List.mem_cons_of_mem _ hw), B.notSynchronized, hK, hZ, hG⟩
  have hl := lv_entry [.ref (ga g 0), .int x1] (n := 2) (Nat.le_of_ble_eq_true rfl)
  rw [lg_entry_eq]
  generalize (lg_sl [.ref (ga g 0), .int x1] ++ List.replicate (2 - (lg_sl [.ref (ga g 0), .int x1]).length) Slot.unset).toArray = ls at hl ⊢
  have hl : lv_has ls 2 [(0, .ref (ga g 0)), (1, .int x1)] := hl
  have hS : va_S (gA g) s.heap s.heap [] := va_S.rf
  obtain ⟨hx, hb, -, -, hown, hts, -, -, hz, -⟩ := id X
  show W p l e rm_PR_state s m _ below meth c s.heap [] 0 0 (MQ below (va_Qi k (Bw g) (gA g)) _ s 0 0 (gA g)) (F0 m 0 ls [])
  unfold p_PR_state at h
  refine lv_iload_n hx hb d_PR_state_0 rfl (lv_at hl 1 rfl) ?_
  refine lv_iconst (v := 5) hx hb d_PR_state_1 (by decide) ?_
  refine rw_cSi (rest := []) X hP hS ys_PR_within (c_PR_within hG h) q_208 ⟨rfl, rfl, by decide, by decide⟩ rfl rfl hl.1 (Nat.le_of_ble_eq_true rfl) ⟨Nat.zero_le _, Nat.zero_le _⟩ d_PR_state_2 (fun r2 V1 H locs h hP hS => ?_)
  refine lv_if_ne (tgt := 10) hx hb d_PR_state_5 (by decide) (fun c4 => ?_) (fun c4 => ?_)
  · have h := h.2 c4
    refine lv_aload_n hx hb d_PR_state_10 rfl (lv_at hl 0 rfl) ?_
    refine gf_PR_machine X hP q_193 d_PR_state_11 ?_
    refine rw_cVi (rest := []) X hP hS yv_Mc_isUnderWay isO_Mc (c_Mc_isUnderWay hG h) q_324 ⟨rfl, rfl, by decide, by decide⟩ rfl rfl hl.1 (Nat.le_of_ble_eq_true rfl) ⟨Nat.zero_le _, Nat.zero_le _⟩ d_PR_state_14 (fun r6 V5 H locs h hP hS => ?_)
    refine lv_if_ne (tgt := 22) hx hb d_PR_state_17 (by decide) (fun c8 => ?_) (fun c8 => ?_)
    · have h := h.2 c8
      refine lv_iload_n hx hb d_PR_state_22 rfl (lv_at hl 1 rfl) ?_
      by_cases c9 : x1 = 0
      · have h := h.1 c9
        refine lv_tableIn (off := 33) (tgt := 56) hx hb d_PR_state_23 (by rw [c9]; decide) (by rw [c9]; decide) (by rw [c9]; rfl) (by decide) ?_
        refine lv_aload_n hx hb d_PR_state_56 rfl (lv_at hl 0 rfl) ?_
        refine gf_PR_machine X hP q_193 d_PR_state_57 ?_
        refine gf_Mc_depth X hP q_149 d_PR_state_60 ?_
        exact rw_iret X hP hS h d_PR_state_63
      · have h := h.2 c9
        by_cases c10 : x1 = 1
        · have h := h.1 c10
          refine lv_tableIn (off := 41) (tgt := 64) hx hb d_PR_state_23 (by rw [c10]; decide) (by rw [c10]; decide) (by rw [c10]; rfl) (by decide) ?_
          refine lv_aload_n hx hb d_PR_state_64 rfl (lv_at hl 0 rfl) ?_
          refine gf_PR_machine X hP q_193 d_PR_state_65 ?_
          refine rw_cVr (rest := []) X hP hS yv_Mc_innermost isO_Mc (c_Mc_innermost hG h) q_435 ⟨rfl, rfl, by decide, by decide⟩ rfl rfl hl.1 (Nat.le_of_ble_eq_true rfl) ⟨Nat.zero_le _, Nat.zero_le _⟩ d_PR_state_68 (fun r12 V11 H locs hr13 h hP hS => ?_)
          refine gf_Fr_number X hP hr13 q_129 d_PR_state_71 ?_
          exact rw_iret X hP hS h d_PR_state_74
        · have h := h.2 c10
          by_cases c14 : x1 = 2
          · have h := h.1 c14
            refine lv_tableIn (off := 52) (tgt := 75) hx hb d_PR_state_23 (by rw [c14]; decide) (by rw [c14]; decide) (by rw [c14]; rfl) (by decide) ?_
            refine lv_aload_n hx hb d_PR_state_75 rfl (lv_at hl 0 rfl) ?_
            refine gf_PR_machine X hP q_193 d_PR_state_76 ?_
            refine rw_cVr (rest := []) X hP hS yv_Mc_innermost isO_Mc (c_Mc_innermost hG h) q_435 ⟨rfl, rfl, by decide, by decide⟩ rfl rfl hl.1 (Nat.le_of_ble_eq_true rfl) ⟨Nat.zero_le _, Nat.zero_le _⟩ d_PR_state_79 (fun r16 V15 H locs hr17 h hP hS => ?_)
            refine gf_Fr_next X hP hr17 q_132 d_PR_state_82 ?_
            exact rw_iret X hP hS h d_PR_state_85
          · have h := h.2 c14
            by_cases c18 : x1 = 3
            · have h := h.1 c18
              refine lv_tableIn (off := 63) (tgt := 86) hx hb d_PR_state_23 (by rw [c18]; decide) (by rw [c18]; decide) (by rw [c18]; rfl) (by decide) ?_
              refine lv_aload_n hx hb d_PR_state_86 rfl (lv_at hl 0 rfl) ?_
              refine gf_PR_machine X hP q_193 d_PR_state_87 ?_
              refine gf_Mc_values X hP q_151 d_PR_state_90 ?_
              exact rw_iret X hP hS h d_PR_state_93
            · have h := h.2 c18
              by_cases c19 : x1 = 4
              · have h := h.1 c19
                refine lv_tableIn (off := 71) (tgt := 94) hx hb d_PR_state_23 (by rw [c19]; decide) (by rw [c19]; decide) (by rw [c19]; rfl) (by decide) ?_
                refine lv_aload_n hx hb d_PR_state_94 rfl (lv_at hl 0 rfl) ?_
                refine gf_PR_machine X hP q_193 d_PR_state_95 ?_
                refine gf_Mc_waitsFor X hP q_153 d_PR_state_98 ?_
                exact rw_iret X hP hS h d_PR_state_101
              · have h := h.2 c19
                have nc9 := lv_neT (a := 0) c9 rfl
                have nc10 := lv_neT (a := 1) c10 rfl
                have nc14 := lv_neT (a := 2) c14 rfl
                have nc18 := lv_neT (a := 3) c18 rfl
                have nc19 := lv_neT (a := 4) c19 rfl
                refine lv_tableOut (tgt := 102) hx hb d_PR_state_23 (by omega) (by decide) ?_
                refine lv_aload_n hx hb d_PR_state_102 rfl (lv_at hl 0 rfl) ?_
                refine gf_PR_machine X hP q_193 d_PR_state_103 ?_
                refine gf_Mc_asked X hP q_155 d_PR_state_106 ?_
                exact rw_iret X hP hS h d_PR_state_109
    · have h := h.1 c8
      refine lv_iconst (v := (-1)) hx hb d_PR_state_20 (by decide) ?_
      exact rw_iret X hP hS h d_PR_state_21
  · have h := h.1 c4
    refine lv_iconst (v := (-1)) hx hb d_PR_state_8 (by decide) ?_
    exact rw_iret X hP hS h d_PR_state_9
theorem yv_PR_state : yV R_PR y_PR_state prog_1_method_14_code 2 (some .int) 1 := ⟨by decide +kernel, q_432, q_433, q_1, q_434⟩
/-! PR.count -/
theorem d_PR_count_0 : decode prog_1_method_15_code 0 = .ok (.iload_n 1, 1) := by decide +kernel
theorem d_PR_count_1 : decode prog_1_method_15_code 1 = .ok (.tableswitch 128 0 8 #[51, 59, 59, 59, 59, 91, 99, 112, 120], 51) := by decide +kernel
theorem d_PR_count_52 : decode prog_1_method_15_code 52 = .ok (.aload_n 0, 1) := by decide +kernel
theorem d_PR_count_53 : decode prog_1_method_15_code 53 = .ok (.getfield 10, 3) := by decide +kernel
theorem d_PR_count_56 : decode prog_1_method_15_code 56 = .ok (.getfield 40, 3) := by decide +kernel
theorem d_PR_count_59 : decode prog_1_method_15_code 59 = .ok (.ireturn, 1) := by decide +kernel
theorem d_PR_count_60 : decode prog_1_method_15_code 60 = .ok (.aload_n 0, 1) := by decide +kernel
theorem d_PR_count_61 : decode prog_1_method_15_code 61 = .ok (.getfield 10, 3) := by decide +kernel
theorem d_PR_count_64 : decode prog_1_method_15_code 64 = .ok (.iload_n 1, 1) := by decide +kernel
theorem d_PR_count_65 : decode prog_1_method_15_code 65 = .ok (.iconst 1, 1) := by decide +kernel
theorem d_PR_count_66 : decode prog_1_method_15_code 66 = .ok (.isub, 1) := by decide +kernel
theorem d_PR_count_67 : decode prog_1_method_15_code 67 = .ok (.invokevirtual 51, 3) := by decide +kernel
theorem d_PR_count_70 : decode prog_1_method_15_code 70 = .ok (.ifCond .eq 20, 3) := by decide +kernel
theorem d_PR_count_73 : decode prog_1_method_15_code 73 = .ok (.aload_n 0, 1) := by decide +kernel
theorem d_PR_count_74 : decode prog_1_method_15_code 74 = .ok (.getfield 10, 3) := by decide +kernel
theorem d_PR_count_77 : decode prog_1_method_15_code 77 = .ok (.getfield 57, 3) := by decide +kernel
theorem d_PR_count_80 : decode prog_1_method_15_code 80 = .ok (.iload_n 1, 1) := by decide +kernel
theorem d_PR_count_81 : decode prog_1_method_15_code 81 = .ok (.iconst 1, 1) := by decide +kernel
theorem d_PR_count_82 : decode prog_1_method_15_code 82 = .ok (.isub, 1) := by decide +kernel
theorem d_PR_count_83 : decode prog_1_method_15_code 83 = .ok (.aaload, 1) := by decide +kernel
theorem d_PR_count_84 : decode prog_1_method_15_code 84 = .ok (.getfield 61, 3) := by decide +kernel
theorem d_PR_count_87 : decode prog_1_method_15_code 87 = .ok (.goto 4, 3) := by decide +kernel
theorem d_PR_count_90 : decode prog_1_method_15_code 90 = .ok (.iconst 0, 1) := by decide +kernel
theorem d_PR_count_91 : decode prog_1_method_15_code 91 = .ok (.ireturn, 1) := by decide +kernel
theorem d_PR_count_92 : decode prog_1_method_15_code 92 = .ok (.aload_n 0, 1) := by decide +kernel
theorem d_PR_count_93 : decode prog_1_method_15_code 93 = .ok (.getfield 28, 3) := by decide +kernel
theorem d_PR_count_96 : decode prog_1_method_15_code 96 = .ok (.getfield 138, 3) := by decide +kernel
theorem d_PR_count_99 : decode prog_1_method_15_code 99 = .ok (.ireturn, 1) := by decide +kernel
theorem d_PR_count_100 : decode prog_1_method_15_code 100 = .ok (.aload_n 0, 1) := by decide +kernel
theorem d_PR_count_101 : decode prog_1_method_15_code 101 = .ok (.getfield 32, 3) := by decide +kernel
theorem d_PR_count_104 : decode prog_1_method_15_code 104 = .ok (.ifCond .eq 7, 3) := by decide +kernel
theorem d_PR_count_107 : decode prog_1_method_15_code 107 = .ok (.iconst 1, 1) := by decide +kernel
theorem d_PR_count_108 : decode prog_1_method_15_code 108 = .ok (.goto 4, 3) := by decide +kernel
theorem d_PR_count_111 : decode prog_1_method_15_code 111 = .ok (.iconst 0, 1) := by decide +kernel
theorem d_PR_count_112 : decode prog_1_method_15_code 112 = .ok (.ireturn, 1) := by decide +kernel
theorem d_PR_count_113 : decode prog_1_method_15_code 113 = .ok (.aload_n 0, 1) := by decide +kernel
theorem d_PR_count_114 : decode prog_1_method_15_code 114 = .ok (.getfield 28, 3) := by decide +kernel
theorem d_PR_count_117 : decode prog_1_method_15_code 117 = .ok (.getfield 141, 3) := by decide +kernel
theorem d_PR_count_120 : decode prog_1_method_15_code 120 = .ok (.ireturn, 1) := by decide +kernel
theorem d_PR_count_121 : decode prog_1_method_15_code 121 = .ok (.aload_n 0, 1) := by decide +kernel
theorem d_PR_count_122 : decode prog_1_method_15_code 122 = .ok (.getfield 28, 3) := by decide +kernel
theorem d_PR_count_125 : decode prog_1_method_15_code 125 = .ok (.getfield 144, 3) := by decide +kernel
theorem d_PR_count_128 : decode prog_1_method_15_code 128 = .ok (.ireturn, 1) := by decide +kernel
theorem d_PR_count_129 : decode prog_1_method_15_code 129 = .ok (.iconst (-1), 1) := by decide +kernel
theorem d_PR_count_130 : decode prog_1_method_15_code 130 = .ok (.ireturn, 1) := by decide +kernel
abbrev rm_PR_count : Room := { frames := 1, cells := 0, slots := 0, locals := 21 }
def p_PR_count_b91 (k : Int32 → vS → Prop) (V : vS) (s0 : Int32) : Prop := k s0 V
set_option maxRecDepth 100000 in
set_option maxHeartbeats 4000000 in
theorem t_PR_count_b91 {k : Int32 → vS → Prop} (X : cx g p s m meth c args R_PR prog_1_method_15_code 2 (some .int)) {V : vS} {s0 : Int32} (h : p_PR_count_b91 k V s0) (hP : va_P g.1 vcl (cw g V) H) (hS : va_S (gA g) s.heap H locs) (hl : lv_has ls 2 []) : W p l e rm_PR_count s m args below meth c H locs 0 0 (MQ below (va_Qi k (Bw g) (gA g)) args s 0 0 (gA g)) (F0 m 91 ls [.int s0]) := by
  obtain ⟨hx, hb, -, -, hown, hts, -, -, hz, hG⟩ := id X
  unfold p_PR_count_b91 at h
  exact rw_iret X hP hS h d_PR_count_91
def p_PR_count_b112 (k : Int32 → vS → Prop) (V : vS) (s0 : Int32) : Prop := k s0 V
set_option maxRecDepth 100000 in
set_option maxHeartbeats 4000000 in
theorem t_PR_count_b112 {k : Int32 → vS → Prop} (X : cx g p s m meth c args R_PR prog_1_method_15_code 2 (some .int)) {V : vS} {s0 : Int32} (h : p_PR_count_b112 k V s0) (hP : va_P g.1 vcl (cw g V) H) (hS : va_S (gA g) s.heap H locs) (hl : lv_has ls 2 []) : W p l e rm_PR_count s m args below meth c H locs 0 0 (MQ below (va_Qi k (Bw g) (gA g)) args s 0 0 (gA g)) (F0 m 112 ls [.int s0]) := by
  obtain ⟨hx, hb, -, -, hown, hts, -, -, hz, hG⟩ := id X
  unfold p_PR_count_b112 at h
  exact rw_iret X hP hS h d_PR_count_112
def p_PR_count (k : Int32 → vS → Prop) (V : vS) (x1 : Int32) : Prop := (x1 = 0 → (k (V.1 1 1) V)) ∧ (¬ x1 = 0 → ((x1 = 1 → (p_Pg_has (fun r4 V3 => (r4 = 0 → (p_PR_count_b91 k V3 0)) ∧ (¬ r4 = 0 → (vp_in (x1 - 1) 4 ∧ (p_PR_count_b91 k V3 (V3.1 (3 + nt (x1 - 1)) 2))))) V (x1 - 1))) ∧ (¬ x1 = 1 → ((x1 = 2 → (p_Pg_has (fun r10 V9 => (r10 = 0 → (p_PR_count_b91 k V9 0)) ∧ (¬ r10 = 0 → (vp_in (x1 - 1) 4 ∧ (p_PR_count_b91 k V9 (V9.1 (3 + nt (x1 - 1)) 2))))) V (x1 - 1))) ∧ (¬ x1 = 2 → ((x1 = 3 → (p_Pg_has (fun r16 V15 => (r16 = 0 → (p_PR_count_b91 k V15 0)) ∧ (¬ r16 = 0 → (vp_in (x1 - 1) 4 ∧ (p_PR_count_b91 k V15 (V15.1 (3 + nt (x1 - 1)) 2))))) V (x1 - 1))) ∧ (¬ x1 = 3 → ((x1 = 4 → (p_Pg_has (fun r22 V21 => (r22 = 0 → (p_PR_count_b91 k V21 0)) ∧ (¬ r22 = 0 → (vp_in (x1 - 1) 4 ∧ (p_PR_count_b91 k V21 (V21.1 (3 + nt (x1 - 1)) 2))))) V (x1 - 1))) ∧ (¬ x1 = 4 → ((x1 = 5 → (k (V.1 17 9) V)) ∧ (¬ x1 = 5 → ((x1 = 6 → (((V.1 0 3) = 0 → (p_PR_count_b112 k V 0)) ∧ (¬ (V.1 0 3) = 0 → (p_PR_count_b112 k V 1)))) ∧ (¬ x1 = 6 → ((x1 = 7 → (k (V.1 17 10) V)) ∧ (¬ x1 = 7 → ((x1 = 8 → (k (V.1 17 11) V)) ∧ (¬ x1 = 8 → (k (-1) V))))))))))))))))))
set_option maxRecDepth 100000 in
set_option maxHeartbeats 4000000 in
theorem c_PR_count {l : Launch} {g : gT} (hG : gd g) {V : vS} {x1 : Int32} {k : Int32 → vS → Prop} (h : p_PR_count k V x1) : Ci g l y_PR_count prog_1_method_15_code 2 (some .int) rm_PR_count [.ref (ga g 0), .int x1] V k := by
  unfold Ci
  refine Met.ofW (cc := prog_1_method_15_code) (maxL := 2) (ret := some .int) (by decide) rfl ?_
  intro p e s m args below meth c s₁ B hml hv
  obtain ⟨rfl, hP, hK, hZ⟩ := hv
  have X : cx g p s m meth c [.ref (ga g 0), .int x1].toArray R_PR prog_1_method_15_code 2 (some .int) := ⟨B.exec, B.bytes, B.returns, hml, findClass_of_methodNamed B.named, fun w hw => atoms_spec (ws := Cond.code y_PR_count prog_1_method_15_code 2 (some .int) :: TBL) B.pre w (List.mem_cons_of_mem _ hw), B.notSynchronized, hK, hZ, hG⟩
  have hl := lv_entry [.ref (ga g 0), .int x1] (n := 2) (Nat.le_of_ble_eq_true rfl)
  rw [lg_entry_eq]
  generalize (lg_sl [.ref (ga g 0), .int x1] ++ List.replicate (2 - (lg_sl [.ref (ga g 0), .int x1]).length) Slot.unset).toArray = ls at hl ⊢
  have hl : lv_has ls 2 [(0, .ref (ga g 0)), (1, .int x1)] := hl
  have hS : va_S (gA g) s.heap s.heap [] := va_S.rf
  obtain ⟨hx, hb, -, -, hown, hts, -, -, hz, -⟩ := id X
  show W p l e rm_PR_count s m _ below meth c s.heap [] 0 0 (MQ below (va_Qi k (Bw g) (gA g)) _ s 0 0 (gA g)) (F0 m 0 ls [])
  unfold p_PR_count at h
  refine lv_iload_n hx hb d_PR_count_0 rfl (lv_at hl 1 rfl) ?_
  by_cases c1 : x1 = 0
  · have h := h.1 c1
    refine lv_tableIn (off := 51) (tgt := 52) hx hb d_PR_count_1 (by rw [c1]; decide) (by rw [c1]; decide) (by rw [c1]; rfl) (by decide) ?_
    refine lv_aload_n hx hb d_PR_count_52 rfl (lv_at hl 0 rfl) ?_
    refine gf_PR_program X hP q_191 d_PR_count_53 ?_
    refine gf_Pg_size X hP q_71 d_PR_count_56 ?_
    exact rw_iret X hP hS h d_PR_count_59
  · have h := h.2 c1
    by_cases c2 : x1 = 1
    · have h := h.1 c2
      refine lv_tableIn (off := 59) (tgt := 60) hx hb d_PR_count_1 (by rw [c2]; decide) (by rw [c2]; decide) (by rw [c2]; rfl) (by decide) ?_
      refine lv_aload_n hx hb d_PR_count_60 rfl (lv_at hl 0 rfl) ?_
      refine gf_PR_program X hP q_191 d_PR_count_61 ?_
      refine lv_iload_n hx hb d_PR_count_64 rfl (lv_at hl 1 rfl) ?_
      refine lv_iconst (v := 1) hx hb d_PR_count_65 (by decide) ?_
      refine lv_isub hx hb d_PR_count_66 ?_
      refine rw_cVi (rest := []) X hP hS yv_Pg_has isO_Pg (c_Pg_has hG h) q_231 ⟨rfl, rfl, by decide, by decide⟩ rfl rfl hl.1 (Nat.le_of_ble_eq_true rfl) ⟨Nat.zero_le _, Nat.zero_le _⟩ d_PR_count_67 (fun r4 V3 H locs h hP hS => ?_)
      refine lv_if_eq (tgt := 90) hx hb d_PR_count_70 (by decide) (fun c6 => ?_) (fun c6 => ?_)
      · have h := h.1 c6
        refine lv_iconst (v := 0) hx hb d_PR_count_90 (by decide) ?_
        exact t_PR_count_b91 X h hP hS (lv_sub hl [] rfl)
      · have h := h.2 c6
        refine lv_aload_n hx hb d_PR_count_73 rfl (lv_at hl 0 rfl) ?_
        refine gf_PR_program X hP q_191 d_PR_count_74 ?_
        refine gf_Pg_functions X hP q_67 d_PR_count_77 ?_
        refine lv_iload_n hx hb d_PR_count_80 rfl (lv_at hl 1 rfl) ?_
        refine lv_iconst (v := 1) hx hb d_PR_count_81 (by decide) ?_
        refine lv_isub hx hb d_PR_count_82 ?_
        obtain ⟨hi7, h⟩ := h
        refine rw_aaldF X hP hi7 d_PR_count_83 ?_
        refine gf_Fn_length X hP (fn_of hi7) q_38 d_PR_count_84 ?_
        refine lv_goto (tgt := 91) hx hb d_PR_count_87 (by decide) ?_
        exact t_PR_count_b91 X h hP hS (lv_sub hl [] rfl)
    · have h := h.2 c2
      by_cases c8 : x1 = 2
      · have h := h.1 c8
        refine lv_tableIn (off := 59) (tgt := 60) hx hb d_PR_count_1 (by rw [c8]; decide) (by rw [c8]; decide) (by rw [c8]; rfl) (by decide) ?_
        refine lv_aload_n hx hb d_PR_count_60 rfl (lv_at hl 0 rfl) ?_
        refine gf_PR_program X hP q_191 d_PR_count_61 ?_
        refine lv_iload_n hx hb d_PR_count_64 rfl (lv_at hl 1 rfl) ?_
        refine lv_iconst (v := 1) hx hb d_PR_count_65 (by decide) ?_
        refine lv_isub hx hb d_PR_count_66 ?_
        refine rw_cVi (rest := []) X hP hS yv_Pg_has isO_Pg (c_Pg_has hG h) q_231 ⟨rfl, rfl, by decide, by decide⟩ rfl rfl hl.1 (Nat.le_of_ble_eq_true rfl) ⟨Nat.zero_le _, Nat.zero_le _⟩ d_PR_count_67 (fun r10 V9 H locs h hP hS => ?_)
        refine lv_if_eq (tgt := 90) hx hb d_PR_count_70 (by decide) (fun c12 => ?_) (fun c12 => ?_)
        · have h := h.1 c12
          refine lv_iconst (v := 0) hx hb d_PR_count_90 (by decide) ?_
          exact t_PR_count_b91 X h hP hS (lv_sub hl [] rfl)
        · have h := h.2 c12
          refine lv_aload_n hx hb d_PR_count_73 rfl (lv_at hl 0 rfl) ?_
          refine gf_PR_program X hP q_191 d_PR_count_74 ?_
          refine gf_Pg_functions X hP q_67 d_PR_count_77 ?_
          refine lv_iload_n hx hb d_PR_count_80 rfl (lv_at hl 1 rfl) ?_
          refine lv_iconst (v := 1) hx hb d_PR_count_81 (by decide) ?_
          refine lv_isub hx hb d_PR_count_82 ?_
          obtain ⟨hi13, h⟩ := h
          refine rw_aaldF X hP hi13 d_PR_count_83 ?_
          refine gf_Fn_length X hP (fn_of hi13) q_38 d_PR_count_84 ?_
          refine lv_goto (tgt := 91) hx hb d_PR_count_87 (by decide) ?_
          exact t_PR_count_b91 X h hP hS (lv_sub hl [] rfl)
      · have h := h.2 c8
        by_cases c14 : x1 = 3
        · have h := h.1 c14
          refine lv_tableIn (off := 59) (tgt := 60) hx hb d_PR_count_1 (by rw [c14]; decide) (by rw [c14]; decide) (by rw [c14]; rfl) (by decide) ?_
          refine lv_aload_n hx hb d_PR_count_60 rfl (lv_at hl 0 rfl) ?_
          refine gf_PR_program X hP q_191 d_PR_count_61 ?_
          refine lv_iload_n hx hb d_PR_count_64 rfl (lv_at hl 1 rfl) ?_
          refine lv_iconst (v := 1) hx hb d_PR_count_65 (by decide) ?_
          refine lv_isub hx hb d_PR_count_66 ?_
          refine rw_cVi (rest := []) X hP hS yv_Pg_has isO_Pg (c_Pg_has hG h) q_231 ⟨rfl, rfl, by decide, by decide⟩ rfl rfl hl.1 (Nat.le_of_ble_eq_true rfl) ⟨Nat.zero_le _, Nat.zero_le _⟩ d_PR_count_67 (fun r16 V15 H locs h hP hS => ?_)
          refine lv_if_eq (tgt := 90) hx hb d_PR_count_70 (by decide) (fun c18 => ?_) (fun c18 => ?_)
          · have h := h.1 c18
            refine lv_iconst (v := 0) hx hb d_PR_count_90 (by decide) ?_
            exact t_PR_count_b91 X h hP hS (lv_sub hl [] rfl)
          · have h := h.2 c18
            refine lv_aload_n hx hb d_PR_count_73 rfl (lv_at hl 0 rfl) ?_
            refine gf_PR_program X hP q_191 d_PR_count_74 ?_
            refine gf_Pg_functions X hP q_67 d_PR_count_77 ?_
            refine lv_iload_n hx hb d_PR_count_80 rfl (lv_at hl 1 rfl) ?_
            refine lv_iconst (v := 1) hx hb d_PR_count_81 (by decide) ?_
            refine lv_isub hx hb d_PR_count_82 ?_
            obtain ⟨hi19, h⟩ := h
            refine rw_aaldF X hP hi19 d_PR_count_83 ?_
            refine gf_Fn_length X hP (fn_of hi19) q_38 d_PR_count_84 ?_
            refine lv_goto (tgt := 91) hx hb d_PR_count_87 (by decide) ?_
            exact t_PR_count_b91 X h hP hS (lv_sub hl [] rfl)
        · have h := h.2 c14
          by_cases c20 : x1 = 4
          · have h := h.1 c20
            refine lv_tableIn (off := 59) (tgt := 60) hx hb d_PR_count_1 (by rw [c20]; decide) (by rw [c20]; decide) (by rw [c20]; rfl) (by decide) ?_
            refine lv_aload_n hx hb d_PR_count_60 rfl (lv_at hl 0 rfl) ?_
            refine gf_PR_program X hP q_191 d_PR_count_61 ?_
            refine lv_iload_n hx hb d_PR_count_64 rfl (lv_at hl 1 rfl) ?_
            refine lv_iconst (v := 1) hx hb d_PR_count_65 (by decide) ?_
            refine lv_isub hx hb d_PR_count_66 ?_
            refine rw_cVi (rest := []) X hP hS yv_Pg_has isO_Pg (c_Pg_has hG h) q_231 ⟨rfl, rfl, by decide, by decide⟩ rfl rfl hl.1 (Nat.le_of_ble_eq_true rfl) ⟨Nat.zero_le _, Nat.zero_le _⟩ d_PR_count_67 (fun r22 V21 H locs h hP hS => ?_)
            refine lv_if_eq (tgt := 90) hx hb d_PR_count_70 (by decide) (fun c24 => ?_) (fun c24 => ?_)
            · have h := h.1 c24
              refine lv_iconst (v := 0) hx hb d_PR_count_90 (by decide) ?_
              exact t_PR_count_b91 X h hP hS (lv_sub hl [] rfl)
            · have h := h.2 c24
              refine lv_aload_n hx hb d_PR_count_73 rfl (lv_at hl 0 rfl) ?_
              refine gf_PR_program X hP q_191 d_PR_count_74 ?_
              refine gf_Pg_functions X hP q_67 d_PR_count_77 ?_
              refine lv_iload_n hx hb d_PR_count_80 rfl (lv_at hl 1 rfl) ?_
              refine lv_iconst (v := 1) hx hb d_PR_count_81 (by decide) ?_
              refine lv_isub hx hb d_PR_count_82 ?_
              obtain ⟨hi25, h⟩ := h
              refine rw_aaldF X hP hi25 d_PR_count_83 ?_
              refine gf_Fn_length X hP (fn_of hi25) q_38 d_PR_count_84 ?_
              refine lv_goto (tgt := 91) hx hb d_PR_count_87 (by decide) ?_
              exact t_PR_count_b91 X h hP hS (lv_sub hl [] rfl)
          · have h := h.2 c20
            by_cases c26 : x1 = 5
            · have h := h.1 c26
              refine lv_tableIn (off := 91) (tgt := 92) hx hb d_PR_count_1 (by rw [c26]; decide) (by rw [c26]; decide) (by rw [c26]; rfl) (by decide) ?_
              refine lv_aload_n hx hb d_PR_count_92 rfl (lv_at hl 0 rfl) ?_
              refine gf_PR_machine X hP q_193 d_PR_count_93 ?_
              refine gf_Mc_fuelUsed X hP q_157 d_PR_count_96 ?_
              exact rw_iret X hP hS h d_PR_count_99
            · have h := h.2 c26
              by_cases c27 : x1 = 6
              · have h := h.1 c27
                refine lv_tableIn (off := 99) (tgt := 100) hx hb d_PR_count_1 (by rw [c27]; decide) (by rw [c27]; decide) (by rw [c27]; rfl) (by decide) ?_
                refine lv_aload_n hx hb d_PR_count_100 rfl (lv_at hl 0 rfl) ?_
                refine gf_PR_checked X hP q_194 d_PR_count_101 ?_
                refine lv_if_eq (tgt := 111) hx hb d_PR_count_104 (by decide) (fun c28 => ?_) (fun c28 => ?_)
                · have h := h.1 c28
                  refine lv_iconst (v := 0) hx hb d_PR_count_111 (by decide) ?_
                  exact t_PR_count_b112 X h hP hS (lv_sub hl [] rfl)
                · have h := h.2 c28
                  refine lv_iconst (v := 1) hx hb d_PR_count_107 (by decide) ?_
                  refine lv_goto (tgt := 112) hx hb d_PR_count_108 (by decide) ?_
                  exact t_PR_count_b112 X h hP hS (lv_sub hl [] rfl)
              · have h := h.2 c27
                by_cases c29 : x1 = 7
                · have h := h.1 c29
                  refine lv_tableIn (off := 112) (tgt := 113) hx hb d_PR_count_1 (by rw [c29]; decide) (by rw [c29]; decide) (by rw [c29]; rfl) (by decide) ?_
                  refine lv_aload_n hx hb d_PR_count_113 rfl (lv_at hl 0 rfl) ?_
                  refine gf_PR_machine X hP q_193 d_PR_count_114 ?_
                  refine gf_Mc_runsEnded X hP q_159 d_PR_count_117 ?_
                  exact rw_iret X hP hS h d_PR_count_120
                · have h := h.2 c29
                  by_cases c30 : x1 = 8
                  · have h := h.1 c30
                    refine lv_tableIn (off := 120) (tgt := 121) hx hb d_PR_count_1 (by rw [c30]; decide) (by rw [c30]; decide) (by rw [c30]; rfl) (by decide) ?_
                    refine lv_aload_n hx hb d_PR_count_121 rfl (lv_at hl 0 rfl) ?_
                    refine gf_PR_machine X hP q_193 d_PR_count_122 ?_
                    refine gf_Mc_runsTrapped X hP q_161 d_PR_count_125 ?_
                    exact rw_iret X hP hS h d_PR_count_128
                  · have h := h.2 c30
                    have nc1 := lv_neT (a := 0) c1 rfl
                    have nc2 := lv_neT (a := 1) c2 rfl
                    have nc8 := lv_neT (a := 2) c8 rfl
                    have nc14 := lv_neT (a := 3) c14 rfl
                    have nc20 := lv_neT (a := 4) c20 rfl
                    have nc26 := lv_neT (a := 5) c26 rfl
                    have nc27 := lv_neT (a := 6) c27 rfl
                    have nc29 := lv_neT (a := 7) c29 rfl
                    have nc30 := lv_neT (a := 8) c30 rfl
                    refine lv_tableOut (tgt := 129) hx hb d_PR_count_1 (by omega) (by decide) ?_
                    refine lv_iconst (v := (-1)) hx hb d_PR_count_129 (by decide) ?_
                    exact rw_iret X hP hS h d_PR_count_130
theorem yv_PR_count : yV R_PR y_PR_count prog_1_method_15_code 2 (some .int) 1 := ⟨by decide +kernel, q_437, q_438, q_1, q_439⟩
end MM
