section MM
variable {p : Program} {l : Launch} {e : Env} {s : State} {m : MethodId} {args : Array Value} {below : List Frame} {meth : Method} {c : Code} {H : Heap} {locs : List Loc}
variable {g : gT} {ls : Array Slot}
/-! Mc.divide -/
theorem d_Mc_divide_0 : decode prog_6_method_14_code 0 = .ok (.iload_n 2, 1) := by decide +kernel
theorem d_Mc_divide_1 : decode prog_6_method_14_code 1 = .ok (.ifCond .ne 6, 3) := by decide +kernel
theorem d_Mc_divide_4 : decode prog_6_method_14_code 4 = .ok (.bipush 10, 2) := by decide +kernel
theorem d_Mc_divide_6 : decode prog_6_method_14_code 6 = .ok (.ireturn, 1) := by decide +kernel
theorem d_Mc_divide_7 : decode prog_6_method_14_code 7 = .ok (.iload_n 1, 1) := by decide +kernel
theorem d_Mc_divide_8 : decode prog_6_method_14_code 8 = .ok (.i2l, 1) := by decide +kernel
theorem d_Mc_divide_9 : decode prog_6_method_14_code 9 = .ok (.iload_n 2, 1) := by decide +kernel
theorem d_Mc_divide_10 : decode prog_6_method_14_code 10 = .ok (.i2l, 1) := by decide +kernel
theorem d_Mc_divide_11 : decode prog_6_method_14_code 11 = .ok (.ldiv, 1) := by decide +kernel
theorem d_Mc_divide_12 : decode prog_6_method_14_code 12 = .ok (.lstore_n 3, 1) := by decide +kernel
theorem d_Mc_divide_13 : decode prog_6_method_14_code 13 = .ok (.lload_n 3, 1) := by decide +kernel
theorem d_Mc_divide_14 : decode prog_6_method_14_code 14 = .ok (.lload_n 3, 1) := by decide +kernel
theorem d_Mc_divide_15 : decode prog_6_method_14_code 15 = .ok (.l2i, 1) := by decide +kernel
theorem d_Mc_divide_16 : decode prog_6_method_14_code 16 = .ok (.i2l, 1) := by decide +kernel
theorem d_Mc_divide_17 : decode prog_6_method_14_code 17 = .ok (.lcmp, 1) := by decide +kernel
theorem d_Mc_divide_18 : decode prog_6_method_14_code 18 = .ok (.ifCond .eq 6, 3) := by decide +kernel
theorem d_Mc_divide_21 : decode prog_6_method_14_code 21 = .ok (.bipush 10, 2) := by decide +kernel
theorem d_Mc_divide_23 : decode prog_6_method_14_code 23 = .ok (.ireturn, 1) := by decide +kernel
theorem d_Mc_divide_24 : decode prog_6_method_14_code 24 = .ok (.aload_n 0, 1) := by decide +kernel
theorem d_Mc_divide_25 : decode prog_6_method_14_code 25 = .ok (.lload_n 3, 1) := by decide +kernel
theorem d_Mc_divide_26 : decode prog_6_method_14_code 26 = .ok (.l2i, 1) := by decide +kernel
theorem d_Mc_divide_27 : decode prog_6_method_14_code 27 = .ok (.invokevirtual 85, 3) := by decide +kernel
theorem d_Mc_divide_30 : decode prog_6_method_14_code 30 = .ok (.ireturn, 1) := by decide +kernel
abbrev rm_Mc_divide : Room := { frames := 1, cells := 0, slots := 0, locals := 21 }
def p_Mc_divide (k : Int32 → vS → Prop) (V : vS) (x1 : Int32) (x2 : Int32) : Prop := (x2 = 0 → (k 10 V)) ∧ (¬ x2 = 0 → (¬ ((x2 : Int32).toInt64) = 0 ∧ (∀ y3 : Int64, y3 = ((x1 : Int32).toInt64) / ((x2 : Int32).toInt64) → (((lg_cmp y3 (((y3 : Int64).toInt32 : Int32).toInt64)) = 0 → (p_Mc_put (fun r6 V5 => k r6 V5) V ((y3 : Int64).toInt32))) ∧ (¬ (lg_cmp y3 (((y3 : Int64).toInt32 : Int32).toInt64)) = 0 → (k 10 V))))))
set_option maxRecDepth 100000 in
set_option maxHeartbeats 4000000 in
theorem c_Mc_divide {l : Launch} {g : gT} (hG : gd g) {V : vS} {x1 : Int32} {x2 : Int32} {k : Int32 → vS → Prop} (h : p_Mc_divide k V x1 x2) : Ci g l y_Mc_divide prog_6_method_14_code 5 (some .int) rm_Mc_divide [.ref (ga g 17), .int x1, .int x2] V k := by
  unfold Ci
  refine Met.ofW (cc := prog_6_method_14_code) (maxL := 5) (ret := some .int) (by decide) rfl ?_
  intro p e s m args below meth c s₁ B hml hv
  obtain ⟨rfl, hP, hK, hZ⟩ := hv
  have X : cx g p s m meth c [.ref (ga g 17), .int x1, .int x2].toArray R_Mc prog_6_method_14_code 5 (some .int) := ⟨B.exec, B.bytes, B.returns, hml, findClass_of_methodNamed B.named, fun w hw => atoms_spec (ws := Cond.code y_Mc_divide prog_6_method_14_code 5 (some .int) :: TBL) B.pre w (List.mem_cons_of_mem _ hw), B.notSynchronized, hK, hZ, hG⟩
  have hl := lv_entry [.ref (ga g 17), .int x1, .int x2] (n := 5) (Nat.le_of_ble_eq_true rfl)
  rw [lg_entry_eq]
  generalize (lg_sl [.ref (ga g 17), .int x1, .int x2] ++ List.replicate (5 - (lg_sl [.ref (ga g 17), .int x1, .int x2]).length) Slot.unset).toArray = ls at hl ⊢
  have hl : lv_has ls 5 [(0, .ref (ga g 17)), (1, .int x1), (2, .int x2)] := hl
  have hS : va_S (gA g) s.heap s.heap [] := va_S.rf
  obtain ⟨hx, hb, -, -, hown, hts, -, -, hz, -⟩ := id X
  show W p l e rm_Mc_divide s m _ below meth c s.heap [] 0 0 (MQ below (va_Qi k (Bw g) (gA g)) _ s 0 0 (gA g)) (F0 m 0 ls [])
  unfold p_Mc_divide at h
  refine lv_iload_n hx hb d_Mc_divide_0 rfl (lv_at hl 2 rfl) ?_
  refine lv_if_ne (tgt := 7) hx hb d_Mc_divide_1 (by decide) (fun c1 => ?_) (fun c1 => ?_)
  · have h := h.2 c1
    refine lv_iload_n hx hb d_Mc_divide_7 rfl (lv_at hl 1 rfl) ?_
    refine lv_i2l (v := (x1 : Int32).toInt64) hx hb d_Mc_divide_8 rfl ?_
    refine lv_iload_n hx hb d_Mc_divide_9 rfl (lv_at hl 2 rfl) ?_
    refine lv_i2l (v := (x2 : Int32).toInt64) hx hb d_Mc_divide_10 rfl ?_
    obtain ⟨hi2, h⟩ := h
    refine lv_ldiv hx hb d_Mc_divide_11 hi2 ?_
    refine lv_topl (fun y3 ey3 => ?_)
    have h := h y3 ey3
    refine lv_lstore_n (lv' := [(3, .long y3), (0, .ref (ga g 17)), (1, .int x1), (2, .int x2)]) hx hb d_Mc_divide_12 rfl hl (by decide) rfl (fun ls hl => ?_)
    refine lv_lload_n hx hb d_Mc_divide_13 rfl (lv_at hl 0 rfl) ?_
    refine lv_lload_n hx hb d_Mc_divide_14 rfl (lv_at hl 0 rfl) ?_
    refine lv_l2i (v := (y3 : Int64).toInt32) hx hb d_Mc_divide_15 rfl ?_
    refine lv_i2l (v := ((y3 : Int64).toInt32 : Int32).toInt64) hx hb d_Mc_divide_16 rfl ?_
    refine W.lcmp hx hb d_Mc_divide_17 ?_
    refine lv_if_eq (tgt := 24) hx hb d_Mc_divide_18 (by decide) (fun c4 => ?_) (fun c4 => ?_)
    · have h := h.1 c4
      refine lv_aload_n hx hb d_Mc_divide_24 rfl (lv_at hl 1 rfl) ?_
      refine lv_lload_n hx hb d_Mc_divide_25 rfl (lv_at hl 0 rfl) ?_
      refine lv_l2i (v := (y3 : Int64).toInt32) hx hb d_Mc_divide_26 rfl ?_
      refine rw_cVi (rest := []) X hP hS yv_Mc_put isO_Mc (c_Mc_put hG h) q_353 ⟨rfl, rfl, by decide, by decide⟩ rfl rfl hl.1 (Nat.le_of_ble_eq_true rfl) ⟨Nat.zero_le _, Nat.zero_le _⟩ d_Mc_divide_27 (fun r6 V5 H locs h hP hS => ?_)
      exact rw_iret X hP hS h d_Mc_divide_30
    · have h := h.2 c4
      refine lv_bipush (v := 10) hx hb d_Mc_divide_21 (by decide) ?_
      exact rw_iret X hP hS h d_Mc_divide_23
  · have h := h.1 c1
    refine lv_bipush (v := 10) hx hb d_Mc_divide_4 (by decide) ?_
    exact rw_iret X hP hS h d_Mc_divide_6
theorem yv_Mc_divide : yV R_Mc y_Mc_divide prog_6_method_14_code 5 (some .int) 2 := ⟨by decide +kernel, q_400, qp_22, q_5, q_401⟩
/-! Mc.calculate -/
theorem d_Mc_calculate_0 : decode prog_6_method_13_code 0 = .ok (.aload_n 0, 1) := by decide +kernel
theorem d_Mc_calculate_1 : decode prog_6_method_13_code 1 = .ok (.invokevirtual 129, 3) := by decide +kernel
theorem d_Mc_calculate_4 : decode prog_6_method_13_code 4 = .ok (.istore_n 2, 1) := by decide +kernel
theorem d_Mc_calculate_5 : decode prog_6_method_13_code 5 = .ok (.aload_n 0, 1) := by decide +kernel
theorem d_Mc_calculate_6 : decode prog_6_method_13_code 6 = .ok (.invokevirtual 129, 3) := by decide +kernel
theorem d_Mc_calculate_9 : decode prog_6_method_13_code 9 = .ok (.istore_n 3, 1) := by decide +kernel
theorem d_Mc_calculate_10 : decode prog_6_method_13_code 10 = .ok (.iload_n 1, 1) := by decide +kernel
theorem d_Mc_calculate_11 : decode prog_6_method_13_code 11 = .ok (.tableswitch 91 3 8 #[37, 45, 53, 91, 61, 76], 37) := by decide +kernel
theorem d_Mc_calculate_48 : decode prog_6_method_13_code 48 = .ok (.aload_n 0, 1) := by decide +kernel
theorem d_Mc_calculate_49 : decode prog_6_method_13_code 49 = .ok (.iload_n 3, 1) := by decide +kernel
theorem d_Mc_calculate_50 : decode prog_6_method_13_code 50 = .ok (.iload_n 2, 1) := by decide +kernel
theorem d_Mc_calculate_51 : decode prog_6_method_13_code 51 = .ok (.iadd, 1) := by decide +kernel
theorem d_Mc_calculate_52 : decode prog_6_method_13_code 52 = .ok (.invokevirtual 85, 3) := by decide +kernel
theorem d_Mc_calculate_55 : decode prog_6_method_13_code 55 = .ok (.ireturn, 1) := by decide +kernel
theorem d_Mc_calculate_56 : decode prog_6_method_13_code 56 = .ok (.aload_n 0, 1) := by decide +kernel
theorem d_Mc_calculate_57 : decode prog_6_method_13_code 57 = .ok (.iload_n 3, 1) := by decide +kernel
theorem d_Mc_calculate_58 : decode prog_6_method_13_code 58 = .ok (.iload_n 2, 1) := by decide +kernel
theorem d_Mc_calculate_59 : decode prog_6_method_13_code 59 = .ok (.isub, 1) := by decide +kernel
theorem d_Mc_calculate_60 : decode prog_6_method_13_code 60 = .ok (.invokevirtual 85, 3) := by decide +kernel
theorem d_Mc_calculate_63 : decode prog_6_method_13_code 63 = .ok (.ireturn, 1) := by decide +kernel
theorem d_Mc_calculate_64 : decode prog_6_method_13_code 64 = .ok (.aload_n 0, 1) := by decide +kernel
theorem d_Mc_calculate_65 : decode prog_6_method_13_code 65 = .ok (.iload_n 3, 1) := by decide +kernel
theorem d_Mc_calculate_66 : decode prog_6_method_13_code 66 = .ok (.iload_n 2, 1) := by decide +kernel
theorem d_Mc_calculate_67 : decode prog_6_method_13_code 67 = .ok (.imul, 1) := by decide +kernel
theorem d_Mc_calculate_68 : decode prog_6_method_13_code 68 = .ok (.invokevirtual 85, 3) := by decide +kernel
theorem d_Mc_calculate_71 : decode prog_6_method_13_code 71 = .ok (.ireturn, 1) := by decide +kernel
theorem d_Mc_calculate_72 : decode prog_6_method_13_code 72 = .ok (.aload_n 0, 1) := by decide +kernel
theorem d_Mc_calculate_73 : decode prog_6_method_13_code 73 = .ok (.iload_n 3, 1) := by decide +kernel
theorem d_Mc_calculate_74 : decode prog_6_method_13_code 74 = .ok (.iload_n 2, 1) := by decide +kernel
theorem d_Mc_calculate_75 : decode prog_6_method_13_code 75 = .ok (.if_icmp .ge 7, 3) := by decide +kernel
theorem d_Mc_calculate_78 : decode prog_6_method_13_code 78 = .ok (.iconst 1, 1) := by decide +kernel
theorem d_Mc_calculate_79 : decode prog_6_method_13_code 79 = .ok (.goto 4, 3) := by decide +kernel
theorem d_Mc_calculate_82 : decode prog_6_method_13_code 82 = .ok (.iconst 0, 1) := by decide +kernel
theorem d_Mc_calculate_83 : decode prog_6_method_13_code 83 = .ok (.invokevirtual 85, 3) := by decide +kernel
theorem d_Mc_calculate_86 : decode prog_6_method_13_code 86 = .ok (.ireturn, 1) := by decide +kernel
theorem d_Mc_calculate_87 : decode prog_6_method_13_code 87 = .ok (.aload_n 0, 1) := by decide +kernel
theorem d_Mc_calculate_88 : decode prog_6_method_13_code 88 = .ok (.iload_n 3, 1) := by decide +kernel
theorem d_Mc_calculate_89 : decode prog_6_method_13_code 89 = .ok (.iload_n 2, 1) := by decide +kernel
theorem d_Mc_calculate_90 : decode prog_6_method_13_code 90 = .ok (.if_icmp .ne 7, 3) := by decide +kernel
theorem d_Mc_calculate_93 : decode prog_6_method_13_code 93 = .ok (.iconst 1, 1) := by decide +kernel
theorem d_Mc_calculate_94 : decode prog_6_method_13_code 94 = .ok (.goto 4, 3) := by decide +kernel
theorem d_Mc_calculate_97 : decode prog_6_method_13_code 97 = .ok (.iconst 0, 1) := by decide +kernel
theorem d_Mc_calculate_98 : decode prog_6_method_13_code 98 = .ok (.invokevirtual 85, 3) := by decide +kernel
theorem d_Mc_calculate_101 : decode prog_6_method_13_code 101 = .ok (.ireturn, 1) := by decide +kernel
theorem d_Mc_calculate_102 : decode prog_6_method_13_code 102 = .ok (.aload_n 0, 1) := by decide +kernel
theorem d_Mc_calculate_103 : decode prog_6_method_13_code 103 = .ok (.iload_n 3, 1) := by decide +kernel
theorem d_Mc_calculate_104 : decode prog_6_method_13_code 104 = .ok (.iload_n 2, 1) := by decide +kernel
theorem d_Mc_calculate_105 : decode prog_6_method_13_code 105 = .ok (.invokevirtual 151, 3) := by decide +kernel
theorem d_Mc_calculate_108 : decode prog_6_method_13_code 108 = .ok (.ireturn, 1) := by decide +kernel
abbrev rm_Mc_calculate : Room := { frames := 2, cells := 0, slots := 0, locals := 45 }
def p_Mc_calculate_b83 (k : Int32 → vS → Prop) (V : vS) (s1 : Int32) : Prop := p_Mc_put (fun r2 V1 => k r2 V1) V s1
set_option maxRecDepth 100000 in
set_option maxHeartbeats 4000000 in
theorem t_Mc_calculate_b83 {k : Int32 → vS → Prop} (X : cx g p s m meth c args R_Mc prog_6_method_13_code 4 (some .int)) {V : vS} {s1 : Int32} (h : p_Mc_calculate_b83 k V s1) (hP : va_P g.1 vcl (cw g V) H) (hS : va_S (gA g) s.heap H locs) (hl : lv_has ls 4 []) : W p l e rm_Mc_calculate s m args below meth c H locs 0 0 (MQ below (va_Qi k (Bw g) (gA g)) args s 0 0 (gA g)) (F0 m 83 ls [.int s1, .ref (ga g 17)]) := by
  obtain ⟨hx, hb, -, -, hown, hts, -, -, hz, hG⟩ := id X
  unfold p_Mc_calculate_b83 at h
  refine rw_cVi (rest := []) X hP hS yv_Mc_put isO_Mc (c_Mc_put hG h) q_353 ⟨rfl, rfl, by decide, by decide⟩ rfl rfl hl.1 (Nat.le_of_ble_eq_true rfl) ⟨Nat.zero_le _, Nat.zero_le _⟩ d_Mc_calculate_83 (fun r2 V1 H locs h hP hS => ?_)
  exact rw_iret X hP hS h d_Mc_calculate_86
def p_Mc_calculate_b98 (k : Int32 → vS → Prop) (V : vS) (s1 : Int32) : Prop := p_Mc_put (fun r2 V1 => k r2 V1) V s1
set_option maxRecDepth 100000 in
set_option maxHeartbeats 4000000 in
theorem t_Mc_calculate_b98 {k : Int32 → vS → Prop} (X : cx g p s m meth c args R_Mc prog_6_method_13_code 4 (some .int)) {V : vS} {s1 : Int32} (h : p_Mc_calculate_b98 k V s1) (hP : va_P g.1 vcl (cw g V) H) (hS : va_S (gA g) s.heap H locs) (hl : lv_has ls 4 []) : W p l e rm_Mc_calculate s m args below meth c H locs 0 0 (MQ below (va_Qi k (Bw g) (gA g)) args s 0 0 (gA g)) (F0 m 98 ls [.int s1, .ref (ga g 17)]) := by
  obtain ⟨hx, hb, -, -, hown, hts, -, -, hz, hG⟩ := id X
  unfold p_Mc_calculate_b98 at h
  refine rw_cVi (rest := []) X hP hS yv_Mc_put isO_Mc (c_Mc_put hG h) q_353 ⟨rfl, rfl, by decide, by decide⟩ rfl rfl hl.1 (Nat.le_of_ble_eq_true rfl) ⟨Nat.zero_le _, Nat.zero_le _⟩ d_Mc_calculate_98 (fun r2 V1 H locs h hP hS => ?_)
  exact rw_iret X hP hS h d_Mc_calculate_101
def p_Mc_calculate (k : Int32 → vS → Prop) (V : vS) (x1 : Int32) : Prop := p_Mc_take (fun r2 V1 => p_Mc_take (fun r5 V4 => (x1 = 3 → (p_Mc_put (fun r9 V8 => k r9 V8) V4 (r5 + r2))) ∧ (¬ x1 = 3 → ((x1 = 4 → (p_Mc_put (fun r13 V12 => k r13 V12) V4 (r5 - r2))) ∧ (¬ x1 = 4 → ((x1 = 5 → (p_Mc_put (fun r17 V16 => k r17 V16) V4 (r5 * r2))) ∧ (¬ x1 = 5 → ((x1 = 6 → (p_Mc_divide (fun r21 V20 => k r21 V20) V4 r5 r2)) ∧ (¬ x1 = 6 → ((x1 = 7 → ((r2 ≤ r5 → (p_Mc_calculate_b83 k V4 0)) ∧ (¬ r2 ≤ r5 → (p_Mc_calculate_b83 k V4 1)))) ∧ (¬ x1 = 7 → ((x1 = 8 → ((r5 = r2 → (p_Mc_calculate_b98 k V4 1)) ∧ (¬ r5 = r2 → (p_Mc_calculate_b98 k V4 0)))) ∧ (¬ x1 = 8 → (p_Mc_divide (fun r28 V27 => k r28 V27) V4 r5 r2))))))))))))) V1) V
set_option maxRecDepth 100000 in
set_option maxHeartbeats 4000000 in
theorem c_Mc_calculate {l : Launch} {g : gT} (hG : gd g) {V : vS} {x1 : Int32} {k : Int32 → vS → Prop} (h : p_Mc_calculate k V x1) : Ci g l y_Mc_calculate prog_6_method_13_code 4 (some .int) rm_Mc_calculate [.ref (ga g 17), .int x1] V k := by
  unfold Ci
  refine Met.ofW (cc := prog_6_method_13_code) (maxL := 4) (ret := some .int) (by decide) rfl ?_
  intro p e s m args below meth c s₁ B hml hv
  obtain ⟨rfl, hP, hK, hZ⟩ := hv
  have X : cx g p s m meth c [.ref (ga g 17), .int x1].toArray R_Mc prog_6_method_13_code 4 (some .int) := ⟨B.exec, B.bytes, B.returns, hml, findClass_of_methodNamed B.named, fun w hw => atoms_spec (ws := Cond.code y_Mc_calculate prog_6_method_13_code 4 (some .int) :: TBL) B.pre w (List.mem_cons_of_mem _ hw), B.notSynchronized, hK, hZ, hG⟩
  have hl := lv_entry [.ref (ga g 17), .int x1] (n := 4) (Nat.le_of_ble_eq_true rfl)
  rw [lg_entry_eq]
  generalize (lg_sl [.ref (ga g 17), .int x1] ++ List.replicate (4 - (lg_sl [.ref (ga g 17), .int x1]).length) Slot.unset).toArray = ls at hl ⊢
  have hl : lv_has ls 4 [(0, .ref (ga g 17)), (1, .int x1)] := hl
  have hS : va_S (gA g) s.heap s.heap [] := va_S.rf
  obtain ⟨hx, hb, -, -, hown, hts, -, -, hz, -⟩ := id X
  show W p l e rm_Mc_calculate s m _ below meth c s.heap [] 0 0 (MQ below (va_Qi k (Bw g) (gA g)) _ s 0 0 (gA g)) (F0 m 0 ls [])
  unfold p_Mc_calculate at h
  refine lv_aload_n hx hb d_Mc_calculate_0 rfl (lv_at hl 0 rfl) ?_
  refine rw_cVi (rest := []) X hP hS yv_Mc_take isO_Mc (c_Mc_take hG h) q_357 ⟨rfl, rfl, by decide, by decide⟩ rfl rfl hl.1 (Nat.le_of_ble_eq_true rfl) ⟨Nat.zero_le _, Nat.zero_le _⟩ d_Mc_calculate_1 (fun r2 V1 H locs h hP hS => ?_)
  refine lv_istore_n (lv' := [(2, .int r2), (0, .ref (ga g 17)), (1, .int x1)]) hx hb d_Mc_calculate_4 rfl hl (by decide) rfl (fun ls hl => ?_)
  refine lv_aload_n hx hb d_Mc_calculate_5 rfl (lv_at hl 1 rfl) ?_
  refine rw_cVi (rest := []) X hP hS yv_Mc_take isO_Mc (c_Mc_take hG h) q_357 ⟨rfl, rfl, by decide, by decide⟩ rfl rfl hl.1 (Nat.le_of_ble_eq_true rfl) ⟨Nat.zero_le _, Nat.zero_le _⟩ d_Mc_calculate_6 (fun r5 V4 H locs h hP hS => ?_)
  refine lv_istore_n (lv' := [(3, .int r5), (2, .int r2), (0, .ref (ga g 17)), (1, .int x1)]) hx hb d_Mc_calculate_9 rfl hl (by decide) rfl (fun ls hl => ?_)
  refine lv_iload_n hx hb d_Mc_calculate_10 rfl (lv_at hl 3 rfl) ?_
  by_cases c7 : x1 = 3
  · have h := h.1 c7
    refine lv_tableIn (off := 37) (tgt := 48) hx hb d_Mc_calculate_11 (by rw [c7]; decide) (by rw [c7]; decide) (by rw [c7]; rfl) (by decide) ?_
    refine lv_aload_n hx hb d_Mc_calculate_48 rfl (lv_at hl 2 rfl) ?_
    refine lv_iload_n hx hb d_Mc_calculate_49 rfl (lv_at hl 0 rfl) ?_
    refine lv_iload_n hx hb d_Mc_calculate_50 rfl (lv_at hl 1 rfl) ?_
    refine lv_iadd hx hb d_Mc_calculate_51 ?_
    refine rw_cVi (rest := []) X hP hS yv_Mc_put isO_Mc (c_Mc_put hG h) q_353 ⟨rfl, rfl, by decide, by decide⟩ rfl rfl hl.1 (Nat.le_of_ble_eq_true rfl) ⟨Nat.zero_le _, Nat.zero_le _⟩ d_Mc_calculate_52 (fun r9 V8 H locs h hP hS => ?_)
    exact rw_iret X hP hS h d_Mc_calculate_55
  · have h := h.2 c7
    by_cases c11 : x1 = 4
    · have h := h.1 c11
      refine lv_tableIn (off := 45) (tgt := 56) hx hb d_Mc_calculate_11 (by rw [c11]; decide) (by rw [c11]; decide) (by rw [c11]; rfl) (by decide) ?_
      refine lv_aload_n hx hb d_Mc_calculate_56 rfl (lv_at hl 2 rfl) ?_
      refine lv_iload_n hx hb d_Mc_calculate_57 rfl (lv_at hl 0 rfl) ?_
      refine lv_iload_n hx hb d_Mc_calculate_58 rfl (lv_at hl 1 rfl) ?_
      refine lv_isub hx hb d_Mc_calculate_59 ?_
      refine rw_cVi (rest := []) X hP hS yv_Mc_put isO_Mc (c_Mc_put hG h) q_353 ⟨rfl, rfl, by decide, by decide⟩ rfl rfl hl.1 (Nat.le_of_ble_eq_true rfl) ⟨Nat.zero_le _, Nat.zero_le _⟩ d_Mc_calculate_60 (fun r13 V12 H locs h hP hS => ?_)
      exact rw_iret X hP hS h d_Mc_calculate_63
    · have h := h.2 c11
      by_cases c15 : x1 = 5
      · have h := h.1 c15
        refine lv_tableIn (off := 53) (tgt := 64) hx hb d_Mc_calculate_11 (by rw [c15]; decide) (by rw [c15]; decide) (by rw [c15]; rfl) (by decide) ?_
        refine lv_aload_n hx hb d_Mc_calculate_64 rfl (lv_at hl 2 rfl) ?_
        refine lv_iload_n hx hb d_Mc_calculate_65 rfl (lv_at hl 0 rfl) ?_
        refine lv_iload_n hx hb d_Mc_calculate_66 rfl (lv_at hl 1 rfl) ?_
        refine lv_imul hx hb d_Mc_calculate_67 ?_
        refine rw_cVi (rest := []) X hP hS yv_Mc_put isO_Mc (c_Mc_put hG h) q_353 ⟨rfl, rfl, by decide, by decide⟩ rfl rfl hl.1 (Nat.le_of_ble_eq_true rfl) ⟨Nat.zero_le _, Nat.zero_le _⟩ d_Mc_calculate_68 (fun r17 V16 H locs h hP hS => ?_)
        exact rw_iret X hP hS h d_Mc_calculate_71
      · have h := h.2 c15
        by_cases c19 : x1 = 6
        · have h := h.1 c19
          refine lv_tableIn (off := 91) (tgt := 102) hx hb d_Mc_calculate_11 (by rw [c19]; decide) (by rw [c19]; decide) (by rw [c19]; rfl) (by decide) ?_
          refine lv_aload_n hx hb d_Mc_calculate_102 rfl (lv_at hl 2 rfl) ?_
          refine lv_iload_n hx hb d_Mc_calculate_103 rfl (lv_at hl 0 rfl) ?_
          refine lv_iload_n hx hb d_Mc_calculate_104 rfl (lv_at hl 1 rfl) ?_
          refine rw_cVi (rest := []) X hP hS yv_Mc_divide isO_Mc (c_Mc_divide hG h) q_398 ⟨rfl, rfl, by decide, by decide⟩ rfl rfl hl.1 (Nat.le_of_ble_eq_true rfl) ⟨Nat.zero_le _, Nat.zero_le _⟩ d_Mc_calculate_105 (fun r21 V20 H locs h hP hS => ?_)
          exact rw_iret X hP hS h d_Mc_calculate_108
        · have h := h.2 c19
          by_cases c23 : x1 = 7
          · have h := h.1 c23
            refine lv_tableIn (off := 61) (tgt := 72) hx hb d_Mc_calculate_11 (by rw [c23]; decide) (by rw [c23]; decide) (by rw [c23]; rfl) (by decide) ?_
            refine lv_aload_n hx hb d_Mc_calculate_72 rfl (lv_at hl 2 rfl) ?_
            refine lv_iload_n hx hb d_Mc_calculate_73 rfl (lv_at hl 0 rfl) ?_
            refine lv_iload_n hx hb d_Mc_calculate_74 rfl (lv_at hl 1 rfl) ?_
            refine lv_icmp_ge (tgt := 82) hx hb d_Mc_calculate_75 (by decide) (fun c24 => ?_) (fun c24 => ?_)
            · have h := h.1 c24
              refine lv_iconst (v := 0) hx hb d_Mc_calculate_82 (by decide) ?_
              exact t_Mc_calculate_b83 X h hP hS (lv_sub hl [] rfl)
            · have h := h.2 c24
              refine lv_iconst (v := 1) hx hb d_Mc_calculate_78 (by decide) ?_
              refine lv_goto (tgt := 83) hx hb d_Mc_calculate_79 (by decide) ?_
              exact t_Mc_calculate_b83 X h hP hS (lv_sub hl [] rfl)
          · have h := h.2 c23
            by_cases c25 : x1 = 8
            · have h := h.1 c25
              refine lv_tableIn (off := 76) (tgt := 87) hx hb d_Mc_calculate_11 (by rw [c25]; decide) (by rw [c25]; decide) (by rw [c25]; rfl) (by decide) ?_
              refine lv_aload_n hx hb d_Mc_calculate_87 rfl (lv_at hl 2 rfl) ?_
              refine lv_iload_n hx hb d_Mc_calculate_88 rfl (lv_at hl 0 rfl) ?_
              refine lv_iload_n hx hb d_Mc_calculate_89 rfl (lv_at hl 1 rfl) ?_
              refine lv_icmp_ne (tgt := 97) hx hb d_Mc_calculate_90 (by decide) (fun c26 => ?_) (fun c26 => ?_)
              · have h := h.2 c26
                refine lv_iconst (v := 0) hx hb d_Mc_calculate_97 (by decide) ?_
                exact t_Mc_calculate_b98 X h hP hS (lv_sub hl [] rfl)
              · have h := h.1 c26
                refine lv_iconst (v := 1) hx hb d_Mc_calculate_93 (by decide) ?_
                refine lv_goto (tgt := 98) hx hb d_Mc_calculate_94 (by decide) ?_
                exact t_Mc_calculate_b98 X h hP hS (lv_sub hl [] rfl)
            · have h := h.2 c25
              have nc7 := lv_neT (a := 3) c7 rfl
              have nc11 := lv_neT (a := 4) c11 rfl
              have nc15 := lv_neT (a := 5) c15 rfl
              have nc19 := lv_neT (a := 6) c19 rfl
              have nc23 := lv_neT (a := 7) c23 rfl
              have nc25 := lv_neT (a := 8) c25 rfl
              refine lv_tableOut (tgt := 102) hx hb d_Mc_calculate_11 (by omega) (by decide) ?_
              refine lv_aload_n hx hb d_Mc_calculate_102 rfl (lv_at hl 2 rfl) ?_
              refine lv_iload_n hx hb d_Mc_calculate_103 rfl (lv_at hl 0 rfl) ?_
              refine lv_iload_n hx hb d_Mc_calculate_104 rfl (lv_at hl 1 rfl) ?_
              refine rw_cVi (rest := []) X hP hS yv_Mc_divide isO_Mc (c_Mc_divide hG h) q_398 ⟨rfl, rfl, by decide, by decide⟩ rfl rfl hl.1 (Nat.le_of_ble_eq_true rfl) ⟨Nat.zero_le _, Nat.zero_le _⟩ d_Mc_calculate_105 (fun r28 V27 H locs h hP hS => ?_)
              exact rw_iret X hP hS h d_Mc_calculate_108
theorem yv_Mc_calculate : yV R_Mc y_Mc_calculate prog_6_method_13_code 4 (some .int) 1 := ⟨by decide +kernel, q_396, qp_21, q_5, q_397⟩
/-! Mc.load -/
theorem d_Mc_load_0 : decode prog_6_method_15_code 0 = .ok (.aload_n 0, 1) := by decide +kernel
theorem d_Mc_load_1 : decode prog_6_method_15_code 1 = .ok (.invokevirtual 129, 3) := by decide +kernel
theorem d_Mc_load_4 : decode prog_6_method_15_code 4 = .ok (.i2l, 1) := by decide +kernel
theorem d_Mc_load_5 : decode prog_6_method_15_code 5 = .ok (.iload_n 1, 1) := by decide +kernel
theorem d_Mc_load_6 : decode prog_6_method_15_code 6 = .ok (.i2l, 1) := by decide +kernel
theorem d_Mc_load_7 : decode prog_6_method_15_code 7 = .ok (.ladd, 1) := by decide +kernel
theorem d_Mc_load_8 : decode prog_6_method_15_code 8 = .ok (.lstore_n 2, 1) := by decide +kernel
theorem d_Mc_load_9 : decode prog_6_method_15_code 9 = .ok (.lload_n 2, 1) := by decide +kernel
theorem d_Mc_load_10 : decode prog_6_method_15_code 10 = .ok (.invokestatic 154, 3) := by decide +kernel
theorem d_Mc_load_13 : decode prog_6_method_15_code 13 = .ok (.ifCond .ne 6, 3) := by decide +kernel
theorem d_Mc_load_16 : decode prog_6_method_15_code 16 = .ok (.bipush 11, 2) := by decide +kernel
theorem d_Mc_load_18 : decode prog_6_method_15_code 18 = .ok (.ireturn, 1) := by decide +kernel
theorem d_Mc_load_19 : decode prog_6_method_15_code 19 = .ok (.aload_n 0, 1) := by decide +kernel
theorem d_Mc_load_20 : decode prog_6_method_15_code 20 = .ok (.aload_n 0, 1) := by decide +kernel
theorem d_Mc_load_21 : decode prog_6_method_15_code 21 = .ok (.getfield 21, 3) := by decide +kernel
theorem d_Mc_load_24 : decode prog_6_method_15_code 24 = .ok (.lload_n 2, 1) := by decide +kernel
theorem d_Mc_load_25 : decode prog_6_method_15_code 25 = .ok (.l2i, 1) := by decide +kernel
theorem d_Mc_load_26 : decode prog_6_method_15_code 26 = .ok (.iaload, 1) := by decide +kernel
theorem d_Mc_load_27 : decode prog_6_method_15_code 27 = .ok (.invokevirtual 85, 3) := by decide +kernel
theorem d_Mc_load_30 : decode prog_6_method_15_code 30 = .ok (.ireturn, 1) := by decide +kernel
abbrev rm_Mc_load : Room := { frames := 1, cells := 0, slots := 0, locals := 21 }
def p_Mc_load (k : Int32 → vS → Prop) (V : vS) (x1 : Int32) : Prop := p_Mc_take (fun r2 V1 => ∀ y4 : Int64, y4 = ((r2 : Int32).toInt64) + ((x1 : Int32).toInt64) → (p_Mc_isCell (fun r6 V5 => (r6 = 0 → (k 11 V5)) ∧ (¬ r6 = 0 → (vp_in ((y4 : Int64).toInt32) 32 ∧ (p_Mc_put (fun r11 V10 => k r11 V10) V5 (V5.1 32 (nt ((y4 : Int64).toInt32))))))) V1 y4)) V
set_option maxRecDepth 100000 in
set_option maxHeartbeats 4000000 in
theorem c_Mc_load {l : Launch} {g : gT} (hG : gd g) {V : vS} {x1 : Int32} {k : Int32 → vS → Prop} (h : p_Mc_load k V x1) : Ci g l y_Mc_load prog_6_method_15_code 4 (some .int) rm_Mc_load [.ref (ga g 17), .int x1] V k := by
  unfold Ci
  refine Met.ofW (cc := prog_6_method_15_code) (maxL := 4) (ret := some .int) (by decide) rfl ?_
  intro p e s m args below meth c s₁ B hml hv
  obtain ⟨rfl, hP, hK, hZ⟩ := hv
  have X : cx g p s m meth c [.ref (ga g 17), .int x1].toArray R_Mc prog_6_method_15_code 4 (some .int) := ⟨B.exec, B.bytes, B.returns, hml, findClass_of_methodNamed B.named, fun w hw => atoms_spec (ws := Cond.code y_Mc_load prog_6_method_15_code 4 (some .int) :: TBL) B.pre w (List.mem_cons_of_mem _ hw), B.notSynchronized, hK, hZ, hG⟩
  have hl := lv_entry [.ref (ga g 17), .int x1] (n := 4) (Nat.le_of_ble_eq_true rfl)
  rw [lg_entry_eq]
  generalize (lg_sl [.ref (ga g 17), .int x1] ++ List.replicate (4 - (lg_sl [.ref (ga g 17), .int x1]).length) Slot.unset).toArray = ls at hl ⊢
  have hl : lv_has ls 4 [(0, .ref (ga g 17)), (1, .int x1)] := hl
  have hS : va_S (gA g) s.heap s.heap [] := va_S.rf
  obtain ⟨hx, hb, -, -, hown, hts, -, -, hz, -⟩ := id X
  show W p l e rm_Mc_load s m _ below meth c s.heap [] 0 0 (MQ below (va_Qi k (Bw g) (gA g)) _ s 0 0 (gA g)) (F0 m 0 ls [])
  unfold p_Mc_load at h
  refine lv_aload_n hx hb d_Mc_load_0 rfl (lv_at hl 0 rfl) ?_
  refine rw_cVi (rest := []) X hP hS yv_Mc_take isO_Mc (c_Mc_take hG h) q_357 ⟨rfl, rfl, by decide, by decide⟩ rfl rfl hl.1 (Nat.le_of_ble_eq_true rfl) ⟨Nat.zero_le _, Nat.zero_le _⟩ d_Mc_load_1 (fun r2 V1 H locs h hP hS => ?_)
  refine lv_i2l (v := (r2 : Int32).toInt64) hx hb d_Mc_load_4 rfl ?_
  refine lv_iload_n hx hb d_Mc_load_5 rfl (lv_at hl 1 rfl) ?_
  refine lv_i2l (v := (x1 : Int32).toInt64) hx hb d_Mc_load_6 rfl ?_
  refine lv_ladd hx hb d_Mc_load_7 ?_
  refine lv_topl (fun y4 ey4 => ?_)
  have h := h y4 ey4
  refine lv_lstore_n (lv' := [(2, .long y4), (0, .ref (ga g 17)), (1, .int x1)]) hx hb d_Mc_load_8 rfl hl (by decide) rfl (fun ls hl => ?_)
  refine lv_lload_n hx hb d_Mc_load_9 rfl (lv_at hl 0 rfl) ?_
  refine rw_cSi (rest := []) X hP hS ys_Mc_isCell (c_Mc_isCell hG h) q_365 ⟨rfl, rfl, by decide, by decide⟩ rfl rfl hl.1 (Nat.le_of_ble_eq_true rfl) ⟨Nat.zero_le _, Nat.zero_le _⟩ d_Mc_load_10 (fun r6 V5 H locs h hP hS => ?_)
  refine lv_if_ne (tgt := 19) hx hb d_Mc_load_13 (by decide) (fun c8 => ?_) (fun c8 => ?_)
  · have h := h.2 c8
    refine lv_aload_n hx hb d_Mc_load_19 rfl (lv_at hl 1 rfl) ?_
    refine lv_aload_n hx hb d_Mc_load_20 rfl (lv_at hl 1 rfl) ?_
    refine gf_Mc_cells X hP q_144 d_Mc_load_21 ?_
    refine lv_lload_n hx hb d_Mc_load_24 rfl (lv_at hl 0 rfl) ?_
    refine lv_l2i (v := (y4 : Int64).toInt32) hx hb d_Mc_load_25 rfl ?_
    obtain ⟨hi9, h⟩ := h
    refine rw_iald X hP isI_32 hi9 d_Mc_load_26 ?_
    refine rw_cVi (rest := []) X hP hS yv_Mc_put isO_Mc (c_Mc_put hG h) q_353 ⟨rfl, rfl, by decide, by decide⟩ rfl rfl hl.1 (Nat.le_of_ble_eq_true rfl) ⟨Nat.zero_le _, Nat.zero_le _⟩ d_Mc_load_27 (fun r11 V10 H locs h hP hS => ?_)
    exact rw_iret X hP hS h d_Mc_load_30
  · have h := h.1 c8
    refine lv_bipush (v := 11) hx hb d_Mc_load_16 (by decide) ?_
    exact rw_iret X hP hS h d_Mc_load_18
theorem yv_Mc_load : yV R_Mc y_Mc_load prog_6_method_15_code 4 (some .int) 1 := ⟨by decide +kernel, q_363, qp_15, q_5, q_364⟩
/-! Mc.store -/
theorem d_Mc_store_0 : decode prog_6_method_16_code 0 = .ok (.aload_n 0, 1) := by decide +kernel
theorem d_Mc_store_1 : decode prog_6_method_16_code 1 = .ok (.invokevirtual 129, 3) := by decide +kernel
theorem d_Mc_store_4 : decode prog_6_method_16_code 4 = .ok (.istore_n 2, 1) := by decide +kernel
theorem d_Mc_store_5 : decode prog_6_method_16_code 5 = .ok (.aload_n 0, 1) := by decide +kernel
theorem d_Mc_store_6 : decode prog_6_method_16_code 6 = .ok (.invokevirtual 129, 3) := by decide +kernel
theorem d_Mc_store_9 : decode prog_6_method_16_code 9 = .ok (.i2l, 1) := by decide +kernel
theorem d_Mc_store_10 : decode prog_6_method_16_code 10 = .ok (.iload_n 1, 1) := by decide +kernel
theorem d_Mc_store_11 : decode prog_6_method_16_code 11 = .ok (.i2l, 1) := by decide +kernel
theorem d_Mc_store_12 : decode prog_6_method_16_code 12 = .ok (.ladd, 1) := by decide +kernel
theorem d_Mc_store_13 : decode prog_6_method_16_code 13 = .ok (.lstore_n 3, 1) := by decide +kernel
theorem d_Mc_store_14 : decode prog_6_method_16_code 14 = .ok (.lload_n 3, 1) := by decide +kernel
theorem d_Mc_store_15 : decode prog_6_method_16_code 15 = .ok (.invokestatic 154, 3) := by decide +kernel
theorem d_Mc_store_18 : decode prog_6_method_16_code 18 = .ok (.ifCond .ne 6, 3) := by decide +kernel
theorem d_Mc_store_21 : decode prog_6_method_16_code 21 = .ok (.bipush 11, 2) := by decide +kernel
theorem d_Mc_store_23 : decode prog_6_method_16_code 23 = .ok (.ireturn, 1) := by decide +kernel
theorem d_Mc_store_24 : decode prog_6_method_16_code 24 = .ok (.aload_n 0, 1) := by decide +kernel
theorem d_Mc_store_25 : decode prog_6_method_16_code 25 = .ok (.getfield 21, 3) := by decide +kernel
theorem d_Mc_store_28 : decode prog_6_method_16_code 28 = .ok (.lload_n 3, 1) := by decide +kernel
theorem d_Mc_store_29 : decode prog_6_method_16_code 29 = .ok (.l2i, 1) := by decide +kernel
theorem d_Mc_store_30 : decode prog_6_method_16_code 30 = .ok (.iload_n 2, 1) := by decide +kernel
theorem d_Mc_store_31 : decode prog_6_method_16_code 31 = .ok (.iastore, 1) := by decide +kernel
theorem d_Mc_store_32 : decode prog_6_method_16_code 32 = .ok (.iconst 0, 1) := by decide +kernel
theorem d_Mc_store_33 : decode prog_6_method_16_code 33 = .ok (.ireturn, 1) := by decide +kernel
abbrev rm_Mc_store : Room := { frames := 1, cells := 0, slots := 0, locals := 21 }
def p_Mc_store (k : Int32 → vS → Prop) (V : vS) (x1 : Int32) : Prop := p_Mc_take (fun r2 V1 => p_Mc_take (fun r5 V4 => ∀ y7 : Int64, y7 = ((r5 : Int32).toInt64) + ((x1 : Int32).toInt64) → (p_Mc_isCell (fun r9 V8 => (r9 = 0 → (k 11 V8)) ∧ (¬ r9 = 0 → (vp_in ((y7 : Int64).toInt32) 32 ∧ ∀ V13 : vS, V13 = sv V8 32 (nt ((y7 : Int64).toInt32)) r2 → (k 0 V13)))) V4 y7)) V1) V
set_option maxRecDepth 100000 in
set_option maxHeartbeats 4000000 in
theorem c_Mc_store {l : Launch} {g : gT} (hG : gd g) {V : vS} {x1 : Int32} {k : Int32 → vS → Prop} (h : p_Mc_store k V x1) : Ci g l y_Mc_store prog_6_method_16_code 5 (some .int) rm_Mc_store [.ref (ga g 17), .int x1] V k := by
  unfold Ci
  refine Met.ofW (cc := prog_6_method_16_code) (maxL := 5) (ret := some .int) (by decide) rfl ?_
  intro p e s m args below meth c s₁ B hml hv
  obtain ⟨rfl, hP, hK, hZ⟩ := hv
  have X : cx g p s m meth c [.ref (ga g 17), .int x1].toArray R_Mc prog_6_method_16_code 5 (some .int) := ⟨B.exec, B.bytes, B.returns, hml, findClass_of_methodNamed B.named, fun w hw => atoms_spec (ws := Cond.code y_Mc_store prog_6_method_16_code 5 (some .int) :: TBL) B.pre w (List.mem_cons_of_mem _ hw), B.notSynchronized, hK, hZ, hG⟩
  have hl := lv_entry [.ref (ga g 17), .int x1] (n := 5) (Nat.le_of_ble_eq_true rfl)
  rw [lg_entry_eq]
  generalize (lg_sl [.ref (ga g 17), .int x1] ++ List.replicate (5 - (lg_sl [.ref (ga g 17), .int x1]).length) Slot.unset).toArray = ls at hl ⊢
  have hl : lv_has ls 5 [(0, .ref (ga g 17)), (1, .int x1)] := hl
  have hS : va_S (gA g) s.heap s.heap [] := va_S.rf
  obtain ⟨hx, hb, -, -, hown, hts, -, -, hz, -⟩ := id X
  show W p l e rm_Mc_store s m _ below meth c s.heap [] 0 0 (MQ below (va_Qi k (Bw g) (gA g)) _ s 0 0 (gA g)) (F0 m 0 ls [])
  unfold p_Mc_store at h
  refine lv_aload_n hx hb d_Mc_store_0 rfl (lv_at hl 0 rfl) ?_
  refine rw_cVi (rest := []) X hP hS yv_Mc_take isO_Mc (c_Mc_take hG h) q_357 ⟨rfl, rfl, by decide, by decide⟩ rfl rfl hl.1 (Nat.le_of_ble_eq_true rfl) ⟨Nat.zero_le _, Nat.zero_le _⟩ d_Mc_store_1 (fun r2 V1 H locs h hP hS => ?_)
  refine lv_istore_n (lv' := [(2, .int r2), (0, .ref (ga g 17)), (1, .int x1)]) hx hb d_Mc_store_4 rfl hl (by decide) rfl (fun ls hl => ?_)
  refine lv_aload_n hx hb d_Mc_store_5 rfl (lv_at hl 1 rfl) ?_
  refine rw_cVi (rest := []) X hP hS yv_Mc_take isO_Mc (c_Mc_take hG h) q_357 ⟨rfl, rfl, by decide, by decide⟩ rfl rfl hl.1 (Nat.le_of_ble_eq_true rfl) ⟨Nat.zero_le _, Nat.zero_le _⟩ d_Mc_store_6 (fun r5 V4 H locs h hP hS => ?_)
  refine lv_i2l (v := (r5 : Int32).toInt64) hx hb d_Mc_store_9 rfl ?_
  refine lv_iload_n hx hb d_Mc_store_10 rfl (lv_at hl 2 rfl) ?_
  refine lv_i2l (v := (x1 : Int32).toInt64) hx hb d_Mc_store_11 rfl ?_
  refine lv_ladd hx hb d_Mc_store_12 ?_
  refine lv_topl (fun y7 ey7 => ?_)
  have h := h y7 ey7
  refine lv_lstore_n (lv' := [(3, .long y7), (2, .int r2), (0, .ref (ga g 17)), (1, .int x1)]) hx hb d_Mc_store_13 rfl hl (by decide) rfl (fun ls hl => ?_)
  refine lv_lload_n hx hb d_Mc_store_14 rfl (lv_at hl 0 rfl) ?_
  refine rw_cSi (rest := []) X hP hS ys_Mc_isCell (c_Mc_isCell hG h) q_365 ⟨rfl, rfl, by decide, by decide⟩ rfl rfl hl.1 (Nat.le_of_ble_eq_true rfl) ⟨Nat.zero_le _, Nat.zero_le _⟩ d_Mc_store_15 (fun r9 V8 H locs h hP hS => ?_)
  refine lv_if_ne (tgt := 24) hx hb d_Mc_store_18 (by decide) (fun c11 => ?_) (fun c11 => ?_)
  · have h := h.2 c11
    refine lv_aload_n hx hb d_Mc_store_24 rfl (lv_at hl 2 rfl) ?_
    refine gf_Mc_cells X hP q_144 d_Mc_store_25 ?_
    refine lv_lload_n hx hb d_Mc_store_28 rfl (lv_at hl 0 rfl) ?_
    refine lv_l2i (v := (y7 : Int64).toInt32) hx hb d_Mc_store_29 rfl ?_
    refine lv_iload_n hx hb d_Mc_store_30 rfl (lv_at hl 1 rfl) ?_
    obtain ⟨hi12, h⟩ := h
    refine rw_iast X hP hS isI_32 hi12 d_Mc_store_31 (fun V13 H locs eV13 hP hS => ?_)
    have h := h V13 eV13
    refine lv_iconst (v := 0) hx hb d_Mc_store_32 (by decide) ?_
    exact rw_iret X hP hS h d_Mc_store_33
  · have h := h.1 c11
    refine lv_bipush (v := 11) hx hb d_Mc_store_21 (by decide) ?_
    exact rw_iret X hP hS h d_Mc_store_23
theorem yv_Mc_store : yV R_Mc y_Mc_store prog_6_method_16_code 5 (some .int) 1 := ⟨by decide +kernel, q_371, qp_16, q_5, q_372⟩
/-! Mc.call -/
theorem d_Mc_call_0 : decode prog_6_method_18_code 0 = .ok (.aload_n 0, 1) := by decide +kernel
theorem d_Mc_call_1 : decode prog_6_method_18_code 1 = .ok (.getfield 28, 3) := by decide +kernel
theorem d_Mc_call_4 : decode prog_6_method_18_code 4 = .ok (.bipush 6, 2) := by decide +kernel
theorem d_Mc_call_6 : decode prog_6_method_18_code 6 = .ok (.if_icmp .ne 6, 3) := by decide +kernel
theorem d_Mc_call_9 : decode prog_6_method_18_code 9 = .ok (.bipush 12, 2) := by decide +kernel
theorem d_Mc_call_11 : decode prog_6_method_18_code 11 = .ok (.ireturn, 1) := by decide +kernel
theorem d_Mc_call_12 : decode prog_6_method_18_code 12 = .ok (.aload_n 0, 1) := by decide +kernel
theorem d_Mc_call_13 : decode prog_6_method_18_code 13 = .ok (.iload_n 1, 1) := by decide +kernel
theorem d_Mc_call_14 : decode prog_6_method_18_code 14 = .ok (.invokevirtual 67, 3) := by decide +kernel
theorem d_Mc_call_17 : decode prog_6_method_18_code 17 = .ok (.astore_n 2, 1) := by decide +kernel
theorem d_Mc_call_18 : decode prog_6_method_18_code 18 = .ok (.aload_n 0, 1) := by decide +kernel
theorem d_Mc_call_19 : decode prog_6_method_18_code 19 = .ok (.getfield 56, 3) := by decide +kernel
theorem d_Mc_call_22 : decode prog_6_method_18_code 22 = .ok (.getfield 71, 3) := by decide +kernel
theorem d_Mc_call_25 : decode prog_6_method_18_code 25 = .ok (.iload_n 1, 1) := by decide +kernel
theorem d_Mc_call_26 : decode prog_6_method_18_code 26 = .ok (.aaload, 1) := by decide +kernel
theorem d_Mc_call_27 : decode prog_6_method_18_code 27 = .ok (.getfield 77, 3) := by decide +kernel
theorem d_Mc_call_30 : decode prog_6_method_18_code 30 = .ok (.iconst 1, 1) := by decide +kernel
theorem d_Mc_call_31 : decode prog_6_method_18_code 31 = .ok (.isub, 1) := by decide +kernel
theorem d_Mc_call_32 : decode prog_6_method_18_code 32 = .ok (.istore_n 3, 1) := by decide +kernel
theorem d_Mc_call_33 : decode prog_6_method_18_code 33 = .ok (.iload_n 3, 1) := by decide +kernel
theorem d_Mc_call_34 : decode prog_6_method_18_code 34 = .ok (.ifCond .lt 19, 3) := by decide +kernel
theorem d_Mc_call_37 : decode prog_6_method_18_code 37 = .ok (.aload_n 2, 1) := by decide +kernel
theorem d_Mc_call_38 : decode prog_6_method_18_code 38 = .ok (.getfield 82, 3) := by decide +kernel
theorem d_Mc_call_41 : decode prog_6_method_18_code 41 = .ok (.iload_n 3, 1) := by decide +kernel
theorem d_Mc_call_42 : decode prog_6_method_18_code 42 = .ok (.aload_n 0, 1) := by decide +kernel
theorem d_Mc_call_43 : decode prog_6_method_18_code 43 = .ok (.invokevirtual 129, 3) := by decide +kernel
theorem d_Mc_call_46 : decode prog_6_method_18_code 46 = .ok (.iastore, 1) := by decide +kernel
theorem d_Mc_call_47 : decode prog_6_method_18_code 47 = .ok (.iinc 3 (-1), 3) := by decide +kernel
theorem d_Mc_call_50 : decode prog_6_method_18_code 50 = .ok (.goto (-17), 3) := by decide +kernel
theorem d_Mc_call_53 : decode prog_6_method_18_code 53 = .ok (.iconst 0, 1) := by decide +kernel
theorem d_Mc_call_54 : decode prog_6_method_18_code 54 = .ok (.ireturn, 1) := by decide +kernel
abbrev rm_Mc_call : Room := { frames := 2, cells := 0, slots := 0, locals := 44 }
def p_Mc_call_b33 (k : Int32 → vS → Prop) : Nat → vS → Nat → Int32 → Prop
  | 0, _, _, _ => False
  | n + 1, V, f2, x3 => (x3 < 0 → (k 0 V)) ∧ (¬ x3 < 0 → (p_Mc_take (fun r3 V2 => vp_in x3 5 ∧ ∀ V6 : vS, V6 = sv V2 (f2 + 6) (nt x3) r3 → (∀ y7 : Int32, y7 = x3 + (-1) → ((p_Mc_call_b33 k n) V6 f2 y7))) V))
set_option maxRecDepth 100000 in
set_option maxHeartbeats 4000000 in
theorem t_Mc_call_b33 {k : Int32 → vS → Prop} (X : cx g p s m meth c args R_Mc prog_6_method_18_code 4 (some .int)) : ∀ (n : Nat) (V : vS) (f2 : Nat) (x3 : Int32) (hf2 : 19 ≤ f2 ∧ f2 < 25), p_Mc_call_b33 k n V f2 x3 → ∀ (H : Heap) (locs : List Loc) (ls : Array Slot), va_P g.1 vcl (cw g V) H → va_S (gA g) s.heap H locs → lv_has ls 4 [(0, .ref (ga g 17)), (2, .ref (ga g f2)), (3, .int x3)] → W p l e rm_Mc_call s m args below meth c H locs 0 0 (MQ below (va_Qi k (Bw g) (gA g)) args s 0 0 (gA g)) (F0 m 33 ls []) := by
  obtain ⟨hx, hb, -, -, hown, hts, -, -, hz, hG⟩ := id X
  intro n
  induction n with
  | zero =>
    intro V f2 x3 hf2 h
    exact h.elim
  | succ n ih =>
    intro V f2 x3 hf2 h H locs ls hP hS hl
    unfold p_Mc_call_b33 at h
    refine lv_iload_n hx hb d_Mc_call_33 rfl (lv_at hl 2 rfl) ?_
    refine lv_if_lt (tgt := 53) hx hb d_Mc_call_34 (by decide) (fun c1 => ?_) (fun c1 => ?_)
    · have h := h.1 c1
      refine lv_iconst (v := 0) hx hb d_Mc_call_53 (by decide) ?_
      exact rw_iret X hP hS h d_Mc_call_54
    · have h := h.2 c1
      refine lv_aload_n hx hb d_Mc_call_37 rfl (lv_at hl 1 rfl) ?_
      refine gf_Fr_locals X hP hf2 q_126 d_Mc_call_38 ?_
      refine lv_iload_n hx hb d_Mc_call_41 rfl (lv_at hl 2 rfl) ?_
      refine lv_aload_n hx hb d_Mc_call_42 rfl (lv_at hl 0 rfl) ?_
      refine rw_cVi (rest := [.int x3, .ref (ga g (f2 + 6))]) X hP hS yv_Mc_take isO_Mc (c_Mc_take hG h) q_357 ⟨rfl, rfl, by decide, by decide⟩ rfl rfl hl.1 (Nat.le_of_ble_eq_true rfl) ⟨Nat.zero_le _, Nat.zero_le _⟩ d_Mc_call_43 (fun r3 V2 H locs h hP hS => ?_)
      obtain ⟨hi5, h⟩ := h
      refine rw_iast X hP hS (isI_loc hf2) hi5 d_Mc_call_46 (fun V6 H locs eV6 hP hS => ?_)
      have h := h V6 eV6
      obtain ⟨y7, ey7⟩ : ∃ z : Int32, z = x3 + (-1) := ⟨_, rfl⟩
      have h := h y7 ey7
      refine lv_iinc (v := y7) (lv' := [(3, .int y7), (0, .ref (ga g 17)), (2, .ref (ga g f2))]) hx hb d_Mc_call_47 hl (k := 2) rfl (by rw [ey7]; rfl) (by decide) rfl (fun ls hl => ?_)
      refine lv_goto (tgt := 33) hx hb d_Mc_call_50 (by decide) ?_
      exact ih V6 f2 y7 hf2 h _ _ _ hP hS (lv_sub hl [1, 2, 0] rfl)
def p_Mc_call (k : Int32 → vS → Prop) (V : vS) (x1 : Int32) : Prop := ((V.1 17 5) = 6 → (k 12 V)) ∧ (¬ (V.1 17 5) = 6 → (p_Mc_enter (fun r3 V2 => vp_in x1 4 ∧ (∀ y6 : Int32, y6 = (V2.1 (3 + nt x1) 3) - 1 → (∃ n, p_Mc_call_b33 k n V2 r3 y6))) V x1))
set_option maxRecDepth 100000 in
set_option maxHeartbeats 4000000 in
theorem c_Mc_call {l : Launch} {g : gT} (hG : gd g) {V : vS} {x1 : Int32} {k : Int32 → vS → Prop} (h : p_Mc_call k V x1) : Ci g l y_Mc_call prog_6_method_18_code 4 (some .int) rm_Mc_call [.ref (ga g 17), .int x1] V k := by
  unfold Ci
  refine Met.ofW (cc := prog_6_method_18_code) (maxL := 4) (ret := some .int) (by decide) rfl ?_
  intro p e s m args below meth c s₁ B hml hv
  obtain ⟨rfl, hP, hK, hZ⟩ := hv
  have X : cx g p s m meth c [.ref (ga g 17), .int x1].toArray R_Mc prog_6_method_18_code 4 (some .int) := ⟨B.exec, B.bytes, B.returns, hml, findClass_of_methodNamed B.named, fun w hw => atoms_spec (ws := Cond.code y_Mc_call prog_6_method_18_code 4 (some .int) :: TBL) B.pre w (List.mem_cons_of_mem _ hw), B.notSynchronized, hK, hZ, hG⟩
  have hl := lv_entry [.ref (ga g 17), .int x1] (n := 4) (Nat.le_of_ble_eq_true rfl)
  rw [lg_entry_eq]
  generalize (lg_sl [.ref (ga g 17), .int x1] ++ List.replicate (4 - (lg_sl [.ref (ga g 17), .int x1]).length) Slot.unset).toArray = ls at hl ⊢
  have hl : lv_has ls 4 [(0, .ref (ga g 17)), (1, .int x1)] := hl
  have hS : va_S (gA g) s.heap s.heap [] := va_S.rf
  obtain ⟨hx, hb, -, -, hown, hts, -, -, hz, -⟩ := id X
  show W p l e rm_Mc_call s m _ below meth c s.heap [] 0 0 (MQ below (va_Qi k (Bw g) (gA g)) _ s 0 0 (gA g)) (F0 m 0 ls [])
  unfold p_Mc_call at h
  refine lv_aload_n hx hb d_Mc_call_0 rfl (lv_at hl 0 rfl) ?_
  refine gf_Mc_depth X hP q_148 d_Mc_call_1 ?_
  refine lv_bipush (v := 6) hx hb d_Mc_call_4 (by decide) ?_
  refine lv_icmp_ne (tgt := 12) hx hb d_Mc_call_6 (by decide) (fun c1 => ?_) (fun c1 => ?_)
  · have h := h.2 c1
    refine lv_aload_n hx hb d_Mc_call_12 rfl (lv_at hl 0 rfl) ?_
    refine lv_iload_n hx hb d_Mc_call_13 rfl (lv_at hl 1 rfl) ?_
    refine rw_cVr (rest := []) X hP hS yv_Mc_enter isO_Mc (c_Mc_enter hG h) q_312 ⟨rfl, rfl, by decide, by decide⟩ rfl rfl hl.1 (Nat.le_of_ble_eq_true rfl) ⟨Nat.zero_le _, Nat.zero_le _⟩ d_Mc_call_14 (fun r3 V2 H locs hr4 h hP hS => ?_)
    refine lv_astore_n (lv' := [(2, .ref (ga g r3)), (0, .ref (ga g 17)), (1, .int x1)]) hx hb d_Mc_call_17 rfl hl (by decide) rfl (fun ls hl => ?_)
    refine lv_aload_n hx hb d_Mc_call_18 rfl (lv_at hl 1 rfl) ?_
    refine gf_Mc_program X hP q_141 d_Mc_call_19 ?_
    refine gf_Pg_functions X hP q_68 d_Mc_call_22 ?_
    refine lv_iload_n hx hb d_Mc_call_25 rfl (lv_at hl 2 rfl) ?_
    obtain ⟨hi5, h⟩ := h
    refine rw_aaldF X hP hi5 d_Mc_call_26 ?_
    refine gf_Fn_takes X hP (fn_of hi5) q_42 d_Mc_call_27 ?_
    refine lv_iconst (v := 1) hx hb d_Mc_call_30 (by decide) ?_
    refine lv_isub hx hb d_Mc_call_31 ?_
    refine lv_topi (fun y6 ey6 => ?_)
    have h := h y6 ey6
    refine lv_istore_n (lv' := [(3, .int y6), (2, .ref (ga g r3)), (0, .ref (ga g 17)), (1, .int x1)]) hx hb d_Mc_call_32 rfl hl (by decide) rfl (fun ls hl => ?_)
    obtain ⟨n, h⟩ := h
    exact t_Mc_call_b33 X n V2 r3 y6 hr4 h _ _ _ hP hS (lv_sub hl [2, 1, 0] rfl)
  · have h := h.1 c1
    refine lv_bipush (v := 12) hx hb d_Mc_call_9 (by decide) ?_
    exact rw_iret X hP hS h d_Mc_call_11
theorem yv_Mc_call : yV R_Mc y_Mc_call prog_6_method_18_code 4 (some .int) 1 := ⟨by decide +kernel, q_388, qp_19, q_5, q_389⟩
/-! Mc.ask -/
theorem d_Mc_ask_0 : decode prog_6_method_19_code 0 = .ok (.aload_n 0, 1) := by decide +kernel
theorem d_Mc_ask_1 : decode prog_6_method_19_code 1 = .ok (.getfield 24, 3) := by decide +kernel
theorem d_Mc_ask_4 : decode prog_6_method_19_code 4 = .ok (.iload_n 1, 1) := by decide +kernel
theorem d_Mc_ask_5 : decode prog_6_method_19_code 5 = .ok (.baload, 1) := by decide +kernel
theorem d_Mc_ask_6 : decode prog_6_method_19_code 6 = .ok (.ifCond .ne 6, 3) := by decide +kernel
theorem d_Mc_ask_9 : decode prog_6_method_19_code 9 = .ok (.bipush 14, 2) := by decide +kernel
theorem d_Mc_ask_11 : decode prog_6_method_19_code 11 = .ok (.ireturn, 1) := by decide +kernel
theorem d_Mc_ask_12 : decode prog_6_method_19_code 12 = .ok (.aload_n 0, 1) := by decide +kernel
theorem d_Mc_ask_13 : decode prog_6_method_19_code 13 = .ok (.aload_n 0, 1) := by decide +kernel
theorem d_Mc_ask_14 : decode prog_6_method_19_code 14 = .ok (.invokevirtual 129, 3) := by decide +kernel
theorem d_Mc_ask_17 : decode prog_6_method_19_code 17 = .ok (.putfield 38, 3) := by decide +kernel
theorem d_Mc_ask_20 : decode prog_6_method_19_code 20 = .ok (.aload_n 0, 1) := by decide +kernel
theorem d_Mc_ask_21 : decode prog_6_method_19_code 21 = .ok (.iload_n 1, 1) := by decide +kernel
theorem d_Mc_ask_22 : decode prog_6_method_19_code 22 = .ok (.putfield 35, 3) := by decide +kernel
theorem d_Mc_ask_25 : decode prog_6_method_19_code 25 = .ok (.iconst 3, 1) := by decide +kernel
theorem d_Mc_ask_26 : decode prog_6_method_19_code 26 = .ok (.ireturn, 1) := by decide +kernel
abbrev rm_Mc_ask : Room := { frames := 1, cells := 0, slots := 0, locals := 20 }
def p_Mc_ask (k : Int32 → vS → Prop) (V : vS) (x1 : Int32) : Prop := vp_in x1 4 ∧ (((V.1 33 (nt x1)) = 0 → (k 14 V)) ∧ (¬ (V.1 33 (nt x1)) = 0 → (p_Mc_take (fun r4 V3 => ∀ V6 : vS, V6 = sv V3 17 8 r4 → (∀ V7 : vS, V7 = sv V6 17 7 x1 → (k 3 V7))) V)))
set_option maxRecDepth 100000 in
set_option maxHeartbeats 4000000 in
theorem c_Mc_ask {l : Launch} {g : gT} (hG : gd g) {V : vS} {x1 : Int32} {k : Int32 → vS → Prop} (h : p_Mc_ask k V x1) : Ci g l y_Mc_ask prog_6_method_19_code 2 (some .int) rm_Mc_ask [.ref (ga g 17), .int x1] V k := by
  unfold Ci
  refine Met.ofW (cc := prog_6_method_19_code) (maxL := 2) (ret := some .int) (by decide) rfl ?_
  intro p e s m args below meth c s₁ B hml hv
  obtain ⟨rfl, hP, hK, hZ⟩ := hv
  have X : cx g p s m meth c [.ref (ga g 17), .int x1].toArray R_Mc prog_6_method_19_code 2 (some .int) := ⟨B.exec, B.bytes, B.returns, hml, findClass_of_methodNamed B.named, fun w hw => atoms_spec (ws := Cond.code y_Mc_ask prog_6_method_19_code 2 (some .int) :: TBL) B.pre w (List.mem_cons_of_mem _ hw), B.notSynchronized, hK, hZ, hG⟩
  have hl := lv_entry [.ref (ga g 17), .int x1] (n := 2) (Nat.le_of_ble_eq_true rfl)
  rw [lg_entry_eq]
  generalize (lg_sl [.ref (ga g 17), .int x1] ++ List.replicate (2 - (lg_sl [.ref (ga g 17), .int x1]).length) Slot.unset).toArray = ls at hl ⊢
  have hl : lv_has ls 2 [(0, .ref (ga g 17)), (1, .int x1)] := hl
  have hS : va_S (gA g) s.heap s.heap [] := va_S.rf
  obtain ⟨hx, hb, -, -, hown, hts, -, -, hz, -⟩ := id X
  show W p l e rm_Mc_ask s m _ below meth c s.heap [] 0 0 (MQ below (va_Qi k (Bw g) (gA g)) _ s 0 0 (gA g)) (F0 m 0 ls [])
  unfold p_Mc_ask at h
  refine lv_aload_n hx hb d_Mc_ask_0 rfl (lv_at hl 0 rfl) ?_
  refine gf_Mc_granted X hP q_146 d_Mc_ask_1 ?_
  refine lv_iload_n hx hb d_Mc_ask_4 rfl (lv_at hl 1 rfl) ?_
  obtain ⟨hi1, h⟩ := h
  refine rw_zald X hP isZ_33 hi1 d_Mc_ask_5 ?_
  refine lv_if_ne (tgt := 12) hx hb d_Mc_ask_6 (by decide) (fun c2 => ?_) (fun c2 => ?_)
  · have h := h.2 c2
    refine lv_aload_n hx hb d_Mc_ask_12 rfl (lv_at hl 0 rfl) ?_
    refine lv_aload_n hx hb d_Mc_ask_13 rfl (lv_at hl 0 rfl) ?_
    refine rw_cVi (rest := [.ref (ga g 17)]) X hP hS yv_Mc_take isO_Mc (c_Mc_take hG h) q_357 ⟨rfl, rfl, by decide, by decide⟩ rfl rfl hl.1 (Nat.le_of_ble_eq_true rfl) ⟨Nat.zero_le _, Nat.zero_le _⟩ d_Mc_ask_14 (fun r4 V3 H locs h hP hS => ?_)
    refine pf_Mc_asked X hP hS q_154 d_Mc_ask_17 (fun V6 H locs eV6 hP hS => ?_)
    have h := h V6 eV6
    refine lv_aload_n hx hb d_Mc_ask_20 rfl (lv_at hl 0 rfl) ?_
    refine lv_iload_n hx hb d_Mc_ask_21 rfl (lv_at hl 1 rfl) ?_
    refine pf_Mc_waitsFor X hP hS q_152 d_Mc_ask_22 (fun V7 H locs eV7 hP hS => ?_)
    have h := h V7 eV7
    refine lv_iconst (v := 3) hx hb d_Mc_ask_25 (by decide) ?_
    exact rw_iret X hP hS h d_Mc_ask_26
  · have h := h.1 c2
    refine lv_bipush (v := 14) hx hb d_Mc_ask_9 (by decide) ?_
    exact rw_iret X hP hS h d_Mc_ask_11
theorem yv_Mc_ask : yV R_Mc y_Mc_ask prog_6_method_19_code 2 (some .int) 1 := ⟨by decide +kernel, q_392, qp_20, q_5, q_393⟩
/-! Mc.step -/
theorem d_Mc_step_0 : decode prog_6_method_12_code 0 = .ok (.aload_n 0, 1) := by decide +kernel
theorem d_Mc_step_1 : decode prog_6_method_12_code 1 = .ok (.invokevirtual 103, 3) := by decide +kernel
theorem d_Mc_step_4 : decode prog_6_method_12_code 4 = .ok (.astore_n 1, 1) := by decide +kernel
theorem d_Mc_step_5 : decode prog_6_method_12_code 5 = .ok (.aload_n 0, 1) := by decide +kernel
theorem d_Mc_step_6 : decode prog_6_method_12_code 6 = .ok (.getfield 56, 3) := by decide +kernel
theorem d_Mc_step_9 : decode prog_6_method_12_code 9 = .ok (.getfield 71, 3) := by decide +kernel
theorem d_Mc_step_12 : decode prog_6_method_12_code 12 = .ok (.aload_n 1, 1) := by decide +kernel
theorem d_Mc_step_13 : decode prog_6_method_12_code 13 = .ok (.getfield 110, 3) := by decide +kernel
theorem d_Mc_step_16 : decode prog_6_method_12_code 16 = .ok (.aaload, 1) := by decide +kernel
theorem d_Mc_step_17 : decode prog_6_method_12_code 17 = .ok (.astore_n 2, 1) := by decide +kernel
theorem d_Mc_step_18 : decode prog_6_method_12_code 18 = .ok (.aload_n 1, 1) := by decide +kernel
theorem d_Mc_step_19 : decode prog_6_method_12_code 19 = .ok (.getfield 107, 3) := by decide +kernel
theorem d_Mc_step_22 : decode prog_6_method_12_code 22 = .ok (.istore_n 3, 1) := by decide +kernel
theorem d_Mc_step_23 : decode prog_6_method_12_code 23 = .ok (.aload_n 2, 1) := by decide +kernel
theorem d_Mc_step_24 : decode prog_6_method_12_code 24 = .ok (.getfield 123, 3) := by decide +kernel
theorem d_Mc_step_27 : decode prog_6_method_12_code 27 = .ok (.iload_n 3, 1) := by decide +kernel
theorem d_Mc_step_28 : decode prog_6_method_12_code 28 = .ok (.iaload, 1) := by decide +kernel
theorem d_Mc_step_29 : decode prog_6_method_12_code 29 = .ok (.istore 4, 2) := by decide +kernel
theorem d_Mc_step_31 : decode prog_6_method_12_code 31 = .ok (.aload_n 1, 1) := by decide +kernel
theorem d_Mc_step_32 : decode prog_6_method_12_code 32 = .ok (.iload_n 3, 1) := by decide +kernel
theorem d_Mc_step_33 : decode prog_6_method_12_code 33 = .ok (.iconst 1, 1) := by decide +kernel
theorem d_Mc_step_34 : decode prog_6_method_12_code 34 = .ok (.iadd, 1) := by decide +kernel
theorem d_Mc_step_35 : decode prog_6_method_12_code 35 = .ok (.putfield 107, 3) := by decide +kernel
theorem d_Mc_step_38 : decode prog_6_method_12_code 38 = .ok (.aload_n 2, 1) := by decide +kernel
theorem d_Mc_step_39 : decode prog_6_method_12_code 39 = .ok (.getfield 126, 3) := by decide +kernel
theorem d_Mc_step_42 : decode prog_6_method_12_code 42 = .ok (.iload_n 3, 1) := by decide +kernel
theorem d_Mc_step_43 : decode prog_6_method_12_code 43 = .ok (.iaload, 1) := by decide +kernel
theorem d_Mc_step_44 : decode prog_6_method_12_code 44 = .ok (.tableswitch 208 0 19 #[96, 103, 115, 208, 208, 208, 208, 208, 208, 128, 135, 142, 149, 149, 149, 151, 164, 184, 191, 198], 96) := by decide +kernel
theorem d_Mc_step_140 : decode prog_6_method_12_code 140 = .ok (.aload_n 0, 1) := by decide +kernel
theorem d_Mc_step_141 : decode prog_6_method_12_code 141 = .ok (.iload 4, 2) := by decide +kernel
theorem d_Mc_step_143 : decode prog_6_method_12_code 143 = .ok (.invokevirtual 85, 3) := by decide +kernel
theorem d_Mc_step_146 : decode prog_6_method_12_code 146 = .ok (.ireturn, 1) := by decide +kernel
theorem d_Mc_step_147 : decode prog_6_method_12_code 147 = .ok (.aload_n 0, 1) := by decide +kernel
theorem d_Mc_step_148 : decode prog_6_method_12_code 148 = .ok (.aload_n 1, 1) := by decide +kernel
theorem d_Mc_step_149 : decode prog_6_method_12_code 149 = .ok (.getfield 82, 3) := by decide +kernel
theorem d_Mc_step_152 : decode prog_6_method_12_code 152 = .ok (.iload 4, 2) := by decide +kernel
theorem d_Mc_step_154 : decode prog_6_method_12_code 154 = .ok (.iaload, 1) := by decide +kernel
theorem d_Mc_step_155 : decode prog_6_method_12_code 155 = .ok (.invokevirtual 85, 3) := by decide +kernel
theorem d_Mc_step_158 : decode prog_6_method_12_code 158 = .ok (.ireturn, 1) := by decide +kernel
theorem d_Mc_step_159 : decode prog_6_method_12_code 159 = .ok (.aload_n 1, 1) := by decide +kernel
theorem d_Mc_step_160 : decode prog_6_method_12_code 160 = .ok (.getfield 82, 3) := by decide +kernel
theorem d_Mc_step_163 : decode prog_6_method_12_code 163 = .ok (.iload 4, 2) := by decide +kernel
theorem d_Mc_step_165 : decode prog_6_method_12_code 165 = .ok (.aload_n 0, 1) := by decide +kernel
theorem d_Mc_step_166 : decode prog_6_method_12_code 166 = .ok (.invokevirtual 129, 3) := by decide +kernel
theorem d_Mc_step_169 : decode prog_6_method_12_code 169 = .ok (.iastore, 1) := by decide +kernel
theorem d_Mc_step_170 : decode prog_6_method_12_code 170 = .ok (.iconst 0, 1) := by decide +kernel
theorem d_Mc_step_171 : decode prog_6_method_12_code 171 = .ok (.ireturn, 1) := by decide +kernel
theorem d_Mc_step_172 : decode prog_6_method_12_code 172 = .ok (.aload_n 0, 1) := by decide +kernel
theorem d_Mc_step_173 : decode prog_6_method_12_code 173 = .ok (.invokevirtual 129, 3) := by decide +kernel
theorem d_Mc_step_176 : decode prog_6_method_12_code 176 = .ok (.pop, 1) := by decide +kernel
theorem d_Mc_step_177 : decode prog_6_method_12_code 177 = .ok (.iconst 0, 1) := by decide +kernel
theorem d_Mc_step_178 : decode prog_6_method_12_code 178 = .ok (.ireturn, 1) := by decide +kernel
theorem d_Mc_step_179 : decode prog_6_method_12_code 179 = .ok (.aload_n 0, 1) := by decide +kernel
theorem d_Mc_step_180 : decode prog_6_method_12_code 180 = .ok (.iload 4, 2) := by decide +kernel
theorem d_Mc_step_182 : decode prog_6_method_12_code 182 = .ok (.invokevirtual 132, 3) := by decide +kernel
theorem d_Mc_step_185 : decode prog_6_method_12_code 185 = .ok (.ireturn, 1) := by decide +kernel
theorem d_Mc_step_186 : decode prog_6_method_12_code 186 = .ok (.aload_n 0, 1) := by decide +kernel
theorem d_Mc_step_187 : decode prog_6_method_12_code 187 = .ok (.iload 4, 2) := by decide +kernel
theorem d_Mc_step_189 : decode prog_6_method_12_code 189 = .ok (.invokevirtual 135, 3) := by decide +kernel
theorem d_Mc_step_192 : decode prog_6_method_12_code 192 = .ok (.ireturn, 1) := by decide +kernel
theorem d_Mc_step_193 : decode prog_6_method_12_code 193 = .ok (.iconst 0, 1) := by decide +kernel
theorem d_Mc_step_194 : decode prog_6_method_12_code 194 = .ok (.ireturn, 1) := by decide +kernel
theorem d_Mc_step_195 : decode prog_6_method_12_code 195 = .ok (.aload_n 1, 1) := by decide +kernel
theorem d_Mc_step_196 : decode prog_6_method_12_code 196 = .ok (.aload_n 2, 1) := by decide +kernel
theorem d_Mc_step_197 : decode prog_6_method_12_code 197 = .ok (.iload_n 3, 1) := by decide +kernel
theorem d_Mc_step_198 : decode prog_6_method_12_code 198 = .ok (.iload 4, 2) := by decide +kernel
theorem d_Mc_step_200 : decode prog_6_method_12_code 200 = .ok (.invokevirtual 138, 3) := by decide +kernel
theorem d_Mc_step_203 : decode prog_6_method_12_code 203 = .ok (.putfield 107, 3) := by decide +kernel
theorem d_Mc_step_206 : decode prog_6_method_12_code 206 = .ok (.iconst 0, 1) := by decide +kernel
theorem d_Mc_step_207 : decode prog_6_method_12_code 207 = .ok (.ireturn, 1) := by decide +kernel
theorem d_Mc_step_208 : decode prog_6_method_12_code 208 = .ok (.aload_n 0, 1) := by decide +kernel
theorem d_Mc_step_209 : decode prog_6_method_12_code 209 = .ok (.invokevirtual 129, 3) := by decide +kernel
theorem d_Mc_step_212 : decode prog_6_method_12_code 212 = .ok (.ifCond .eq 14, 3) := by decide +kernel
theorem d_Mc_step_215 : decode prog_6_method_12_code 215 = .ok (.aload_n 1, 1) := by decide +kernel
theorem d_Mc_step_216 : decode prog_6_method_12_code 216 = .ok (.aload_n 2, 1) := by decide +kernel
theorem d_Mc_step_217 : decode prog_6_method_12_code 217 = .ok (.iload_n 3, 1) := by decide +kernel
theorem d_Mc_step_218 : decode prog_6_method_12_code 218 = .ok (.iload 4, 2) := by decide +kernel
theorem d_Mc_step_220 : decode prog_6_method_12_code 220 = .ok (.invokevirtual 138, 3) := by decide +kernel
theorem d_Mc_step_223 : decode prog_6_method_12_code 223 = .ok (.putfield 107, 3) := by decide +kernel
theorem d_Mc_step_226 : decode prog_6_method_12_code 226 = .ok (.iconst 0, 1) := by decide +kernel
theorem d_Mc_step_227 : decode prog_6_method_12_code 227 = .ok (.ireturn, 1) := by decide +kernel
theorem d_Mc_step_228 : decode prog_6_method_12_code 228 = .ok (.aload_n 0, 1) := by decide +kernel
theorem d_Mc_step_229 : decode prog_6_method_12_code 229 = .ok (.iload 4, 2) := by decide +kernel
theorem d_Mc_step_231 : decode prog_6_method_12_code 231 = .ok (.invokevirtual 142, 3) := by decide +kernel
theorem d_Mc_step_234 : decode prog_6_method_12_code 234 = .ok (.ireturn, 1) := by decide +kernel
theorem d_Mc_step_235 : decode prog_6_method_12_code 235 = .ok (.aload_n 0, 1) := by decide +kernel
theorem d_Mc_step_236 : decode prog_6_method_12_code 236 = .ok (.iload 4, 2) := by decide +kernel
theorem d_Mc_step_238 : decode prog_6_method_12_code 238 = .ok (.invokevirtual 145, 3) := by decide +kernel
theorem d_Mc_step_241 : decode prog_6_method_12_code 241 = .ok (.ireturn, 1) := by decide +kernel
theorem d_Mc_step_242 : decode prog_6_method_12_code 242 = .ok (.aload_n 1, 1) := by decide +kernel
theorem d_Mc_step_243 : decode prog_6_method_12_code 243 = .ok (.aload_n 2, 1) := by decide +kernel
theorem d_Mc_step_244 : decode prog_6_method_12_code 244 = .ok (.getfield 113, 3) := by decide +kernel
theorem d_Mc_step_247 : decode prog_6_method_12_code 247 = .ok (.putfield 107, 3) := by decide +kernel
theorem d_Mc_step_250 : decode prog_6_method_12_code 250 = .ok (.iconst 0, 1) := by decide +kernel
theorem d_Mc_step_251 : decode prog_6_method_12_code 251 = .ok (.ireturn, 1) := by decide +kernel
theorem d_Mc_step_252 : decode prog_6_method_12_code 252 = .ok (.aload_n 0, 1) := by decide +kernel
theorem d_Mc_step_253 : decode prog_6_method_12_code 253 = .ok (.aload_n 2, 1) := by decide +kernel
theorem d_Mc_step_254 : decode prog_6_method_12_code 254 = .ok (.getfield 126, 3) := by decide +kernel
theorem d_Mc_step_257 : decode prog_6_method_12_code 257 = .ok (.iload_n 3, 1) := by decide +kernel
theorem d_Mc_step_258 : decode prog_6_method_12_code 258 = .ok (.iaload, 1) := by decide +kernel
theorem d_Mc_step_259 : decode prog_6_method_12_code 259 = .ok (.invokevirtual 148, 3) := by decide +kernel
theorem d_Mc_step_262 : decode prog_6_method_12_code 262 = .ok (.ireturn, 1) := by decide +kernel
abbrev rm_Mc_step : Room := { frames := 3, cells := 0, slots := 0, locals := 68 }
def p_Mc_step_b226 (k : Int32 → vS → Prop) (V : vS) : Prop := k 0 V
set_option maxRecDepth 100000 in
set_option maxHeartbeats 4000000 in
theorem t_Mc_step_b226 {k : Int32 → vS → Prop} (X : cx g p s m meth c args R_Mc prog_6_method_12_code 5 (some .int)) {V : vS} (h : p_Mc_step_b226 k V) (hP : va_P g.1 vcl (cw g V) H) (hS : va_S (gA g) s.heap H locs) (hl : lv_has ls 5 []) : W p l e rm_Mc_step s m args below meth c H locs 0 0 (MQ below (va_Qi k (Bw g) (gA g)) args s 0 0 (gA g)) (F0 m 226 ls []) := by
  obtain ⟨hx, hb, -, -, hown, hts, -, -, hz, hG⟩ := id X
  unfold p_Mc_step_b226 at h
  refine lv_iconst (v := 0) hx hb d_Mc_step_226 (by decide) ?_
  exact rw_iret X hP hS h d_Mc_step_227
def p_Mc_step (k : Int32 → vS → Prop) (V : vS) : Prop := p_Mc_innermost (fun r2 V1 => vp_in (V1.1 r2 1) 4 ∧ (∀ y5 : Int32, y5 = V1.1 r2 2 → (vp_in y5 24 ∧ (∀ y7 : Int32, y7 = V1.1 ((3 + nt (V1.1 r2 1)) + 8) (nt y5) → (∀ V8 : vS, V8 = sv V1 r2 2 (y5 + 1) → (vp_in y5 24 ∧ (((V8.1 ((3 + nt (V1.1 r2 1)) + 4) (nt y5)) = 0 → (p_Mc_put (fun r12 V11 => k r12 V11) V8 y7)) ∧ (¬ (V8.1 ((3 + nt (V1.1 r2 1)) + 4) (nt y5)) = 0 → (((V8.1 ((3 + nt (V1.1 r2 1)) + 4) (nt y5)) = 1 → (vp_in y7 5 ∧ (p_Mc_put (fun r17 V16 => k r17 V16) V8 (V8.1 (r2 + 6) (nt y7))))) ∧ (¬ (V8.1 ((3 + nt (V1.1 r2 1)) + 4) (nt y5)) = 1 → (((V8.1 ((3 + nt (V1.1 r2 1)) + 4) (nt y5)) = 2 → (p_Mc_take (fun r21 V20 => vp_in y7 5 ∧ ∀ V24 : vS, V24 = sv V20 (r2 + 6) (nt y7) r21 → (k 0 V24)) V8)) ∧ (¬ (V8.1 ((3 + nt (V1.1 r2 1)) + 4) (nt y5)) = 2 → (((V8.1 ((3 + nt (V1.1 r2 1)) + 4) (nt y5)) = 3 → (vp_in y5 24 ∧ (p_Mc_calculate (fun r28 V27 => k r28 V27) V8 (V8.1 ((3 + nt (V1.1 r2 1)) + 4) (nt y5))))) ∧ (¬ (V8.1 ((3 + nt (V1.1 r2 1)) + 4) (nt y5)) = 3 → (((V8.1 ((3 + nt (V1.1 r2 1)) + 4) (nt y5)) = 4 → (vp_in y5 24 ∧ (p_Mc_calculate (fun r33 V32 => k r33 V32) V8 (V8.1 ((3 + nt (V1.1 r2 1)) + 4) (nt y5))))) ∧ (¬ (V8.1 ((3 + nt (V1.1 r2 1)) + 4) (nt y5)) = 4 → (((V8.1 ((3 + nt (V1.1 r2 1)) + 4) (nt y5)) = 5 → (vp_in y5 24 ∧ (p_Mc_calculate (fun r38 V37 => k r38 V37) V8 (V8.1 ((3 + nt (V1.1 r2 1)) + 4) (nt y5))))) ∧ (¬ (V8.1 ((3 + nt (V1.1 r2 1)) + 4) (nt y5)) = 5 → (((V8.1 ((3 + nt (V1.1 r2 1)) + 4) (nt y5)) = 6 → (vp_in y5 24 ∧ (p_Mc_calculate (fun r43 V42 => k r43 V42) V8 (V8.1 ((3 + nt (V1.1 r2 1)) + 4) (nt y5))))) ∧ (¬ (V8.1 ((3 + nt (V1.1 r2 1)) + 4) (nt y5)) = 6 → (((V8.1 ((3 + nt (V1.1 r2 1)) + 4) (nt y5)) = 7 → (vp_in y5 24 ∧ (p_Mc_calculate (fun r48 V47 => k r48 V47) V8 (V8.1 ((3 + nt (V1.1 r2 1)) + 4) (nt y5))))) ∧ (¬ (V8.1 ((3 + nt (V1.1 r2 1)) + 4) (nt y5)) = 7 → (((V8.1 ((3 + nt (V1.1 r2 1)) + 4) (nt y5)) = 8 → (vp_in y5 24 ∧ (p_Mc_calculate (fun r53 V52 => k r53 V52) V8 (V8.1 ((3 + nt (V1.1 r2 1)) + 4) (nt y5))))) ∧ (¬ (V8.1 ((3 + nt (V1.1 r2 1)) + 4) (nt y5)) = 8 → (((V8.1 ((3 + nt (V1.1 r2 1)) + 4) (nt y5)) = 9 → (p_Mc_take (fun r57 V56 => k 0 V56) V8)) ∧ (¬ (V8.1 ((3 + nt (V1.1 r2 1)) + 4) (nt y5)) = 9 → (((V8.1 ((3 + nt (V1.1 r2 1)) + 4) (nt y5)) = 10 → (p_Mc_load (fun r61 V60 => k r61 V60) V8 y7)) ∧ (¬ (V8.1 ((3 + nt (V1.1 r2 1)) + 4) (nt y5)) = 10 → (((V8.1 ((3 + nt (V1.1 r2 1)) + 4) (nt y5)) = 11 → (p_Mc_store (fun r65 V64 => k r65 V64) V8 y7)) ∧ (¬ (V8.1 ((3 + nt (V1.1 r2 1)) + 4) (nt y5)) = 11 → (((V8.1 ((3 + nt (V1.1 r2 1)) + 4) (nt y5)) = 12 → (k 0 V8)) ∧ (¬ (V8.1 ((3 + nt (V1.1 r2 1)) + 4) (nt y5)) = 12 → (((V8.1 ((3 + nt (V1.1 r2 1)) + 4) (nt y5)) = 13 → (k 0 V8)) ∧ (¬ (V8.1 ((3 + nt (V1.1 r2 1)) + 4) (nt y5)) = 13 → (((V8.1 ((3 + nt (V1.1 r2 1)) + 4) (nt y5)) = 14 → (k 0 V8)) ∧ (¬ (V8.1 ((3 + nt (V1.1 r2 1)) + 4) (nt y5)) = 14 → (((V8.1 ((3 + nt (V1.1 r2 1)) + 4) (nt y5)) = 15 → (p_Fn_target (fun r72 V71 => ∀ V74 : vS, V74 = sv V71 r2 2 r72 → (k 0 V74)) V8 (3 + nt (V1.1 r2 1)) y5 y7)) ∧ (¬ (V8.1 ((3 + nt (V1.1 r2 1)) + 4) (nt y5)) = 15 → (((V8.1 ((3 + nt (V1.1 r2 1)) + 4) (nt y5)) = 16 → (p_Mc_take (fun r77 V76 => (r77 = 0 → (p_Mc_step_b226 k V76)) ∧ (¬ r77 = 0 → (p_Fn_target (fun r81 V80 => ∀ V83 : vS, V83 = sv V80 r2 2 r81 → (p_Mc_step_b226 k V83)) V76 (3 + nt (V1.1 r2 1)) y5 y7))) V8)) ∧ (¬ (V8.1 ((3 + nt (V1.1 r2 1)) + 4) (nt y5)) = 16 → (((V8.1 ((3 + nt (V1.1 r2 1)) + 4) (nt y5)) = 17 → (p_Mc_call (fun r86 V85 => k r86 V85) V8 y7)) ∧ (¬ (V8.1 ((3 + nt (V1.1 r2 1)) + 4) (nt y5)) = 17 → (((V8.1 ((3 + nt (V1.1 r2 1)) + 4) (nt y5)) = 18 → (p_Mc_ask (fun r90 V89 => k r90 V89) V8 y7)) ∧ (¬ (V8.1 ((3 + nt (V1.1 r2 1)) + 4) (nt y5)) = 18 → (((V8.1 ((3 + nt (V1.1 r2 1)) + 4) (nt y5)) = 19 → (∀ V93 : vS, V93 = sv V8 r2 2 (V8.1 (3 + nt (V1.1 r2 1)) 2) → (k 0 V93))) ∧ (¬ (V8.1 ((3 + nt (V1.1 r2 1)) + 4) (nt y5)) = 19 → (vp_in y5 24 ∧ (p_Mc_calculate (fun r96 V95 => k r96 V95) V8 (V8.1 ((3 + nt (V1.1 r2 1)) + 4) (nt y5)))))))))))))))))))))))))))))))))))))))))))))))))) V
set_option maxRecDepth 100000 in
set_option maxHeartbeats 4000000 in
theorem c_Mc_step {l : Launch} {g : gT} (hG : gd g) {V : vS} {k : Int32 → vS → Prop} (h : p_Mc_step k V) : Ci g l y_Mc_step prog_6_method_12_code 5 (some .int) rm_Mc_step [.ref (ga g 17)] V k := by
  unfold Ci
  refine Met.ofW (cc := prog_6_method_12_code) (maxL := 5) (ret := some .int) (by decide) rfl ?_
  intro p e s m args below meth c s₁ B hml hv
  obtain ⟨rfl, hP, hK, hZ⟩ := hv
  have X : cx g p s m meth c [.ref (ga g 17)].toArray R_Mc prog_6_method_12_code 5 (some .int) := ⟨B.exec, B.bytes, B.returns, hml, findClass_of_methodNamed B.named, fun w hw => atoms_spec (ws := Cond.code y_Mc_step prog_6_method_12_code 5 (some .int) :: TBL) B.pre w (List.mem_cons_of_mem _ hw), B.notSynchronized, hK, hZ, hG⟩
  have hl := lv_entry [.ref (ga g 17)] (n := 5) (Nat.le_of_ble_eq_true rfl)
  rw [lg_entry_eq]
  generalize (lg_sl [.ref (ga g 17)] ++ List.replicate (5 - (lg_sl [.ref (ga g 17)]).length) Slot.unset).toArray = ls at hl ⊢
  have hl : lv_has ls 5 [(0, .ref (ga g 17))] := hl
  have hS : va_S (gA g) s.heap s.heap [] := va_S.rf
  obtain ⟨hx, hb, -, -, hown, hts, -, -, hz, -⟩ := id X
  show W p l e rm_Mc_step s m _ below meth c s.heap [] 0 0 (MQ below (va_Qi k (Bw g) (gA g)) _ s 0 0 (gA g)) (F0 m 0 ls [])
  unfold p_Mc_step at h
  refine lv_aload_n hx hb d_Mc_step_0 rfl (lv_at hl 0 rfl) ?_
  refine rw_cVr (rest := []) X hP hS yv_Mc_innermost isO_Mc (c_Mc_innermost hG h) q_340 ⟨rfl, rfl, by decide, by decide⟩ rfl rfl hl.1 (Nat.le_of_ble_eq_true rfl) ⟨Nat.zero_le _, Nat.zero_le _⟩ d_Mc_step_1 (fun r2 V1 H locs hr3 h hP hS => ?_)
  refine lv_astore_n (lv' := [(1, .ref (ga g r2)), (0, .ref (ga g 17))]) hx hb d_Mc_step_4 rfl hl (by decide) rfl (fun ls hl => ?_)
  refine lv_aload_n hx hb d_Mc_step_5 rfl (lv_at hl 1 rfl) ?_
  refine gf_Mc_program X hP q_141 d_Mc_step_6 ?_
  refine gf_Pg_functions X hP q_68 d_Mc_step_9 ?_
  refine lv_aload_n hx hb d_Mc_step_12 rfl (lv_at hl 0 rfl) ?_
  refine gf_Fr_number X hP hr3 q_128 d_Mc_step_13 ?_
  obtain ⟨hi4, h⟩ := h
  refine rw_aaldF X hP hi4 d_Mc_step_16 ?_
  refine lv_astore_n (lv' := [(2, .ref (ga g (3 + nt (V1.1 r2 1)))), (1, .ref (ga g r2)), (0, .ref (ga g 17))]) hx hb d_Mc_step_17 rfl hl (by decide) rfl (fun ls hl => ?_)
  refine lv_aload_n hx hb d_Mc_step_18 rfl (lv_at hl 1 rfl) ?_
  refine gf_Fr_next X hP hr3 q_131 d_Mc_step_19 ?_
  refine lv_topi (fun y5 ey5 => ?_)
  have h := h y5 ey5
  refine lv_istore_n (lv' := [(3, .int y5), (2, .ref (ga g (3 + nt (V1.1 r2 1)))), (1, .ref (ga g r2)), (0, .ref (ga g 17))]) hx hb d_Mc_step_22 rfl hl (by decide) rfl (fun ls hl => ?_)
  refine lv_aload_n hx hb d_Mc_step_23 rfl (lv_at hl 1 rfl) ?_
  refine gf_Fn_arguments X hP (fn_of hi4) q_35 d_Mc_step_24 ?_
  refine lv_iload_n hx hb d_Mc_step_27 rfl (lv_at hl 0 rfl) ?_
  obtain ⟨hi6, h⟩ := h
  refine rw_iald X hP (isI_args (fn_of hi4)) hi6 d_Mc_step_28 ?_
  refine lv_topi (fun y7 ey7 => ?_)
  have h := h y7 ey7
  refine lv_istore (lv' := [(4, .int y7), (3, .int y5), (2, .ref (ga g (3 + nt (V1.1 r2 1)))), (1, .ref (ga g r2)), (0, .ref (ga g 17))]) hx hb d_Mc_step_29 hl (by decide) rfl (fun ls hl => ?_)
  refine lv_aload_n hx hb d_Mc_step_31 rfl (lv_at hl 3 rfl) ?_
  refine lv_iload_n hx hb d_Mc_step_32 rfl (lv_at hl 1 rfl) ?_
  refine lv_iconst (v := 1) hx hb d_Mc_step_33 (by decide) ?_
  refine lv_iadd hx hb d_Mc_step_34 ?_
  refine pf_Fr_next X hP hS hr3 q_131 d_Mc_step_35 (fun V8 H locs eV8 hP hS => ?_)
  have h := h V8 eV8
  refine lv_aload_n hx hb d_Mc_step_38 rfl (lv_at hl 2 rfl) ?_
  refine gf_Fn_ops X hP (fn_of hi4) q_32 d_Mc_step_39 ?_
  refine lv_iload_n hx hb d_Mc_step_42 rfl (lv_at hl 1 rfl) ?_
  obtain ⟨hi9, h⟩ := h
  refine rw_iald X hP (isI_ops (fn_of hi4)) hi9 d_Mc_step_43 ?_
  by_cases c10 : (V8.1 ((3 + nt (V1.1 r2 1)) + 4) (nt y5)) = 0
  · have h := h.1 c10
    refine lv_tableIn (off := 96) (tgt := 140) hx hb d_Mc_step_44 (by rw [c10]; decide) (by rw [c10]; decide) (by rw [c10]; rfl) (by decide) ?_
    refine lv_aload_n hx hb d_Mc_step_140 rfl (lv_at hl 4 rfl) ?_
    refine lv_iload hx hb d_Mc_step_141 (lv_at hl 0 rfl) ?_
    refine rw_cVi (rest := []) X hP hS yv_Mc_put isO_Mc (c_Mc_put hG h) q_353 ⟨rfl, rfl, by decide, by decide⟩ rfl rfl hl.1 (Nat.le_of_ble_eq_true rfl) ⟨Nat.zero_le _, Nat.zero_le _⟩ d_Mc_step_143 (fun r12 V11 H locs h hP hS => ?_)
    exact rw_iret X hP hS h d_Mc_step_146
  · have h := h.2 c10
    by_cases c14 : (V8.1 ((3 + nt (V1.1 r2 1)) + 4) (nt y5)) = 1
    · have h := h.1 c14
      refine lv_tableIn (off := 103) (tgt := 147) hx hb d_Mc_step_44 (by rw [c14]; decide) (by rw [c14]; decide) (by rw [c14]; rfl) (by decide) ?_
      refine lv_aload_n hx hb d_Mc_step_147 rfl (lv_at hl 4 rfl) ?_
      refine lv_aload_n hx hb d_Mc_step_148 rfl (lv_at hl 3 rfl) ?_
      refine gf_Fr_locals X hP hr3 q_126 d_Mc_step_149 ?_
      refine lv_iload hx hb d_Mc_step_152 (lv_at hl 0 rfl) ?_
      obtain ⟨hi15, h⟩ := h
      refine rw_iald X hP (isI_loc hr3) hi15 d_Mc_step_154 ?_
      refine rw_cVi (rest := []) X hP hS yv_Mc_put isO_Mc (c_Mc_put hG h) q_353 ⟨rfl, rfl, by decide, by decide⟩ rfl rfl hl.1 (Nat.le_of_ble_eq_true rfl) ⟨Nat.zero_le _, Nat.zero_le _⟩ d_Mc_step_155 (fun r17 V16 H locs h hP hS => ?_)
      exact rw_iret X hP hS h d_Mc_step_158
    · have h := h.2 c14
      by_cases c19 : (V8.1 ((3 + nt (V1.1 r2 1)) + 4) (nt y5)) = 2
      · have h := h.1 c19
        refine lv_tableIn (off := 115) (tgt := 159) hx hb d_Mc_step_44 (by rw [c19]; decide) (by rw [c19]; decide) (by rw [c19]; rfl) (by decide) ?_
        refine lv_aload_n hx hb d_Mc_step_159 rfl (lv_at hl 3 rfl) ?_
        refine gf_Fr_locals X hP hr3 q_126 d_Mc_step_160 ?_
        refine lv_iload hx hb d_Mc_step_163 (lv_at hl 0 rfl) ?_
        refine lv_aload_n hx hb d_Mc_step_165 rfl (lv_at hl 4 rfl) ?_
        refine rw_cVi (rest := [.int y7, .ref (ga g (r2 + 6))]) X hP hS yv_Mc_take isO_Mc (c_Mc_take hG h) q_357 ⟨rfl, rfl, by decide, by decide⟩ rfl rfl hl.1 (Nat.le_of_ble_eq_true rfl) ⟨Nat.zero_le _, Nat.zero_le _⟩ d_Mc_step_166 (fun r21 V20 H locs h hP hS => ?_)
        obtain ⟨hi23, h⟩ := h
        refine rw_iast X hP hS (isI_loc hr3) hi23 d_Mc_step_169 (fun V24 H locs eV24 hP hS => ?_)
        have h := h V24 eV24
        refine lv_iconst (v := 0) hx hb d_Mc_step_170 (by decide) ?_
        exact rw_iret X hP hS h d_Mc_step_171
      · have h := h.2 c19
        by_cases c25 : (V8.1 ((3 + nt (V1.1 r2 1)) + 4) (nt y5)) = 3
        · have h := h.1 c25
          refine lv_tableIn (off := 208) (tgt := 252) hx hb d_Mc_step_44 (by rw [c25]; decide) (by rw [c25]; decide) (by rw [c25]; rfl) (by decide) ?_
          refine lv_aload_n hx hb d_Mc_step_252 rfl (lv_at hl 4 rfl) ?_
          refine lv_aload_n hx hb d_Mc_step_253 rfl (lv_at hl 2 rfl) ?_
          refine gf_Fn_ops X hP (fn_of hi4) q_32 d_Mc_step_254 ?_
          refine lv_iload_n hx hb d_Mc_step_257 rfl (lv_at hl 1 rfl) ?_
          obtain ⟨hi26, h⟩ := h
          refine rw_iald X hP (isI_ops (fn_of hi4)) hi26 d_Mc_step_258 ?_
          refine rw_cVi (rest := []) X hP hS yv_Mc_calculate isO_Mc (c_Mc_calculate hG h) q_394 ⟨rfl, rfl, by decide, by decide⟩ rfl rfl hl.1 (Nat.le_of_ble_eq_true rfl) ⟨Nat.zero_le _, Nat.zero_le _⟩ d_Mc_step_259 (fun r28 V27 H locs h hP hS => ?_)
          exact rw_iret X hP hS h d_Mc_step_262
        · have h := h.2 c25
          by_cases c30 : (V8.1 ((3 + nt (V1.1 r2 1)) + 4) (nt y5)) = 4
          · have h := h.1 c30
            refine lv_tableIn (off := 208) (tgt := 252) hx hb d_Mc_step_44 (by rw [c30]; decide) (by rw [c30]; decide) (by rw [c30]; rfl) (by decide) ?_
            refine lv_aload_n hx hb d_Mc_step_252 rfl (lv_at hl 4 rfl) ?_
            refine lv_aload_n hx hb d_Mc_step_253 rfl (lv_at hl 2 rfl) ?_
            refine gf_Fn_ops X hP (fn_of hi4) q_32 d_Mc_step_254 ?_
            refine lv_iload_n hx hb d_Mc_step_257 rfl (lv_at hl 1 rfl) ?_
            obtain ⟨hi31, h⟩ := h
            refine rw_iald X hP (isI_ops (fn_of hi4)) hi31 d_Mc_step_258 ?_
            refine rw_cVi (rest := []) X hP hS yv_Mc_calculate isO_Mc (c_Mc_calculate hG h) q_394 ⟨rfl, rfl, by decide, by decide⟩ rfl rfl hl.1 (Nat.le_of_ble_eq_true rfl) ⟨Nat.zero_le _, Nat.zero_le _⟩ d_Mc_step_259 (fun r33 V32 H locs h hP hS => ?_)
            exact rw_iret X hP hS h d_Mc_step_262
          · have h := h.2 c30
            by_cases c35 : (V8.1 ((3 + nt (V1.1 r2 1)) + 4) (nt y5)) = 5
            · have h := h.1 c35
              refine lv_tableIn (off := 208) (tgt := 252) hx hb d_Mc_step_44 (by rw [c35]; decide) (by rw [c35]; decide) (by rw [c35]; rfl) (by decide) ?_
              refine lv_aload_n hx hb d_Mc_step_252 rfl (lv_at hl 4 rfl) ?_
              refine lv_aload_n hx hb d_Mc_step_253 rfl (lv_at hl 2 rfl) ?_
              refine gf_Fn_ops X hP (fn_of hi4) q_32 d_Mc_step_254 ?_
              refine lv_iload_n hx hb d_Mc_step_257 rfl (lv_at hl 1 rfl) ?_
              obtain ⟨hi36, h⟩ := h
              refine rw_iald X hP (isI_ops (fn_of hi4)) hi36 d_Mc_step_258 ?_
              refine rw_cVi (rest := []) X hP hS yv_Mc_calculate isO_Mc (c_Mc_calculate hG h) q_394 ⟨rfl, rfl, by decide, by decide⟩ rfl rfl hl.1 (Nat.le_of_ble_eq_true rfl) ⟨Nat.zero_le _, Nat.zero_le _⟩ d_Mc_step_259 (fun r38 V37 H locs h hP hS => ?_)
              exact rw_iret X hP hS h d_Mc_step_262
            · have h := h.2 c35
              by_cases c40 : (V8.1 ((3 + nt (V1.1 r2 1)) + 4) (nt y5)) = 6
              · have h := h.1 c40
                refine lv_tableIn (off := 208) (tgt := 252) hx hb d_Mc_step_44 (by rw [c40]; decide) (by rw [c40]; decide) (by rw [c40]; rfl) (by decide) ?_
                refine lv_aload_n hx hb d_Mc_step_252 rfl (lv_at hl 4 rfl) ?_
                refine lv_aload_n hx hb d_Mc_step_253 rfl (lv_at hl 2 rfl) ?_
                refine gf_Fn_ops X hP (fn_of hi4) q_32 d_Mc_step_254 ?_
                refine lv_iload_n hx hb d_Mc_step_257 rfl (lv_at hl 1 rfl) ?_
                obtain ⟨hi41, h⟩ := h
                refine rw_iald X hP (isI_ops (fn_of hi4)) hi41 d_Mc_step_258 ?_
                refine rw_cVi (rest := []) X hP hS yv_Mc_calculate isO_Mc (c_Mc_calculate hG h) q_394 ⟨rfl, rfl, by decide, by decide⟩ rfl rfl hl.1 (Nat.le_of_ble_eq_true rfl) ⟨Nat.zero_le _, Nat.zero_le _⟩ d_Mc_step_259 (fun r43 V42 H locs h hP hS => ?_)
                exact rw_iret X hP hS h d_Mc_step_262
              · have h := h.2 c40
                by_cases c45 : (V8.1 ((3 + nt (V1.1 r2 1)) + 4) (nt y5)) = 7
                · have h := h.1 c45
                  refine lv_tableIn (off := 208) (tgt := 252) hx hb d_Mc_step_44 (by rw [c45]; decide) (by rw [c45]; decide) (by rw [c45]; rfl) (by decide) ?_
                  refine lv_aload_n hx hb d_Mc_step_252 rfl (lv_at hl 4 rfl) ?_
                  refine lv_aload_n hx hb d_Mc_step_253 rfl (lv_at hl 2 rfl) ?_
                  refine gf_Fn_ops X hP (fn_of hi4) q_32 d_Mc_step_254 ?_
                  refine lv_iload_n hx hb d_Mc_step_257 rfl (lv_at hl 1 rfl) ?_
                  obtain ⟨hi46, h⟩ := h
                  refine rw_iald X hP (isI_ops (fn_of hi4)) hi46 d_Mc_step_258 ?_
                  refine rw_cVi (rest := []) X hP hS yv_Mc_calculate isO_Mc (c_Mc_calculate hG h) q_394 ⟨rfl, rfl, by decide, by decide⟩ rfl rfl hl.1 (Nat.le_of_ble_eq_true rfl) ⟨Nat.zero_le _, Nat.zero_le _⟩ d_Mc_step_259 (fun r48 V47 H locs h hP hS => ?_)
                  exact rw_iret X hP hS h d_Mc_step_262
                · have h := h.2 c45
                  by_cases c50 : (V8.1 ((3 + nt (V1.1 r2 1)) + 4) (nt y5)) = 8
                  · have h := h.1 c50
                    refine lv_tableIn (off := 208) (tgt := 252) hx hb d_Mc_step_44 (by rw [c50]; decide) (by rw [c50]; decide) (by rw [c50]; rfl) (by decide) ?_
                    refine lv_aload_n hx hb d_Mc_step_252 rfl (lv_at hl 4 rfl) ?_
                    refine lv_aload_n hx hb d_Mc_step_253 rfl (lv_at hl 2 rfl) ?_
                    refine gf_Fn_ops X hP (fn_of hi4) q_32 d_Mc_step_254 ?_
                    refine lv_iload_n hx hb d_Mc_step_257 rfl (lv_at hl 1 rfl) ?_
                    obtain ⟨hi51, h⟩ := h
                    refine rw_iald X hP (isI_ops (fn_of hi4)) hi51 d_Mc_step_258 ?_
                    refine rw_cVi (rest := []) X hP hS yv_Mc_calculate isO_Mc (c_Mc_calculate hG h) q_394 ⟨rfl, rfl, by decide, by decide⟩ rfl rfl hl.1 (Nat.le_of_ble_eq_true rfl) ⟨Nat.zero_le _, Nat.zero_le _⟩ d_Mc_step_259 (fun r53 V52 H locs h hP hS => ?_)
                    exact rw_iret X hP hS h d_Mc_step_262
                  · have h := h.2 c50
                    by_cases c55 : (V8.1 ((3 + nt (V1.1 r2 1)) + 4) (nt y5)) = 9
                    · have h := h.1 c55
                      refine lv_tableIn (off := 128) (tgt := 172) hx hb d_Mc_step_44 (by rw [c55]; decide) (by rw [c55]; decide) (by rw [c55]; rfl) (by decide) ?_
                      refine lv_aload_n hx hb d_Mc_step_172 rfl (lv_at hl 4 rfl) ?_
                      refine rw_cVi (rest := []) X hP hS yv_Mc_take isO_Mc (c_Mc_take hG h) q_357 ⟨rfl, rfl, by decide, by decide⟩ rfl rfl hl.1 (Nat.le_of_ble_eq_true rfl) ⟨Nat.zero_le _, Nat.zero_le _⟩ d_Mc_step_173 (fun r57 V56 H locs h hP hS => ?_)
                      refine lv_pop hx hb d_Mc_step_176 rfl ?_
                      refine lv_iconst (v := 0) hx hb d_Mc_step_177 (by decide) ?_
                      exact rw_iret X hP hS h d_Mc_step_178
                    · have h := h.2 c55
                      by_cases c59 : (V8.1 ((3 + nt (V1.1 r2 1)) + 4) (nt y5)) = 10
                      · have h := h.1 c59
                        refine lv_tableIn (off := 135) (tgt := 179) hx hb d_Mc_step_44 (by rw [c59]; decide) (by rw [c59]; decide) (by rw [c59]; rfl) (by decide) ?_
                        refine lv_aload_n hx hb d_Mc_step_179 rfl (lv_at hl 4 rfl) ?_
                        refine lv_iload hx hb d_Mc_step_180 (lv_at hl 0 rfl) ?_
                        refine rw_cVi (rest := []) X hP hS yv_Mc_load isO_Mc (c_Mc_load hG h) q_361 ⟨rfl, rfl, by decide, by decide⟩ rfl rfl hl.1 (Nat.le_of_ble_eq_true rfl) ⟨Nat.zero_le _, Nat.zero_le _⟩ d_Mc_step_182 (fun r61 V60 H locs h hP hS => ?_)
                        exact rw_iret X hP hS h d_Mc_step_185
                      · have h := h.2 c59
                        by_cases c63 : (V8.1 ((3 + nt (V1.1 r2 1)) + 4) (nt y5)) = 11
                        · have h := h.1 c63
                          refine lv_tableIn (off := 142) (tgt := 186) hx hb d_Mc_step_44 (by rw [c63]; decide) (by rw [c63]; decide) (by rw [c63]; rfl) (by decide) ?_
                          refine lv_aload_n hx hb d_Mc_step_186 rfl (lv_at hl 4 rfl) ?_
                          refine lv_iload hx hb d_Mc_step_187 (lv_at hl 0 rfl) ?_
                          refine rw_cVi (rest := []) X hP hS yv_Mc_store isO_Mc (c_Mc_store hG h) q_369 ⟨rfl, rfl, by decide, by decide⟩ rfl rfl hl.1 (Nat.le_of_ble_eq_true rfl) ⟨Nat.zero_le _, Nat.zero_le _⟩ d_Mc_step_189 (fun r65 V64 H locs h hP hS => ?_)
                          exact rw_iret X hP hS h d_Mc_step_192
                        · have h := h.2 c63
                          by_cases c67 : (V8.1 ((3 + nt (V1.1 r2 1)) + 4) (nt y5)) = 12
                          · have h := h.1 c67
                            refine lv_tableIn (off := 149) (tgt := 193) hx hb d_Mc_step_44 (by rw [c67]; decide) (by rw [c67]; decide) (by rw [c67]; rfl) (by decide) ?_
                            refine lv_iconst (v := 0) hx hb d_Mc_step_193 (by decide) ?_
                            exact rw_iret X hP hS h d_Mc_step_194
                          · have h := h.2 c67
                            by_cases c68 : (V8.1 ((3 + nt (V1.1 r2 1)) + 4) (nt y5)) = 13
                            · have h := h.1 c68
                              refine lv_tableIn (off := 149) (tgt := 193) hx hb d_Mc_step_44 (by rw [c68]; decide) (by rw [c68]; decide) (by rw [c68]; rfl) (by decide) ?_
                              refine lv_iconst (v := 0) hx hb d_Mc_step_193 (by decide) ?_
                              exact rw_iret X hP hS h d_Mc_step_194
                            · have h := h.2 c68
                              by_cases c69 : (V8.1 ((3 + nt (V1.1 r2 1)) + 4) (nt y5)) = 14
                              · have h := h.1 c69
                                refine lv_tableIn (off := 149) (tgt := 193) hx hb d_Mc_step_44 (by rw [c69]; decide) (by rw [c69]; decide) (by rw [c69]; rfl) (by decide) ?_
                                refine lv_iconst (v := 0) hx hb d_Mc_step_193 (by decide) ?_
                                exact rw_iret X hP hS h d_Mc_step_194
                              · have h := h.2 c69
                                by_cases c70 : (V8.1 ((3 + nt (V1.1 r2 1)) + 4) (nt y5)) = 15
                                · have h := h.1 c70
                                  refine lv_tableIn (off := 151) (tgt := 195) hx hb d_Mc_step_44 (by rw [c70]; decide) (by rw [c70]; decide) (by rw [c70]; rfl) (by decide) ?_
                                  refine lv_aload_n hx hb d_Mc_step_195 rfl (lv_at hl 3 rfl) ?_
                                  refine lv_aload_n hx hb d_Mc_step_196 rfl (lv_at hl 2 rfl) ?_
                                  refine lv_iload_n hx hb d_Mc_step_197 rfl (lv_at hl 1 rfl) ?_
                                  refine lv_iload hx hb d_Mc_step_198 (lv_at hl 0 rfl) ?_
                                  refine rw_cVi (rest := [.ref (ga g r2)]) X hP hS yv_Fn_target (isO_Fn (fn_of hi4)) (c_Fn_target hG (fn_of hi4) h) q_373 ⟨rfl, rfl, by decide, by decide⟩ rfl rfl hl.1 (Nat.le_of_ble_eq_true rfl) ⟨Nat.zero_le _, Nat.zero_le _⟩ d_Mc_step_200 (fun r72 V71 H locs h hP hS => ?_)
                                  refine pf_Fr_next X hP hS hr3 q_131 d_Mc_step_203 (fun V74 H locs eV74 hP hS => ?_)
                                  have h := h V74 eV74
                                  refine lv_iconst (v := 0) hx hb d_Mc_step_206 (by decide) ?_
                                  exact rw_iret X hP hS h d_Mc_step_207
                                · have h := h.2 c70
                                  by_cases c75 : (V8.1 ((3 + nt (V1.1 r2 1)) + 4) (nt y5)) = 16
                                  · have h := h.1 c75
                                    refine lv_tableIn (off := 164) (tgt := 208) hx hb d_Mc_step_44 (by rw [c75]; decide) (by rw [c75]; decide) (by rw [c75]; rfl) (by decide) ?_
                                    refine lv_aload_n hx hb d_Mc_step_208 rfl (lv_at hl 4 rfl) ?_
                                    refine rw_cVi (rest := []) X hP hS yv_Mc_take isO_Mc (c_Mc_take hG h) q_357 ⟨rfl, rfl, by decide, by decide⟩ rfl rfl hl.1 (Nat.le_of_ble_eq_true rfl) ⟨Nat.zero_le _, Nat.zero_le _⟩ d_Mc_step_209 (fun r77 V76 H locs h hP hS => ?_)
                                    refine lv_if_eq (tgt := 226) hx hb d_Mc_step_212 (by decide) (fun c79 => ?_) (fun c79 => ?_)
                                    · have h := h.1 c79
                                      exact t_Mc_step_b226 X h hP hS (lv_sub hl [] rfl)
                                    · have h := h.2 c79
                                      refine lv_aload_n hx hb d_Mc_step_215 rfl (lv_at hl 3 rfl) ?_
                                      refine lv_aload_n hx hb d_Mc_step_216 rfl (lv_at hl 2 rfl) ?_
                                      refine lv_iload_n hx hb d_Mc_step_217 rfl (lv_at hl 1 rfl) ?_
                                      refine lv_iload hx hb d_Mc_step_218 (lv_at hl 0 rfl) ?_
                                      refine rw_cVi (rest := [.ref (ga g r2)]) X hP hS yv_Fn_target (isO_Fn (fn_of hi4)) (c_Fn_target hG (fn_of hi4) h) q_373 ⟨rfl, rfl, by decide, by decide⟩ rfl rfl hl.1 (Nat.le_of_ble_eq_true rfl) ⟨Nat.zero_le _, Nat.zero_le _⟩ d_Mc_step_220 (fun r81 V80 H locs h hP hS => ?_)
                                      refine pf_Fr_next X hP hS hr3 q_131 d_Mc_step_223 (fun V83 H locs eV83 hP hS => ?_)
                                      have h := h V83 eV83
                                      exact t_Mc_step_b226 X h hP hS (lv_sub hl [] rfl)
                                  · have h := h.2 c75
                                    by_cases c84 : (V8.1 ((3 + nt (V1.1 r2 1)) + 4) (nt y5)) = 17
                                    · have h := h.1 c84
                                      refine lv_tableIn (off := 184) (tgt := 228) hx hb d_Mc_step_44 (by rw [c84]; decide) (by rw [c84]; decide) (by rw [c84]; rfl) (by decide) ?_
                                      refine lv_aload_n hx hb d_Mc_step_228 rfl (lv_at hl 4 rfl) ?_
                                      refine lv_iload hx hb d_Mc_step_229 (lv_at hl 0 rfl) ?_
                                      refine rw_cVi (rest := []) X hP hS yv_Mc_call isO_Mc (c_Mc_call hG h) q_386 ⟨rfl, rfl, by decide, by decide⟩ rfl rfl hl.1 (Nat.le_of_ble_eq_true rfl) ⟨Nat.zero_le _, Nat.zero_le _⟩ d_Mc_step_231 (fun r86 V85 H locs h hP hS => ?_)
                                      exact rw_iret X hP hS h d_Mc_step_234
                                    · have h := h.2 c84
                                      by_cases c88 : (V8.1 ((3 + nt (V1.1 r2 1)) + 4) (nt y5)) = 18
                                      · have h := h.1 c88
                                        refine lv_tableIn (off := 191) (tgt := 235) hx hb d_Mc_step_44 (by rw [c88]; decide) (by rw [c88]; decide) (by rw [c88]; rfl) (by decide) ?_
                                        refine lv_aload_n hx hb d_Mc_step_235 rfl (lv_at hl 4 rfl) ?_
                                        refine lv_iload hx hb d_Mc_step_236 (lv_at hl 0 rfl) ?_
                                        refine rw_cVi (rest := []) X hP hS yv_Mc_ask isO_Mc (c_Mc_ask hG h) q_390 ⟨rfl, rfl, by decide, by decide⟩ rfl rfl hl.1 (Nat.le_of_ble_eq_true rfl) ⟨Nat.zero_le _, Nat.zero_le _⟩ d_Mc_step_238 (fun r90 V89 H locs h hP hS => ?_)
                                        exact rw_iret X hP hS h d_Mc_step_241
                                      · have h := h.2 c88
                                        by_cases c92 : (V8.1 ((3 + nt (V1.1 r2 1)) + 4) (nt y5)) = 19
                                        · have h := h.1 c92
                                          refine lv_tableIn (off := 198) (tgt := 242) hx hb d_Mc_step_44 (by rw [c92]; decide) (by rw [c92]; decide) (by rw [c92]; rfl) (by decide) ?_
                                          refine lv_aload_n hx hb d_Mc_step_242 rfl (lv_at hl 3 rfl) ?_
                                          refine lv_aload_n hx hb d_Mc_step_243 rfl (lv_at hl 2 rfl) ?_
                                          refine gf_Fn_length X hP (fn_of hi4) q_39 d_Mc_step_244 ?_
                                          refine pf_Fr_next X hP hS hr3 q_131 d_Mc_step_247 (fun V93 H locs eV93 hP hS => ?_)
                                          have h := h V93 eV93
                                          refine lv_iconst (v := 0) hx hb d_Mc_step_250 (by decide) ?_
                                          exact rw_iret X hP hS h d_Mc_step_251
                                        · have h := h.2 c92
                                          have nc10 := lv_neT (a := 0) c10 rfl
                                          have nc14 := lv_neT (a := 1) c14 rfl
                                          have nc19 := lv_neT (a := 2) c19 rfl
                                          have nc25 := lv_neT (a := 3) c25 rfl
                                          have nc30 := lv_neT (a := 4) c30 rfl
                                          have nc35 := lv_neT (a := 5) c35 rfl
                                          have nc40 := lv_neT (a := 6) c40 rfl
                                          have nc45 := lv_neT (a := 7) c45 rfl
                                          have nc50 := lv_neT (a := 8) c50 rfl
                                          have nc55 := lv_neT (a := 9) c55 rfl
                                          have nc59 := lv_neT (a := 10) c59 rfl
                                          have nc63 := lv_neT (a := 11) c63 rfl
                                          have nc67 := lv_neT (a := 12) c67 rfl
                                          have nc68 := lv_neT (a := 13) c68 rfl
                                          have nc69 := lv_neT (a := 14) c69 rfl
                                          have nc70 := lv_neT (a := 15) c70 rfl
                                          have nc75 := lv_neT (a := 16) c75 rfl
                                          have nc84 := lv_neT (a := 17) c84 rfl
                                          have nc88 := lv_neT (a := 18) c88 rfl
                                          have nc92 := lv_neT (a := 19) c92 rfl
                                          refine lv_tableOut (tgt := 252) hx hb d_Mc_step_44 (by omega) (by decide) ?_
                                          refine lv_aload_n hx hb d_Mc_step_252 rfl (lv_at hl 4 rfl) ?_
                                          refine lv_aload_n hx hb d_Mc_step_253 rfl (lv_at hl 2 rfl) ?_
                                          refine gf_Fn_ops X hP (fn_of hi4) q_32 d_Mc_step_254 ?_
                                          refine lv_iload_n hx hb d_Mc_step_257 rfl (lv_at hl 1 rfl) ?_
                                          obtain ⟨hi94, h⟩ := h
                                          refine rw_iald X hP (isI_ops (fn_of hi4)) hi94 d_Mc_step_258 ?_
                                          refine rw_cVi (rest := []) X hP hS yv_Mc_calculate isO_Mc (c_Mc_calculate hG h) q_394 ⟨rfl, rfl, by decide, by decide⟩ rfl rfl hl.1 (Nat.le_of_ble_eq_true rfl) ⟨Nat.zero_le _, Nat.zero_le _⟩ d_Mc_step_259 (fun r96 V95 H locs h hP hS => ?_)
                                          exact rw_iret X hP hS h d_Mc_step_262
theorem yv_Mc_step : yV R_Mc y_Mc_step prog_6_method_12_code 5 (some .int) 0 := ⟨by decide +kernel, q_351, qp_12, q_5, q_352⟩
/-! Mc.keepResult -/
theorem d_Mc_keepResult_0 : decode prog_6_method_10_code 0 = .ok (.aload_n 0, 1) := by decide +kernel
theorem d_Mc_keepResult_1 : decode prog_6_method_10_code 1 = .ok (.aload_n 1, 1) := by decide +kernel
theorem d_Mc_keepResult_2 : decode prog_6_method_10_code 2 = .ok (.getfield 120, 3) := by decide +kernel
theorem d_Mc_keepResult_5 : decode prog_6_method_10_code 5 = .ok (.ifCond .le 13, 3) := by decide +kernel
theorem d_Mc_keepResult_8 : decode prog_6_method_10_code 8 = .ok (.aload_n 0, 1) := by decide +kernel
theorem d_Mc_keepResult_9 : decode prog_6_method_10_code 9 = .ok (.getfield 17, 3) := by decide +kernel
theorem d_Mc_keepResult_12 : decode prog_6_method_10_code 12 = .ok (.iconst 0, 1) := by decide +kernel
theorem d_Mc_keepResult_13 : decode prog_6_method_10_code 13 = .ok (.iaload, 1) := by decide +kernel
theorem d_Mc_keepResult_14 : decode prog_6_method_10_code 14 = .ok (.i2l, 1) := by decide +kernel
theorem d_Mc_keepResult_15 : decode prog_6_method_10_code 15 = .ok (.goto 6, 3) := by decide +kernel
theorem d_Mc_keepResult_18 : decode prog_6_method_10_code 18 = .ok (.ldc2_w 50, 3) := by decide +kernel
theorem d_Mc_keepResult_21 : decode prog_6_method_10_code 21 = .ok (.putfield 52, 3) := by decide +kernel
theorem d_Mc_keepResult_24 : decode prog_6_method_10_code 24 = .ok (.aload_n 0, 1) := by decide +kernel
theorem d_Mc_keepResult_25 : decode prog_6_method_10_code 25 = .ok (.iconst 0, 1) := by decide +kernel
theorem d_Mc_keepResult_26 : decode prog_6_method_10_code 26 = .ok (.putfield 32, 3) := by decide +kernel
theorem d_Mc_keepResult_29 : decode prog_6_method_10_code 29 = .ok (.aload_n 0, 1) := by decide +kernel
theorem d_Mc_keepResult_30 : decode prog_6_method_10_code 30 = .ok (.dup, 1) := by decide +kernel
theorem d_Mc_keepResult_31 : decode prog_6_method_10_code 31 = .ok (.getfield 44, 3) := by decide +kernel
theorem d_Mc_keepResult_34 : decode prog_6_method_10_code 34 = .ok (.iconst 1, 1) := by decide +kernel
theorem d_Mc_keepResult_35 : decode prog_6_method_10_code 35 = .ok (.iadd, 1) := by decide +kernel
theorem d_Mc_keepResult_36 : decode prog_6_method_10_code 36 = .ok (.putfield 44, 3) := by decide +kernel
theorem d_Mc_keepResult_39 : decode prog_6_method_10_code 39 = .ok (.return_, 1) := by decide +kernel
abbrev rm_Mc_keepResult : Room := { frames := 0, cells := 0, slots := 0, locals := 0 }
def p_Mc_keepResult_b21 (k : vS → Prop) (V : vS) (s1 : Int64) : Prop := ∀ V1 : vS, V1 = sj V s1 → (∀ V2 : vS, V2 = sv V1 17 6 0 → (∀ V3 : vS, V3 = sv V2 17 10 ((V2.1 17 10) + 1) → (k V3)))
set_option maxRecDepth 100000 in
set_option maxHeartbeats 4000000 in
theorem t_Mc_keepResult_b21 {k : vS → Prop} (X : cx g p s m meth c args R_Mc prog_6_method_10_code 2 (none)) {V : vS} {s1 : Int64} (h : p_Mc_keepResult_b21 k V s1) (hP : va_P g.1 vcl (cw g V) H) (hS : va_S (gA g) s.heap H locs) (hl : lv_has ls 2 [(0, .ref (ga g 17))]) : W p l e rm_Mc_keepResult s m args below meth c H locs 0 0 (MQ below (va_Qv k (Bw g) (gA g)) args s 0 0 (gA g)) (F0 m 21 ls [.long s1, .ref (ga g 17)]) := by
  obtain ⟨hx, hb, -, -, hown, hts, -, -, hz, hG⟩ := id X
  unfold p_Mc_keepResult_b21 at h
  refine pf_Mc_latestResult X hP hS q_162 d_Mc_keepResult_21 (fun V1 H locs eV1 hP hS => ?_)
  have h := h V1 eV1
  refine lv_aload_n hx hb d_Mc_keepResult_24 rfl (lv_at hl 0 rfl) ?_
  refine lv_iconst (v := 0) hx hb d_Mc_keepResult_25 (by decide) ?_
  refine pf_Mc_values X hP hS q_150 d_Mc_keepResult_26 (fun V2 H locs eV2 hP hS => ?_)
  have h := h V2 eV2
  refine lv_aload_n hx hb d_Mc_keepResult_29 rfl (lv_at hl 0 rfl) ?_
  refine lv_dup hx hb d_Mc_keepResult_30 rfl ?_
  refine gf_Mc_runsEnded X hP q_158 d_Mc_keepResult_31 ?_
  refine lv_iconst (v := 1) hx hb d_Mc_keepResult_34 (by decide) ?_
  refine lv_iadd hx hb d_Mc_keepResult_35 ?_
  refine pf_Mc_runsEnded X hP hS q_158 d_Mc_keepResult_36 (fun V3 H locs eV3 hP hS => ?_)
  have h := h V3 eV3
  exact rw_vret X hP hS h d_Mc_keepResult_39
def p_Mc_keepResult (k : vS → Prop) (V : vS) (f1 : Nat) : Prop := ((V.1 f1 4) ≤ 0 → (p_Mc_keepResult_b21 k V (-1000000000000))) ∧ (¬ (V.1 f1 4) ≤ 0 → (vp_in 0 40 ∧ (p_Mc_keepResult_b21 k V ((V.1 31 (nt 0) : Int32).toInt64))))
set_option maxRecDepth 100000 in
set_option maxHeartbeats 4000000 in
theorem c_Mc_keepResult {l : Launch} {g : gT} (hG : gd g) {V : vS} {f1 : Nat} (hf1 : 3 ≤ f1 ∧ f1 < 7) {k : vS → Prop} (h : p_Mc_keepResult k V f1) : Cv g l y_Mc_keepResult prog_6_method_10_code 2 (none) rm_Mc_keepResult [.ref (ga g 17), .ref (ga g f1)] V k := by
  unfold Cv
  refine Met.ofW (cc := prog_6_method_10_code) (maxL := 2) (ret := none) (by decide) rfl ?_
  intro p e s m args below meth c s₁ B hml hv
  obtain ⟨rfl, hP, hK, hZ⟩ := hv
  have X : cx g p s m meth c [.ref (ga g 17), .ref (ga g f1)].toArray R_Mc prog_6_method_10_code 2 (none) := ⟨B.exec, B.bytes, B.returns, hml, findClass_of_methodNamed B.named, fun w hw => atoms_spec (ws := Cond.code y_Mc_keepResult prog_6_method_10_code 2 (none) :: TBL) B.pre w (List.mem_cons_of_mem _ hw), B.notSynchronized, hK, hZ, hG⟩
  have hl := lv_entry [.ref (ga g 17), .ref (ga g f1)] (n := 2) (Nat.le_of_ble_eq_true rfl)
  rw [lg_entry_eq]
  generalize (lg_sl [.ref (ga g 17), .ref (ga g f1)] ++ List.replicate (2 - (lg_sl [.ref (ga g 17), .ref (ga g f1)]).length) Slot.unset).toArray = ls at hl ⊢
  have hl : lv_has ls 2 [(0, .ref (ga g 17)), (1, .ref (ga g f1))] := hl
  have hS : va_S (gA g) s.heap s.heap [] := va_S.rf
  obtain ⟨hx, hb, -, -, hown, hts, -, -, hz, -⟩ := id X
  show W p l e rm_Mc_keepResult s m _ below meth c s.heap [] 0 0 (MQ below (va_Qv k (Bw g) (gA g)) _ s 0 0 (gA g)) (F0 m 0 ls [])
  unfold p_Mc_keepResult at h
  refine lv_aload_n hx hb d_Mc_keepResult_0 rfl (lv_at hl 0 rfl) ?_
  refine lv_aload_n hx hb d_Mc_keepResult_1 rfl (lv_at hl 1 rfl) ?_
  refine gf_Fn_gives X hP hf1 q_47 d_Mc_keepResult_2 ?_
  refine lv_if_le (tgt := 18) hx hb d_Mc_keepResult_5 (by decide) (fun c1 => ?_) (fun c1 => ?_)
  · have h := h.1 c1
    refine lv_ldc2 (v := (-1000000000000)) hx hb hown (hts _ q_119) d_Mc_keepResult_18 ?_
    exact t_Mc_keepResult_b21 X h hP hS (lv_sub hl [0] rfl)
  · have h := h.2 c1
    refine lv_aload_n hx hb d_Mc_keepResult_8 rfl (lv_at hl 0 rfl) ?_
    refine gf_Mc_stack X hP q_143 d_Mc_keepResult_9 ?_
    refine lv_iconst (v := 0) hx hb d_Mc_keepResult_12 (by decide) ?_
    obtain ⟨hi2, h⟩ := h
    refine rw_iald X hP isI_31 hi2 d_Mc_keepResult_13 ?_
    refine lv_i2l (v := (V.1 31 (nt 0) : Int32).toInt64) hx hb d_Mc_keepResult_14 rfl ?_
    refine lv_goto (tgt := 21) hx hb d_Mc_keepResult_15 (by decide) ?_
    exact t_Mc_keepResult_b21 X h hP hS (lv_sub hl [0] rfl)
theorem yv_Mc_keepResult : yV R_Mc y_Mc_keepResult prog_6_method_10_code 2 (none) 1 := ⟨by decide +kernel, q_346, qp_11, q_5, q_347⟩
/-! Mc.leaveFinished -/
theorem d_Mc_leaveFinished_0 : decode prog_6_method_9_code 0 = .ok (.aload_n 0, 1) := by decide +kernel
theorem d_Mc_leaveFinished_1 : decode prog_6_method_9_code 1 = .ok (.getfield 28, 3) := by decide +kernel
theorem d_Mc_leaveFinished_4 : decode prog_6_method_9_code 4 = .ok (.ifCond .le 71, 3) := by decide +kernel
theorem d_Mc_leaveFinished_7 : decode prog_6_method_9_code 7 = .ok (.aload_n 0, 1) := by decide +kernel
theorem d_Mc_leaveFinished_8 : decode prog_6_method_9_code 8 = .ok (.invokevirtual 103, 3) := by decide +kernel
theorem d_Mc_leaveFinished_11 : decode prog_6_method_9_code 11 = .ok (.getfield 107, 3) := by decide +kernel
theorem d_Mc_leaveFinished_14 : decode prog_6_method_9_code 14 = .ok (.aload_n 0, 1) := by decide +kernel
theorem d_Mc_leaveFinished_15 : decode prog_6_method_9_code 15 = .ok (.getfield 56, 3) := by decide +kernel
theorem d_Mc_leaveFinished_18 : decode prog_6_method_9_code 18 = .ok (.getfield 71, 3) := by decide +kernel
theorem d_Mc_leaveFinished_21 : decode prog_6_method_9_code 21 = .ok (.aload_n 0, 1) := by decide +kernel
theorem d_Mc_leaveFinished_22 : decode prog_6_method_9_code 22 = .ok (.invokevirtual 103, 3) := by decide +kernel
theorem d_Mc_leaveFinished_25 : decode prog_6_method_9_code 25 = .ok (.getfield 110, 3) := by decide +kernel
theorem d_Mc_leaveFinished_28 : decode prog_6_method_9_code 28 = .ok (.aaload, 1) := by decide +kernel
theorem d_Mc_leaveFinished_29 : decode prog_6_method_9_code 29 = .ok (.getfield 113, 3) := by decide +kernel
theorem d_Mc_leaveFinished_32 : decode prog_6_method_9_code 32 = .ok (.if_icmp .lt 43, 3) := by decide +kernel
theorem d_Mc_leaveFinished_35 : decode prog_6_method_9_code 35 = .ok (.aload_n 0, 1) := by decide +kernel
theorem d_Mc_leaveFinished_36 : decode prog_6_method_9_code 36 = .ok (.getfield 28, 3) := by decide +kernel
theorem d_Mc_leaveFinished_39 : decode prog_6_method_9_code 39 = .ok (.iconst 1, 1) := by decide +kernel
theorem d_Mc_leaveFinished_40 : decode prog_6_method_9_code 40 = .ok (.if_icmp .ne 22, 3) := by decide +kernel
theorem d_Mc_leaveFinished_43 : decode prog_6_method_9_code 43 = .ok (.aload_n 0, 1) := by decide +kernel
theorem d_Mc_leaveFinished_44 : decode prog_6_method_9_code 44 = .ok (.aload_n 0, 1) := by decide +kernel
theorem d_Mc_leaveFinished_45 : decode prog_6_method_9_code 45 = .ok (.getfield 56, 3) := by decide +kernel
theorem d_Mc_leaveFinished_48 : decode prog_6_method_9_code 48 = .ok (.getfield 71, 3) := by decide +kernel
theorem d_Mc_leaveFinished_51 : decode prog_6_method_9_code 51 = .ok (.aload_n 0, 1) := by decide +kernel
theorem d_Mc_leaveFinished_52 : decode prog_6_method_9_code 52 = .ok (.invokevirtual 103, 3) := by decide +kernel
theorem d_Mc_leaveFinished_55 : decode prog_6_method_9_code 55 = .ok (.getfield 110, 3) := by decide +kernel
theorem d_Mc_leaveFinished_58 : decode prog_6_method_9_code 58 = .ok (.aaload, 1) := by decide +kernel
theorem d_Mc_leaveFinished_59 : decode prog_6_method_9_code 59 = .ok (.invokevirtual 116, 3) := by decide +kernel
theorem d_Mc_leaveFinished_62 : decode prog_6_method_9_code 62 = .ok (.aload_n 0, 1) := by decide +kernel
theorem d_Mc_leaveFinished_63 : decode prog_6_method_9_code 63 = .ok (.dup, 1) := by decide +kernel
theorem d_Mc_leaveFinished_64 : decode prog_6_method_9_code 64 = .ok (.getfield 28, 3) := by decide +kernel
theorem d_Mc_leaveFinished_67 : decode prog_6_method_9_code 67 = .ok (.iconst 1, 1) := by decide +kernel
theorem d_Mc_leaveFinished_68 : decode prog_6_method_9_code 68 = .ok (.isub, 1) := by decide +kernel
theorem d_Mc_leaveFinished_69 : decode prog_6_method_9_code 69 = .ok (.putfield 28, 3) := by decide +kernel
theorem d_Mc_leaveFinished_72 : decode prog_6_method_9_code 72 = .ok (.goto (-72), 3) := by decide +kernel
theorem d_Mc_leaveFinished_75 : decode prog_6_method_9_code 75 = .ok (.return_, 1) := by decide +kernel
abbrev rm_Mc_leaveFinished : Room := { frames := 1, cells := 0, slots := 0, locals := 21 }
def p_Mc_leaveFinished_b62 (k : vS → Prop) (hd : vS → Prop) (V : vS) : Prop := ∀ V1 : vS, V1 = sv V 17 5 ((V.1 17 5) - 1) → (hd V1)
set_option maxRecDepth 100000 in
set_option maxHeartbeats 4000000 in
theorem t_Mc_leaveFinished_b62 {k : vS → Prop} (X : cx g p s m meth c args R_Mc prog_6_method_9_code 1 (none)) {hd : vS → Prop} (ih : ∀ (V : vS), hd V → ∀ (H : Heap) (locs : List Loc) (ls : Array Slot), va_P g.1 vcl (cw g V) H → va_S (gA g) s.heap H locs → lv_has ls 1 [(0, .ref (ga g 17))] → W p l e rm_Mc_leaveFinished s m args below meth c H locs 0 0 (MQ below (va_Qv k (Bw g) (gA g)) args s 0 0 (gA g)) (F0 m 0 ls [])) {V : vS} (h : p_Mc_leaveFinished_b62 k hd V) (hP : va_P g.1 vcl (cw g V) H) (hS : va_S (gA g) s.heap H locs) (hl : lv_has ls 1 [(0, .ref (ga g 17))]) : W p l e rm_Mc_leaveFinished s m args below meth c H locs 0 0 (MQ below (va_Qv k (Bw g) (gA g)) args s 0 0 (gA g)) (F0 m 62 ls []) := by
  obtain ⟨hx, hb, -, -, hown, hts, -, -, hz, hG⟩ := id X
  unfold p_Mc_leaveFinished_b62 at h
  refine lv_aload_n hx hb d_Mc_leaveFinished_62 rfl (lv_at hl 0 rfl) ?_
  refine lv_dup hx hb d_Mc_leaveFinished_63 rfl ?_
  refine gf_Mc_depth X hP q_148 d_Mc_leaveFinished_64 ?_
  refine lv_iconst (v := 1) hx hb d_Mc_leaveFinished_67 (by decide) ?_
  refine lv_isub hx hb d_Mc_leaveFinished_68 ?_
  refine pf_Mc_depth X hP hS q_148 d_Mc_leaveFinished_69 (fun V1 H locs eV1 hP hS => ?_)
  have h := h V1 eV1
  refine lv_goto (tgt := 0) hx hb d_Mc_leaveFinished_72 (by decide) ?_
  exact ih V1  h _ _ _ hP hS (lv_sub hl [0] rfl)
def p_Mc_leaveFinished_b75 (k : vS → Prop) (V : vS) : Prop := k V
set_option maxRecDepth 100000 in
set_option maxHeartbeats 4000000 in
theorem t_Mc_leaveFinished_b75 {k : vS → Prop} (X : cx g p s m meth c args R_Mc prog_6_method_9_code 1 (none)) {V : vS} (h : p_Mc_leaveFinished_b75 k V) (hP : va_P g.1 vcl (cw g V) H) (hS : va_S (gA g) s.heap H locs) (hl : lv_has ls 1 []) : W p l e rm_Mc_leaveFinished s m args below meth c H locs 0 0 (MQ below (va_Qv k (Bw g) (gA g)) args s 0 0 (gA g)) (F0 m 75 ls []) := by
  obtain ⟨hx, hb, -, -, hown, hts, -, -, hz, hG⟩ := id X
  unfold p_Mc_leaveFinished_b75 at h
  exact rw_vret X hP hS h d_Mc_leaveFinished_75
def p_Mc_leaveFinished_b0 (k : vS → Prop) : Nat → vS → Prop
  | 0, _ => False
  | n + 1, V => ((V.1 17 5) ≤ 0 → (p_Mc_leaveFinished_b75 k V)) ∧ (¬ (V.1 17 5) ≤ 0 → (p_Mc_innermost (fun r3 V2 => p_Mc_innermost (fun r6 V5 => vp_in (V5.1 r6 1) 4 ∧ (((V2.1 r3 2) < (V5.1 (3 + nt (V5.1 r6 1)) 2) → (p_Mc_leaveFinished_b75 k V5)) ∧ (¬ (V2.1 r3 2) < (V5.1 (3 + nt (V5.1 r6 1)) 2) → (((V5.1 17 5) = 1 → (p_Mc_innermost (fun r12 V11 => vp_in (V11.1 r12 1) 4 ∧ (p_Mc_keepResult (fun V15 => p_Mc_leaveFinished_b62 k (p_Mc_leaveFinished_b0 k n) V15) V11 (3 + nt (V11.1 r12 1)))) V5)) ∧ (¬ (V5.1 17 5) = 1 → (p_Mc_leaveFinished_b62 k (p_Mc_leaveFinished_b0 k n) V5)))))) V2) V))
set_option maxRecDepth 100000 in
set_option maxHeartbeats 4000000 in
theorem t_Mc_leaveFinished_b0 {k : vS → Prop} (X : cx g p s m meth c args R_Mc prog_6_method_9_code 1 (none)) : ∀ (n : Nat) (V : vS), p_Mc_leaveFinished_b0 k n V → ∀ (H : Heap) (locs : List Loc) (ls : Array Slot), va_P g.1 vcl (cw g V) H → va_S (gA g) s.heap H locs → lv_has ls 1 [(0, .ref (ga g 17))] → W p l e rm_Mc_leaveFinished s m args below meth c H locs 0 0 (MQ below (va_Qv k (Bw g) (gA g)) args s 0 0 (gA g)) (F0 m 0 ls []) := by
  obtain ⟨hx, hb, -, -, hown, hts, -, -, hz, hG⟩ := id X
  intro n
  induction n with
  | zero =>
    intro V h
    exact h.elim
  | succ n ih =>
    intro V h H locs ls hP hS hl
    unfold p_Mc_leaveFinished_b0 at h
    refine lv_aload_n hx hb d_Mc_leaveFinished_0 rfl (lv_at hl 0 rfl) ?_
    refine gf_Mc_depth X hP q_148 d_Mc_leaveFinished_1 ?_
    refine lv_if_le (tgt := 75) hx hb d_Mc_leaveFinished_4 (by decide) (fun c1 => ?_) (fun c1 => ?_)
    · have h := h.1 c1
      exact t_Mc_leaveFinished_b75 X h hP hS (lv_sub hl [] rfl)
    · have h := h.2 c1
      refine lv_aload_n hx hb d_Mc_leaveFinished_7 rfl (lv_at hl 0 rfl) ?_
      refine rw_cVr (rest := []) X hP hS yv_Mc_innermost isO_Mc (c_Mc_innermost hG h) q_340 ⟨rfl, rfl, by decide, by decide⟩ rfl rfl hl.1 (Nat.le_of_ble_eq_true rfl) ⟨Nat.zero_le _, Nat.zero_le _⟩ d_Mc_leaveFinished_8 (fun r3 V2 H locs hr4 h hP hS => ?_)
      refine gf_Fr_next X hP hr4 q_131 d_Mc_leaveFinished_11 ?_
      refine lv_aload_n hx hb d_Mc_leaveFinished_14 rfl (lv_at hl 0 rfl) ?_
      refine gf_Mc_program X hP q_141 d_Mc_leaveFinished_15 ?_
      refine gf_Pg_functions X hP q_68 d_Mc_leaveFinished_18 ?_
      refine lv_aload_n hx hb d_Mc_leaveFinished_21 rfl (lv_at hl 0 rfl) ?_
      refine rw_cVr (rest := [.ref (ga g 2), .int (V2.1 r3 2)]) X hP hS yv_Mc_innermost isO_Mc (c_Mc_innermost hG h) q_340 ⟨rfl, rfl, by decide, by decide⟩ rfl rfl hl.1 (Nat.le_of_ble_eq_true rfl) ⟨Nat.zero_le _, Nat.zero_le _⟩ d_Mc_leaveFinished_22 (fun r6 V5 H locs hr7 h hP hS => ?_)
      refine gf_Fr_number X hP hr7 q_128 d_Mc_leaveFinished_25 ?_
      obtain ⟨hi8, h⟩ := h
      refine rw_aaldF X hP hi8 d_Mc_leaveFinished_28 ?_
      refine gf_Fn_length X hP (fn_of hi8) q_39 d_Mc_leaveFinished_29 ?_
      refine lv_icmp_lt (tgt := 75) hx hb d_Mc_leaveFinished_32 (by decide) (fun c9 => ?_) (fun c9 => ?_)
      · have h := h.1 c9
        exact t_Mc_leaveFinished_b75 X h hP hS (lv_sub hl [] rfl)
      · have h := h.2 c9
        refine lv_aload_n hx hb d_Mc_leaveFinished_35 rfl (lv_at hl 0 rfl) ?_
        refine gf_Mc_depth X hP q_148 d_Mc_leaveFinished_36 ?_
        refine lv_iconst (v := 1) hx hb d_Mc_leaveFinished_39 (by decide) ?_
        refine lv_icmp_ne (tgt := 62) hx hb d_Mc_leaveFinished_40 (by decide) (fun c10 => ?_) (fun c10 => ?_)
        · have h := h.2 c10
          exact t_Mc_leaveFinished_b62 X (hd := p_Mc_leaveFinished_b0 k n) ih h hP hS (lv_sub hl [0] rfl)
        · have h := h.1 c10
          refine lv_aload_n hx hb d_Mc_leaveFinished_43 rfl (lv_at hl 0 rfl) ?_
          refine lv_aload_n hx hb d_Mc_leaveFinished_44 rfl (lv_at hl 0 rfl) ?_
          refine gf_Mc_program X hP q_141 d_Mc_leaveFinished_45 ?_
          refine gf_Pg_functions X hP q_68 d_Mc_leaveFinished_48 ?_
          refine lv_aload_n hx hb d_Mc_leaveFinished_51 rfl (lv_at hl 0 rfl) ?_
          refine rw_cVr (rest := [.ref (ga g 2), .ref (ga g 17)]) X hP hS yv_Mc_innermost isO_Mc (c_Mc_innermost hG h) q_340 ⟨rfl, rfl, by decide, by decide⟩ rfl rfl hl.1 (Nat.le_of_ble_eq_true rfl) ⟨Nat.zero_le _, Nat.zero_le _⟩ d_Mc_leaveFinished_52 (fun r12 V11 H locs hr13 h hP hS => ?_)
          refine gf_Fr_number X hP hr13 q_128 d_Mc_leaveFinished_55 ?_
          obtain ⟨hi14, h⟩ := h
          refine rw_aaldF X hP hi14 d_Mc_leaveFinished_58 ?_
          refine rw_cVv (rest := []) X hP hS yv_Mc_keepResult isO_Mc (c_Mc_keepResult hG (fn_of hi14) h) q_344 ⟨rfl, rfl, by decide, by decide⟩ rfl rfl hl.1 (Nat.le_of_ble_eq_true rfl) ⟨Nat.zero_le _, Nat.zero_le _⟩ d_Mc_leaveFinished_59 (fun V15 H locs h hP hS => ?_)
          exact t_Mc_leaveFinished_b62 X (hd := p_Mc_leaveFinished_b0 k n) ih h hP hS (lv_sub hl [0] rfl)
def p_Mc_leaveFinished (k : vS → Prop) (V : vS) : Prop := ∃ n, p_Mc_leaveFinished_b0 k n V
set_option maxRecDepth 100000 in
set_option maxHeartbeats 4000000 in
theorem c_Mc_leaveFinished {l : Launch} {g : gT} (hG : gd g) {V : vS} {k : vS → Prop} (h : p_Mc_leaveFinished k V) : Cv g l y_Mc_leaveFinished prog_6_method_9_code 1 (none) rm_Mc_leaveFinished [.ref (ga g 17)] V k := by
  unfold Cv
  refine Met.ofW (cc := prog_6_method_9_code) (maxL := 1) (ret := none) (by decide) rfl ?_
  intro p e s m args below meth c s₁ B hml hv
  obtain ⟨rfl, hP, hK, hZ⟩ := hv
  have X : cx g p s m meth c [.ref (ga g 17)].toArray R_Mc prog_6_method_9_code 1 (none) := ⟨B.exec, B.bytes, B.returns, hml, findClass_of_methodNamed B.named, fun w hw => atoms_spec (ws := Cond.code y_Mc_leaveFinished prog_6_method_9_code 1 (none) :: TBL) B.pre w (List.mem_cons_of_mem _ hw), B.notSynchronized, hK, hZ, hG⟩
  have hl := lv_entry [.ref (ga g 17)] (n := 1) (Nat.le_of_ble_eq_true rfl)
  rw [lg_entry_eq]
  generalize (lg_sl [.ref (ga g 17)] ++ List.replicate (1 - (lg_sl [.ref (ga g 17)]).length) Slot.unset).toArray = ls at hl ⊢
  have hl : lv_has ls 1 [(0, .ref (ga g 17))] := hl
  have hS : va_S (gA g) s.heap s.heap [] := va_S.rf
  obtain ⟨hx, hb, -, -, hown, hts, -, -, hz, -⟩ := id X
  show W p l e rm_Mc_leaveFinished s m _ below meth c s.heap [] 0 0 (MQ below (va_Qv k (Bw g) (gA g)) _ s 0 0 (gA g)) (F0 m 0 ls [])
  unfold p_Mc_leaveFinished at h
  obtain ⟨n, h⟩ := h
  exact t_Mc_leaveFinished_b0 X n V  h _ _ _ hP hS (lv_sub hl [0] rfl)
theorem yv_Mc_leaveFinished : yV R_Mc y_Mc_leaveFinished prog_6_method_9_code 1 (none) 0 := ⟨by decide +kernel, q_338, qp_10, q_5, q_339⟩
/-! Mc.go -/
theorem d_Mc_go_0 : decode prog_6_method_8_code 0 = .ok (.iload_n 1, 1) := by decide +kernel
theorem d_Mc_go_1 : decode prog_6_method_8_code 1 = .ok (.istore_n 2, 1) := by decide +kernel
theorem d_Mc_go_2 : decode prog_6_method_8_code 2 = .ok (.iload_n 2, 1) := by decide +kernel
theorem d_Mc_go_3 : decode prog_6_method_8_code 3 = .ok (.ifCond .le 54, 3) := by decide +kernel
theorem d_Mc_go_6 : decode prog_6_method_8_code 6 = .ok (.aload_n 0, 1) := by decide +kernel
theorem d_Mc_go_7 : decode prog_6_method_8_code 7 = .ok (.invokevirtual 89, 3) := by decide +kernel
theorem d_Mc_go_10 : decode prog_6_method_8_code 10 = .ok (.aload_n 0, 1) := by decide +kernel
theorem d_Mc_go_11 : decode prog_6_method_8_code 11 = .ok (.invokevirtual 92, 3) := by decide +kernel
theorem d_Mc_go_14 : decode prog_6_method_8_code 14 = .ok (.ifCond .ne 5, 3) := by decide +kernel
theorem d_Mc_go_17 : decode prog_6_method_8_code 17 = .ok (.iconst 1, 1) := by decide +kernel
theorem d_Mc_go_18 : decode prog_6_method_8_code 18 = .ok (.ireturn, 1) := by decide +kernel
theorem d_Mc_go_19 : decode prog_6_method_8_code 19 = .ok (.aload_n 0, 1) := by decide +kernel
theorem d_Mc_go_20 : decode prog_6_method_8_code 20 = .ok (.dup, 1) := by decide +kernel
theorem d_Mc_go_21 : decode prog_6_method_8_code 21 = .ok (.getfield 41, 3) := by decide +kernel
theorem d_Mc_go_24 : decode prog_6_method_8_code 24 = .ok (.iconst 1, 1) := by decide +kernel
theorem d_Mc_go_25 : decode prog_6_method_8_code 25 = .ok (.iadd, 1) := by decide +kernel
theorem d_Mc_go_26 : decode prog_6_method_8_code 26 = .ok (.putfield 41, 3) := by decide +kernel
theorem d_Mc_go_29 : decode prog_6_method_8_code 29 = .ok (.aload_n 0, 1) := by decide +kernel
theorem d_Mc_go_30 : decode prog_6_method_8_code 30 = .ok (.invokevirtual 96, 3) := by decide +kernel
theorem d_Mc_go_33 : decode prog_6_method_8_code 33 = .ok (.istore_n 3, 1) := by decide +kernel
theorem d_Mc_go_34 : decode prog_6_method_8_code 34 = .ok (.iload_n 3, 1) := by decide +kernel
theorem d_Mc_go_35 : decode prog_6_method_8_code 35 = .ok (.iconst 3, 1) := by decide +kernel
theorem d_Mc_go_36 : decode prog_6_method_8_code 36 = .ok (.if_icmp .ne 5, 3) := by decide +kernel
theorem d_Mc_go_39 : decode prog_6_method_8_code 39 = .ok (.iconst 3, 1) := by decide +kernel
theorem d_Mc_go_40 : decode prog_6_method_8_code 40 = .ok (.ireturn, 1) := by decide +kernel
theorem d_Mc_go_41 : decode prog_6_method_8_code 41 = .ok (.iload_n 3, 1) := by decide +kernel
theorem d_Mc_go_42 : decode prog_6_method_8_code 42 = .ok (.ifCond .eq 9, 3) := by decide +kernel
theorem d_Mc_go_45 : decode prog_6_method_8_code 45 = .ok (.aload_n 0, 1) := by decide +kernel
theorem d_Mc_go_46 : decode prog_6_method_8_code 46 = .ok (.invokevirtual 100, 3) := by decide +kernel
theorem d_Mc_go_49 : decode prog_6_method_8_code 49 = .ok (.iload_n 3, 1) := by decide +kernel
theorem d_Mc_go_50 : decode prog_6_method_8_code 50 = .ok (.ireturn, 1) := by decide +kernel
theorem d_Mc_go_51 : decode prog_6_method_8_code 51 = .ok (.iinc 2 (-1), 3) := by decide +kernel
theorem d_Mc_go_54 : decode prog_6_method_8_code 54 = .ok (.goto (-52), 3) := by decide +kernel
theorem d_Mc_go_57 : decode prog_6_method_8_code 57 = .ok (.aload_n 0, 1) := by decide +kernel
theorem d_Mc_go_58 : decode prog_6_method_8_code 58 = .ok (.invokevirtual 89, 3) := by decide +kernel
theorem d_Mc_go_61 : decode prog_6_method_8_code 61 = .ok (.aload_n 0, 1) := by decide +kernel
theorem d_Mc_go_62 : decode prog_6_method_8_code 62 = .ok (.invokevirtual 92, 3) := by decide +kernel
theorem d_Mc_go_65 : decode prog_6_method_8_code 65 = .ok (.ifCond .eq 7, 3) := by decide +kernel
theorem d_Mc_go_68 : decode prog_6_method_8_code 68 = .ok (.iconst 2, 1) := by decide +kernel
theorem d_Mc_go_69 : decode prog_6_method_8_code 69 = .ok (.goto 4, 3) := by decide +kernel
theorem d_Mc_go_72 : decode prog_6_method_8_code 72 = .ok (.iconst 1, 1) := by decide +kernel
theorem d_Mc_go_73 : decode prog_6_method_8_code 73 = .ok (.ireturn, 1) := by decide +kernel
abbrev rm_Mc_go : Room := { frames := 4, cells := 0, slots := 0, locals := 92 }
def p_Mc_go_b73 (k : Int32 → vS → Prop) (V : vS) (s0 : Int32) : Prop := k s0 V
set_option maxRecDepth 100000 in
set_option maxHeartbeats 4000000 in
theorem t_Mc_go_b73 {k : Int32 → vS → Prop} (X : cx g p s m meth c args R_Mc prog_6_method_8_code 4 (some .int)) {V : vS} {s0 : Int32} (h : p_Mc_go_b73 k V s0) (hP : va_P g.1 vcl (cw g V) H) (hS : va_S (gA g) s.heap H locs) (hl : lv_has ls 4 []) : W p l e rm_Mc_go s m args below meth c H locs 0 0 (MQ below (va_Qi k (Bw g) (gA g)) args s 0 0 (gA g)) (F0 m 73 ls [.int s0]) := by
  obtain ⟨hx, hb, -, -, hown, hts, -, -, hz, hG⟩ := id X
  unfold p_Mc_go_b73 at h
  exact rw_iret X hP hS h d_Mc_go_73
def p_Mc_go_b2 (k : Int32 → vS → Prop) : Nat → vS → Int32 → Prop
  | 0, _, _ => False
  | n + 1, V, x2 => (x2 ≤ 0 → (p_Mc_leaveFinished (fun V2 => p_Mc_isUnderWay (fun r5 V4 => (r5 = 0 → (p_Mc_go_b73 k V4 1)) ∧ (¬ r5 = 0 → (p_Mc_go_b73 k V4 2))) V2) V)) ∧ (¬ x2 ≤ 0 → (p_Mc_leaveFinished (fun V8 => p_Mc_isUnderWay (fun r11 V10 => (r11 = 0 → (k 1 V10)) ∧ (¬ r11 = 0 → (∀ V14 : vS, V14 = sv V10 17 9 ((V10.1 17 9) + 1) → (p_Mc_step (fun r16 V15 => (r16 = 3 → (k 3 V15)) ∧ (¬ r16 = 3 → ((r16 = 0 → (∀ y20 : Int32, y20 = x2 + (-1) → ((p_Mc_go_b2 k n) V15 y20))) ∧ (¬ r16 = 0 → (p_Mc_endTrapped (fun V21 => k r16 V21) V15))))) V14)))) V8) V))
set_option maxRecDepth 100000 in
set_option maxHeartbeats 4000000 in
theorem t_Mc_go_b2 {k : Int32 → vS → Prop} (X : cx g p s m meth c args R_Mc prog_6_method_8_code 4 (some .int)) : ∀ (n : Nat) (V : vS) (x2 : Int32), p_Mc_go_b2 k n V x2 → ∀ (H : Heap) (locs : List Loc) (ls : Array Slot), va_P g.1 vcl (cw g V) H → va_S (gA g) s.heap H locs → lv_has ls 4 [(0, .ref (ga g 17)), (2, .int x2)] → W p l e rm_Mc_go s m args below meth c H locs 0 0 (MQ below (va_Qi k (Bw g) (gA g)) args s 0 0 (gA g)) (F0 m 2 ls []) := by
  obtain ⟨hx, hb, -, -, hown, hts, -, -, hz, hG⟩ := id X
  intro n
  induction n with
  | zero =>
    intro V x2 h
    exact h.elim
  | succ n ih =>
    intro V x2 h H locs ls hP hS hl
    unfold p_Mc_go_b2 at h
    refine lv_iload_n hx hb d_Mc_go_2 rfl (lv_at hl 1 rfl) ?_
    refine lv_if_le (tgt := 57) hx hb d_Mc_go_3 (by decide) (fun c1 => ?_) (fun c1 => ?_)
    · have h := h.1 c1
      refine lv_aload_n hx hb d_Mc_go_57 rfl (lv_at hl 0 rfl) ?_
      refine rw_cVv (rest := []) X hP hS yv_Mc_leaveFinished isO_Mc (c_Mc_leaveFinished hG h) q_336 ⟨rfl, rfl, by decide, by decide⟩ rfl rfl hl.1 (Nat.le_of_ble_eq_true rfl) ⟨Nat.zero_le _, Nat.zero_le _⟩ d_Mc_go_58 (fun V2 H locs h hP hS => ?_)
      refine lv_aload_n hx hb d_Mc_go_61 rfl (lv_at hl 0 rfl) ?_
      refine rw_cVi (rest := []) X hP hS yv_Mc_isUnderWay isO_Mc (c_Mc_isUnderWay hG h) q_348 ⟨rfl, rfl, by decide, by decide⟩ rfl rfl hl.1 (Nat.le_of_ble_eq_true rfl) ⟨Nat.zero_le _, Nat.zero_le _⟩ d_Mc_go_62 (fun r5 V4 H locs h hP hS => ?_)
      refine lv_if_eq (tgt := 72) hx hb d_Mc_go_65 (by decide) (fun c7 => ?_) (fun c7 => ?_)
      · have h := h.1 c7
        refine lv_iconst (v := 1) hx hb d_Mc_go_72 (by decide) ?_
        exact t_Mc_go_b73 X h hP hS (lv_sub hl [] rfl)
      · have h := h.2 c7
        refine lv_iconst (v := 2) hx hb d_Mc_go_68 (by decide) ?_
        refine lv_goto (tgt := 73) hx hb d_Mc_go_69 (by decide) ?_
        exact t_Mc_go_b73 X h hP hS (lv_sub hl [] rfl)
    · have h := h.2 c1
      refine lv_aload_n hx hb d_Mc_go_6 rfl (lv_at hl 0 rfl) ?_
      refine rw_cVv (rest := []) X hP hS yv_Mc_leaveFinished isO_Mc (c_Mc_leaveFinished hG h) q_336 ⟨rfl, rfl, by decide, by decide⟩ rfl rfl hl.1 (Nat.le_of_ble_eq_true rfl) ⟨Nat.zero_le _, Nat.zero_le _⟩ d_Mc_go_7 (fun V8 H locs h hP hS => ?_)
      refine lv_aload_n hx hb d_Mc_go_10 rfl (lv_at hl 0 rfl) ?_
      refine rw_cVi (rest := []) X hP hS yv_Mc_isUnderWay isO_Mc (c_Mc_isUnderWay hG h) q_348 ⟨rfl, rfl, by decide, by decide⟩ rfl rfl hl.1 (Nat.le_of_ble_eq_true rfl) ⟨Nat.zero_le _, Nat.zero_le _⟩ d_Mc_go_11 (fun r11 V10 H locs h hP hS => ?_)
      refine lv_if_ne (tgt := 19) hx hb d_Mc_go_14 (by decide) (fun c13 => ?_) (fun c13 => ?_)
      · have h := h.2 c13
        refine lv_aload_n hx hb d_Mc_go_19 rfl (lv_at hl 0 rfl) ?_
        refine lv_dup hx hb d_Mc_go_20 rfl ?_
        refine gf_Mc_fuelUsed X hP q_156 d_Mc_go_21 ?_
        refine lv_iconst (v := 1) hx hb d_Mc_go_24 (by decide) ?_
        refine lv_iadd hx hb d_Mc_go_25 ?_
        refine pf_Mc_fuelUsed X hP hS q_156 d_Mc_go_26 (fun V14 H locs eV14 hP hS => ?_)
        have h := h V14 eV14
        refine lv_aload_n hx hb d_Mc_go_29 rfl (lv_at hl 0 rfl) ?_
        refine rw_cVi (rest := []) X hP hS yv_Mc_step isO_Mc (c_Mc_step hG h) q_349 ⟨rfl, rfl, by decide, by decide⟩ rfl rfl hl.1 (Nat.le_of_ble_eq_true rfl) ⟨Nat.zero_le _, Nat.zero_le _⟩ d_Mc_go_30 (fun r16 V15 H locs h hP hS => ?_)
        refine lv_istore_n (lv' := [(3, .int r16), (0, .ref (ga g 17)), (2, .int x2)]) hx hb d_Mc_go_33 rfl hl (by decide) rfl (fun ls hl => ?_)
        refine lv_iload_n hx hb d_Mc_go_34 rfl (lv_at hl 0 rfl) ?_
        refine lv_iconst (v := 3) hx hb d_Mc_go_35 (by decide) ?_
        refine lv_icmp_ne (tgt := 41) hx hb d_Mc_go_36 (by decide) (fun c18 => ?_) (fun c18 => ?_)
        · have h := h.2 c18
          refine lv_iload_n hx hb d_Mc_go_41 rfl (lv_at hl 0 rfl) ?_
          refine lv_if_eq (tgt := 51) hx hb d_Mc_go_42 (by decide) (fun c19 => ?_) (fun c19 => ?_)
          · have h := h.1 c19
            obtain ⟨y20, ey20⟩ : ∃ z : Int32, z = x2 + (-1) := ⟨_, rfl⟩
            have h := h y20 ey20
            refine lv_iinc (v := y20) (lv' := [(2, .int y20), (3, .int r16), (0, .ref (ga g 17))]) hx hb d_Mc_go_51 hl (k := 2) rfl (by rw [ey20]; rfl) (by decide) rfl (fun ls hl => ?_)
            refine lv_goto (tgt := 2) hx hb d_Mc_go_54 (by decide) ?_
            exact ih V15 y20 h _ _ _ hP hS (lv_sub hl [2, 0] rfl)
          · have h := h.2 c19
            refine lv_aload_n hx hb d_Mc_go_45 rfl (lv_at hl 1 rfl) ?_
            refine rw_cVv (rest := []) X hP hS yv_Mc_endTrapped isO_Mc (c_Mc_endTrapped hG h) q_402 ⟨rfl, rfl, by decide, by decide⟩ rfl rfl hl.1 (Nat.le_of_ble_eq_true rfl) ⟨Nat.zero_le _, Nat.zero_le _⟩ d_Mc_go_46 (fun V21 H locs h hP hS => ?_)
            refine lv_iload_n hx hb d_Mc_go_49 rfl (lv_at hl 0 rfl) ?_
            exact rw_iret X hP hS h d_Mc_go_50
        · have h := h.1 c18
          refine lv_iconst (v := 3) hx hb d_Mc_go_39 (by decide) ?_
          exact rw_iret X hP hS h d_Mc_go_40
      · have h := h.1 c13
        refine lv_iconst (v := 1) hx hb d_Mc_go_17 (by decide) ?_
        exact rw_iret X hP hS h d_Mc_go_18
def p_Mc_go (k : Int32 → vS → Prop) (V : vS) (x1 : Int32) : Prop := ∃ n, p_Mc_go_b2 k n V x1
set_option maxRecDepth 100000 in
set_option maxHeartbeats 4000000 in
theorem c_Mc_go {l : Launch} {g : gT} (hG : gd g) {V : vS} {x1 : Int32} {k : Int32 → vS → Prop} (h : p_Mc_go k V x1) : Ci g l y_Mc_go prog_6_method_8_code 4 (some .int) rm_Mc_go [.ref (ga g 17), .int x1] V k := by
  unfold Ci
  refine Met.ofW (cc := prog_6_method_8_code) (maxL := 4) (ret := some .int) (by decide) rfl ?_
  intro p e s m args below meth c s₁ B hml hv
  obtain ⟨rfl, hP, hK, hZ⟩ := hv
  have X : cx g p s m meth c [.ref (ga g 17), .int x1].toArray R_Mc prog_6_method_8_code 4 (some .int) := ⟨B.exec, B.bytes, B.returns, hml, findClass_of_methodNamed B.named, fun w hw => atoms_spec (ws := Cond.code y_Mc_go prog_6_method_8_code 4 (some .int) :: TBL) B.pre w (List.mem_cons_of_mem _ hw), B.notSynchronized, hK, hZ, hG⟩
  have hl := lv_entry [.ref (ga g 17), .int x1] (n := 4) (Nat.le_of_ble_eq_true rfl)
  rw [lg_entry_eq]
  generalize (lg_sl [.ref (ga g 17), .int x1] ++ List.replicate (4 - (lg_sl [.ref (ga g 17), .int x1]).length) Slot.unset).toArray = ls at hl ⊢
  have hl : lv_has ls 4 [(0, .ref (ga g 17)), (1, .int x1)] := hl
  have hS : va_S (gA g) s.heap s.heap [] := va_S.rf
  obtain ⟨hx, hb, -, -, hown, hts, -, -, hz, -⟩ := id X
  show W p l e rm_Mc_go s m _ below meth c s.heap [] 0 0 (MQ below (va_Qi k (Bw g) (gA g)) _ s 0 0 (gA g)) (F0 m 0 ls [])
  unfold p_Mc_go at h
  refine lv_iload_n hx hb d_Mc_go_0 rfl (lv_at hl 1 rfl) ?_
  refine lv_istore_n (lv' := [(2, .int x1), (0, .ref (ga g 17)), (1, .int x1)]) hx hb d_Mc_go_1 rfl hl (by decide) rfl (fun ls hl => ?_)
  obtain ⟨n, h⟩ := h
  exact t_Mc_go_b2 X n V x1 h _ _ _ hP hS (lv_sub hl [1, 0] rfl)
theorem yv_Mc_go : yV R_Mc y_Mc_go prog_6_method_8_code 4 (some .int) 1 := ⟨by decide +kernel, q_333, q_334, q_5, q_335⟩
/-! Mc.begin -/
theorem d_Mc_begin_0 : decode prog_6_method_6_code 0 = .ok (.aload_n 0, 1) := by decide +kernel
theorem d_Mc_begin_1 : decode prog_6_method_6_code 1 = .ok (.invokevirtual 64, 3) := by decide +kernel
theorem d_Mc_begin_4 : decode prog_6_method_6_code 4 = .ok (.aload_n 0, 1) := by decide +kernel
theorem d_Mc_begin_5 : decode prog_6_method_6_code 5 = .ok (.iload_n 1, 1) := by decide +kernel
theorem d_Mc_begin_6 : decode prog_6_method_6_code 6 = .ok (.invokevirtual 67, 3) := by decide +kernel
theorem d_Mc_begin_9 : decode prog_6_method_6_code 9 = .ok (.astore 4, 2) := by decide +kernel
theorem d_Mc_begin_11 : decode prog_6_method_6_code 11 = .ok (.aload_n 0, 1) := by decide +kernel
theorem d_Mc_begin_12 : decode prog_6_method_6_code 12 = .ok (.getfield 56, 3) := by decide +kernel
theorem d_Mc_begin_15 : decode prog_6_method_6_code 15 = .ok (.getfield 71, 3) := by decide +kernel
theorem d_Mc_begin_18 : decode prog_6_method_6_code 18 = .ok (.iload_n 1, 1) := by decide +kernel
theorem d_Mc_begin_19 : decode prog_6_method_6_code 19 = .ok (.aaload, 1) := by decide +kernel
theorem d_Mc_begin_20 : decode prog_6_method_6_code 20 = .ok (.getfield 77, 3) := by decide +kernel
theorem d_Mc_begin_23 : decode prog_6_method_6_code 23 = .ok (.istore 5, 2) := by decide +kernel
theorem d_Mc_begin_25 : decode prog_6_method_6_code 25 = .ok (.iload 5, 2) := by decide +kernel
theorem d_Mc_begin_27 : decode prog_6_method_6_code 27 = .ok (.ifCond .le 11, 3) := by decide +kernel
theorem d_Mc_begin_30 : decode prog_6_method_6_code 30 = .ok (.aload 4, 2) := by decide +kernel
theorem d_Mc_begin_32 : decode prog_6_method_6_code 32 = .ok (.getfield 82, 3) := by decide +kernel
theorem d_Mc_begin_35 : decode prog_6_method_6_code 35 = .ok (.iconst 0, 1) := by decide +kernel
theorem d_Mc_begin_36 : decode prog_6_method_6_code 36 = .ok (.iload_n 2, 1) := by decide +kernel
theorem d_Mc_begin_37 : decode prog_6_method_6_code 37 = .ok (.iastore, 1) := by decide +kernel
theorem d_Mc_begin_38 : decode prog_6_method_6_code 38 = .ok (.iload 5, 2) := by decide +kernel
theorem d_Mc_begin_40 : decode prog_6_method_6_code 40 = .ok (.iconst 1, 1) := by decide +kernel
theorem d_Mc_begin_41 : decode prog_6_method_6_code 41 = .ok (.if_icmp .le 11, 3) := by decide +kernel
theorem d_Mc_begin_44 : decode prog_6_method_6_code 44 = .ok (.aload 4, 2) := by decide +kernel
theorem d_Mc_begin_46 : decode prog_6_method_6_code 46 = .ok (.getfield 82, 3) := by decide +kernel
theorem d_Mc_begin_49 : decode prog_6_method_6_code 49 = .ok (.iconst 1, 1) := by decide +kernel
theorem d_Mc_begin_50 : decode prog_6_method_6_code 50 = .ok (.iload_n 3, 1) := by decide +kernel
theorem d_Mc_begin_51 : decode prog_6_method_6_code 51 = .ok (.iastore, 1) := by decide +kernel
theorem d_Mc_begin_52 : decode prog_6_method_6_code 52 = .ok (.return_, 1) := by decide +kernel
abbrev rm_Mc_begin : Room := { frames := 2, cells := 0, slots := 0, locals := 44 }
def p_Mc_begin_b52 (k : vS → Prop) (V : vS) : Prop := k V
set_option maxRecDepth 100000 in
set_option maxHeartbeats 4000000 in
theorem t_Mc_begin_b52 {k : vS → Prop} (X : cx g p s m meth c args R_Mc prog_6_method_6_code 6 (none)) {V : vS} (h : p_Mc_begin_b52 k V) (hP : va_P g.1 vcl (cw g V) H) (hS : va_S (gA g) s.heap H locs) (hl : lv_has ls 6 []) : W p l e rm_Mc_begin s m args below meth c H locs 0 0 (MQ below (va_Qv k (Bw g) (gA g)) args s 0 0 (gA g)) (F0 m 52 ls []) := by
  obtain ⟨hx, hb, -, -, hown, hts, -, -, hz, hG⟩ := id X
  unfold p_Mc_begin_b52 at h
  exact rw_vret X hP hS h d_Mc_begin_52
def p_Mc_begin_b38 (k : vS → Prop) (V : vS) (x3 : Int32) (f4 : Nat) (x5 : Int32) : Prop := (x5 ≤ 1 → (p_Mc_begin_b52 k V)) ∧ (¬ x5 ≤ 1 → (vp_in 1 5 ∧ ∀ V3 : vS, V3 = sv V (f4 + 6) (nt 1) x3 → (p_Mc_begin_b52 k V3)))
set_option maxRecDepth 100000 in
set_option maxHeartbeats 4000000 in
theorem t_Mc_begin_b38 {k : vS → Prop} (X : cx g p s m meth c args R_Mc prog_6_method_6_code 6 (none)) {V : vS} {x3 : Int32} {f4 : Nat} {x5 : Int32} (hf4 : 19 ≤ f4 ∧ f4 < 25) (h : p_Mc_begin_b38 k V x3 f4 x5) (hP : va_P g.1 vcl (cw g V) H) (hS : va_S (gA g) s.heap H locs) (hl : lv_has ls 6 [(3, .int x3), (4, .ref (ga g f4)), (5, .int x5)]) : W p l e rm_Mc_begin s m args below meth c H locs 0 0 (MQ below (va_Qv k (Bw g) (gA g)) args s 0 0 (gA g)) (F0 m 38 ls []) := by
  obtain ⟨hx, hb, -, -, hown, hts, -, -, hz, hG⟩ := id X
  unfold p_Mc_begin_b38 at h
  refine lv_iload hx hb d_Mc_begin_38 (lv_at hl 2 rfl) ?_
  refine lv_iconst (v := 1) hx hb d_Mc_begin_40 (by decide) ?_
  refine lv_icmp_le (tgt := 52) hx hb d_Mc_begin_41 (by decide) (fun c1 => ?_) (fun c1 => ?_)
  · have h := h.1 c1
    exact t_Mc_begin_b52 X h hP hS (lv_sub hl [] rfl)
  · have h := h.2 c1
    refine lv_aload hx hb d_Mc_begin_44 (lv_at hl 1 rfl) ?_
    refine gf_Fr_locals X hP hf4 q_126 d_Mc_begin_46 ?_
    refine lv_iconst (v := 1) hx hb d_Mc_begin_49 (by decide) ?_
    refine lv_iload_n hx hb d_Mc_begin_50 rfl (lv_at hl 0 rfl) ?_
    obtain ⟨hi2, h⟩ := h
    refine rw_iast X hP hS (isI_loc hf4) hi2 d_Mc_begin_51 (fun V3 H locs eV3 hP hS => ?_)
    have h := h V3 eV3
    exact t_Mc_begin_b52 X h hP hS (lv_sub hl [] rfl)
def p_Mc_begin (k : vS → Prop) (V : vS) (x1 : Int32) (x2 : Int32) (x3 : Int32) : Prop := p_Mc_dropRun (fun V1 => p_Mc_enter (fun r4 V3 => vp_in x1 4 ∧ (∀ y7 : Int32, y7 = V3.1 (3 + nt x1) 3 → ((y7 ≤ 0 → (p_Mc_begin_b38 k V3 x3 r4 y7)) ∧ (¬ y7 ≤ 0 → (vp_in 0 5 ∧ ∀ V10 : vS, V10 = sv V3 (r4 + 6) (nt 0) x2 → (p_Mc_begin_b38 k V10 x3 r4 y7)))))) V1 x1) V
set_option maxRecDepth 100000 in
set_option maxHeartbeats 4000000 in
theorem c_Mc_begin {l : Launch} {g : gT} (hG : gd g) {V : vS} {x1 : Int32} {x2 : Int32} {x3 : Int32} {k : vS → Prop} (h : p_Mc_begin k V x1 x2 x3) : Cv g l y_Mc_begin prog_6_method_6_code 6 (none) rm_Mc_begin [.ref (ga g 17), .int x1, .int x2, .int x3] V k := by
  unfold Cv
  refine Met.ofW (cc := prog_6_method_6_code) (maxL := 6) (ret := none) (by decide) rfl ?_
  intro p e s m args below meth c s₁ B hml hv
  obtain ⟨rfl, hP, hK, hZ⟩ := hv
  have X : cx g p s m meth c [.ref (ga g 17), .int x1, .int x2, .int x3].toArray R_Mc prog_6_method_6_code 6 (none) := ⟨B.exec, B.bytes, B.returns, hml, findClass_of_methodNamed B.named, fun w hw => atoms_spec (ws := Cond.code y_Mc_begin prog_6_method_6_code 6 (none) :: TBL) B.pre w (List.mem_cons_of_mem _ hw), B.notSynchronized, hK, hZ, hG⟩
  have hl := lv_entry [.ref (ga g 17), .int x1, .int x2, .int x3] (n := 6) (Nat.le_of_ble_eq_true rfl)
  rw [lg_entry_eq]
  generalize (lg_sl [.ref (ga g 17), .int x1, .int x2, .int x3] ++ List.replicate (6 - (lg_sl [.ref (ga g 17), .int x1, .int x2, .int x3]).length) Slot.unset).toArray = ls at hl ⊢
  have hl : lv_has ls 6 [(0, .ref (ga g 17)), (1, .int x1), (2, .int x2), (3, .int x3)] := hl
  have hS : va_S (gA g) s.heap s.heap [] := va_S.rf
  obtain ⟨hx, hb, -, -, hown, hts, -, -, hz, -⟩ := id X
  show W p l e rm_Mc_begin s m _ below meth c s.heap [] 0 0 (MQ below (va_Qv k (Bw g) (gA g)) _ s 0 0 (gA g)) (F0 m 0 ls [])
  unfold p_Mc_begin at h
  refine lv_aload_n hx hb d_Mc_begin_0 rfl (lv_at hl 0 rfl) ?_
  refine rw_cVv (rest := []) X hP hS yv_Mc_dropRun isO_Mc (c_Mc_dropRun hG h) q_311 ⟨rfl, rfl, by decide, by decide⟩ rfl rfl hl.1 (Nat.le_of_ble_eq_true rfl) ⟨Nat.zero_le _, Nat.zero_le _⟩ d_Mc_begin_1 (fun V1 H locs h hP hS => ?_)
  refine lv_aload_n hx hb d_Mc_begin_4 rfl (lv_at hl 0 rfl) ?_
  refine lv_iload_n hx hb d_Mc_begin_5 rfl (lv_at hl 1 rfl) ?_
  refine rw_cVr (rest := []) X hP hS yv_Mc_enter isO_Mc (c_Mc_enter hG h) q_312 ⟨rfl, rfl, by decide, by decide⟩ rfl rfl hl.1 (Nat.le_of_ble_eq_true rfl) ⟨Nat.zero_le _, Nat.zero_le _⟩ d_Mc_begin_6 (fun r4 V3 H locs hr5 h hP hS => ?_)
  refine lv_astore (lv' := [(4, .ref (ga g r4)), (0, .ref (ga g 17)), (1, .int x1), (2, .int x2), (3, .int x3)]) hx hb d_Mc_begin_9 hl (by decide) rfl (fun ls hl => ?_)
  refine lv_aload_n hx hb d_Mc_begin_11 rfl (lv_at hl 1 rfl) ?_
  refine gf_Mc_program X hP q_141 d_Mc_begin_12 ?_
  refine gf_Pg_functions X hP q_68 d_Mc_begin_15 ?_
  refine lv_iload_n hx hb d_Mc_begin_18 rfl (lv_at hl 2 rfl) ?_
  obtain ⟨hi6, h⟩ := h
  refine rw_aaldF X hP hi6 d_Mc_begin_19 ?_
  refine gf_Fn_takes X hP (fn_of hi6) q_42 d_Mc_begin_20 ?_
  refine lv_topi (fun y7 ey7 => ?_)
  have h := h y7 ey7
  refine lv_istore (lv' := [(5, .int y7), (4, .ref (ga g r4)), (0, .ref (ga g 17)), (1, .int x1), (2, .int x2), (3, .int x3)]) hx hb d_Mc_begin_23 hl (by decide) rfl (fun ls hl => ?_)
  refine lv_iload hx hb d_Mc_begin_25 (lv_at hl 0 rfl) ?_
  refine lv_if_le (tgt := 38) hx hb d_Mc_begin_27 (by decide) (fun c8 => ?_) (fun c8 => ?_)
  · have h := h.1 c8
    exact t_Mc_begin_b38 X hr5 h hP hS (lv_sub hl [5, 1, 0] rfl)
  · have h := h.2 c8
    refine lv_aload hx hb d_Mc_begin_30 (lv_at hl 1 rfl) ?_
    refine gf_Fr_locals X hP hr5 q_126 d_Mc_begin_32 ?_
    refine lv_iconst (v := 0) hx hb d_Mc_begin_35 (by decide) ?_
    refine lv_iload_n hx hb d_Mc_begin_36 rfl (lv_at hl 4 rfl) ?_
    obtain ⟨hi9, h⟩ := h
    refine rw_iast X hP hS (isI_loc hr5) hi9 d_Mc_begin_37 (fun V10 H locs eV10 hP hS => ?_)
    have h := h V10 eV10
    exact t_Mc_begin_b38 X hr5 h hP hS (lv_sub hl [5, 1, 0] rfl)
theorem yv_Mc_begin : yV R_Mc y_Mc_begin prog_6_method_6_code 6 (none) 3 := ⟨by decide +kernel, q_308, q_309, q_5, q_310⟩
/-! Mc.takeAnswer -/
theorem d_Mc_takeAnswer_0 : decode prog_6_method_7_code 0 = .ok (.aload_n 0, 1) := by decide +kernel
theorem d_Mc_takeAnswer_1 : decode prog_6_method_7_code 1 = .ok (.invokevirtual 61, 3) := by decide +kernel
theorem d_Mc_takeAnswer_4 : decode prog_6_method_7_code 4 = .ok (.aload_n 0, 1) := by decide +kernel
theorem d_Mc_takeAnswer_5 : decode prog_6_method_7_code 5 = .ok (.iload_n 1, 1) := by decide +kernel
theorem d_Mc_takeAnswer_6 : decode prog_6_method_7_code 6 = .ok (.invokevirtual 85, 3) := by decide +kernel
theorem d_Mc_takeAnswer_9 : decode prog_6_method_7_code 9 = .ok (.pop, 1) := by decide +kernel
theorem d_Mc_takeAnswer_10 : decode prog_6_method_7_code 10 = .ok (.return_, 1) := by decide +kernel
abbrev rm_Mc_takeAnswer : Room := { frames := 1, cells := 0, slots := 0, locals := 21 }
def p_Mc_takeAnswer (k : vS → Prop) (V : vS) (x1 : Int32) : Prop := p_Mc_stopWaiting (fun V1 => p_Mc_put (fun r4 V3 => k V3) V1 x1) V
set_option maxRecDepth 100000 in
set_option maxHeartbeats 4000000 in
theorem c_Mc_takeAnswer {l : Launch} {g : gT} (hG : gd g) {V : vS} {x1 : Int32} {k : vS → Prop} (h : p_Mc_takeAnswer k V x1) : Cv g l y_Mc_takeAnswer prog_6_method_7_code 2 (none) rm_Mc_takeAnswer [.ref (ga g 17), .int x1] V k := by
  unfold Cv
  refine Met.ofW (cc := prog_6_method_7_code) (maxL := 2) (ret := none) (by decide) rfl ?_
  intro p e s m args below meth c s₁ B hml hv
  obtain ⟨rfl, hP, hK, hZ⟩ := hv
  have X : cx g p s m meth c [.ref (ga g 17), .int x1].toArray R_Mc prog_6_method_7_code 2 (none) := ⟨B.exec, B.bytes, B.returns, hml, findClass_of_methodNamed B.named, fun w hw => atoms_spec (ws := Cond.code y_Mc_takeAnswer prog_6_method_7_code 2 (none) :: TBL) B.pre w (List.mem_cons_of_mem _ hw), B.notSynchronized, hK, hZ, hG⟩
  have hl := lv_entry [.ref (ga g 17), .int x1] (n := 2) (Nat.le_of_ble_eq_true rfl)
  rw [lg_entry_eq]
  generalize (lg_sl [.ref (ga g 17), .int x1] ++ List.replicate (2 - (lg_sl [.ref (ga g 17), .int x1]).length) Slot.unset).toArray = ls at hl ⊢
  have hl : lv_has ls 2 [(0, .ref (ga g 17)), (1, .int x1)] := hl
  have hS : va_S (gA g) s.heap s.heap [] := va_S.rf
  obtain ⟨hx, hb, -, -, hown, hts, -, -, hz, -⟩ := id X
  show W p l e rm_Mc_takeAnswer s m _ below meth c s.heap [] 0 0 (MQ below (va_Qv k (Bw g) (gA g)) _ s 0 0 (gA g)) (F0 m 0 ls [])
  unfold p_Mc_takeAnswer at h
  refine lv_aload_n hx hb d_Mc_takeAnswer_0 rfl (lv_at hl 0 rfl) ?_
  refine rw_cVv (rest := []) X hP hS yv_Mc_stopWaiting isO_Mc (c_Mc_stopWaiting hG h) q_219 ⟨rfl, rfl, by decide, by decide⟩ rfl rfl hl.1 (Nat.le_of_ble_eq_true rfl) ⟨Nat.zero_le _, Nat.zero_le _⟩ d_Mc_takeAnswer_1 (fun V1 H locs h hP hS => ?_)
  refine lv_aload_n hx hb d_Mc_takeAnswer_4 rfl (lv_at hl 0 rfl) ?_
  refine lv_iload_n hx hb d_Mc_takeAnswer_5 rfl (lv_at hl 1 rfl) ?_
  refine rw_cVi (rest := []) X hP hS yv_Mc_put isO_Mc (c_Mc_put hG h) q_353 ⟨rfl, rfl, by decide, by decide⟩ rfl rfl hl.1 (Nat.le_of_ble_eq_true rfl) ⟨Nat.zero_le _, Nat.zero_le _⟩ d_Mc_takeAnswer_6 (fun r4 V3 H locs h hP hS => ?_)
  refine lv_pop hx hb d_Mc_takeAnswer_9 rfl ?_
  exact rw_vret X hP hS h d_Mc_takeAnswer_10
theorem yv_Mc_takeAnswer : yV R_Mc y_Mc_takeAnswer prog_6_method_7_code 2 (none) 1 := ⟨by decide +kernel, q_411, q_412, q_5, q_413⟩
end MM
