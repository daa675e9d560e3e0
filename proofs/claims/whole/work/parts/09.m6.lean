section MM
variable {p : Program} {l : Launch} {e : Env} {s : State} {m : MethodId} {args : Array Value} {below : List Frame} {meth : Method} {c : Code} {H : Heap} {locs : List Loc}
variable {g : gT} {ls : Array Slot}
/-! Mo.enter -/
theorem d_Mo_enter_0 : decode prog_10_method_14_code 0 = .ok (.aload_n 0, 1) := by decide +kernel
theorem d_Mo_enter_1 : decode prog_10_method_14_code 1 = .ok (.getfield 34, 3) := by decide +kernel
theorem d_Mo_enter_4 : decode prog_10_method_14_code 4 = .ok (.aload_n 0, 1) := by decide +kernel
theorem d_Mo_enter_5 : decode prog_10_method_14_code 5 = .ok (.getfield 61, 3) := by decide +kernel
theorem d_Mo_enter_8 : decode prog_10_method_14_code 8 = .ok (.iload_n 1, 1) := by decide +kernel
theorem d_Mo_enter_9 : decode prog_10_method_14_code 9 = .ok (.iastore, 1) := by decide +kernel
theorem d_Mo_enter_10 : decode prog_10_method_14_code 10 = .ok (.aload_n 0, 1) := by decide +kernel
theorem d_Mo_enter_11 : decode prog_10_method_14_code 11 = .ok (.getfield 37, 3) := by decide +kernel
theorem d_Mo_enter_14 : decode prog_10_method_14_code 14 = .ok (.aload_n 0, 1) := by decide +kernel
theorem d_Mo_enter_15 : decode prog_10_method_14_code 15 = .ok (.getfield 61, 3) := by decide +kernel
theorem d_Mo_enter_18 : decode prog_10_method_14_code 18 = .ok (.iconst 0, 1) := by decide +kernel
theorem d_Mo_enter_19 : decode prog_10_method_14_code 19 = .ok (.iastore, 1) := by decide +kernel
theorem d_Mo_enter_20 : decode prog_10_method_14_code 20 = .ok (.iconst 0, 1) := by decide +kernel
theorem d_Mo_enter_21 : decode prog_10_method_14_code 21 = .ok (.istore_n 2, 1) := by decide +kernel
theorem d_Mo_enter_22 : decode prog_10_method_14_code 22 = .ok (.iload_n 2, 1) := by decide +kernel
theorem d_Mo_enter_23 : decode prog_10_method_14_code 23 = .ok (.iconst 5, 1) := by decide +kernel
theorem d_Mo_enter_24 : decode prog_10_method_14_code 24 = .ok (.if_icmp .ge 23, 3) := by decide +kernel
theorem d_Mo_enter_27 : decode prog_10_method_14_code 27 = .ok (.aload_n 0, 1) := by decide +kernel
theorem d_Mo_enter_28 : decode prog_10_method_14_code 28 = .ok (.getfield 40, 3) := by decide +kernel
theorem d_Mo_enter_31 : decode prog_10_method_14_code 31 = .ok (.aload_n 0, 1) := by decide +kernel
theorem d_Mo_enter_32 : decode prog_10_method_14_code 32 = .ok (.getfield 61, 3) := by decide +kernel
theorem d_Mo_enter_35 : decode prog_10_method_14_code 35 = .ok (.iconst 5, 1) := by decide +kernel
theorem d_Mo_enter_36 : decode prog_10_method_14_code 36 = .ok (.imul, 1) := by decide +kernel
theorem d_Mo_enter_37 : decode prog_10_method_14_code 37 = .ok (.iload_n 2, 1) := by decide +kernel
theorem d_Mo_enter_38 : decode prog_10_method_14_code 38 = .ok (.iadd, 1) := by decide +kernel
theorem d_Mo_enter_39 : decode prog_10_method_14_code 39 = .ok (.iconst 0, 1) := by decide +kernel
theorem d_Mo_enter_40 : decode prog_10_method_14_code 40 = .ok (.iastore, 1) := by decide +kernel
theorem d_Mo_enter_41 : decode prog_10_method_14_code 41 = .ok (.iinc 2 1, 3) := by decide +kernel
theorem d_Mo_enter_44 : decode prog_10_method_14_code 44 = .ok (.goto (-22), 3) := by decide +kernel
theorem d_Mo_enter_47 : decode prog_10_method_14_code 47 = .ok (.aload_n 0, 1) := by decide +kernel
theorem d_Mo_enter_48 : decode prog_10_method_14_code 48 = .ok (.dup, 1) := by decide +kernel
theorem d_Mo_enter_49 : decode prog_10_method_14_code 49 = .ok (.getfield 61, 3) := by decide +kernel
theorem d_Mo_enter_52 : decode prog_10_method_14_code 52 = .ok (.iconst 1, 1) := by decide +kernel
theorem d_Mo_enter_53 : decode prog_10_method_14_code 53 = .ok (.iadd, 1) := by decide +kernel
theorem d_Mo_enter_54 : decode prog_10_method_14_code 54 = .ok (.putfield 61, 3) := by decide +kernel
theorem d_Mo_enter_57 : decode prog_10_method_14_code 57 = .ok (.return_, 1) := by decide +kernel
abbrev rm_Mo_enter : Room := { frames := 0, cells := 0, slots := 0, locals := 0 }
def p_Mo_enter_b22 (k : vS → Prop) : Nat → vS → Int32 → Prop
  | 0, _, _ => False
  | n + 1, V, x2 => (5 ≤ x2 → (∀ V2 : vS, V2 = sv V 34 18 ((V.1 34 18) + 1) → (k V2))) ∧ (¬ 5 ≤ x2 → (vp_in (((V.1 34 18) * 5) + x2) 35 ∧ ∀ V4 : vS, V4 = sv V 45 (nt (((V.1 34 18) * 5) + x2)) 0 → (∀ y5 : Int32, y5 = x2 + 1 → ((p_Mo_enter_b22 k n) V4 y5))))
set_option maxRecDepth 100000 in
set_option maxHeartbeats 4000000 in
theorem t_Mo_enter_b22 {k : vS → Prop} (X : cx g p s m meth c args R_Mo prog_10_method_14_code 3 (none)) : ∀ (n : Nat) (V : vS) (x2 : Int32), p_Mo_enter_b22 k n V x2 → ∀ (H : Heap) (locs : List Loc) (ls : Array Slot), va_P g.1 vcl (cw g V) H → va_S (gA g) s.heap H locs → lv_has ls 3 [(0, .ref (ga g 34)), (2, .int x2)] → W p l e rm_Mo_enter s m args below meth c H locs 0 0 (MQ below (va_Qv k (Bw g) (gA g)) args s 0 0 (gA g)) (F0 m 22 ls []) := by
  obtain ⟨hx, hb, -, -, hown, hts, -, -, hz, hG⟩ := id X
  intro n
  induction n with
  | zero =>
    intro V x2 h
    exact h.elim
  | succ n ih =>
    intro V x2 h H locs ls hP hS hl
    unfold p_Mo_enter_b22 at h
    refine lv_iload_n hx hb d_Mo_enter_22 rfl (lv_at hl 1 rfl) ?_
    refine lv_iconst (v := 5) hx hb d_Mo_enter_23 (by decide) ?_
    refine lv_icmp_ge (tgt := 47) hx hb d_Mo_enter_24 (by decide) (fun c1 => ?_) (fun c1 => ?_)
    · have h := h.1 c1
      refine lv_aload_n hx hb d_Mo_enter_47 rfl (lv_at hl 0 rfl) ?_
      refine lv_dup hx hb d_Mo_enter_48 rfl ?_
      refine gf_Mo_depth X hP q_464 d_Mo_enter_49 ?_
      refine lv_iconst (v := 1) hx hb d_Mo_enter_52 (by decide) ?_
      refine lv_iadd hx hb d_Mo_enter_53 ?_
      refine pf_Mo_depth X hP hS q_464 d_Mo_enter_54 (fun V2 H locs eV2 hP hS => ?_)
      have h := h V2 eV2
      exact rw_vret X hP hS h d_Mo_enter_57
    · have h := h.2 c1
      refine lv_aload_n hx hb d_Mo_enter_27 rfl (lv_at hl 0 rfl) ?_
      refine gf_Mo_locals X hP q_462 d_Mo_enter_28 ?_
      refine lv_aload_n hx hb d_Mo_enter_31 rfl (lv_at hl 0 rfl) ?_
      refine gf_Mo_depth X hP q_464 d_Mo_enter_32 ?_
      refine lv_iconst (v := 5) hx hb d_Mo_enter_35 (by decide) ?_
      refine lv_imul hx hb d_Mo_enter_36 ?_
      refine lv_iload_n hx hb d_Mo_enter_37 rfl (lv_at hl 1 rfl) ?_
      refine lv_iadd hx hb d_Mo_enter_38 ?_
      refine lv_iconst (v := 0) hx hb d_Mo_enter_39 (by decide) ?_
      obtain ⟨hi3, h⟩ := h
      refine rw_iast X hP hS isI_45 hi3 d_Mo_enter_40 (fun V4 H locs eV4 hP hS => ?_)
      have h := h V4 eV4
      obtain ⟨y5, ey5⟩ : ∃ z : Int32, z = x2 + 1 := ⟨_, rfl⟩
      have h := h y5 ey5
      refine lv_iinc (v := y5) (lv' := [(2, .int y5), (0, .ref (ga g 34))]) hx hb d_Mo_enter_41 hl (k := 1) rfl (by rw [ey5]; rfl) (by decide) rfl (fun ls hl => ?_)
      refine lv_goto (tgt := 22) hx hb d_Mo_enter_44 (by decide) ?_
      exact ih V4 y5 h _ _ _ hP hS (lv_sub hl [1, 0] rfl)
def p_Mo_enter (k : vS → Prop) (V : vS) (x1 : Int32) : Prop := vp_in (V.1 34 18) 7 ∧ ∀ V2 : vS, V2 = sv V 43 (nt (V.1 34 18)) x1 → (vp_in (V2.1 34 18) 7 ∧ ∀ V4 : vS, V4 = sv V2 44 (nt (V2.1 34 18)) 0 → (∃ n, p_Mo_enter_b22 k n V4 0))
set_option maxRecDepth 100000 in
set_option maxHeartbeats 4000000 in
theorem c_Mo_enter {l : Launch} {g : gT} (hG : gd g) {V : vS} {x1 : Int32} {k : vS → Prop} (h : p_Mo_enter k V x1) : Cv g l y_Mo_enter prog_10_method_14_code 3 (none) rm_Mo_enter [.ref (ga g 34), .int x1] V k := by
  unfold Cv
  refine Met.ofW (cc := prog_10_method_14_code) (maxL := 3) (ret := none) (by decide) rfl ?_
  intro p e s m args below meth c s₁ B hml hv
  obtain ⟨rfl, hP, hK, hZ⟩ := hv
  have X : cx g p s m meth c [.ref (ga g 34), .int x1].toArray R_Mo prog_10_method_14_code 3 (none) := ⟨B.exec, B.bytes, B.returns, hml, findClass_of_methodNamed B.named, fun w hw => atoms_spec (ws := Cond.code y_Mo_enter prog_10_method_14_code 3 (none) :: TBL) B.pre w (List.mem_cons_of_mem _ hw), B.notSynchronized, hK, hZ, hG⟩
  have hl := lv_entry [.ref (ga g 34), .int x1] (n := 3) (Nat.le_of_ble_eq_true rfl)
  rw [lg_entry_eq]
  generalize (lg_sl [.ref (ga g 34), .int x1] ++ List.replicate (3 - (lg_sl [.ref (ga g 34), .int x1]).length) Slot.unset).toArray = ls at hl ⊢
  have hl : lv_has ls 3 [(0, .ref (ga g 34)), (1, .int x1)] := hl
  have hS : va_S (gA g) s.heap s.heap [] := va_S.rf
  obtain ⟨hx, hb, -, -, hown, hts, -, -, hz, -⟩ := id X
  show W p l e rm_Mo_enter s m _ below meth c s.heap [] 0 0 (MQ below (va_Qv k (Bw g) (gA g)) _ s 0 0 (gA g)) (F0 m 0 ls [])
  unfold p_Mo_enter at h
  refine lv_aload_n hx hb d_Mo_enter_0 rfl (lv_at hl 0 rfl) ?_
  refine gf_Mo_running X hP q_460 d_Mo_enter_1 ?_
  refine lv_aload_n hx hb d_Mo_enter_4 rfl (lv_at hl 0 rfl) ?_
  refine gf_Mo_depth X hP q_464 d_Mo_enter_5 ?_
  refine lv_iload_n hx hb d_Mo_enter_8 rfl (lv_at hl 1 rfl) ?_
  obtain ⟨hi1, h⟩ := h
  refine rw_iast X hP hS isI_43 hi1 d_Mo_enter_9 (fun V2 H locs eV2 hP hS => ?_)
  have h := h V2 eV2
  refine lv_aload_n hx hb d_Mo_enter_10 rfl (lv_at hl 0 rfl) ?_
  refine gf_Mo_next X hP q_461 d_Mo_enter_11 ?_
  refine lv_aload_n hx hb d_Mo_enter_14 rfl (lv_at hl 0 rfl) ?_
  refine gf_Mo_depth X hP q_464 d_Mo_enter_15 ?_
  refine lv_iconst (v := 0) hx hb d_Mo_enter_18 (by decide) ?_
  obtain ⟨hi3, h⟩ := h
  refine rw_iast X hP hS isI_44 hi3 d_Mo_enter_19 (fun V4 H locs eV4 hP hS => ?_)
  have h := h V4 eV4
  refine lv_iconst (v := 0) hx hb d_Mo_enter_20 (by decide) ?_
  refine lv_istore_n (lv' := [(2, .int 0), (0, .ref (ga g 34)), (1, .int x1)]) hx hb d_Mo_enter_21 rfl hl (by decide) rfl (fun ls hl => ?_)
  obtain ⟨n, h⟩ := h
  exact t_Mo_enter_b22 X n V4 0 h _ _ _ hP hS (lv_sub hl [1, 0] rfl)
theorem yv_Mo_enter : yV R_Mo y_Mo_enter prog_10_method_14_code 3 (none) 1 := ⟨by decide +kernel, q_591, qp_31, q_7, q_592⟩
/-! Mo.start -/
theorem d_Mo_start_0 : decode prog_10_method_15_code 0 = .ok (.aload_n 0, 1) := by decide +kernel
theorem d_Mo_start_1 : decode prog_10_method_15_code 1 = .ok (.getfield 57, 3) := by decide +kernel
theorem d_Mo_start_4 : decode prog_10_method_15_code 4 = .ok (.ifCond .ne 6, 3) := by decide +kernel
theorem d_Mo_start_7 : decode prog_10_method_15_code 7 = .ok (.bipush (-3), 2) := by decide +kernel
theorem d_Mo_start_9 : decode prog_10_method_15_code 9 = .ok (.ireturn, 1) := by decide +kernel
theorem d_Mo_start_10 : decode prog_10_method_15_code 10 = .ok (.aload_n 0, 1) := by decide +kernel
theorem d_Mo_start_11 : decode prog_10_method_15_code 11 = .ok (.iload_n 1, 1) := by decide +kernel
theorem d_Mo_start_12 : decode prog_10_method_15_code 12 = .ok (.invokevirtual 73, 3) := by decide +kernel
theorem d_Mo_start_15 : decode prog_10_method_15_code 15 = .ok (.ifCond .eq 5, 3) := by decide +kernel
theorem d_Mo_start_18 : decode prog_10_method_15_code 18 = .ok (.iconst (-1), 1) := by decide +kernel
theorem d_Mo_start_19 : decode prog_10_method_15_code 19 = .ok (.ireturn, 1) := by decide +kernel
theorem d_Mo_start_20 : decode prog_10_method_15_code 20 = .ok (.aload_n 0, 1) := by decide +kernel
theorem d_Mo_start_21 : decode prog_10_method_15_code 21 = .ok (.iconst 0, 1) := by decide +kernel
theorem d_Mo_start_22 : decode prog_10_method_15_code 22 = .ok (.putfield 61, 3) := by decide +kernel
theorem d_Mo_start_25 : decode prog_10_method_15_code 25 = .ok (.aload_n 0, 1) := by decide +kernel
theorem d_Mo_start_26 : decode prog_10_method_15_code 26 = .ok (.iconst 0, 1) := by decide +kernel
theorem d_Mo_start_27 : decode prog_10_method_15_code 27 = .ok (.putfield 64, 3) := by decide +kernel
theorem d_Mo_start_30 : decode prog_10_method_15_code 30 = .ok (.aload_n 0, 1) := by decide +kernel
theorem d_Mo_start_31 : decode prog_10_method_15_code 31 = .ok (.iconst (-1), 1) := by decide +kernel
theorem d_Mo_start_32 : decode prog_10_method_15_code 32 = .ok (.putfield 46, 3) := by decide +kernel
theorem d_Mo_start_35 : decode prog_10_method_15_code 35 = .ok (.aload_n 0, 1) := by decide +kernel
theorem d_Mo_start_36 : decode prog_10_method_15_code 36 = .ok (.iload_n 1, 1) := by decide +kernel
theorem d_Mo_start_37 : decode prog_10_method_15_code 37 = .ok (.invokevirtual 107, 3) := by decide +kernel
theorem d_Mo_start_40 : decode prog_10_method_15_code 40 = .ok (.aload_n 0, 1) := by decide +kernel
theorem d_Mo_start_41 : decode prog_10_method_15_code 41 = .ok (.getfield 7, 3) := by decide +kernel
theorem d_Mo_start_44 : decode prog_10_method_15_code 44 = .ok (.iload_n 1, 1) := by decide +kernel
theorem d_Mo_start_45 : decode prog_10_method_15_code 45 = .ok (.iaload, 1) := by decide +kernel
theorem d_Mo_start_46 : decode prog_10_method_15_code 46 = .ok (.ifCond .le 10, 3) := by decide +kernel
theorem d_Mo_start_49 : decode prog_10_method_15_code 49 = .ok (.aload_n 0, 1) := by decide +kernel
theorem d_Mo_start_50 : decode prog_10_method_15_code 50 = .ok (.getfield 40, 3) := by decide +kernel
theorem d_Mo_start_53 : decode prog_10_method_15_code 53 = .ok (.iconst 0, 1) := by decide +kernel
theorem d_Mo_start_54 : decode prog_10_method_15_code 54 = .ok (.iload_n 2, 1) := by decide +kernel
theorem d_Mo_start_55 : decode prog_10_method_15_code 55 = .ok (.iastore, 1) := by decide +kernel
theorem d_Mo_start_56 : decode prog_10_method_15_code 56 = .ok (.aload_n 0, 1) := by decide +kernel
theorem d_Mo_start_57 : decode prog_10_method_15_code 57 = .ok (.getfield 7, 3) := by decide +kernel
theorem d_Mo_start_60 : decode prog_10_method_15_code 60 = .ok (.iload_n 1, 1) := by decide +kernel
theorem d_Mo_start_61 : decode prog_10_method_15_code 61 = .ok (.iaload, 1) := by decide +kernel
theorem d_Mo_start_62 : decode prog_10_method_15_code 62 = .ok (.iconst 1, 1) := by decide +kernel
theorem d_Mo_start_63 : decode prog_10_method_15_code 63 = .ok (.if_icmp .le 10, 3) := by decide +kernel
theorem d_Mo_start_66 : decode prog_10_method_15_code 66 = .ok (.aload_n 0, 1) := by decide +kernel
theorem d_Mo_start_67 : decode prog_10_method_15_code 67 = .ok (.getfield 40, 3) := by decide +kernel
theorem d_Mo_start_70 : decode prog_10_method_15_code 70 = .ok (.iconst 1, 1) := by decide +kernel
theorem d_Mo_start_71 : decode prog_10_method_15_code 71 = .ok (.iload_n 3, 1) := by decide +kernel
theorem d_Mo_start_72 : decode prog_10_method_15_code 72 = .ok (.iastore, 1) := by decide +kernel
theorem d_Mo_start_73 : decode prog_10_method_15_code 73 = .ok (.iconst 0, 1) := by decide +kernel
theorem d_Mo_start_74 : decode prog_10_method_15_code 74 = .ok (.ireturn, 1) := by decide +kernel
abbrev rm_Mo_start : Room := { frames := 1, cells := 0, slots := 0, locals := 22 }
def p_Mo_start_b73 (k : Int32 → vS → Prop) (V : vS) : Prop := k 0 V
set_option maxRecDepth 100000 in
set_option maxHeartbeats 4000000 in
theorem t_Mo_start_b73 {k : Int32 → vS → Prop} (X : cx g p s m meth c args R_Mo prog_10_method_15_code 4 (some .int)) {V : vS} (h : p_Mo_start_b73 k V) (hP : va_P g.1 vcl (cw g V) H) (hS : va_S (gA g) s.heap H locs) (hl : lv_has ls 4 []) : W p l e rm_Mo_start s m args below meth c H locs 0 0 (MQ below (va_Qi k (Bw g) (gA g)) args s 0 0 (gA g)) (F0 m 73 ls []) := by
  obtain ⟨hx, hb, -, -, hown, hts, -, -, hz, hG⟩ := id X
  unfold p_Mo_start_b73 at h
  refine lv_iconst (v := 0) hx hb d_Mo_start_73 (by decide) ?_
  exact rw_iret X hP hS h d_Mo_start_74
def p_Mo_start_b56 (k : Int32 → vS → Prop) (V : vS) (x1 : Int32) (x3 : Int32) : Prop := vp_in x1 4 ∧ (((V.1 35 (nt x1)) ≤ 1 → (p_Mo_start_b73 k V)) ∧ (¬ (V.1 35 (nt x1)) ≤ 1 → (vp_in 1 35 ∧ ∀ V4 : vS, V4 = sv V 45 (nt 1) x3 → (p_Mo_start_b73 k V4))))
set_option maxRecDepth 100000 in
set_option maxHeartbeats 4000000 in
theorem t_Mo_start_b56 {k : Int32 → vS → Prop} (X : cx g p s m meth c args R_Mo prog_10_method_15_code 4 (some .int)) {V : vS} {x1 : Int32} {x3 : Int32} (h : p_Mo_start_b56 k V x1 x3) (hP : va_P g.1 vcl (cw g V) H) (hS : va_S (gA g) s.heap H locs) (hl : lv_has ls 4 [(0, .ref (ga g 34)), (1, .int x1), (3, .int x3)]) : W p l e rm_Mo_start s m args below meth c H locs 0 0 (MQ below (va_Qi k (Bw g) (gA g)) args s 0 0 (gA g)) (F0 m 56 ls []) := by
  obtain ⟨hx, hb, -, -, hown, hts, -, -, hz, hG⟩ := id X
  unfold p_Mo_start_b56 at h
  refine lv_aload_n hx hb d_Mo_start_56 rfl (lv_at hl 0 rfl) ?_
  refine gf_Mo_takes X hP q_446 d_Mo_start_57 ?_
  refine lv_iload_n hx hb d_Mo_start_60 rfl (lv_at hl 1 rfl) ?_
  obtain ⟨hi1, h⟩ := h
  refine rw_iald X hP isI_35 hi1 d_Mo_start_61 ?_
  refine lv_iconst (v := 1) hx hb d_Mo_start_62 (by decide) ?_
  refine lv_icmp_le (tgt := 73) hx hb d_Mo_start_63 (by decide) (fun c2 => ?_) (fun c2 => ?_)
  · have h := h.1 c2
    exact t_Mo_start_b73 X h hP hS (lv_sub hl [] rfl)
  · have h := h.2 c2
    refine lv_aload_n hx hb d_Mo_start_66 rfl (lv_at hl 0 rfl) ?_
    refine gf_Mo_locals X hP q_462 d_Mo_start_67 ?_
    refine lv_iconst (v := 1) hx hb d_Mo_start_70 (by decide) ?_
    refine lv_iload_n hx hb d_Mo_start_71 rfl (lv_at hl 2 rfl) ?_
    obtain ⟨hi3, h⟩ := h
    refine rw_iast X hP hS isI_45 hi3 d_Mo_start_72 (fun V4 H locs eV4 hP hS => ?_)
    have h := h V4 eV4
    exact t_Mo_start_b73 X h hP hS (lv_sub hl [] rfl)
def p_Mo_start (k : Int32 → vS → Prop) (V : vS) (x1 : Int32) (x2 : Int32) (x3 : Int32) : Prop := ((V.1 34 8) = 0 → (k (-3) V)) ∧ (¬ (V.1 34 8) = 0 → (p_Mo_no (fun r3 V2 => (r3 = 0 → (∀ V6 : vS, V6 = sv V2 34 18 0 → (∀ V7 : vS, V7 = sv V6 34 19 0 → (∀ V8 : vS, V8 = sv V7 34 20 (-1) → (p_Mo_enter (fun V9 => vp_in x1 4 ∧ (((V9.1 35 (nt x1)) ≤ 0 → (p_Mo_start_b56 k V9 x1 x3)) ∧ (¬ (V9.1 35 (nt x1)) ≤ 0 → (vp_in 0 35 ∧ ∀ V14 : vS, V14 = sv V9 45 (nt 0) x2 → (p_Mo_start_b56 k V14 x1 x3))))) V8 x1))))) ∧ (¬ r3 = 0 → (k (-1) V2))) V x1))
set_option maxRecDepth 100000 in
set_option maxHeartbeats 4000000 in
theorem c_Mo_start {l : Launch} {g : gT} (hG : gd g) {V : vS} {x1 : Int32} {x2 : Int32} {x3 : Int32} {k : Int32 → vS → Prop} (h : p_Mo_start k V x1 x2 x3) : Ci g l y_Mo_start prog_10_method_15_code 4 (some .int) rm_Mo_start [.ref (ga g 34), .int x1, .int x2, .int x3] V k := by
  unfold Ci
  refine Met.ofW (cc := prog_10_method_15_code) (maxL := 4) (ret := some .int) (by decide) rfl ?_
  intro p e s m args below meth c s₁ B hml hv
  obtain ⟨rfl, hP, hK, hZ⟩ := hv
  have X : cx g p s m meth c [.ref (ga g 34), .int x1, .int x2, .int x3].toArray R_Mo prog_10_method_15_code 4 (some .int) := ⟨B.exec, B.bytes, B.returns, hml, findClass_of_methodNamed B.named, fun w hw => atoms_spec (ws := Cond.code y_Mo_start prog_10_method_15_code 4 (some .int) :: TBL) B.pre w (List.mem_cons_of_mem _ hw), B.notSynchronized, hK, hZ, hG⟩
  have hl := lv_entry [.ref (ga g 34), .int x1, .int x2, .int x3] (n := 4) (Nat.le_of_ble_eq_true rfl)
  rw [lg_entry_eq]
  generalize (lg_sl [.ref (ga g 34), .int x1, .int x2, .int x3] ++ List.replicate (4 - (lg_sl [.ref (ga g 34), .int x1, .int x2, .int x3]).length) Slot.unset).toArray = ls at hl ⊢
  have hl : lv_has ls 4 [(0, .ref (ga g 34)), (1, .int x1), (2, .int x2), (3, .int x3)] := hl
  have hS : va_S (gA g) s.heap s.heap [] := va_S.rf
  obtain ⟨hx, hb, -, -, hown, hts, -, -, hz, -⟩ := id X
  show W p l e rm_Mo_start s m _ below meth c s.heap [] 0 0 (MQ below (va_Qi k (Bw g) (gA g)) _ s 0 0 (gA g)) (F0 m 0 ls [])
  unfold p_Mo_start at h
  refine lv_aload_n hx hb d_Mo_start_0 rfl (lv_at hl 0 rfl) ?_
  refine gf_Mo_checked X hP q_454 d_Mo_start_1 ?_
  refine lv_if_ne (tgt := 10) hx hb d_Mo_start_4 (by decide) (fun c1 => ?_) (fun c1 => ?_)
  · have h := h.2 c1
    refine lv_aload_n hx hb d_Mo_start_10 rfl (lv_at hl 0 rfl) ?_
    refine lv_iload_n hx hb d_Mo_start_11 rfl (lv_at hl 1 rfl) ?_
    refine rw_cVi (rest := []) X hP hS yv_Mo_no isO_Mo (c_Mo_no hG h) q_549 ⟨rfl, rfl, by decide, by decide⟩ rfl rfl hl.1 (Nat.le_of_ble_eq_true rfl) ⟨Nat.zero_le _, Nat.zero_le _⟩ d_Mo_start_12 (fun r3 V2 H locs h hP hS => ?_)
    refine lv_if_eq (tgt := 20) hx hb d_Mo_start_15 (by decide) (fun c5 => ?_) (fun c5 => ?_)
    · have h := h.1 c5
      refine lv_aload_n hx hb d_Mo_start_20 rfl (lv_at hl 0 rfl) ?_
      refine lv_iconst (v := 0) hx hb d_Mo_start_21 (by decide) ?_
      refine pf_Mo_depth X hP hS q_464 d_Mo_start_22 (fun V6 H locs eV6 hP hS => ?_)
      have h := h V6 eV6
      refine lv_aload_n hx hb d_Mo_start_25 rfl (lv_at hl 0 rfl) ?_
      refine lv_iconst (v := 0) hx hb d_Mo_start_26 (by decide) ?_
      refine pf_Mo_size X hP hS q_465 d_Mo_start_27 (fun V7 H locs eV7 hP hS => ?_)
      have h := h V7 eV7
      refine lv_aload_n hx hb d_Mo_start_30 rfl (lv_at hl 0 rfl) ?_
      refine lv_iconst (v := (-1)) hx hb d_Mo_start_31 (by decide) ?_
      refine pf_Mo_waits X hP hS q_466 d_Mo_start_32 (fun V8 H locs eV8 hP hS => ?_)
      have h := h V8 eV8
      refine lv_aload_n hx hb d_Mo_start_35 rfl (lv_at hl 0 rfl) ?_
      refine lv_iload_n hx hb d_Mo_start_36 rfl (lv_at hl 1 rfl) ?_
      refine rw_cVv (rest := []) X hP hS yv_Mo_enter isO_Mo (c_Mo_enter hG h) q_589 ⟨rfl, rfl, by decide, by decide⟩ rfl rfl hl.1 (Nat.le_of_ble_eq_true rfl) ⟨Nat.zero_le _, Nat.zero_le _⟩ d_Mo_start_37 (fun V9 H locs h hP hS => ?_)
      refine lv_aload_n hx hb d_Mo_start_40 rfl (lv_at hl 0 rfl) ?_
      refine gf_Mo_takes X hP q_446 d_Mo_start_41 ?_
      refine lv_iload_n hx hb d_Mo_start_44 rfl (lv_at hl 1 rfl) ?_
      obtain ⟨hi11, h⟩ := h
      refine rw_iald X hP isI_35 hi11 d_Mo_start_45 ?_
      refine lv_if_le (tgt := 56) hx hb d_Mo_start_46 (by decide) (fun c12 => ?_) (fun c12 => ?_)
      · have h := h.1 c12
        exact t_Mo_start_b56 X h hP hS (lv_sub hl [0, 1, 3] rfl)
      · have h := h.2 c12
        refine lv_aload_n hx hb d_Mo_start_49 rfl (lv_at hl 0 rfl) ?_
        refine gf_Mo_locals X hP q_462 d_Mo_start_50 ?_
        refine lv_iconst (v := 0) hx hb d_Mo_start_53 (by decide) ?_
        refine lv_iload_n hx hb d_Mo_start_54 rfl (lv_at hl 2 rfl) ?_
        obtain ⟨hi13, h⟩ := h
        refine rw_iast X hP hS isI_45 hi13 d_Mo_start_55 (fun V14 H locs eV14 hP hS => ?_)
        have h := h V14 eV14
        exact t_Mo_start_b56 X h hP hS (lv_sub hl [0, 1, 3] rfl)
    · have h := h.2 c5
      refine lv_iconst (v := (-1)) hx hb d_Mo_start_18 (by decide) ?_
      exact rw_iret X hP hS h d_Mo_start_19
  · have h := h.1 c1
    refine lv_bipush (v := (-3)) hx hb d_Mo_start_7 (by decide) ?_
    exact rw_iret X hP hS h d_Mo_start_9
theorem yv_Mo_start : yV R_Mo y_Mo_start prog_10_method_15_code 4 (some .int) 3 := ⟨by decide +kernel, q_586, q_587, q_7, q_588⟩
/-! Mo.push -/
theorem d_Mo_push_0 : decode prog_10_method_16_code 0 = .ok (.aload_n 0, 1) := by decide +kernel
theorem d_Mo_push_1 : decode prog_10_method_16_code 1 = .ok (.getfield 64, 3) := by decide +kernel
theorem d_Mo_push_4 : decode prog_10_method_16_code 4 = .ok (.bipush 40, 2) := by decide +kernel
theorem d_Mo_push_6 : decode prog_10_method_16_code 6 = .ok (.if_icmp .ne 10, 3) := by decide +kernel
theorem d_Mo_push_9 : decode prog_10_method_16_code 9 = .ok (.aload_n 0, 1) := by decide +kernel
theorem d_Mo_push_10 : decode prog_10_method_16_code 10 = .ok (.bipush 13, 2) := by decide +kernel
theorem d_Mo_push_12 : decode prog_10_method_16_code 12 = .ok (.putfield 111, 3) := by decide +kernel
theorem d_Mo_push_15 : decode prog_10_method_16_code 15 = .ok (.return_, 1) := by decide +kernel
theorem d_Mo_push_16 : decode prog_10_method_16_code 16 = .ok (.aload_n 0, 1) := by decide +kernel
theorem d_Mo_push_17 : decode prog_10_method_16_code 17 = .ok (.getfield 43, 3) := by decide +kernel
theorem d_Mo_push_20 : decode prog_10_method_16_code 20 = .ok (.aload_n 0, 1) := by decide +kernel
theorem d_Mo_push_21 : decode prog_10_method_16_code 21 = .ok (.getfield 64, 3) := by decide +kernel
theorem d_Mo_push_24 : decode prog_10_method_16_code 24 = .ok (.iload_n 1, 1) := by decide +kernel
theorem d_Mo_push_25 : decode prog_10_method_16_code 25 = .ok (.iastore, 1) := by decide +kernel
theorem d_Mo_push_26 : decode prog_10_method_16_code 26 = .ok (.aload_n 0, 1) := by decide +kernel
theorem d_Mo_push_27 : decode prog_10_method_16_code 27 = .ok (.dup, 1) := by decide +kernel
theorem d_Mo_push_28 : decode prog_10_method_16_code 28 = .ok (.getfield 64, 3) := by decide +kernel
theorem d_Mo_push_31 : decode prog_10_method_16_code 31 = .ok (.iconst 1, 1) := by decide +kernel
theorem d_Mo_push_32 : decode prog_10_method_16_code 32 = .ok (.iadd, 1) := by decide +kernel
theorem d_Mo_push_33 : decode prog_10_method_16_code 33 = .ok (.putfield 64, 3) := by decide +kernel
theorem d_Mo_push_36 : decode prog_10_method_16_code 36 = .ok (.return_, 1) := by decide +kernel
abbrev rm_Mo_push : Room := { frames := 0, cells := 0, slots := 0, locals := 0 }
def p_Mo_push (k : vS → Prop) (V : vS) (x1 : Int32) : Prop := ((V.1 34 19) = 40 → (∀ V5 : vS, V5 = sv V 34 22 13 → (k V5))) ∧ (¬ (V.1 34 19) = 40 → (vp_in (V.1 34 19) 42 ∧ ∀ V3 : vS, V3 = sv V 46 (nt (V.1 34 19)) x1 → (∀ V4 : vS, V4 = sv V3 34 19 ((V3.1 34 19) + 1) → (k V4))))
set_option maxRecDepth 100000 in
set_option maxHeartbeats 4000000 in
theorem c_Mo_push {l : Launch} {g : gT} (hG : gd g) {V : vS} {x1 : Int32} {k : vS → Prop} (h : p_Mo_push k V x1) : Cv g l y_Mo_push prog_10_method_16_code 2 (none) rm_Mo_push [.ref (ga g 34), .int x1] V k := by
  unfold Cv
  refine Met.ofW (cc := prog_10_method_16_code) (maxL := 2) (ret := none) (by decide) rfl ?_
  intro p e s m args below meth c s₁ B hml hv
  obtain ⟨rfl, hP, hK, hZ⟩ := hv
  have X : cx g p s m meth c [.ref (ga g 34), .int x1].toArray R_Mo prog_10_method_16_code 2 (none) := ⟨B.exec, B.bytes, B.returns, hml, findClass_of_methodNamed B.named, fun w hw => atoms_spec (ws := Cond.code y_Mo_push prog_10_method_16_code 2 (none) :: TBL) B.pre w (List.mem_cons_of_mem _ hw), B.notSynchronized, hK, hZ, hG⟩
  have hl := lv_entry [.ref (ga g 34), .int x1] (n := 2) (Nat.le_of_ble_eq_true rfl)
  rw [lg_entry_eq]
  generalize (lg_sl [.ref (ga g 34), .int x1] ++ List.replicate (2 - (lg_sl [.ref (ga g 34), .int x1]).length) Slot.unset).toArray = ls at hl ⊢
  have hl : lv_has ls 2 [(0, .ref (ga g 34)), (1, .int x1)] := hl
  have hS : va_S (gA g) s.heap s.heap [] := va_S.rf
  obtain ⟨hx, hb, -, -, hown, hts, -, -, hz, -⟩ := id X
  show W p l e rm_Mo_push s m _ below meth c s.heap [] 0 0 (MQ below (va_Qv k (Bw g) (gA g)) _ s 0 0 (gA g)) (F0 m 0 ls [])
  unfold p_Mo_push at h
  refine lv_aload_n hx hb d_Mo_push_0 rfl (lv_at hl 0 rfl) ?_
  refine gf_Mo_size X hP q_465 d_Mo_push_1 ?_
  refine lv_bipush (v := 40) hx hb d_Mo_push_4 (by decide) ?_
  refine lv_icmp_ne (tgt := 16) hx hb d_Mo_push_6 (by decide) (fun c1 => ?_) (fun c1 => ?_)
  · have h := h.2 c1
    refine lv_aload_n hx hb d_Mo_push_16 rfl (lv_at hl 0 rfl) ?_
    refine gf_Mo_stack X hP q_463 d_Mo_push_17 ?_
    refine lv_aload_n hx hb d_Mo_push_20 rfl (lv_at hl 0 rfl) ?_
    refine gf_Mo_size X hP q_465 d_Mo_push_21 ?_
    refine lv_iload_n hx hb d_Mo_push_24 rfl (lv_at hl 1 rfl) ?_
    obtain ⟨hi2, h⟩ := h
    refine rw_iast X hP hS isI_46 hi2 d_Mo_push_25 (fun V3 H locs eV3 hP hS => ?_)
    have h := h V3 eV3
    refine lv_aload_n hx hb d_Mo_push_26 rfl (lv_at hl 0 rfl) ?_
    refine lv_dup hx hb d_Mo_push_27 rfl ?_
    refine gf_Mo_size X hP q_465 d_Mo_push_28 ?_
    refine lv_iconst (v := 1) hx hb d_Mo_push_31 (by decide) ?_
    refine lv_iadd hx hb d_Mo_push_32 ?_
    refine pf_Mo_size X hP hS q_465 d_Mo_push_33 (fun V4 H locs eV4 hP hS => ?_)
    have h := h V4 eV4
    exact rw_vret X hP hS h d_Mo_push_36
  · have h := h.1 c1
    refine lv_aload_n hx hb d_Mo_push_9 rfl (lv_at hl 0 rfl) ?_
    refine lv_bipush (v := 13) hx hb d_Mo_push_10 (by decide) ?_
    refine pf_Mo_trap X hP hS q_468 d_Mo_push_12 (fun V5 H locs eV5 hP hS => ?_)
    have h := h V5 eV5
    exact rw_vret X hP hS h d_Mo_push_15
theorem yv_Mo_push : yV R_Mo y_Mo_push prog_10_method_16_code 2 (none) 1 := ⟨by decide +kernel, q_611, qp_35, q_7, q_612⟩
/-! Mo.pop -/
theorem d_Mo_pop_0 : decode prog_10_method_17_code 0 = .ok (.aload_n 0, 1) := by decide +kernel
theorem d_Mo_pop_1 : decode prog_10_method_17_code 1 = .ok (.dup, 1) := by decide +kernel
theorem d_Mo_pop_2 : decode prog_10_method_17_code 2 = .ok (.getfield 64, 3) := by decide +kernel
theorem d_Mo_pop_5 : decode prog_10_method_17_code 5 = .ok (.iconst 1, 1) := by decide +kernel
theorem d_Mo_pop_6 : decode prog_10_method_17_code 6 = .ok (.isub, 1) := by decide +kernel
theorem d_Mo_pop_7 : decode prog_10_method_17_code 7 = .ok (.putfield 64, 3) := by decide +kernel
theorem d_Mo_pop_10 : decode prog_10_method_17_code 10 = .ok (.aload_n 0, 1) := by decide +kernel
theorem d_Mo_pop_11 : decode prog_10_method_17_code 11 = .ok (.getfield 43, 3) := by decide +kernel
theorem d_Mo_pop_14 : decode prog_10_method_17_code 14 = .ok (.aload_n 0, 1) := by decide +kernel
theorem d_Mo_pop_15 : decode prog_10_method_17_code 15 = .ok (.getfield 64, 3) := by decide +kernel
theorem d_Mo_pop_18 : decode prog_10_method_17_code 18 = .ok (.iaload, 1) := by decide +kernel
theorem d_Mo_pop_19 : decode prog_10_method_17_code 19 = .ok (.ireturn, 1) := by decide +kernel
abbrev rm_Mo_pop : Room := { frames := 0, cells := 0, slots := 0, locals := 0 }
def p_Mo_pop (k : Int32 → vS → Prop) (V : vS) : Prop := ∀ V1 : vS, V1 = sv V 34 19 ((V.1 34 19) - 1) → (vp_in (V1.1 34 19) 42 ∧ (k (V1.1 46 (nt (V1.1 34 19))) V1))
set_option maxRecDepth 100000 in
set_option maxHeartbeats 4000000 in
theorem c_Mo_pop {l : Launch} {g : gT} (hG : gd g) {V : vS} {k : Int32 → vS → Prop} (h : p_Mo_pop k V) : Ci g l y_Mo_pop prog_10_method_17_code 1 (some .int) rm_Mo_pop [.ref (ga g 34)] V k := by
  unfold Ci
  refine Met.ofW (cc := prog_10_method_17_code) (maxL := 1) (ret := some .int) (by decide) rfl ?_
  intro p e s m args below meth c s₁ B hml hv
  obtain ⟨rfl, hP, hK, hZ⟩ := hv
  have X : cx g p s m meth c [.ref (ga g 34)].toArray R_Mo prog_10_method_17_code 1 (some .int) := ⟨B.exec, B.bytes, B.returns, hml, findClass_of_methodNamed B.named, fun w hw => atoms_spec (ws := Cond.code y_Mo_pop prog_10_method_17_code 1 (some .int) :: TBL) B.pre w (List.mem_cons_of_mem _ hw), B.notSynchronized, hK, hZ, hG⟩
  have hl := lv_entry [.ref (ga g 34)] (n := 1) (Nat.le_of_ble_eq_true rfl)
  rw [lg_entry_eq]
  generalize (lg_sl [.ref (ga g 34)] ++ List.replicate (1 - (lg_sl [.ref (ga g 34)]).length) Slot.unset).toArray = ls at hl ⊢
  have hl : lv_has ls 1 [(0, .ref (ga g 34))] := hl
  have hS : va_S (gA g) s.heap s.heap [] := va_S.rf
  obtain ⟨hx, hb, -, -, hown, hts, -, -, hz, -⟩ := id X
  show W p l e rm_Mo_pop s m _ below meth c s.heap [] 0 0 (MQ below (va_Qi k (Bw g) (gA g)) _ s 0 0 (gA g)) (F0 m 0 ls [])
  unfold p_Mo_pop at h
  refine lv_aload_n hx hb d_Mo_pop_0 rfl (lv_at hl 0 rfl) ?_
  refine lv_dup hx hb d_Mo_pop_1 rfl ?_
  refine gf_Mo_size X hP q_465 d_Mo_pop_2 ?_
  refine lv_iconst (v := 1) hx hb d_Mo_pop_5 (by decide) ?_
  refine lv_isub hx hb d_Mo_pop_6 ?_
  refine pf_Mo_size X hP hS q_465 d_Mo_pop_7 (fun V1 H locs eV1 hP hS => ?_)
  have h := h V1 eV1
  refine lv_aload_n hx hb d_Mo_pop_10 rfl (lv_at hl 0 rfl) ?_
  refine gf_Mo_stack X hP q_463 d_Mo_pop_11 ?_
  refine lv_aload_n hx hb d_Mo_pop_14 rfl (lv_at hl 0 rfl) ?_
  refine gf_Mo_size X hP q_465 d_Mo_pop_15 ?_
  obtain ⟨hi2, h⟩ := h
  refine rw_iald X hP isI_46 hi2 d_Mo_pop_18 ?_
  exact rw_iret X hP hS h d_Mo_pop_19
theorem yv_Mo_pop : yV R_Mo y_Mo_pop prog_10_method_17_code 1 (some .int) 0 := ⟨by decide +kernel, q_603, qp_33, q_7, q_604⟩
/-! Mo.leave -/
theorem d_Mo_leave_0 : decode prog_10_method_18_code 0 = .ok (.aload_n 0, 1) := by decide +kernel
theorem d_Mo_leave_1 : decode prog_10_method_18_code 1 = .ok (.getfield 34, 3) := by decide +kernel
theorem d_Mo_leave_4 : decode prog_10_method_18_code 4 = .ok (.aload_n 0, 1) := by decide +kernel
theorem d_Mo_leave_5 : decode prog_10_method_18_code 5 = .ok (.getfield 61, 3) := by decide +kernel
theorem d_Mo_leave_8 : decode prog_10_method_18_code 8 = .ok (.iconst 1, 1) := by decide +kernel
theorem d_Mo_leave_9 : decode prog_10_method_18_code 9 = .ok (.isub, 1) := by decide +kernel
theorem d_Mo_leave_10 : decode prog_10_method_18_code 10 = .ok (.iaload, 1) := by decide +kernel
theorem d_Mo_leave_11 : decode prog_10_method_18_code 11 = .ok (.istore_n 1, 1) := by decide +kernel
theorem d_Mo_leave_12 : decode prog_10_method_18_code 12 = .ok (.aload_n 0, 1) := by decide +kernel
theorem d_Mo_leave_13 : decode prog_10_method_18_code 13 = .ok (.dup, 1) := by decide +kernel
theorem d_Mo_leave_14 : decode prog_10_method_18_code 14 = .ok (.getfield 61, 3) := by decide +kernel
theorem d_Mo_leave_17 : decode prog_10_method_18_code 17 = .ok (.iconst 1, 1) := by decide +kernel
theorem d_Mo_leave_18 : decode prog_10_method_18_code 18 = .ok (.isub, 1) := by decide +kernel
theorem d_Mo_leave_19 : decode prog_10_method_18_code 19 = .ok (.putfield 61, 3) := by decide +kernel
theorem d_Mo_leave_22 : decode prog_10_method_18_code 22 = .ok (.aload_n 0, 1) := by decide +kernel
theorem d_Mo_leave_23 : decode prog_10_method_18_code 23 = .ok (.getfield 61, 3) := by decide +kernel
theorem d_Mo_leave_26 : decode prog_10_method_18_code 26 = .ok (.ifCond .le 4, 3) := by decide +kernel
theorem d_Mo_leave_29 : decode prog_10_method_18_code 29 = .ok (.return_, 1) := by decide +kernel
theorem d_Mo_leave_30 : decode prog_10_method_18_code 30 = .ok (.aload_n 0, 1) := by decide +kernel
theorem d_Mo_leave_31 : decode prog_10_method_18_code 31 = .ok (.dup, 1) := by decide +kernel
theorem d_Mo_leave_32 : decode prog_10_method_18_code 32 = .ok (.getfield 114, 3) := by decide +kernel
theorem d_Mo_leave_35 : decode prog_10_method_18_code 35 = .ok (.iconst 1, 1) := by decide +kernel
theorem d_Mo_leave_36 : decode prog_10_method_18_code 36 = .ok (.iadd, 1) := by decide +kernel
theorem d_Mo_leave_37 : decode prog_10_method_18_code 37 = .ok (.putfield 114, 3) := by decide +kernel
theorem d_Mo_leave_40 : decode prog_10_method_18_code 40 = .ok (.aload_n 0, 1) := by decide +kernel
theorem d_Mo_leave_41 : decode prog_10_method_18_code 41 = .ok (.aload_n 0, 1) := by decide +kernel
theorem d_Mo_leave_42 : decode prog_10_method_18_code 42 = .ok (.getfield 13, 3) := by decide +kernel
theorem d_Mo_leave_45 : decode prog_10_method_18_code 45 = .ok (.iload_n 1, 1) := by decide +kernel
theorem d_Mo_leave_46 : decode prog_10_method_18_code 46 = .ok (.iaload, 1) := by decide +kernel
theorem d_Mo_leave_47 : decode prog_10_method_18_code 47 = .ok (.iconst 1, 1) := by decide +kernel
theorem d_Mo_leave_48 : decode prog_10_method_18_code 48 = .ok (.if_icmp .ne 7, 3) := by decide +kernel
theorem d_Mo_leave_51 : decode prog_10_method_18_code 51 = .ok (.iconst 1, 1) := by decide +kernel
theorem d_Mo_leave_52 : decode prog_10_method_18_code 52 = .ok (.goto 4, 3) := by decide +kernel
theorem d_Mo_leave_55 : decode prog_10_method_18_code 55 = .ok (.iconst 0, 1) := by decide +kernel
theorem d_Mo_leave_56 : decode prog_10_method_18_code 56 = .ok (.putfield 117, 3) := by decide +kernel
theorem d_Mo_leave_59 : decode prog_10_method_18_code 59 = .ok (.aload_n 0, 1) := by decide +kernel
theorem d_Mo_leave_60 : decode prog_10_method_18_code 60 = .ok (.getfield 117, 3) := by decide +kernel
theorem d_Mo_leave_63 : decode prog_10_method_18_code 63 = .ok (.ifCond .eq 11, 3) := by decide +kernel
theorem d_Mo_leave_66 : decode prog_10_method_18_code 66 = .ok (.aload_n 0, 1) := by decide +kernel
theorem d_Mo_leave_67 : decode prog_10_method_18_code 67 = .ok (.aload_n 0, 1) := by decide +kernel
theorem d_Mo_leave_68 : decode prog_10_method_18_code 68 = .ok (.invokevirtual 120, 3) := by decide +kernel
theorem d_Mo_leave_71 : decode prog_10_method_18_code 71 = .ok (.putfield 124, 3) := by decide +kernel
theorem d_Mo_leave_74 : decode prog_10_method_18_code 74 = .ok (.return_, 1) := by decide +kernel
abbrev rm_Mo_leave : Room := { frames := 1, cells := 0, slots := 0, locals := 20 }
def p_Mo_leave_b74 (k : vS → Prop) (V : vS) : Prop := k V
set_option maxRecDepth 100000 in
set_option maxHeartbeats 4000000 in
theorem t_Mo_leave_b74 {k : vS → Prop} (X : cx g p s m meth c args R_Mo prog_10_method_18_code 2 (none)) {V : vS} (h : p_Mo_leave_b74 k V) (hP : va_P g.1 vcl (cw g V) H) (hS : va_S (gA g) s.heap H locs) (hl : lv_has ls 2 []) : W p l e rm_Mo_leave s m args below meth c H locs 0 0 (MQ below (va_Qv k (Bw g) (gA g)) args s 0 0 (gA g)) (F0 m 74 ls []) := by
  obtain ⟨hx, hb, -, -, hown, hts, -, -, hz, hG⟩ := id X
  unfold p_Mo_leave_b74 at h
  exact rw_vret X hP hS h d_Mo_leave_74
def p_Mo_leave_b56 (k : vS → Prop) (V : vS) (s1 : Int32) : Prop := (s1 = 0 ∨ s1 = 1) ∧ (∀ V1 : vS, V1 = sv V 34 25 s1 → (((V1.1 34 25) = 0 → (p_Mo_leave_b74 k V1)) ∧ (¬ (V1.1 34 25) = 0 → (p_Mo_pop (fun r5 V4 => ∀ V7 : vS, V7 = sv V4 34 26 r5 → (p_Mo_leave_b74 k V7)) V1))))
set_option maxRecDepth 100000 in
set_option maxHeartbeats 4000000 in
theorem t_Mo_leave_b56 {k : vS → Prop} (X : cx g p s m meth c args R_Mo prog_10_method_18_code 2 (none)) {V : vS} {s1 : Int32} (h : p_Mo_leave_b56 k V s1) (hP : va_P g.1 vcl (cw g V) H) (hS : va_S (gA g) s.heap H locs) (hl : lv_has ls 2 [(0, .ref (ga g 34))]) : W p l e rm_Mo_leave s m args below meth c H locs 0 0 (MQ below (va_Qv k (Bw g) (gA g)) args s 0 0 (gA g)) (F0 m 56 ls [.int s1, .ref (ga g 34)]) := by
  obtain ⟨hx, hb, -, -, hown, hts, -, -, hz, hG⟩ := id X
  unfold p_Mo_leave_b56 at h
  obtain ⟨hb2, h⟩ := h
  refine pf_Mo_hasResult X hP hS q_471 hb2 d_Mo_leave_56 (fun V1 H locs eV1 hP hS => ?_)
  have h := h V1 eV1
  refine lv_aload_n hx hb d_Mo_leave_59 rfl (lv_at hl 0 rfl) ?_
  refine gf_Mo_hasResult X hP q_471 d_Mo_leave_60 ?_
  refine lv_if_eq (tgt := 74) hx hb d_Mo_leave_63 (by decide) (fun c3 => ?_) (fun c3 => ?_)
  · have h := h.1 c3
    exact t_Mo_leave_b74 X h hP hS (lv_sub hl [] rfl)
  · have h := h.2 c3
    refine lv_aload_n hx hb d_Mo_leave_66 rfl (lv_at hl 0 rfl) ?_
    refine lv_aload_n hx hb d_Mo_leave_67 rfl (lv_at hl 0 rfl) ?_
    refine rw_cVi (rest := [.ref (ga g 34)]) X hP hS yv_Mo_pop isO_Mo (c_Mo_pop hG h) q_601 ⟨rfl, rfl, by decide, by decide⟩ rfl rfl hl.1 (Nat.le_of_ble_eq_true rfl) ⟨Nat.zero_le _, Nat.zero_le _⟩ d_Mo_leave_68 (fun r5 V4 H locs h hP hS => ?_)
    refine pf_Mo_result X hP hS q_472 d_Mo_leave_71 (fun V7 H locs eV7 hP hS => ?_)
    have h := h V7 eV7
    exact t_Mo_leave_b74 X h hP hS (lv_sub hl [] rfl)
def p_Mo_leave (k : vS → Prop) (V : vS) : Prop := vp_in ((V.1 34 18) - 1) 7 ∧ (∀ y2 : Int32, y2 = V.1 43 (nt ((V.1 34 18) - 1)) → (∀ V3 : vS, V3 = sv V 34 18 ((V.1 34 18) - 1) → (((V3.1 34 18) ≤ 0 → (∀ V5 : vS, V5 = sv V3 34 28 ((V3.1 34 28) + 1) → (vp_in y2 4 ∧ (((V5.1 36 (nt y2)) = 1 → (p_Mo_leave_b56 k V5 1)) ∧ (¬ (V5.1 36 (nt y2)) = 1 → (p_Mo_leave_b56 k V5 0)))))) ∧ (¬ (V3.1 34 18) ≤ 0 → (k V3)))))
set_option maxRecDepth 100000 in
set_option maxHeartbeats 4000000 in
theorem c_Mo_leave {l : Launch} {g : gT} (hG : gd g) {V : vS} {k : vS → Prop} (h : p_Mo_leave k V) : Cv g l y_Mo_leave prog_10_method_18_code 2 (none) rm_Mo_leave [.ref (ga g 34)] V k := by
  unfold Cv
  refine Met.ofW (cc := prog_10_method_18_code) (maxL := 2) (ret := none) (by decide) rfl ?_
  intro p e s m args below meth c s₁ B hml hv
  obtain ⟨rfl, hP, hK, hZ⟩ := hv
  have X : cx g p s m meth c [.ref (ga g 34)].toArray R_Mo prog_10_method_18_code 2 (none) := ⟨B.exec, B.bytes, B.returns, hml, findClass_of_methodNamed B.named, fun w hw => atoms_spec (ws := Cond.code y_Mo_leave prog_10_method_18_code 2 (none) :: TBL) B.pre w (List.mem_cons_of_mem _ hw), B.notSynchronized, hK, hZ, hG⟩
  have hl := lv_entry [.ref (ga g 34)] (n := 2) (Nat.le_of_ble_eq_true rfl)
  rw [lg_entry_eq]
  generalize (lg_sl [.ref (ga g 34)] ++ List.replicate (2 - (lg_sl [.ref (ga g 34)]).length) Slot.unset).toArray = ls at hl ⊢
  have hl : lv_has ls 2 [(0, .ref (ga g 34))] := hl
  have hS : va_S (gA g) s.heap s.heap [] := va_S.rf
  obtain ⟨hx, hb, -, -, hown, hts, -, -, hz, -⟩ := id X
  show W p l e rm_Mo_leave s m _ below meth c s.heap [] 0 0 (MQ below (va_Qv k (Bw g) (gA g)) _ s 0 0 (gA g)) (F0 m 0 ls [])
  unfold p_Mo_leave at h
  refine lv_aload_n hx hb d_Mo_leave_0 rfl (lv_at hl 0 rfl) ?_
  refine gf_Mo_running X hP q_460 d_Mo_leave_1 ?_
  refine lv_aload_n hx hb d_Mo_leave_4 rfl (lv_at hl 0 rfl) ?_
  refine gf_Mo_depth X hP q_464 d_Mo_leave_5 ?_
  refine lv_iconst (v := 1) hx hb d_Mo_leave_8 (by decide) ?_
  refine lv_isub hx hb d_Mo_leave_9 ?_
  obtain ⟨hi1, h⟩ := h
  refine rw_iald X hP isI_43 hi1 d_Mo_leave_10 ?_
  refine lv_topi (fun y2 ey2 => ?_)
  have h := h y2 ey2
  refine lv_istore_n (lv' := [(1, .int y2), (0, .ref (ga g 34))]) hx hb d_Mo_leave_11 rfl hl (by decide) rfl (fun ls hl => ?_)
  refine lv_aload_n hx hb d_Mo_leave_12 rfl (lv_at hl 1 rfl) ?_
  refine lv_dup hx hb d_Mo_leave_13 rfl ?_
  refine gf_Mo_depth X hP q_464 d_Mo_leave_14 ?_
  refine lv_iconst (v := 1) hx hb d_Mo_leave_17 (by decide) ?_
  refine lv_isub hx hb d_Mo_leave_18 ?_
  refine pf_Mo_depth X hP hS q_464 d_Mo_leave_19 (fun V3 H locs eV3 hP hS => ?_)
  have h := h V3 eV3
  refine lv_aload_n hx hb d_Mo_leave_22 rfl (lv_at hl 1 rfl) ?_
  refine gf_Mo_depth X hP q_464 d_Mo_leave_23 ?_
  refine lv_if_le (tgt := 30) hx hb d_Mo_leave_26 (by decide) (fun c4 => ?_) (fun c4 => ?_)
  · have h := h.1 c4
    refine lv_aload_n hx hb d_Mo_leave_30 rfl (lv_at hl 1 rfl) ?_
    refine lv_dup hx hb d_Mo_leave_31 rfl ?_
    refine gf_Mo_ended X hP q_474 d_Mo_leave_32 ?_
    refine lv_iconst (v := 1) hx hb d_Mo_leave_35 (by decide) ?_
    refine lv_iadd hx hb d_Mo_leave_36 ?_
    refine pf_Mo_ended X hP hS q_474 d_Mo_leave_37 (fun V5 H locs eV5 hP hS => ?_)
    have h := h V5 eV5
    refine lv_aload_n hx hb d_Mo_leave_40 rfl (lv_at hl 1 rfl) ?_
    refine lv_aload_n hx hb d_Mo_leave_41 rfl (lv_at hl 1 rfl) ?_
    refine gf_Mo_gives X hP q_447 d_Mo_leave_42 ?_
    refine lv_iload_n hx hb d_Mo_leave_45 rfl (lv_at hl 0 rfl) ?_
    obtain ⟨hi6, h⟩ := h
    refine rw_iald X hP isI_36 hi6 d_Mo_leave_46 ?_
    refine lv_iconst (v := 1) hx hb d_Mo_leave_47 (by decide) ?_
    refine lv_icmp_ne (tgt := 55) hx hb d_Mo_leave_48 (by decide) (fun c7 => ?_) (fun c7 => ?_)
    · have h := h.2 c7
      refine lv_iconst (v := 0) hx hb d_Mo_leave_55 (by decide) ?_
      exact t_Mo_leave_b56 X h hP hS (lv_sub hl [1] rfl)
    · have h := h.1 c7
      refine lv_iconst (v := 1) hx hb d_Mo_leave_51 (by decide) ?_
      refine lv_goto (tgt := 56) hx hb d_Mo_leave_52 (by decide) ?_
      exact t_Mo_leave_b56 X h hP hS (lv_sub hl [1] rfl)
  · have h := h.2 c4
    exact rw_vret X hP hS h d_Mo_leave_29
theorem yv_Mo_leave : yV R_Mo y_Mo_leave prog_10_method_18_code 2 (none) 0 := ⟨by decide +kernel, q_599, qp_32, q_7, q_600⟩
/-! Mo.branch -/
theorem d_Mo_branch_0 : decode prog_10_method_19_code 0 = .ok (.aload_n 0, 1) := by decide +kernel
theorem d_Mo_branch_1 : decode prog_10_method_19_code 1 = .ok (.iconst 0, 1) := by decide +kernel
theorem d_Mo_branch_2 : decode prog_10_method_19_code 2 = .ok (.putfield 77, 3) := by decide +kernel
theorem d_Mo_branch_5 : decode prog_10_method_19_code 5 = .ok (.iconst 0, 1) := by decide +kernel
theorem d_Mo_branch_6 : decode prog_10_method_19_code 6 = .ok (.istore 4, 2) := by decide +kernel
theorem d_Mo_branch_8 : decode prog_10_method_19_code 8 = .ok (.iload 4, 2) := by decide +kernel
theorem d_Mo_branch_10 : decode prog_10_method_19_code 10 = .ok (.iload_n 2, 1) := by decide +kernel
theorem d_Mo_branch_11 : decode prog_10_method_19_code 11 = .ok (.if_icmp .ge 75, 3) := by decide +kernel
theorem d_Mo_branch_14 : decode prog_10_method_19_code 14 = .ok (.aload_n 0, 1) := by decide +kernel
theorem d_Mo_branch_15 : decode prog_10_method_19_code 15 = .ok (.getfield 22, 3) := by decide +kernel
theorem d_Mo_branch_18 : decode prog_10_method_19_code 18 = .ok (.iload_n 1, 1) := by decide +kernel
theorem d_Mo_branch_19 : decode prog_10_method_19_code 19 = .ok (.bipush 24, 2) := by decide +kernel
theorem d_Mo_branch_21 : decode prog_10_method_19_code 21 = .ok (.imul, 1) := by decide +kernel
theorem d_Mo_branch_22 : decode prog_10_method_19_code 22 = .ok (.iload 4, 2) := by decide +kernel
theorem d_Mo_branch_24 : decode prog_10_method_19_code 24 = .ok (.iadd, 1) := by decide +kernel
theorem d_Mo_branch_25 : decode prog_10_method_19_code 25 = .ok (.iaload, 1) := by decide +kernel
theorem d_Mo_branch_26 : decode prog_10_method_19_code 26 = .ok (.istore 5, 2) := by decide +kernel
theorem d_Mo_branch_28 : decode prog_10_method_19_code 28 = .ok (.iload 5, 2) := by decide +kernel
theorem d_Mo_branch_30 : decode prog_10_method_19_code 30 = .ok (.bipush 12, 2) := by decide +kernel
theorem d_Mo_branch_32 : decode prog_10_method_19_code 32 = .ok (.if_icmp .eq 10, 3) := by decide +kernel
theorem d_Mo_branch_35 : decode prog_10_method_19_code 35 = .ok (.iload 5, 2) := by decide +kernel
theorem d_Mo_branch_37 : decode prog_10_method_19_code 37 = .ok (.bipush 13, 2) := by decide +kernel
theorem d_Mo_branch_39 : decode prog_10_method_19_code 39 = .ok (.if_icmp .ne 24, 3) := by decide +kernel
theorem d_Mo_branch_42 : decode prog_10_method_19_code 42 = .ok (.aload_n 0, 1) := by decide +kernel
theorem d_Mo_branch_43 : decode prog_10_method_19_code 43 = .ok (.getfield 28, 3) := by decide +kernel
theorem d_Mo_branch_46 : decode prog_10_method_19_code 46 = .ok (.aload_n 0, 1) := by decide +kernel
theorem d_Mo_branch_47 : decode prog_10_method_19_code 47 = .ok (.getfield 77, 3) := by decide +kernel
theorem d_Mo_branch_50 : decode prog_10_method_19_code 50 = .ok (.iload 4, 2) := by decide +kernel
theorem d_Mo_branch_52 : decode prog_10_method_19_code 52 = .ok (.iastore, 1) := by decide +kernel
theorem d_Mo_branch_53 : decode prog_10_method_19_code 53 = .ok (.aload_n 0, 1) := by decide +kernel
theorem d_Mo_branch_54 : decode prog_10_method_19_code 54 = .ok (.dup, 1) := by decide +kernel
theorem d_Mo_branch_55 : decode prog_10_method_19_code 55 = .ok (.getfield 77, 3) := by decide +kernel
theorem d_Mo_branch_58 : decode prog_10_method_19_code 58 = .ok (.iconst 1, 1) := by decide +kernel
theorem d_Mo_branch_59 : decode prog_10_method_19_code 59 = .ok (.iadd, 1) := by decide +kernel
theorem d_Mo_branch_60 : decode prog_10_method_19_code 60 = .ok (.putfield 77, 3) := by decide +kernel
theorem d_Mo_branch_63 : decode prog_10_method_19_code 63 = .ok (.iload 5, 2) := by decide +kernel
theorem d_Mo_branch_65 : decode prog_10_method_19_code 65 = .ok (.bipush 14, 2) := by decide +kernel
theorem d_Mo_branch_67 : decode prog_10_method_19_code 67 = .ok (.if_icmp .ne 13, 3) := by decide +kernel
theorem d_Mo_branch_70 : decode prog_10_method_19_code 70 = .ok (.aload_n 0, 1) := by decide +kernel
theorem d_Mo_branch_71 : decode prog_10_method_19_code 71 = .ok (.dup, 1) := by decide +kernel
theorem d_Mo_branch_72 : decode prog_10_method_19_code 72 = .ok (.getfield 77, 3) := by decide +kernel
theorem d_Mo_branch_75 : decode prog_10_method_19_code 75 = .ok (.iconst 1, 1) := by decide +kernel
theorem d_Mo_branch_76 : decode prog_10_method_19_code 76 = .ok (.isub, 1) := by decide +kernel
theorem d_Mo_branch_77 : decode prog_10_method_19_code 77 = .ok (.putfield 77, 3) := by decide +kernel
theorem d_Mo_branch_80 : decode prog_10_method_19_code 80 = .ok (.iinc 4 1, 3) := by decide +kernel
theorem d_Mo_branch_83 : decode prog_10_method_19_code 83 = .ok (.goto (-75), 3) := by decide +kernel
theorem d_Mo_branch_86 : decode prog_10_method_19_code 86 = .ok (.iload_n 3, 1) := by decide +kernel
theorem d_Mo_branch_87 : decode prog_10_method_19_code 87 = .ok (.aload_n 0, 1) := by decide +kernel
theorem d_Mo_branch_88 : decode prog_10_method_19_code 88 = .ok (.getfield 77, 3) := by decide +kernel
theorem d_Mo_branch_91 : decode prog_10_method_19_code 91 = .ok (.if_icmp .ne 8, 3) := by decide +kernel
theorem d_Mo_branch_94 : decode prog_10_method_19_code 94 = .ok (.aload_n 0, 1) := by decide +kernel
theorem d_Mo_branch_95 : decode prog_10_method_19_code 95 = .ok (.invokevirtual 127, 3) := by decide +kernel
theorem d_Mo_branch_98 : decode prog_10_method_19_code 98 = .ok (.return_, 1) := by decide +kernel
theorem d_Mo_branch_99 : decode prog_10_method_19_code 99 = .ok (.aload_n 0, 1) := by decide +kernel
theorem d_Mo_branch_100 : decode prog_10_method_19_code 100 = .ok (.getfield 28, 3) := by decide +kernel
theorem d_Mo_branch_103 : decode prog_10_method_19_code 103 = .ok (.aload_n 0, 1) := by decide +kernel
theorem d_Mo_branch_104 : decode prog_10_method_19_code 104 = .ok (.getfield 77, 3) := by decide +kernel
theorem d_Mo_branch_107 : decode prog_10_method_19_code 107 = .ok (.iconst 1, 1) := by decide +kernel
theorem d_Mo_branch_108 : decode prog_10_method_19_code 108 = .ok (.isub, 1) := by decide +kernel
theorem d_Mo_branch_109 : decode prog_10_method_19_code 109 = .ok (.iload_n 3, 1) := by decide +kernel
theorem d_Mo_branch_110 : decode prog_10_method_19_code 110 = .ok (.isub, 1) := by decide +kernel
theorem d_Mo_branch_111 : decode prog_10_method_19_code 111 = .ok (.iaload, 1) := by decide +kernel
theorem d_Mo_branch_112 : decode prog_10_method_19_code 112 = .ok (.istore 4, 2) := by decide +kernel
theorem d_Mo_branch_114 : decode prog_10_method_19_code 114 = .ok (.iconst 0, 1) := by decide +kernel
theorem d_Mo_branch_115 : decode prog_10_method_19_code 115 = .ok (.istore 5, 2) := by decide +kernel
theorem d_Mo_branch_117 : decode prog_10_method_19_code 117 = .ok (.aload_n 0, 1) := by decide +kernel
theorem d_Mo_branch_118 : decode prog_10_method_19_code 118 = .ok (.getfield 22, 3) := by decide +kernel
theorem d_Mo_branch_121 : decode prog_10_method_19_code 121 = .ok (.iload_n 1, 1) := by decide +kernel
theorem d_Mo_branch_122 : decode prog_10_method_19_code 122 = .ok (.bipush 24, 2) := by decide +kernel
theorem d_Mo_branch_124 : decode prog_10_method_19_code 124 = .ok (.imul, 1) := by decide +kernel
theorem d_Mo_branch_125 : decode prog_10_method_19_code 125 = .ok (.iload 4, 2) := by decide +kernel
theorem d_Mo_branch_127 : decode prog_10_method_19_code 127 = .ok (.iadd, 1) := by decide +kernel
theorem d_Mo_branch_128 : decode prog_10_method_19_code 128 = .ok (.iaload, 1) := by decide +kernel
theorem d_Mo_branch_129 : decode prog_10_method_19_code 129 = .ok (.bipush 13, 2) := by decide +kernel
theorem d_Mo_branch_131 : decode prog_10_method_19_code 131 = .ok (.if_icmp .ne 7, 3) := by decide +kernel
theorem d_Mo_branch_134 : decode prog_10_method_19_code 134 = .ok (.iconst 1, 1) := by decide +kernel
theorem d_Mo_branch_135 : decode prog_10_method_19_code 135 = .ok (.goto 4, 3) := by decide +kernel
theorem d_Mo_branch_138 : decode prog_10_method_19_code 138 = .ok (.iconst 0, 1) := by decide +kernel
theorem d_Mo_branch_139 : decode prog_10_method_19_code 139 = .ok (.istore 6, 2) := by decide +kernel
theorem d_Mo_branch_141 : decode prog_10_method_19_code 141 = .ok (.aload_n 0, 1) := by decide +kernel
theorem d_Mo_branch_142 : decode prog_10_method_19_code 142 = .ok (.getfield 37, 3) := by decide +kernel
theorem d_Mo_branch_145 : decode prog_10_method_19_code 145 = .ok (.aload_n 0, 1) := by decide +kernel
theorem d_Mo_branch_146 : decode prog_10_method_19_code 146 = .ok (.getfield 61, 3) := by decide +kernel
theorem d_Mo_branch_149 : decode prog_10_method_19_code 149 = .ok (.iconst 1, 1) := by decide +kernel
theorem d_Mo_branch_150 : decode prog_10_method_19_code 150 = .ok (.isub, 1) := by decide +kernel
theorem d_Mo_branch_151 : decode prog_10_method_19_code 151 = .ok (.iload 4, 2) := by decide +kernel
theorem d_Mo_branch_153 : decode prog_10_method_19_code 153 = .ok (.iconst 1, 1) := by decide +kernel
theorem d_Mo_branch_154 : decode prog_10_method_19_code 154 = .ok (.iadd, 1) := by decide +kernel
theorem d_Mo_branch_155 : decode prog_10_method_19_code 155 = .ok (.iastore, 1) := by decide +kernel
theorem d_Mo_branch_156 : decode prog_10_method_19_code 156 = .ok (.iload 6, 2) := by decide +kernel
theorem d_Mo_branch_158 : decode prog_10_method_19_code 158 = .ok (.ifCond .ne 83, 3) := by decide +kernel
theorem d_Mo_branch_161 : decode prog_10_method_19_code 161 = .ok (.aload_n 0, 1) := by decide +kernel
theorem d_Mo_branch_162 : decode prog_10_method_19_code 162 = .ok (.getfield 22, 3) := by decide +kernel
theorem d_Mo_branch_165 : decode prog_10_method_19_code 165 = .ok (.iload_n 1, 1) := by decide +kernel
theorem d_Mo_branch_166 : decode prog_10_method_19_code 166 = .ok (.bipush 24, 2) := by decide +kernel
theorem d_Mo_branch_168 : decode prog_10_method_19_code 168 = .ok (.imul, 1) := by decide +kernel
theorem d_Mo_branch_169 : decode prog_10_method_19_code 169 = .ok (.aload_n 0, 1) := by decide +kernel
theorem d_Mo_branch_170 : decode prog_10_method_19_code 170 = .ok (.getfield 37, 3) := by decide +kernel
theorem d_Mo_branch_173 : decode prog_10_method_19_code 173 = .ok (.aload_n 0, 1) := by decide +kernel
theorem d_Mo_branch_174 : decode prog_10_method_19_code 174 = .ok (.getfield 61, 3) := by decide +kernel
theorem d_Mo_branch_177 : decode prog_10_method_19_code 177 = .ok (.iconst 1, 1) := by decide +kernel
theorem d_Mo_branch_178 : decode prog_10_method_19_code 178 = .ok (.isub, 1) := by decide +kernel
theorem d_Mo_branch_179 : decode prog_10_method_19_code 179 = .ok (.iaload, 1) := by decide +kernel
theorem d_Mo_branch_180 : decode prog_10_method_19_code 180 = .ok (.iadd, 1) := by decide +kernel
theorem d_Mo_branch_181 : decode prog_10_method_19_code 181 = .ok (.iaload, 1) := by decide +kernel
theorem d_Mo_branch_182 : decode prog_10_method_19_code 182 = .ok (.istore 7, 2) := by decide +kernel
theorem d_Mo_branch_184 : decode prog_10_method_19_code 184 = .ok (.iload 7, 2) := by decide +kernel
theorem d_Mo_branch_186 : decode prog_10_method_19_code 186 = .ok (.bipush 12, 2) := by decide +kernel
theorem d_Mo_branch_188 : decode prog_10_method_19_code 188 = .ok (.if_icmp .eq 10, 3) := by decide +kernel
theorem d_Mo_branch_191 : decode prog_10_method_19_code 191 = .ok (.iload 7, 2) := by decide +kernel
theorem d_Mo_branch_193 : decode prog_10_method_19_code 193 = .ok (.bipush 13, 2) := by decide +kernel
theorem d_Mo_branch_195 : decode prog_10_method_19_code 195 = .ok (.if_icmp .ne 6, 3) := by decide +kernel
theorem d_Mo_branch_198 : decode prog_10_method_19_code 198 = .ok (.iinc 5 1, 3) := by decide +kernel
theorem d_Mo_branch_201 : decode prog_10_method_19_code 201 = .ok (.iload 7, 2) := by decide +kernel
theorem d_Mo_branch_203 : decode prog_10_method_19_code 203 = .ok (.bipush 14, 2) := by decide +kernel
theorem d_Mo_branch_205 : decode prog_10_method_19_code 205 = .ok (.if_icmp .ne 6, 3) := by decide +kernel
theorem d_Mo_branch_208 : decode prog_10_method_19_code 208 = .ok (.iinc 5 (-1), 3) := by decide +kernel
theorem d_Mo_branch_211 : decode prog_10_method_19_code 211 = .ok (.iload 5, 2) := by decide +kernel
theorem d_Mo_branch_213 : decode prog_10_method_19_code 213 = .ok (.ifCond .ge 7, 3) := by decide +kernel
theorem d_Mo_branch_216 : decode prog_10_method_19_code 216 = .ok (.iconst 1, 1) := by decide +kernel
theorem d_Mo_branch_217 : decode prog_10_method_19_code 217 = .ok (.goto 4, 3) := by decide +kernel
theorem d_Mo_branch_220 : decode prog_10_method_19_code 220 = .ok (.iconst 0, 1) := by decide +kernel
theorem d_Mo_branch_221 : decode prog_10_method_19_code 221 = .ok (.istore 6, 2) := by decide +kernel
theorem d_Mo_branch_223 : decode prog_10_method_19_code 223 = .ok (.aload_n 0, 1) := by decide +kernel
theorem d_Mo_branch_224 : decode prog_10_method_19_code 224 = .ok (.getfield 37, 3) := by decide +kernel
theorem d_Mo_branch_227 : decode prog_10_method_19_code 227 = .ok (.aload_n 0, 1) := by decide +kernel
theorem d_Mo_branch_228 : decode prog_10_method_19_code 228 = .ok (.getfield 61, 3) := by decide +kernel
theorem d_Mo_branch_231 : decode prog_10_method_19_code 231 = .ok (.iconst 1, 1) := by decide +kernel
theorem d_Mo_branch_232 : decode prog_10_method_19_code 232 = .ok (.isub, 1) := by decide +kernel
theorem d_Mo_branch_233 : decode prog_10_method_19_code 233 = .ok (.dup2, 1) := by decide +kernel
theorem d_Mo_branch_234 : decode prog_10_method_19_code 234 = .ok (.iaload, 1) := by decide +kernel
theorem d_Mo_branch_235 : decode prog_10_method_19_code 235 = .ok (.iconst 1, 1) := by decide +kernel
theorem d_Mo_branch_236 : decode prog_10_method_19_code 236 = .ok (.iadd, 1) := by decide +kernel
theorem d_Mo_branch_237 : decode prog_10_method_19_code 237 = .ok (.iastore, 1) := by decide +kernel
theorem d_Mo_branch_238 : decode prog_10_method_19_code 238 = .ok (.goto (-82), 3) := by decide +kernel
theorem d_Mo_branch_241 : decode prog_10_method_19_code 241 = .ok (.return_, 1) := by decide +kernel
abbrev rm_Mo_branch : Room := { frames := 2, cells := 0, slots := 0, locals := 41 }
def p_Mo_branch_b80 (k : vS → Prop) (hd : vS → Int32 → Int32 → Int32 → Int32 → Prop) (V : vS) (x1 : Int32) (x2 : Int32) (x3 : Int32) (x4 : Int32) : Prop := ∀ y1 : Int32, y1 = x4 + 1 → (hd V x1 x2 x3 y1)
set_option maxRecDepth 100000 in
set_option maxHeartbeats 4000000 in
theorem t_Mo_branch_b80 {k : vS → Prop} (X : cx g p s m meth c args R_Mo prog_10_method_19_code 8 (none)) {hd : vS → Int32 → Int32 → Int32 → Int32 → Prop} (ih : ∀ (V : vS) (x1 : Int32) (x2 : Int32) (x3 : Int32) (x4 : Int32), hd V x1 x2 x3 x4 → ∀ (H : Heap) (locs : List Loc) (ls : Array Slot), va_P g.1 vcl (cw g V) H → va_S (gA g) s.heap H locs → lv_has ls 8 [(0, .ref (ga g 34)), (1, .int x1), (2, .int x2), (3, .int x3), (4, .int x4)] → W p l e rm_Mo_branch s m args below meth c H locs 0 0 (MQ below (va_Qv k (Bw g) (gA g)) args s 0 0 (gA g)) (F0 m 8 ls [])) {V : vS} {x1 : Int32} {x2 : Int32} {x3 : Int32} {x4 : Int32} (h : p_Mo_branch_b80 k hd V x1 x2 x3 x4) (hP : va_P g.1 vcl (cw g V) H) (hS : va_S (gA g) s.heap H locs) (hl : lv_has ls 8 [(0, .ref (ga g 34)), (1, .int x1), (2, .int x2), (3, .int x3), (4, .int x4)]) : W p l e rm_Mo_branch s m args below meth c H locs 0 0 (MQ below (va_Qv k (Bw g) (gA g)) args s 0 0 (gA g)) (F0 m 80 ls []) := by
  obtain ⟨hx, hb, -, -, hown, hts, -, -, hz, hG⟩ := id X
  unfold p_Mo_branch_b80 at h
  obtain ⟨y1, ey1⟩ : ∃ z : Int32, z = x4 + 1 := ⟨_, rfl⟩
  have h := h y1 ey1
  refine lv_iinc (v := y1) (lv' := [(4, .int y1), (0, .ref (ga g 34)), (1, .int x1), (2, .int x2), (3, .int x3)]) hx hb d_Mo_branch_80 hl (k := 4) rfl (by rw [ey1]; rfl) (by decide) rfl (fun ls hl => ?_)
  refine lv_goto (tgt := 8) hx hb d_Mo_branch_83 (by decide) ?_
  exact ih V x1 x2 x3 y1 h _ _ _ hP hS (lv_sub hl [1, 2, 3, 4, 0] rfl)
def p_Mo_branch_b63 (k : vS → Prop) (hd : vS → Int32 → Int32 → Int32 → Int32 → Prop) (V : vS) (x1 : Int32) (x2 : Int32) (x3 : Int32) (x4 : Int32) (x5 : Int32) : Prop := (x5 = 14 → (∀ V2 : vS, V2 = sv V 34 11 ((V.1 34 11) - 1) → (p_Mo_branch_b80 k hd V2 x1 x2 x3 x4))) ∧ (¬ x5 = 14 → (p_Mo_branch_b80 k hd V x1 x2 x3 x4))
set_option maxRecDepth 100000 in
set_option maxHeartbeats 4000000 in
theorem t_Mo_branch_b63 {k : vS → Prop} (X : cx g p s m meth c args R_Mo prog_10_method_19_code 8 (none)) {hd : vS → Int32 → Int32 → Int32 → Int32 → Prop} (ih : ∀ (V : vS) (x1 : Int32) (x2 : Int32) (x3 : Int32) (x4 : Int32), hd V x1 x2 x3 x4 → ∀ (H : Heap) (locs : List Loc) (ls : Array Slot), va_P g.1 vcl (cw g V) H → va_S (gA g) s.heap H locs → lv_has ls 8 [(0, .ref (ga g 34)), (1, .int x1), (2, .int x2), (3, .int x3), (4, .int x4)] → W p l e rm_Mo_branch s m args below meth c H locs 0 0 (MQ below (va_Qv k (Bw g) (gA g)) args s 0 0 (gA g)) (F0 m 8 ls [])) {V : vS} {x1 : Int32} {x2 : Int32} {x3 : Int32} {x4 : Int32} {x5 : Int32} (h : p_Mo_branch_b63 k hd V x1 x2 x3 x4 x5) (hP : va_P g.1 vcl (cw g V) H) (hS : va_S (gA g) s.heap H locs) (hl : lv_has ls 8 [(0, .ref (ga g 34)), (1, .int x1), (2, .int x2), (3, .int x3), (4, .int x4), (5, .int x5)]) : W p l e rm_Mo_branch s m args below meth c H locs 0 0 (MQ below (va_Qv k (Bw g) (gA g)) args s 0 0 (gA g)) (F0 m 63 ls []) := by
  obtain ⟨hx, hb, -, -, hown, hts, -, -, hz, hG⟩ := id X
  unfold p_Mo_branch_b63 at h
  refine lv_iload hx hb d_Mo_branch_63 (lv_at hl 5 rfl) ?_
  refine lv_bipush (v := 14) hx hb d_Mo_branch_65 (by decide) ?_
  refine lv_icmp_ne (tgt := 80) hx hb d_Mo_branch_67 (by decide) (fun c1 => ?_) (fun c1 => ?_)
  · have h := h.2 c1
    exact t_Mo_branch_b80 X ih h hP hS (lv_sub hl [0, 1, 2, 3, 4] rfl)
  · have h := h.1 c1
    refine lv_aload_n hx hb d_Mo_branch_70 rfl (lv_at hl 0 rfl) ?_
    refine lv_dup hx hb d_Mo_branch_71 rfl ?_
    refine gf_Mo_open X hP q_457 d_Mo_branch_72 ?_
    refine lv_iconst (v := 1) hx hb d_Mo_branch_75 (by decide) ?_
    refine lv_isub hx hb d_Mo_branch_76 ?_
    refine pf_Mo_open X hP hS q_457 d_Mo_branch_77 (fun V2 H locs eV2 hP hS => ?_)
    have h := h V2 eV2
    exact t_Mo_branch_b80 X ih h hP hS (lv_sub hl [0, 1, 2, 3, 4] rfl)
def p_Mo_branch_b42 (k : vS → Prop) (hd : vS → Int32 → Int32 → Int32 → Int32 → Prop) (V : vS) (x1 : Int32) (x2 : Int32) (x3 : Int32) (x4 : Int32) (x5 : Int32) : Prop := vp_in (V.1 34 11) 26 ∧ ∀ V2 : vS, V2 = sv V 41 (nt (V.1 34 11)) x4 → (∀ V3 : vS, V3 = sv V2 34 11 ((V2.1 34 11) + 1) → (p_Mo_branch_b63 k hd V3 x1 x2 x3 x4 x5))
set_option maxRecDepth 100000 in
set_option maxHeartbeats 4000000 in
theorem t_Mo_branch_b42 {k : vS → Prop} (X : cx g p s m meth c args R_Mo prog_10_method_19_code 8 (none)) {hd : vS → Int32 → Int32 → Int32 → Int32 → Prop} (ih : ∀ (V : vS) (x1 : Int32) (x2 : Int32) (x3 : Int32) (x4 : Int32), hd V x1 x2 x3 x4 → ∀ (H : Heap) (locs : List Loc) (ls : Array Slot), va_P g.1 vcl (cw g V) H → va_S (gA g) s.heap H locs → lv_has ls 8 [(0, .ref (ga g 34)), (1, .int x1), (2, .int x2), (3, .int x3), (4, .int x4)] → W p l e rm_Mo_branch s m args below meth c H locs 0 0 (MQ below (va_Qv k (Bw g) (gA g)) args s 0 0 (gA g)) (F0 m 8 ls [])) {V : vS} {x1 : Int32} {x2 : Int32} {x3 : Int32} {x4 : Int32} {x5 : Int32} (h : p_Mo_branch_b42 k hd V x1 x2 x3 x4 x5) (hP : va_P g.1 vcl (cw g V) H) (hS : va_S (gA g) s.heap H locs) (hl : lv_has ls 8 [(0, .ref (ga g 34)), (1, .int x1), (2, .int x2), (3, .int x3), (4, .int x4), (5, .int x5)]) : W p l e rm_Mo_branch s m args below meth c H locs 0 0 (MQ below (va_Qv k (Bw g) (gA g)) args s 0 0 (gA g)) (F0 m 42 ls []) := by
  obtain ⟨hx, hb, -, -, hown, hts, -, -, hz, hG⟩ := id X
  unfold p_Mo_branch_b42 at h
  refine lv_aload_n hx hb d_Mo_branch_42 rfl (lv_at hl 0 rfl) ?_
  refine gf_Mo_opened X hP q_455 d_Mo_branch_43 ?_
  refine lv_aload_n hx hb d_Mo_branch_46 rfl (lv_at hl 0 rfl) ?_
  refine gf_Mo_open X hP q_457 d_Mo_branch_47 ?_
  refine lv_iload hx hb d_Mo_branch_50 (lv_at hl 4 rfl) ?_
  obtain ⟨hi1, h⟩ := h
  refine rw_iast X hP hS isI_41 hi1 d_Mo_branch_52 (fun V2 H locs eV2 hP hS => ?_)
  have h := h V2 eV2
  refine lv_aload_n hx hb d_Mo_branch_53 rfl (lv_at hl 0 rfl) ?_
  refine lv_dup hx hb d_Mo_branch_54 rfl ?_
  refine gf_Mo_open X hP q_457 d_Mo_branch_55 ?_
  refine lv_iconst (v := 1) hx hb d_Mo_branch_58 (by decide) ?_
  refine lv_iadd hx hb d_Mo_branch_59 ?_
  refine pf_Mo_open X hP hS q_457 d_Mo_branch_60 (fun V3 H locs eV3 hP hS => ?_)
  have h := h V3 eV3
  exact t_Mo_branch_b63 X ih h hP hS (lv_sub hl [0, 1, 2, 3, 4, 5] rfl)
def p_Mo_branch_b221 (k : vS → Prop) (hd : vS → Int32 → Int32 → Int32 → Prop) (V : vS) (x1 : Int32) (x5 : Int32) (s0 : Int32) : Prop := vp_in ((V.1 34 18) - 1) 7 ∧ (vp_in ((V.1 34 18) - 1) 7 ∧ ∀ V3 : vS, V3 = sv V 44 (nt ((V.1 34 18) - 1)) ((V.1 44 (nt ((V.1 34 18) - 1))) + 1) → (hd V3 x1 x5 s0))
set_option maxRecDepth 100000 in
set_option maxHeartbeats 4000000 in
theorem t_Mo_branch_b221 {k : vS → Prop} (X : cx g p s m meth c args R_Mo prog_10_method_19_code 8 (none)) {hd : vS → Int32 → Int32 → Int32 → Prop} (ih : ∀ (V : vS) (x1 : Int32) (x5 : Int32) (x6 : Int32), hd V x1 x5 x6 → ∀ (H : Heap) (locs : List Loc) (ls : Array Slot), va_P g.1 vcl (cw g V) H → va_S (gA g) s.heap H locs → lv_has ls 8 [(0, .ref (ga g 34)), (1, .int x1), (5, .int x5), (6, .int x6)] → W p l e rm_Mo_branch s m args below meth c H locs 0 0 (MQ below (va_Qv k (Bw g) (gA g)) args s 0 0 (gA g)) (F0 m 156 ls [])) {V : vS} {x1 : Int32} {x5 : Int32} {s0 : Int32} (h : p_Mo_branch_b221 k hd V x1 x5 s0) (hP : va_P g.1 vcl (cw g V) H) (hS : va_S (gA g) s.heap H locs) (hl : lv_has ls 8 [(0, .ref (ga g 34)), (1, .int x1), (5, .int x5)]) : W p l e rm_Mo_branch s m args below meth c H locs 0 0 (MQ below (va_Qv k (Bw g) (gA g)) args s 0 0 (gA g)) (F0 m 221 ls [.int s0]) := by
  obtain ⟨hx, hb, -, -, hown, hts, -, -, hz, hG⟩ := id X
  unfold p_Mo_branch_b221 at h
  refine lv_istore (lv' := [(6, .int s0), (0, .ref (ga g 34)), (1, .int x1), (5, .int x5)]) hx hb d_Mo_branch_221 hl (by decide) rfl (fun ls hl => ?_)
  refine lv_aload_n hx hb d_Mo_branch_223 rfl (lv_at hl 1 rfl) ?_
  refine gf_Mo_next X hP q_461 d_Mo_branch_224 ?_
  refine lv_aload_n hx hb d_Mo_branch_227 rfl (lv_at hl 1 rfl) ?_
  refine gf_Mo_depth X hP q_464 d_Mo_branch_228 ?_
  refine lv_iconst (v := 1) hx hb d_Mo_branch_231 (by decide) ?_
  refine lv_isub hx hb d_Mo_branch_232 ?_
  refine lv_dup2_11 hx hb d_Mo_branch_233 rfl rfl ?_
  obtain ⟨hi1, h⟩ := h
  refine rw_iald X hP isI_44 hi1 d_Mo_branch_234 ?_
  refine lv_iconst (v := 1) hx hb d_Mo_branch_235 (by decide) ?_
  refine lv_iadd hx hb d_Mo_branch_236 ?_
  obtain ⟨hi2, h⟩ := h
  refine rw_iast X hP hS isI_44 hi2 d_Mo_branch_237 (fun V3 H locs eV3 hP hS => ?_)
  have h := h V3 eV3
  refine lv_goto (tgt := 156) hx hb d_Mo_branch_238 (by decide) ?_
  exact ih V3 x1 x5 s0 h _ _ _ hP hS (lv_sub hl [1, 2, 3, 0] rfl)
def p_Mo_branch_b211 (k : vS → Prop) (hd : vS → Int32 → Int32 → Int32 → Prop) (V : vS) (x1 : Int32) (x5 : Int32) : Prop := (0 ≤ x5 → (p_Mo_branch_b221 k hd V x1 x5 0)) ∧ (¬ 0 ≤ x5 → (p_Mo_branch_b221 k hd V x1 x5 1))
set_option maxRecDepth 100000 in
set_option maxHeartbeats 4000000 in
theorem t_Mo_branch_b211 {k : vS → Prop} (X : cx g p s m meth c args R_Mo prog_10_method_19_code 8 (none)) {hd : vS → Int32 → Int32 → Int32 → Prop} (ih : ∀ (V : vS) (x1 : Int32) (x5 : Int32) (x6 : Int32), hd V x1 x5 x6 → ∀ (H : Heap) (locs : List Loc) (ls : Array Slot), va_P g.1 vcl (cw g V) H → va_S (gA g) s.heap H locs → lv_has ls 8 [(0, .ref (ga g 34)), (1, .int x1), (5, .int x5), (6, .int x6)] → W p l e rm_Mo_branch s m args below meth c H locs 0 0 (MQ below (va_Qv k (Bw g) (gA g)) args s 0 0 (gA g)) (F0 m 156 ls [])) {V : vS} {x1 : Int32} {x5 : Int32} (h : p_Mo_branch_b211 k hd V x1 x5) (hP : va_P g.1 vcl (cw g V) H) (hS : va_S (gA g) s.heap H locs) (hl : lv_has ls 8 [(0, .ref (ga g 34)), (1, .int x1), (5, .int x5)]) : W p l e rm_Mo_branch s m args below meth c H locs 0 0 (MQ below (va_Qv k (Bw g) (gA g)) args s 0 0 (gA g)) (F0 m 211 ls []) := by
  obtain ⟨hx, hb, -, -, hown, hts, -, -, hz, hG⟩ := id X
  unfold p_Mo_branch_b211 at h
  refine lv_iload hx hb d_Mo_branch_211 (lv_at hl 2 rfl) ?_
  refine lv_if_ge (tgt := 220) hx hb d_Mo_branch_213 (by decide) (fun c1 => ?_) (fun c1 => ?_)
  · have h := h.1 c1
    refine lv_iconst (v := 0) hx hb d_Mo_branch_220 (by decide) ?_
    exact t_Mo_branch_b221 X ih h hP hS (lv_sub hl [0, 1, 2] rfl)
  · have h := h.2 c1
    refine lv_iconst (v := 1) hx hb d_Mo_branch_216 (by decide) ?_
    refine lv_goto (tgt := 221) hx hb d_Mo_branch_217 (by decide) ?_
    exact t_Mo_branch_b221 X ih h hP hS (lv_sub hl [0, 1, 2] rfl)
def p_Mo_branch_b201 (k : vS → Prop) (hd : vS → Int32 → Int32 → Int32 → Prop) (V : vS) (x1 : Int32) (x5 : Int32) (x7 : Int32) : Prop := (x7 = 14 → (∀ y2 : Int32, y2 = x5 + (-1) → (p_Mo_branch_b211 k hd V x1 y2))) ∧ (¬ x7 = 14 → (p_Mo_branch_b211 k hd V x1 x5))
set_option maxRecDepth 100000 in
set_option maxHeartbeats 4000000 in
theorem t_Mo_branch_b201 {k : vS → Prop} (X : cx g p s m meth c args R_Mo prog_10_method_19_code 8 (none)) {hd : vS → Int32 → Int32 → Int32 → Prop} (ih : ∀ (V : vS) (x1 : Int32) (x5 : Int32) (x6 : Int32), hd V x1 x5 x6 → ∀ (H : Heap) (locs : List Loc) (ls : Array Slot), va_P g.1 vcl (cw g V) H → va_S (gA g) s.heap H locs → lv_has ls 8 [(0, .ref (ga g 34)), (1, .int x1), (5, .int x5), (6, .int x6)] → W p l e rm_Mo_branch s m args below meth c H locs 0 0 (MQ below (va_Qv k (Bw g) (gA g)) args s 0 0 (gA g)) (F0 m 156 ls [])) {V : vS} {x1 : Int32} {x5 : Int32} {x7 : Int32} (h : p_Mo_branch_b201 k hd V x1 x5 x7) (hP : va_P g.1 vcl (cw g V) H) (hS : va_S (gA g) s.heap H locs) (hl : lv_has ls 8 [(0, .ref (ga g 34)), (1, .int x1), (5, .int x5), (7, .int x7)]) : W p l e rm_Mo_branch s m args below meth c H locs 0 0 (MQ below (va_Qv k (Bw g) (gA g)) args s 0 0 (gA g)) (F0 m 201 ls []) := by
  obtain ⟨hx, hb, -, -, hown, hts, -, -, hz, hG⟩ := id X
  unfold p_Mo_branch_b201 at h
  refine lv_iload hx hb d_Mo_branch_201 (lv_at hl 3 rfl) ?_
  refine lv_bipush (v := 14) hx hb d_Mo_branch_203 (by decide) ?_
  refine lv_icmp_ne (tgt := 211) hx hb d_Mo_branch_205 (by decide) (fun c1 => ?_) (fun c1 => ?_)
  · have h := h.2 c1
    exact t_Mo_branch_b211 X ih h hP hS (lv_sub hl [0, 1, 2] rfl)
  · have h := h.1 c1
    obtain ⟨y2, ey2⟩ : ∃ z : Int32, z = x5 + (-1) := ⟨_, rfl⟩
    have h := h y2 ey2
    refine lv_iinc (v := y2) (lv' := [(5, .int y2), (0, .ref (ga g 34)), (1, .int x1), (7, .int x7)]) hx hb d_Mo_branch_208 hl (k := 2) rfl (by rw [ey2]; rfl) (by decide) rfl (fun ls hl => ?_)
    exact t_Mo_branch_b211 X ih h hP hS (lv_sub hl [1, 2, 0] rfl)
def p_Mo_branch_b198 (k : vS → Prop) (hd : vS → Int32 → Int32 → Int32 → Prop) (V : vS) (x1 : Int32) (x5 : Int32) (x7 : Int32) : Prop := ∀ y1 : Int32, y1 = x5 + 1 → (p_Mo_branch_b201 k hd V x1 y1 x7)
set_option maxRecDepth 100000 in
set_option maxHeartbeats 4000000 in
theorem t_Mo_branch_b198 {k : vS → Prop} (X : cx g p s m meth c args R_Mo prog_10_method_19_code 8 (none)) {hd : vS → Int32 → Int32 → Int32 → Prop} (ih : ∀ (V : vS) (x1 : Int32) (x5 : Int32) (x6 : Int32), hd V x1 x5 x6 → ∀ (H : Heap) (locs : List Loc) (ls : Array Slot), va_P g.1 vcl (cw g V) H → va_S (gA g) s.heap H locs → lv_has ls 8 [(0, .ref (ga g 34)), (1, .int x1), (5, .int x5), (6, .int x6)] → W p l e rm_Mo_branch s m args below meth c H locs 0 0 (MQ below (va_Qv k (Bw g) (gA g)) args s 0 0 (gA g)) (F0 m 156 ls [])) {V : vS} {x1 : Int32} {x5 : Int32} {x7 : Int32} (h : p_Mo_branch_b198 k hd V x1 x5 x7) (hP : va_P g.1 vcl (cw g V) H) (hS : va_S (gA g) s.heap H locs) (hl : lv_has ls 8 [(0, .ref (ga g 34)), (1, .int x1), (5, .int x5), (7, .int x7)]) : W p l e rm_Mo_branch s m args below meth c H locs 0 0 (MQ below (va_Qv k (Bw g) (gA g)) args s 0 0 (gA g)) (F0 m 198 ls []) := by
  obtain ⟨hx, hb, -, -, hown, hts, -, -, hz, hG⟩ := id X
  unfold p_Mo_branch_b198 at h
  obtain ⟨y1, ey1⟩ : ∃ z : Int32, z = x5 + 1 := ⟨_, rfl⟩
  have h := h y1 ey1
  refine lv_iinc (v := y1) (lv' := [(5, .int y1), (0, .ref (ga g 34)), (1, .int x1), (7, .int x7)]) hx hb d_Mo_branch_198 hl (k := 2) rfl (by rw [ey1]; rfl) (by decide) rfl (fun ls hl => ?_)
  exact t_Mo_branch_b201 X ih h hP hS (lv_sub hl [1, 2, 0, 3] rfl)
def p_Mo_branch_b156 (k : vS → Prop) : Nat → vS → Int32 → Int32 → Int32 → Prop
  | 0, _, _, _, _ => False
  | n + 1, V, x1, x5, x6 => (x6 = 0 → (vp_in ((V.1 34 18) - 1) 7 ∧ (vp_in ((x1 * 24) + (V.1 44 (nt ((V.1 34 18) - 1)))) 96 ∧ (∀ y4 : Int32, y4 = V.1 39 (nt ((x1 * 24) + (V.1 44 (nt ((V.1 34 18) - 1))))) → ((y4 = 12 → (p_Mo_branch_b198 k (p_Mo_branch_b156 k n) V x1 x5 y4)) ∧ (¬ y4 = 12 → ((y4 = 13 → (p_Mo_branch_b198 k (p_Mo_branch_b156 k n) V x1 x5 y4)) ∧ (¬ y4 = 13 → (p_Mo_branch_b201 k (p_Mo_branch_b156 k n) V x1 x5 y4))))))))) ∧ (¬ x6 = 0 → (k V))
set_option maxRecDepth 100000 in
set_option maxHeartbeats 4000000 in
theorem t_Mo_branch_b156 {k : vS → Prop} (X : cx g p s m meth c args R_Mo prog_10_method_19_code 8 (none)) : ∀ (n : Nat) (V : vS) (x1 : Int32) (x5 : Int32) (x6 : Int32), p_Mo_branch_b156 k n V x1 x5 x6 → ∀ (H : Heap) (locs : List Loc) (ls : Array Slot), va_P g.1 vcl (cw g V) H → va_S (gA g) s.heap H locs → lv_has ls 8 [(0, .ref (ga g 34)), (1, .int x1), (5, .int x5), (6, .int x6)] → W p l e rm_Mo_branch s m args below meth c H locs 0 0 (MQ below (va_Qv k (Bw g) (gA g)) args s 0 0 (gA g)) (F0 m 156 ls []) := by
  obtain ⟨hx, hb, -, -, hown, hts, -, -, hz, hG⟩ := id X
  intro n
  induction n with
  | zero =>
    intro V x1 x5 x6 h
    exact h.elim
  | succ n ih =>
    intro V x1 x5 x6 h H locs ls hP hS hl
    unfold p_Mo_branch_b156 at h
    refine lv_iload hx hb d_Mo_branch_156 (lv_at hl 3 rfl) ?_
    refine lv_if_ne (tgt := 241) hx hb d_Mo_branch_158 (by decide) (fun c1 => ?_) (fun c1 => ?_)
    · have h := h.2 c1
      exact rw_vret X hP hS h d_Mo_branch_241
    · have h := h.1 c1
      refine lv_aload_n hx hb d_Mo_branch_161 rfl (lv_at hl 0 rfl) ?_
      refine gf_Mo_op X hP q_450 d_Mo_branch_162 ?_
      refine lv_iload_n hx hb d_Mo_branch_165 rfl (lv_at hl 1 rfl) ?_
      refine lv_bipush (v := 24) hx hb d_Mo_branch_166 (by decide) ?_
      refine lv_imul hx hb d_Mo_branch_168 ?_
      refine lv_aload_n hx hb d_Mo_branch_169 rfl (lv_at hl 0 rfl) ?_
      refine gf_Mo_next X hP q_461 d_Mo_branch_170 ?_
      refine lv_aload_n hx hb d_Mo_branch_173 rfl (lv_at hl 0 rfl) ?_
      refine gf_Mo_depth X hP q_464 d_Mo_branch_174 ?_
      refine lv_iconst (v := 1) hx hb d_Mo_branch_177 (by decide) ?_
      refine lv_isub hx hb d_Mo_branch_178 ?_
      obtain ⟨hi2, h⟩ := h
      refine rw_iald X hP isI_44 hi2 d_Mo_branch_179 ?_
      refine lv_iadd hx hb d_Mo_branch_180 ?_
      obtain ⟨hi3, h⟩ := h
      refine rw_iald X hP isI_39 hi3 d_Mo_branch_181 ?_
      refine lv_topi (fun y4 ey4 => ?_)
      have h := h y4 ey4
      refine lv_istore (lv' := [(7, .int y4), (0, .ref (ga g 34)), (1, .int x1), (5, .int x5), (6, .int x6)]) hx hb d_Mo_branch_182 hl (by decide) rfl (fun ls hl => ?_)
      refine lv_iload hx hb d_Mo_branch_184 (lv_at hl 0 rfl) ?_
      refine lv_bipush (v := 12) hx hb d_Mo_branch_186 (by decide) ?_
      refine lv_icmp_eq (tgt := 198) hx hb d_Mo_branch_188 (by decide) (fun c5 => ?_) (fun c5 => ?_)
      · have h := h.1 c5
        exact t_Mo_branch_b198 X (hd := p_Mo_branch_b156 k n) ih h hP hS (lv_sub hl [1, 2, 3, 0] rfl)
      · have h := h.2 c5
        refine lv_iload hx hb d_Mo_branch_191 (lv_at hl 0 rfl) ?_
        refine lv_bipush (v := 13) hx hb d_Mo_branch_193 (by decide) ?_
        refine lv_icmp_ne (tgt := 201) hx hb d_Mo_branch_195 (by decide) (fun c6 => ?_) (fun c6 => ?_)
        · have h := h.2 c6
          exact t_Mo_branch_b201 X (hd := p_Mo_branch_b156 k n) ih h hP hS (lv_sub hl [1, 2, 3, 0] rfl)
        · have h := h.1 c6
          exact t_Mo_branch_b198 X (hd := p_Mo_branch_b156 k n) ih h hP hS (lv_sub hl [1, 2, 3, 0] rfl)
def p_Mo_branch_b139 (k : vS → Prop) (V : vS) (x1 : Int32) (x4 : Int32) (x5 : Int32) (s0 : Int32) : Prop := vp_in ((V.1 34 18) - 1) 7 ∧ ∀ V2 : vS, V2 = sv V 44 (nt ((V.1 34 18) - 1)) (x4 + 1) → (∃ n, p_Mo_branch_b156 k n V2 x1 x5 s0)
set_option maxRecDepth 100000 in
set_option maxHeartbeats 4000000 in
theorem t_Mo_branch_b139 {k : vS → Prop} (X : cx g p s m meth c args R_Mo prog_10_method_19_code 8 (none)) {V : vS} {x1 : Int32} {x4 : Int32} {x5 : Int32} {s0 : Int32} (h : p_Mo_branch_b139 k V x1 x4 x5 s0) (hP : va_P g.1 vcl (cw g V) H) (hS : va_S (gA g) s.heap H locs) (hl : lv_has ls 8 [(0, .ref (ga g 34)), (1, .int x1), (4, .int x4), (5, .int x5)]) : W p l e rm_Mo_branch s m args below meth c H locs 0 0 (MQ below (va_Qv k (Bw g) (gA g)) args s 0 0 (gA g)) (F0 m 139 ls [.int s0]) := by
  obtain ⟨hx, hb, -, -, hown, hts, -, -, hz, hG⟩ := id X
  unfold p_Mo_branch_b139 at h
  refine lv_istore (lv' := [(6, .int s0), (0, .ref (ga g 34)), (1, .int x1), (4, .int x4), (5, .int x5)]) hx hb d_Mo_branch_139 hl (by decide) rfl (fun ls hl => ?_)
  refine lv_aload_n hx hb d_Mo_branch_141 rfl (lv_at hl 1 rfl) ?_
  refine gf_Mo_next X hP q_461 d_Mo_branch_142 ?_
  refine lv_aload_n hx hb d_Mo_branch_145 rfl (lv_at hl 1 rfl) ?_
  refine gf_Mo_depth X hP q_464 d_Mo_branch_146 ?_
  refine lv_iconst (v := 1) hx hb d_Mo_branch_149 (by decide) ?_
  refine lv_isub hx hb d_Mo_branch_150 ?_
  refine lv_iload hx hb d_Mo_branch_151 (lv_at hl 3 rfl) ?_
  refine lv_iconst (v := 1) hx hb d_Mo_branch_153 (by decide) ?_
  refine lv_iadd hx hb d_Mo_branch_154 ?_
  obtain ⟨hi1, h⟩ := h
  refine rw_iast X hP hS isI_44 hi1 d_Mo_branch_155 (fun V2 H locs eV2 hP hS => ?_)
  have h := h V2 eV2
  obtain ⟨n, h⟩ := h
  exact t_Mo_branch_b156 X n V2 x1 x5 s0 h _ _ _ hP hS (lv_sub hl [1, 2, 4, 0] rfl)
def p_Mo_branch_b8 (k : vS → Prop) : Nat → vS → Int32 → Int32 → Int32 → Int32 → Prop
  | 0, _, _, _, _, _ => False
  | n + 1, V, x1, x2, x3, x4 => (x2 ≤ x4 → ((x3 = (V.1 34 11) → (p_Mo_leave (fun V7 => k V7) V)) ∧ (¬ x3 = (V.1 34 11) → (vp_in (((V.1 34 11) - 1) - x3) 26 ∧ (∀ y4 : Int32, y4 = V.1 41 (nt (((V.1 34 11) - 1) - x3)) → (vp_in ((x1 * 24) + y4) 96 ∧ (((V.1 39 (nt ((x1 * 24) + y4))) = 13 → (p_Mo_branch_b139 k V x1 y4 0 1)) ∧ (¬ (V.1 39 (nt ((x1 * 24) + y4))) = 13 → (p_Mo_branch_b139 k V x1 y4 0 0))))))))) ∧ (¬ x2 ≤ x4 → (vp_in ((x1 * 24) + x4) 96 ∧ (∀ y10 : Int32, y10 = V.1 39 (nt ((x1 * 24) + x4)) → ((y10 = 12 → (p_Mo_branch_b42 k (p_Mo_branch_b8 k n) V x1 x2 x3 x4 y10)) ∧ (¬ y10 = 12 → ((y10 = 13 → (p_Mo_branch_b42 k (p_Mo_branch_b8 k n) V x1 x2 x3 x4 y10)) ∧ (¬ y10 = 13 → (p_Mo_branch_b63 k (p_Mo_branch_b8 k n) V x1 x2 x3 x4 y10))))))))
set_option maxRecDepth 100000 in
set_option maxHeartbeats 4000000 in
theorem t_Mo_branch_b8 {k : vS → Prop} (X : cx g p s m meth c args R_Mo prog_10_method_19_code 8 (none)) : ∀ (n : Nat) (V : vS) (x1 : Int32) (x2 : Int32) (x3 : Int32) (x4 : Int32), p_Mo_branch_b8 k n V x1 x2 x3 x4 → ∀ (H : Heap) (locs : List Loc) (ls : Array Slot), va_P g.1 vcl (cw g V) H → va_S (gA g) s.heap H locs → lv_has ls 8 [(0, .ref (ga g 34)), (1, .int x1), (2, .int x2), (3, .int x3), (4, .int x4)] → W p l e rm_Mo_branch s m args below meth c H locs 0 0 (MQ below (va_Qv k (Bw g) (gA g)) args s 0 0 (gA g)) (F0 m 8 ls []) := by
  obtain ⟨hx, hb, -, -, hown, hts, -, -, hz, hG⟩ := id X
  intro n
  induction n with
  | zero =>
    intro V x1 x2 x3 x4 h
    exact h.elim
  | succ n ih =>
    intro V x1 x2 x3 x4 h H locs ls hP hS hl
    unfold p_Mo_branch_b8 at h
    refine lv_iload hx hb d_Mo_branch_8 (lv_at hl 4 rfl) ?_
    refine lv_iload_n hx hb d_Mo_branch_10 rfl (lv_at hl 2 rfl) ?_
    refine lv_icmp_ge (tgt := 86) hx hb d_Mo_branch_11 (by decide) (fun c1 => ?_) (fun c1 => ?_)
    · have h := h.1 c1
      refine lv_iload_n hx hb d_Mo_branch_86 rfl (lv_at hl 3 rfl) ?_
      refine lv_aload_n hx hb d_Mo_branch_87 rfl (lv_at hl 0 rfl) ?_
      refine gf_Mo_open X hP q_457 d_Mo_branch_88 ?_
      refine lv_icmp_ne (tgt := 99) hx hb d_Mo_branch_91 (by decide) (fun c2 => ?_) (fun c2 => ?_)
      · have h := h.2 c2
        refine lv_aload_n hx hb d_Mo_branch_99 rfl (lv_at hl 0 rfl) ?_
        refine gf_Mo_opened X hP q_455 d_Mo_branch_100 ?_
        refine lv_aload_n hx hb d_Mo_branch_103 rfl (lv_at hl 0 rfl) ?_
        refine gf_Mo_open X hP q_457 d_Mo_branch_104 ?_
        refine lv_iconst (v := 1) hx hb d_Mo_branch_107 (by decide) ?_
        refine lv_isub hx hb d_Mo_branch_108 ?_
        refine lv_iload_n hx hb d_Mo_branch_109 rfl (lv_at hl 3 rfl) ?_
        refine lv_isub hx hb d_Mo_branch_110 ?_
        obtain ⟨hi3, h⟩ := h
        refine rw_iald X hP isI_41 hi3 d_Mo_branch_111 ?_
        refine lv_topi (fun y4 ey4 => ?_)
        have h := h y4 ey4
        refine lv_istore (lv' := [(4, .int y4), (0, .ref (ga g 34)), (1, .int x1), (2, .int x2), (3, .int x3)]) hx hb d_Mo_branch_112 hl (by decide) rfl (fun ls hl => ?_)
        refine lv_iconst (v := 0) hx hb d_Mo_branch_114 (by decide) ?_
        refine lv_istore (lv' := [(5, .int 0), (4, .int y4), (0, .ref (ga g 34)), (1, .int x1), (2, .int x2), (3, .int x3)]) hx hb d_Mo_branch_115 hl (by decide) rfl (fun ls hl => ?_)
        refine lv_aload_n hx hb d_Mo_branch_117 rfl (lv_at hl 2 rfl) ?_
        refine gf_Mo_op X hP q_450 d_Mo_branch_118 ?_
        refine lv_iload_n hx hb d_Mo_branch_121 rfl (lv_at hl 3 rfl) ?_
        refine lv_bipush (v := 24) hx hb d_Mo_branch_122 (by decide) ?_
        refine lv_imul hx hb d_Mo_branch_124 ?_
        refine lv_iload hx hb d_Mo_branch_125 (lv_at hl 1 rfl) ?_
        refine lv_iadd hx hb d_Mo_branch_127 ?_
        obtain ⟨hi5, h⟩ := h
        refine rw_iald X hP isI_39 hi5 d_Mo_branch_128 ?_
        refine lv_bipush (v := 13) hx hb d_Mo_branch_129 (by decide) ?_
        refine lv_icmp_ne (tgt := 138) hx hb d_Mo_branch_131 (by decide) (fun c6 => ?_) (fun c6 => ?_)
        · have h := h.2 c6
          refine lv_iconst (v := 0) hx hb d_Mo_branch_138 (by decide) ?_
          exact t_Mo_branch_b139 X h hP hS (lv_sub hl [2, 3, 1, 0] rfl)
        · have h := h.1 c6
          refine lv_iconst (v := 1) hx hb d_Mo_branch_134 (by decide) ?_
          refine lv_goto (tgt := 139) hx hb d_Mo_branch_135 (by decide) ?_
          exact t_Mo_branch_b139 X h hP hS (lv_sub hl [2, 3, 1, 0] rfl)
      · have h := h.1 c2
        refine lv_aload_n hx hb d_Mo_branch_94 rfl (lv_at hl 0 rfl) ?_
        refine rw_cVv (rest := []) X hP hS yv_Mo_leave isO_Mo (c_Mo_leave hG h) q_597 ⟨rfl, rfl, by decide, by decide⟩ rfl rfl hl.1 (Nat.le_of_ble_eq_true rfl) ⟨Nat.zero_le _, Nat.zero_le _⟩ d_Mo_branch_95 (fun V7 H locs h hP hS => ?_)
        exact rw_vret X hP hS h d_Mo_branch_98
    · have h := h.2 c1
      refine lv_aload_n hx hb d_Mo_branch_14 rfl (lv_at hl 0 rfl) ?_
      refine gf_Mo_op X hP q_450 d_Mo_branch_15 ?_
      refine lv_iload_n hx hb d_Mo_branch_18 rfl (lv_at hl 1 rfl) ?_
      refine lv_bipush (v := 24) hx hb d_Mo_branch_19 (by decide) ?_
      refine lv_imul hx hb d_Mo_branch_21 ?_
      refine lv_iload hx hb d_Mo_branch_22 (lv_at hl 4 rfl) ?_
      refine lv_iadd hx hb d_Mo_branch_24 ?_
      obtain ⟨hi9, h⟩ := h
      refine rw_iald X hP isI_39 hi9 d_Mo_branch_25 ?_
      refine lv_topi (fun y10 ey10 => ?_)
      have h := h y10 ey10
      refine lv_istore (lv' := [(5, .int y10), (0, .ref (ga g 34)), (1, .int x1), (2, .int x2), (3, .int x3), (4, .int x4)]) hx hb d_Mo_branch_26 hl (by decide) rfl (fun ls hl => ?_)
      refine lv_iload hx hb d_Mo_branch_28 (lv_at hl 0 rfl) ?_
      refine lv_bipush (v := 12) hx hb d_Mo_branch_30 (by decide) ?_
      refine lv_icmp_eq (tgt := 42) hx hb d_Mo_branch_32 (by decide) (fun c11 => ?_) (fun c11 => ?_)
      · have h := h.1 c11
        exact t_Mo_branch_b42 X (hd := p_Mo_branch_b8 k n) ih h hP hS (lv_sub hl [1, 2, 3, 4, 5, 0] rfl)
      · have h := h.2 c11
        refine lv_iload hx hb d_Mo_branch_35 (lv_at hl 0 rfl) ?_
        refine lv_bipush (v := 13) hx hb d_Mo_branch_37 (by decide) ?_
        refine lv_icmp_ne (tgt := 63) hx hb d_Mo_branch_39 (by decide) (fun c12 => ?_) (fun c12 => ?_)
        · have h := h.2 c12
          exact t_Mo_branch_b63 X (hd := p_Mo_branch_b8 k n) ih h hP hS (lv_sub hl [1, 2, 3, 4, 5, 0] rfl)
        · have h := h.1 c12
          exact t_Mo_branch_b42 X (hd := p_Mo_branch_b8 k n) ih h hP hS (lv_sub hl [1, 2, 3, 4, 5, 0] rfl)
def p_Mo_branch (k : vS → Prop) (V : vS) (x1 : Int32) (x2 : Int32) (x3 : Int32) : Prop := ∀ V1 : vS, V1 = sv V 34 11 0 → (∃ n, p_Mo_branch_b8 k n V1 x1 x2 x3 0)
set_option maxRecDepth 100000 in
set_option maxHeartbeats 4000000 in
theorem c_Mo_branch {l : Launch} {g : gT} (hG : gd g) {V : vS} {x1 : Int32} {x2 : Int32} {x3 : Int32} {k : vS → Prop} (h : p_Mo_branch k V x1 x2 x3) : Cv g l y_Mo_branch prog_10_method_19_code 8 (none) rm_Mo_branch [.ref (ga g 34), .int x1, .int x2, .int x3] V k := by
  unfold Cv
  refine Met.ofW (cc := prog_10_method_19_code) (maxL := 8) (ret := none) (by decide) rfl ?_
  intro p e s m args below meth c s₁ B hml hv
  obtain ⟨rfl, hP, hK, hZ⟩ := hv
  have X : cx g p s m meth c [.ref (ga g 34), .int x1, .int x2, .int x3].toArray R_Mo prog_10_method_19_code 8 (none) := ⟨B.exec, B.bytes, B.returns, hml, findClass_of_methodNamed B.named, fun w hw => atoms_spec (ws := Cond.code y_Mo_branch prog_10_method_19_code 8 (none) :: TBL) B.pre w (List.mem_cons_of_mem _ hw), B.notSynchronized, hK, hZ, hG⟩
  have hl := lv_entry [.ref (ga g 34), .int x1, .int x2, .int x3] (n := 8) (Nat.le_of_ble_eq_true rfl)
  rw [lg_entry_eq]
  generalize (lg_sl [.ref (ga g 34), .int x1, .int x2, .int x3] ++ List.replicate (8 - (lg_sl [.ref (ga g 34), .int x1, .int x2, .int x3]).length) Slot.unset).toArray = ls at hl ⊢
  have hl : lv_has ls 8 [(0, .ref (ga g 34)), (1, .int x1), (2, .int x2), (3, .int x3)] := hl
  have hS : va_S (gA g) s.heap s.heap [] := va_S.rf
  obtain ⟨hx, hb, -, -, hown, hts, -, -, hz, -⟩ := id X
  show W p l e rm_Mo_branch s m _ below meth c s.heap [] 0 0 (MQ below (va_Qv k (Bw g) (gA g)) _ s 0 0 (gA g)) (F0 m 0 ls [])
  unfold p_Mo_branch at h
  refine lv_aload_n hx hb d_Mo_branch_0 rfl (lv_at hl 0 rfl) ?_
  refine lv_iconst (v := 0) hx hb d_Mo_branch_1 (by decide) ?_
  refine pf_Mo_open X hP hS q_457 d_Mo_branch_2 (fun V1 H locs eV1 hP hS => ?_)
  have h := h V1 eV1
  refine lv_iconst (v := 0) hx hb d_Mo_branch_5 (by decide) ?_
  refine lv_istore (lv' := [(4, .int 0), (0, .ref (ga g 34)), (1, .int x1), (2, .int x2), (3, .int x3)]) hx hb d_Mo_branch_6 hl (by decide) rfl (fun ls hl => ?_)
  obtain ⟨n, h⟩ := h
  exact t_Mo_branch_b8 X n V1 x1 x2 x3 0 h _ _ _ hP hS (lv_sub hl [1, 2, 3, 4, 0] rfl)
theorem yv_Mo_branch : yV R_Mo y_Mo_branch prog_10_method_19_code 8 (none) 3 := ⟨by decide +kernel, q_625, qp_38, q_7, q_626⟩
/-! Mo.call -/
theorem d_Mo_call_0 : decode prog_10_method_20_code 0 = .ok (.aload_n 0, 1) := by decide +kernel
theorem d_Mo_call_1 : decode prog_10_method_20_code 1 = .ok (.getfield 61, 3) := by decide +kernel
theorem d_Mo_call_4 : decode prog_10_method_20_code 4 = .ok (.bipush 6, 2) := by decide +kernel
theorem d_Mo_call_6 : decode prog_10_method_20_code 6 = .ok (.if_icmp .ne 10, 3) := by decide +kernel
theorem d_Mo_call_9 : decode prog_10_method_20_code 9 = .ok (.aload_n 0, 1) := by decide +kernel
theorem d_Mo_call_10 : decode prog_10_method_20_code 10 = .ok (.bipush 12, 2) := by decide +kernel
theorem d_Mo_call_12 : decode prog_10_method_20_code 12 = .ok (.putfield 111, 3) := by decide +kernel
theorem d_Mo_call_15 : decode prog_10_method_20_code 15 = .ok (.return_, 1) := by decide +kernel
theorem d_Mo_call_16 : decode prog_10_method_20_code 16 = .ok (.aload_n 0, 1) := by decide +kernel
theorem d_Mo_call_17 : decode prog_10_method_20_code 17 = .ok (.iload_n 1, 1) := by decide +kernel
theorem d_Mo_call_18 : decode prog_10_method_20_code 18 = .ok (.invokevirtual 107, 3) := by decide +kernel
theorem d_Mo_call_21 : decode prog_10_method_20_code 21 = .ok (.aload_n 0, 1) := by decide +kernel
theorem d_Mo_call_22 : decode prog_10_method_20_code 22 = .ok (.getfield 7, 3) := by decide +kernel
theorem d_Mo_call_25 : decode prog_10_method_20_code 25 = .ok (.iload_n 1, 1) := by decide +kernel
theorem d_Mo_call_26 : decode prog_10_method_20_code 26 = .ok (.iaload, 1) := by decide +kernel
theorem d_Mo_call_27 : decode prog_10_method_20_code 27 = .ok (.iconst 1, 1) := by decide +kernel
theorem d_Mo_call_28 : decode prog_10_method_20_code 28 = .ok (.isub, 1) := by decide +kernel
theorem d_Mo_call_29 : decode prog_10_method_20_code 29 = .ok (.istore_n 2, 1) := by decide +kernel
theorem d_Mo_call_30 : decode prog_10_method_20_code 30 = .ok (.iload_n 2, 1) := by decide +kernel
theorem d_Mo_call_31 : decode prog_10_method_20_code 31 = .ok (.ifCond .lt 28, 3) := by decide +kernel
theorem d_Mo_call_34 : decode prog_10_method_20_code 34 = .ok (.aload_n 0, 1) := by decide +kernel
theorem d_Mo_call_35 : decode prog_10_method_20_code 35 = .ok (.getfield 40, 3) := by decide +kernel
theorem d_Mo_call_38 : decode prog_10_method_20_code 38 = .ok (.aload_n 0, 1) := by decide +kernel
theorem d_Mo_call_39 : decode prog_10_method_20_code 39 = .ok (.getfield 61, 3) := by decide +kernel
theorem d_Mo_call_42 : decode prog_10_method_20_code 42 = .ok (.iconst 5, 1) := by decide +kernel
theorem d_Mo_call_43 : decode prog_10_method_20_code 43 = .ok (.imul, 1) := by decide +kernel
theorem d_Mo_call_44 : decode prog_10_method_20_code 44 = .ok (.iconst 5, 1) := by decide +kernel
theorem d_Mo_call_45 : decode prog_10_method_20_code 45 = .ok (.isub, 1) := by decide +kernel
theorem d_Mo_call_46 : decode prog_10_method_20_code 46 = .ok (.iload_n 2, 1) := by decide +kernel
theorem d_Mo_call_47 : decode prog_10_method_20_code 47 = .ok (.iadd, 1) := by decide +kernel
theorem d_Mo_call_48 : decode prog_10_method_20_code 48 = .ok (.aload_n 0, 1) := by decide +kernel
theorem d_Mo_call_49 : decode prog_10_method_20_code 49 = .ok (.invokevirtual 120, 3) := by decide +kernel
theorem d_Mo_call_52 : decode prog_10_method_20_code 52 = .ok (.iastore, 1) := by decide +kernel
theorem d_Mo_call_53 : decode prog_10_method_20_code 53 = .ok (.iinc 2 (-1), 3) := by decide +kernel
theorem d_Mo_call_56 : decode prog_10_method_20_code 56 = .ok (.goto (-26), 3) := by decide +kernel
theorem d_Mo_call_59 : decode prog_10_method_20_code 59 = .ok (.return_, 1) := by decide +kernel
abbrev rm_Mo_call : Room := { frames := 1, cells := 0, slots := 0, locals := 22 }
def p_Mo_call_b30 (k : vS → Prop) : Nat → vS → Int32 → Prop
  | 0, _, _ => False
  | n + 1, V, x2 => (x2 < 0 → (k V)) ∧ (¬ x2 < 0 → (p_Mo_pop (fun r3 V2 => vp_in ((((V.1 34 18) * 5) - 5) + x2) 35 ∧ ∀ V6 : vS, V6 = sv V2 45 (nt ((((V.1 34 18) * 5) - 5) + x2)) r3 → (∀ y7 : Int32, y7 = x2 + (-1) → ((p_Mo_call_b30 k n) V6 y7))) V))
set_option maxRecDepth 100000 in
set_option maxHeartbeats 4000000 in
theorem t_Mo_call_b30 {k : vS → Prop} (X : cx g p s m meth c args R_Mo prog_10_method_20_code 3 (none)) : ∀ (n : Nat) (V : vS) (x2 : Int32), p_Mo_call_b30 k n V x2 → ∀ (H : Heap) (locs : List Loc) (ls : Array Slot), va_P g.1 vcl (cw g V) H → va_S (gA g) s.heap H locs → lv_has ls 3 [(0, .ref (ga g 34)), (2, .int x2)] → W p l e rm_Mo_call s m args below meth c H locs 0 0 (MQ below (va_Qv k (Bw g) (gA g)) args s 0 0 (gA g)) (F0 m 30 ls []) := by
  obtain ⟨hx, hb, -, -, hown, hts, -, -, hz, hG⟩ := id X
  intro n
  induction n with
  | zero =>
    intro V x2 h
    exact h.elim
  | succ n ih =>
    intro V x2 h H locs ls hP hS hl
    unfold p_Mo_call_b30 at h
    refine lv_iload_n hx hb d_Mo_call_30 rfl (lv_at hl 1 rfl) ?_
    refine lv_if_lt (tgt := 59) hx hb d_Mo_call_31 (by decide) (fun c1 => ?_) (fun c1 => ?_)
    · have h := h.1 c1
      exact rw_vret X hP hS h d_Mo_call_59
    · have h := h.2 c1
      refine lv_aload_n hx hb d_Mo_call_34 rfl (lv_at hl 0 rfl) ?_
      refine gf_Mo_locals X hP q_462 d_Mo_call_35 ?_
      refine lv_aload_n hx hb d_Mo_call_38 rfl (lv_at hl 0 rfl) ?_
      refine gf_Mo_depth X hP q_464 d_Mo_call_39 ?_
      refine lv_iconst (v := 5) hx hb d_Mo_call_42 (by decide) ?_
      refine lv_imul hx hb d_Mo_call_43 ?_
      refine lv_iconst (v := 5) hx hb d_Mo_call_44 (by decide) ?_
      refine lv_isub hx hb d_Mo_call_45 ?_
      refine lv_iload_n hx hb d_Mo_call_46 rfl (lv_at hl 1 rfl) ?_
      refine lv_iadd hx hb d_Mo_call_47 ?_
      refine lv_aload_n hx hb d_Mo_call_48 rfl (lv_at hl 0 rfl) ?_
      refine rw_cVi (rest := [.int ((((V.1 34 18) * 5) - 5) + x2), .ref (ga g 45)]) X hP hS yv_Mo_pop isO_Mo (c_Mo_pop hG h) q_601 ⟨rfl, rfl, by decide, by decide⟩ rfl rfl hl.1 (Nat.le_of_ble_eq_true rfl) ⟨Nat.zero_le _, Nat.zero_le _⟩ d_Mo_call_49 (fun r3 V2 H locs h hP hS => ?_)
      obtain ⟨hi5, h⟩ := h
      refine rw_iast X hP hS isI_45 hi5 d_Mo_call_52 (fun V6 H locs eV6 hP hS => ?_)
      have h := h V6 eV6
      obtain ⟨y7, ey7⟩ : ∃ z : Int32, z = x2 + (-1) := ⟨_, rfl⟩
      have h := h y7 ey7
      refine lv_iinc (v := y7) (lv' := [(2, .int y7), (0, .ref (ga g 34))]) hx hb d_Mo_call_53 hl (k := 1) rfl (by rw [ey7]; rfl) (by decide) rfl (fun ls hl => ?_)
      refine lv_goto (tgt := 30) hx hb d_Mo_call_56 (by decide) ?_
      exact ih V6 y7 h _ _ _ hP hS (lv_sub hl [1, 0] rfl)
def p_Mo_call (k : vS → Prop) (V : vS) (x1 : Int32) : Prop := ((V.1 34 18) = 6 → (∀ V6 : vS, V6 = sv V 34 22 12 → (k V6))) ∧ (¬ (V.1 34 18) = 6 → (p_Mo_enter (fun V2 => vp_in x1 4 ∧ (∀ y5 : Int32, y5 = (V2.1 35 (nt x1)) - 1 → (∃ n, p_Mo_call_b30 k n V2 y5))) V x1))
set_option maxRecDepth 100000 in
set_option maxHeartbeats 4000000 in
theorem c_Mo_call {l : Launch} {g : gT} (hG : gd g) {V : vS} {x1 : Int32} {k : vS → Prop} (h : p_Mo_call k V x1) : Cv g l y_Mo_call prog_10_method_20_code 3 (none) rm_Mo_call [.ref (ga g 34), .int x1] V k := by
  unfold Cv
  refine Met.ofW (cc := prog_10_method_20_code) (maxL := 3) (ret := none) (by decide) rfl ?_
  intro p e s m args below meth c s₁ B hml hv
  obtain ⟨rfl, hP, hK, hZ⟩ := hv
  have X : cx g p s m meth c [.ref (ga g 34), .int x1].toArray R_Mo prog_10_method_20_code 3 (none) := ⟨B.exec, B.bytes, B.returns, hml, findClass_of_methodNamed B.named, fun w hw => atoms_spec (ws := Cond.code y_Mo_call prog_10_method_20_code 3 (none) :: TBL) B.pre w (List.mem_cons_of_mem _ hw), B.notSynchronized, hK, hZ, hG⟩
  have hl := lv_entry [.ref (ga g 34), .int x1] (n := 3) (Nat.le_of_ble_eq_true rfl)
  rw [lg_entry_eq]
  generalize (lg_sl [.ref (ga g 34), .int x1] ++ List.replicate (3 - (lg_sl [.ref (ga g 34), .int x1]).length) Slot.unset).toArray = ls at hl ⊢
  have hl : lv_has ls 3 [(0, .ref (ga g 34)), (1, .int x1)] := hl
  have hS : va_S (gA g) s.heap s.heap [] := va_S.rf
  obtain ⟨hx, hb, -, -, hown, hts, -, -, hz, -⟩ := id X
  show W p l e rm_Mo_call s m _ below meth c s.heap [] 0 0 (MQ below (va_Qv k (Bw g) (gA g)) _ s 0 0 (gA g)) (F0 m 0 ls [])
  unfold p_Mo_call at h
  refine lv_aload_n hx hb d_Mo_call_0 rfl (lv_at hl 0 rfl) ?_
  refine gf_Mo_depth X hP q_464 d_Mo_call_1 ?_
  refine lv_bipush (v := 6) hx hb d_Mo_call_4 (by decide) ?_
  refine lv_icmp_ne (tgt := 16) hx hb d_Mo_call_6 (by decide) (fun c1 => ?_) (fun c1 => ?_)
  · have h := h.2 c1
    refine lv_aload_n hx hb d_Mo_call_16 rfl (lv_at hl 0 rfl) ?_
    refine lv_iload_n hx hb d_Mo_call_17 rfl (lv_at hl 1 rfl) ?_
    refine rw_cVv (rest := []) X hP hS yv_Mo_enter isO_Mo (c_Mo_enter hG h) q_589 ⟨rfl, rfl, by decide, by decide⟩ rfl rfl hl.1 (Nat.le_of_ble_eq_true rfl) ⟨Nat.zero_le _, Nat.zero_le _⟩ d_Mo_call_18 (fun V2 H locs h hP hS => ?_)
    refine lv_aload_n hx hb d_Mo_call_21 rfl (lv_at hl 0 rfl) ?_
    refine gf_Mo_takes X hP q_446 d_Mo_call_22 ?_
    refine lv_iload_n hx hb d_Mo_call_25 rfl (lv_at hl 1 rfl) ?_
    obtain ⟨hi4, h⟩ := h
    refine rw_iald X hP isI_35 hi4 d_Mo_call_26 ?_
    refine lv_iconst (v := 1) hx hb d_Mo_call_27 (by decide) ?_
    refine lv_isub hx hb d_Mo_call_28 ?_
    refine lv_topi (fun y5 ey5 => ?_)
    have h := h y5 ey5
    refine lv_istore_n (lv' := [(2, .int y5), (0, .ref (ga g 34)), (1, .int x1)]) hx hb d_Mo_call_29 rfl hl (by decide) rfl (fun ls hl => ?_)
    obtain ⟨n, h⟩ := h
    exact t_Mo_call_b30 X n V2 y5 h _ _ _ hP hS (lv_sub hl [1, 0] rfl)
  · have h := h.1 c1
    refine lv_aload_n hx hb d_Mo_call_9 rfl (lv_at hl 0 rfl) ?_
    refine lv_bipush (v := 12) hx hb d_Mo_call_10 (by decide) ?_
    refine pf_Mo_trap X hP hS q_468 d_Mo_call_12 (fun V6 H locs eV6 hP hS => ?_)
    have h := h V6 eV6
    exact rw_vret X hP hS h d_Mo_call_15
theorem yv_Mo_call : yV R_Mo y_Mo_call prog_10_method_20_code 3 (none) 1 := ⟨by decide +kernel, q_629, qp_39, q_7, q_630⟩
/-! Mo.arithmetic -/
theorem d_Mo_arithmetic_0 : decode prog_10_method_21_code 0 = .ok (.aload_n 0, 1) := by decide +kernel
theorem d_Mo_arithmetic_1 : decode prog_10_method_21_code 1 = .ok (.invokevirtual 120, 3) := by decide +kernel
theorem d_Mo_arithmetic_4 : decode prog_10_method_21_code 4 = .ok (.istore_n 2, 1) := by decide +kernel
theorem d_Mo_arithmetic_5 : decode prog_10_method_21_code 5 = .ok (.aload_n 0, 1) := by decide +kernel
theorem d_Mo_arithmetic_6 : decode prog_10_method_21_code 6 = .ok (.invokevirtual 120, 3) := by decide +kernel
theorem d_Mo_arithmetic_9 : decode prog_10_method_21_code 9 = .ok (.istore_n 3, 1) := by decide +kernel
theorem d_Mo_arithmetic_10 : decode prog_10_method_21_code 10 = .ok (.iload_n 1, 1) := by decide +kernel
theorem d_Mo_arithmetic_11 : decode prog_10_method_21_code 11 = .ok (.bipush 6, 2) := by decide +kernel
theorem d_Mo_arithmetic_13 : decode prog_10_method_21_code 13 = .ok (.if_icmp .ne 25, 3) := by decide +kernel
theorem d_Mo_arithmetic_16 : decode prog_10_method_21_code 16 = .ok (.iload_n 2, 1) := by decide +kernel
theorem d_Mo_arithmetic_17 : decode prog_10_method_21_code 17 = .ok (.ifCond .eq 14, 3) := by decide +kernel
theorem d_Mo_arithmetic_20 : decode prog_10_method_21_code 20 = .ok (.iload_n 3, 1) := by decide +kernel
theorem d_Mo_arithmetic_21 : decode prog_10_method_21_code 21 = .ok (.ldc 130, 2) := by decide +kernel
theorem d_Mo_arithmetic_23 : decode prog_10_method_21_code 23 = .ok (.if_icmp .ne 15, 3) := by decide +kernel
theorem d_Mo_arithmetic_26 : decode prog_10_method_21_code 26 = .ok (.iload_n 2, 1) := by decide +kernel
theorem d_Mo_arithmetic_27 : decode prog_10_method_21_code 27 = .ok (.iconst (-1), 1) := by decide +kernel
theorem d_Mo_arithmetic_28 : decode prog_10_method_21_code 28 = .ok (.if_icmp .ne 10, 3) := by decide +kernel
theorem d_Mo_arithmetic_31 : decode prog_10_method_21_code 31 = .ok (.aload_n 0, 1) := by decide +kernel
theorem d_Mo_arithmetic_32 : decode prog_10_method_21_code 32 = .ok (.bipush 10, 2) := by decide +kernel
theorem d_Mo_arithmetic_34 : decode prog_10_method_21_code 34 = .ok (.putfield 111, 3) := by decide +kernel
theorem d_Mo_arithmetic_37 : decode prog_10_method_21_code 37 = .ok (.return_, 1) := by decide +kernel
theorem d_Mo_arithmetic_38 : decode prog_10_method_21_code 38 = .ok (.aload_n 0, 1) := by decide +kernel
theorem d_Mo_arithmetic_39 : decode prog_10_method_21_code 39 = .ok (.iload_n 1, 1) := by decide +kernel
theorem d_Mo_arithmetic_40 : decode prog_10_method_21_code 40 = .ok (.iconst 3, 1) := by decide +kernel
theorem d_Mo_arithmetic_41 : decode prog_10_method_21_code 41 = .ok (.if_icmp .ne 9, 3) := by decide +kernel
theorem d_Mo_arithmetic_44 : decode prog_10_method_21_code 44 = .ok (.iload_n 3, 1) := by decide +kernel
theorem d_Mo_arithmetic_45 : decode prog_10_method_21_code 45 = .ok (.iload_n 2, 1) := by decide +kernel
theorem d_Mo_arithmetic_46 : decode prog_10_method_21_code 46 = .ok (.iadd, 1) := by decide +kernel
theorem d_Mo_arithmetic_47 : decode prog_10_method_21_code 47 = .ok (.goto 66, 3) := by decide +kernel
theorem d_Mo_arithmetic_50 : decode prog_10_method_21_code 50 = .ok (.iload_n 1, 1) := by decide +kernel
theorem d_Mo_arithmetic_51 : decode prog_10_method_21_code 51 = .ok (.iconst 4, 1) := by decide +kernel
theorem d_Mo_arithmetic_52 : decode prog_10_method_21_code 52 = .ok (.if_icmp .ne 9, 3) := by decide +kernel
theorem d_Mo_arithmetic_55 : decode prog_10_method_21_code 55 = .ok (.iload_n 3, 1) := by decide +kernel
theorem d_Mo_arithmetic_56 : decode prog_10_method_21_code 56 = .ok (.iload_n 2, 1) := by decide +kernel
theorem d_Mo_arithmetic_57 : decode prog_10_method_21_code 57 = .ok (.isub, 1) := by decide +kernel
theorem d_Mo_arithmetic_58 : decode prog_10_method_21_code 58 = .ok (.goto 55, 3) := by decide +kernel
theorem d_Mo_arithmetic_61 : decode prog_10_method_21_code 61 = .ok (.iload_n 1, 1) := by decide +kernel
theorem d_Mo_arithmetic_62 : decode prog_10_method_21_code 62 = .ok (.iconst 5, 1) := by decide +kernel
theorem d_Mo_arithmetic_63 : decode prog_10_method_21_code 63 = .ok (.if_icmp .ne 9, 3) := by decide +kernel
theorem d_Mo_arithmetic_66 : decode prog_10_method_21_code 66 = .ok (.iload_n 3, 1) := by decide +kernel
theorem d_Mo_arithmetic_67 : decode prog_10_method_21_code 67 = .ok (.iload_n 2, 1) := by decide +kernel
theorem d_Mo_arithmetic_68 : decode prog_10_method_21_code 68 = .ok (.imul, 1) := by decide +kernel
theorem d_Mo_arithmetic_69 : decode prog_10_method_21_code 69 = .ok (.goto 44, 3) := by decide +kernel
theorem d_Mo_arithmetic_72 : decode prog_10_method_21_code 72 = .ok (.iload_n 1, 1) := by decide +kernel
theorem d_Mo_arithmetic_73 : decode prog_10_method_21_code 73 = .ok (.bipush 6, 2) := by decide +kernel
theorem d_Mo_arithmetic_75 : decode prog_10_method_21_code 75 = .ok (.if_icmp .ne 9, 3) := by decide +kernel
theorem d_Mo_arithmetic_78 : decode prog_10_method_21_code 78 = .ok (.iload_n 3, 1) := by decide +kernel
theorem d_Mo_arithmetic_79 : decode prog_10_method_21_code 79 = .ok (.iload_n 2, 1) := by decide +kernel
theorem d_Mo_arithmetic_80 : decode prog_10_method_21_code 80 = .ok (.idiv, 1) := by decide +kernel
theorem d_Mo_arithmetic_81 : decode prog_10_method_21_code 81 = .ok (.goto 32, 3) := by decide +kernel
theorem d_Mo_arithmetic_84 : decode prog_10_method_21_code 84 = .ok (.iload_n 1, 1) := by decide +kernel
theorem d_Mo_arithmetic_85 : decode prog_10_method_21_code 85 = .ok (.bipush 7, 2) := by decide +kernel
theorem d_Mo_arithmetic_87 : decode prog_10_method_21_code 87 = .ok (.if_icmp .ne 16, 3) := by decide +kernel
theorem d_Mo_arithmetic_90 : decode prog_10_method_21_code 90 = .ok (.iload_n 3, 1) := by decide +kernel
theorem d_Mo_arithmetic_91 : decode prog_10_method_21_code 91 = .ok (.iload_n 2, 1) := by decide +kernel
theorem d_Mo_arithmetic_92 : decode prog_10_method_21_code 92 = .ok (.if_icmp .ge 7, 3) := by decide +kernel
theorem d_Mo_arithmetic_95 : decode prog_10_method_21_code 95 = .ok (.iconst 1, 1) := by decide +kernel
theorem d_Mo_arithmetic_96 : decode prog_10_method_21_code 96 = .ok (.goto 17, 3) := by decide +kernel
theorem d_Mo_arithmetic_99 : decode prog_10_method_21_code 99 = .ok (.iconst 0, 1) := by decide +kernel
theorem d_Mo_arithmetic_100 : decode prog_10_method_21_code 100 = .ok (.goto 13, 3) := by decide +kernel
theorem d_Mo_arithmetic_103 : decode prog_10_method_21_code 103 = .ok (.iload_n 3, 1) := by decide +kernel
theorem d_Mo_arithmetic_104 : decode prog_10_method_21_code 104 = .ok (.iload_n 2, 1) := by decide +kernel
theorem d_Mo_arithmetic_105 : decode prog_10_method_21_code 105 = .ok (.if_icmp .ne 7, 3) := by decide +kernel
theorem d_Mo_arithmetic_108 : decode prog_10_method_21_code 108 = .ok (.iconst 1, 1) := by decide +kernel
theorem d_Mo_arithmetic_109 : decode prog_10_method_21_code 109 = .ok (.goto 4, 3) := by decide +kernel
theorem d_Mo_arithmetic_112 : decode prog_10_method_21_code 112 = .ok (.iconst 0, 1) := by decide +kernel
theorem d_Mo_arithmetic_113 : decode prog_10_method_21_code 113 = .ok (.invokevirtual 131, 3) := by decide +kernel
theorem d_Mo_arithmetic_116 : decode prog_10_method_21_code 116 = .ok (.return_, 1) := by decide +kernel
abbrev rm_Mo_arithmetic : Room := { frames := 1, cells := 0, slots := 0, locals := 21 }
def p_Mo_arithmetic_b31 (k : vS → Prop) (V : vS) : Prop := ∀ V1 : vS, V1 = sv V 34 22 10 → (k V1)
set_option maxRecDepth 100000 in
set_option maxHeartbeats 4000000 in
theorem t_Mo_arithmetic_b31 {k : vS → Prop} (X : cx g p s m meth c args R_Mo prog_10_method_21_code 4 (none)) {V : vS} (h : p_Mo_arithmetic_b31 k V) (hP : va_P g.1 vcl (cw g V) H) (hS : va_S (gA g) s.heap H locs) (hl : lv_has ls 4 [(0, .ref (ga g 34))]) : W p l e rm_Mo_arithmetic s m args below meth c H locs 0 0 (MQ below (va_Qv k (Bw g) (gA g)) args s 0 0 (gA g)) (F0 m 31 ls []) := by
  obtain ⟨hx, hb, -, -, hown, hts, -, -, hz, hG⟩ := id X
  unfold p_Mo_arithmetic_b31 at h
  refine lv_aload_n hx hb d_Mo_arithmetic_31 rfl (lv_at hl 0 rfl) ?_
  refine lv_bipush (v := 10) hx hb d_Mo_arithmetic_32 (by decide) ?_
  refine pf_Mo_trap X hP hS q_468 d_Mo_arithmetic_34 (fun V1 H locs eV1 hP hS => ?_)
  have h := h V1 eV1
  exact rw_vret X hP hS h d_Mo_arithmetic_37
def p_Mo_arithmetic_b113 (k : vS → Prop) (V : vS) (s1 : Int32) : Prop := p_Mo_push (fun V1 => k V1) V s1
set_option maxRecDepth 100000 in
set_option maxHeartbeats 4000000 in
theorem t_Mo_arithmetic_b113 {k : vS → Prop} (X : cx g p s m meth c args R_Mo prog_10_method_21_code 4 (none)) {V : vS} {s1 : Int32} (h : p_Mo_arithmetic_b113 k V s1) (hP : va_P g.1 vcl (cw g V) H) (hS : va_S (gA g) s.heap H locs) (hl : lv_has ls 4 []) : W p l e rm_Mo_arithmetic s m args below meth c H locs 0 0 (MQ below (va_Qv k (Bw g) (gA g)) args s 0 0 (gA g)) (F0 m 113 ls [.int s1, .ref (ga g 34)]) := by
  obtain ⟨hx, hb, -, -, hown, hts, -, -, hz, hG⟩ := id X
  unfold p_Mo_arithmetic_b113 at h
  refine rw_cVv (rest := []) X hP hS yv_Mo_push isO_Mo (c_Mo_push hG h) q_609 ⟨rfl, rfl, by decide, by decide⟩ rfl rfl hl.1 (Nat.le_of_ble_eq_true rfl) ⟨Nat.zero_le _, Nat.zero_le _⟩ d_Mo_arithmetic_113 (fun V1 H locs h hP hS => ?_)
  exact rw_vret X hP hS h d_Mo_arithmetic_116
def p_Mo_arithmetic_b38 (k : vS → Prop) (V : vS) (x1 : Int32) (x2 : Int32) (x3 : Int32) : Prop := (x1 = 3 → (p_Mo_arithmetic_b113 k V (x3 + x2))) ∧ (¬ x1 = 3 → ((x1 = 4 → (p_Mo_arithmetic_b113 k V (x3 - x2))) ∧ (¬ x1 = 4 → ((x1 = 5 → (p_Mo_arithmetic_b113 k V (x3 * x2))) ∧ (¬ x1 = 5 → ((x1 = 6 → (¬ x2 = 0 ∧ (p_Mo_arithmetic_b113 k V (x3 / x2)))) ∧ (¬ x1 = 6 → ((x1 = 7 → ((x2 ≤ x3 → (p_Mo_arithmetic_b113 k V 0)) ∧ (¬ x2 ≤ x3 → (p_Mo_arithmetic_b113 k V 1)))) ∧ (¬ x1 = 7 → ((x3 = x2 → (p_Mo_arithmetic_b113 k V 1)) ∧ (¬ x3 = x2 → (p_Mo_arithmetic_b113 k V 0))))))))))))
set_option maxRecDepth 100000 in
set_option maxHeartbeats 4000000 in
theorem t_Mo_arithmetic_b38 {k : vS → Prop} (X : cx g p s m meth c args R_Mo prog_10_method_21_code 4 (none)) {V : vS} {x1 : Int32} {x2 : Int32} {x3 : Int32} (h : p_Mo_arithmetic_b38 k V x1 x2 x3) (hP : va_P g.1 vcl (cw g V) H) (hS : va_S (gA g) s.heap H locs) (hl : lv_has ls 4 [(0, .ref (ga g 34)), (1, .int x1), (2, .int x2), (3, .int x3)]) : W p l e rm_Mo_arithmetic s m args below meth c H locs 0 0 (MQ below (va_Qv k (Bw g) (gA g)) args s 0 0 (gA g)) (F0 m 38 ls []) := by
  obtain ⟨hx, hb, -, -, hown, hts, -, -, hz, hG⟩ := id X
  unfold p_Mo_arithmetic_b38 at h
  refine lv_aload_n hx hb d_Mo_arithmetic_38 rfl (lv_at hl 0 rfl) ?_
  refine lv_iload_n hx hb d_Mo_arithmetic_39 rfl (lv_at hl 1 rfl) ?_
  refine lv_iconst (v := 3) hx hb d_Mo_arithmetic_40 (by decide) ?_
  refine lv_icmp_ne (tgt := 50) hx hb d_Mo_arithmetic_41 (by decide) (fun c1 => ?_) (fun c1 => ?_)
  · have h := h.2 c1
    refine lv_iload_n hx hb d_Mo_arithmetic_50 rfl (lv_at hl 1 rfl) ?_
    refine lv_iconst (v := 4) hx hb d_Mo_arithmetic_51 (by decide) ?_
    refine lv_icmp_ne (tgt := 61) hx hb d_Mo_arithmetic_52 (by decide) (fun c2 => ?_) (fun c2 => ?_)
    · have h := h.2 c2
      refine lv_iload_n hx hb d_Mo_arithmetic_61 rfl (lv_at hl 1 rfl) ?_
      refine lv_iconst (v := 5) hx hb d_Mo_arithmetic_62 (by decide) ?_
      refine lv_icmp_ne (tgt := 72) hx hb d_Mo_arithmetic_63 (by decide) (fun c3 => ?_) (fun c3 => ?_)
      · have h := h.2 c3
        refine lv_iload_n hx hb d_Mo_arithmetic_72 rfl (lv_at hl 1 rfl) ?_
        refine lv_bipush (v := 6) hx hb d_Mo_arithmetic_73 (by decide) ?_
        refine lv_icmp_ne (tgt := 84) hx hb d_Mo_arithmetic_75 (by decide) (fun c4 => ?_) (fun c4 => ?_)
        · have h := h.2 c4
          refine lv_iload_n hx hb d_Mo_arithmetic_84 rfl (lv_at hl 1 rfl) ?_
          refine lv_bipush (v := 7) hx hb d_Mo_arithmetic_85 (by decide) ?_
          refine lv_icmp_ne (tgt := 103) hx hb d_Mo_arithmetic_87 (by decide) (fun c5 => ?_) (fun c5 => ?_)
          · have h := h.2 c5
            refine lv_iload_n hx hb d_Mo_arithmetic_103 rfl (lv_at hl 3 rfl) ?_
            refine lv_iload_n hx hb d_Mo_arithmetic_104 rfl (lv_at hl 2 rfl) ?_
            refine lv_icmp_ne (tgt := 112) hx hb d_Mo_arithmetic_105 (by decide) (fun c6 => ?_) (fun c6 => ?_)
            · have h := h.2 c6
              refine lv_iconst (v := 0) hx hb d_Mo_arithmetic_112 (by decide) ?_
              exact t_Mo_arithmetic_b113 X h hP hS (lv_sub hl [] rfl)
            · have h := h.1 c6
              refine lv_iconst (v := 1) hx hb d_Mo_arithmetic_108 (by decide) ?_
              refine lv_goto (tgt := 113) hx hb d_Mo_arithmetic_109 (by decide) ?_
              exact t_Mo_arithmetic_b113 X h hP hS (lv_sub hl [] rfl)
          · have h := h.1 c5
            refine lv_iload_n hx hb d_Mo_arithmetic_90 rfl (lv_at hl 3 rfl) ?_
            refine lv_iload_n hx hb d_Mo_arithmetic_91 rfl (lv_at hl 2 rfl) ?_
            refine lv_icmp_ge (tgt := 99) hx hb d_Mo_arithmetic_92 (by decide) (fun c7 => ?_) (fun c7 => ?_)
            · have h := h.1 c7
              refine lv_iconst (v := 0) hx hb d_Mo_arithmetic_99 (by decide) ?_
              refine lv_goto (tgt := 113) hx hb d_Mo_arithmetic_100 (by decide) ?_
              exact t_Mo_arithmetic_b113 X h hP hS (lv_sub hl [] rfl)
            · have h := h.2 c7
              refine lv_iconst (v := 1) hx hb d_Mo_arithmetic_95 (by decide) ?_
              refine lv_goto (tgt := 113) hx hb d_Mo_arithmetic_96 (by decide) ?_
              exact t_Mo_arithmetic_b113 X h hP hS (lv_sub hl [] rfl)
        · have h := h.1 c4
          refine lv_iload_n hx hb d_Mo_arithmetic_78 rfl (lv_at hl 3 rfl) ?_
          refine lv_iload_n hx hb d_Mo_arithmetic_79 rfl (lv_at hl 2 rfl) ?_
          obtain ⟨hi8, h⟩ := h
          refine lv_idiv hx hb d_Mo_arithmetic_80 hi8 ?_
          refine lv_goto (tgt := 113) hx hb d_Mo_arithmetic_81 (by decide) ?_
          exact t_Mo_arithmetic_b113 X h hP hS (lv_sub hl [] rfl)
      · have h := h.1 c3
        refine lv_iload_n hx hb d_Mo_arithmetic_66 rfl (lv_at hl 3 rfl) ?_
        refine lv_iload_n hx hb d_Mo_arithmetic_67 rfl (lv_at hl 2 rfl) ?_
        refine lv_imul hx hb d_Mo_arithmetic_68 ?_
        refine lv_goto (tgt := 113) hx hb d_Mo_arithmetic_69 (by decide) ?_
        exact t_Mo_arithmetic_b113 X h hP hS (lv_sub hl [] rfl)
    · have h := h.1 c2
      refine lv_iload_n hx hb d_Mo_arithmetic_55 rfl (lv_at hl 3 rfl) ?_
      refine lv_iload_n hx hb d_Mo_arithmetic_56 rfl (lv_at hl 2 rfl) ?_
      refine lv_isub hx hb d_Mo_arithmetic_57 ?_
      refine lv_goto (tgt := 113) hx hb d_Mo_arithmetic_58 (by decide) ?_
      exact t_Mo_arithmetic_b113 X h hP hS (lv_sub hl [] rfl)
  · have h := h.1 c1
    refine lv_iload_n hx hb d_Mo_arithmetic_44 rfl (lv_at hl 3 rfl) ?_
    refine lv_iload_n hx hb d_Mo_arithmetic_45 rfl (lv_at hl 2 rfl) ?_
    refine lv_iadd hx hb d_Mo_arithmetic_46 ?_
    refine lv_goto (tgt := 113) hx hb d_Mo_arithmetic_47 (by decide) ?_
    exact t_Mo_arithmetic_b113 X h hP hS (lv_sub hl [] rfl)
def p_Mo_arithmetic (k : vS → Prop) (V : vS) (x1 : Int32) : Prop := p_Mo_pop (fun r2 V1 => p_Mo_pop (fun r5 V4 => (x1 = 6 → ((r2 = 0 → (p_Mo_arithmetic_b31 k V4)) ∧ (¬ r2 = 0 → ((r5 = (-2147483648) → ((r2 = (-1) → (p_Mo_arithmetic_b31 k V4)) ∧ (¬ r2 = (-1) → (p_Mo_arithmetic_b38 k V4 x1 r2 r5)))) ∧ (¬ r5 = (-2147483648) → (p_Mo_arithmetic_b38 k V4 x1 r2 r5)))))) ∧ (¬ x1 = 6 → (p_Mo_arithmetic_b38 k V4 x1 r2 r5))) V1) V
set_option maxRecDepth 100000 in
set_option maxHeartbeats 4000000 in
theorem c_Mo_arithmetic {l : Launch} {g : gT} (hG : gd g) {V : vS} {x1 : Int32} {k : vS → Prop} (h : p_Mo_arithmetic k V x1) : Cv g l y_Mo_arithmetic prog_10_method_21_code 4 (none) rm_Mo_arithmetic [.ref (ga g 34), .int x1] V k := by
  unfold Cv
  refine Met.ofW (cc := prog_10_method_21_code) (maxL := 4) (ret := none) (by decide) rfl ?_
  intro p e s m args below meth c s₁ B hml hv
  obtain ⟨rfl, hP, hK, hZ⟩ := hv
  have X : cx g p s m meth c [.ref (ga g 34), .int x1].toArray R_Mo prog_10_method_21_code 4 (none) := ⟨B.exec, B.bytes, B.returns, hml, findClass_of_methodNamed B.named, fun w hw => atoms_spec (ws := Cond.code y_Mo_arithmetic prog_10_method_21_code 4 (none) :: TBL) B.pre w (List.mem_cons_of_mem _ hw), B.notSynchronized, hK, hZ, hG⟩
  have hl := lv_entry [.ref (ga g 34), .int x1] (n := 4) (Nat.le_of_ble_eq_true rfl)
  rw [lg_entry_eq]
  generalize (lg_sl [.ref (ga g 34), .int x1] ++ List.replicate (4 - (lg_sl [.ref (ga g 34), .int x1]).length) Slot.unset).toArray = ls at hl ⊢
  have hl : lv_has ls 4 [(0, .ref (ga g 34)), (1, .int x1)] := hl
  have hS : va_S (gA g) s.heap s.heap [] := va_S.rf
  obtain ⟨hx, hb, -, -, hown, hts, -, -, hz, -⟩ := id X
  show W p l e rm_Mo_arithmetic s m _ below meth c s.heap [] 0 0 (MQ below (va_Qv k (Bw g) (gA g)) _ s 0 0 (gA g)) (F0 m 0 ls [])
  unfold p_Mo_arithmetic at h
  refine lv_aload_n hx hb d_Mo_arithmetic_0 rfl (lv_at hl 0 rfl) ?_
  refine rw_cVi (rest := []) X hP hS yv_Mo_pop isO_Mo (c_Mo_pop hG h) q_601 ⟨rfl, rfl, by decide, by decide⟩ rfl rfl hl.1 (Nat.le_of_ble_eq_true rfl) ⟨Nat.zero_le _, Nat.zero_le _⟩ d_Mo_arithmetic_1 (fun r2 V1 H locs h hP hS => ?_)
  refine lv_istore_n (lv' := [(2, .int r2), (0, .ref (ga g 34)), (1, .int x1)]) hx hb d_Mo_arithmetic_4 rfl hl (by decide) rfl (fun ls hl => ?_)
  refine lv_aload_n hx hb d_Mo_arithmetic_5 rfl (lv_at hl 1 rfl) ?_
  refine rw_cVi (rest := []) X hP hS yv_Mo_pop isO_Mo (c_Mo_pop hG h) q_601 ⟨rfl, rfl, by decide, by decide⟩ rfl rfl hl.1 (Nat.le_of_ble_eq_true rfl) ⟨Nat.zero_le _, Nat.zero_le _⟩ d_Mo_arithmetic_6 (fun r5 V4 H locs h hP hS => ?_)
  refine lv_istore_n (lv' := [(3, .int r5), (2, .int r2), (0, .ref (ga g 34)), (1, .int x1)]) hx hb d_Mo_arithmetic_9 rfl hl (by decide) rfl (fun ls hl => ?_)
  refine lv_iload_n hx hb d_Mo_arithmetic_10 rfl (lv_at hl 3 rfl) ?_
  refine lv_bipush (v := 6) hx hb d_Mo_arithmetic_11 (by decide) ?_
  refine lv_icmp_ne (tgt := 38) hx hb d_Mo_arithmetic_13 (by decide) (fun c7 => ?_) (fun c7 => ?_)
  · have h := h.2 c7
    exact t_Mo_arithmetic_b38 X h hP hS (lv_sub hl [2, 3, 1, 0] rfl)
  · have h := h.1 c7
    refine lv_iload_n hx hb d_Mo_arithmetic_16 rfl (lv_at hl 1 rfl) ?_
    refine lv_if_eq (tgt := 31) hx hb d_Mo_arithmetic_17 (by decide) (fun c8 => ?_) (fun c8 => ?_)
    · have h := h.1 c8
      exact t_Mo_arithmetic_b31 X h hP hS (lv_sub hl [2] rfl)
    · have h := h.2 c8
      refine lv_iload_n hx hb d_Mo_arithmetic_20 rfl (lv_at hl 0 rfl) ?_
      refine lv_ldc (v := (-2147483648)) hx hb hown (hts _ q_617) d_Mo_arithmetic_21 ?_
      refine lv_icmp_ne (tgt := 38) hx hb d_Mo_arithmetic_23 (by decide) (fun c9 => ?_) (fun c9 => ?_)
      · have h := h.2 c9
        exact t_Mo_arithmetic_b38 X h hP hS (lv_sub hl [2, 3, 1, 0] rfl)
      · have h := h.1 c9
        refine lv_iload_n hx hb d_Mo_arithmetic_26 rfl (lv_at hl 1 rfl) ?_
        refine lv_iconst (v := (-1)) hx hb d_Mo_arithmetic_27 (by decide) ?_
        refine lv_icmp_ne (tgt := 38) hx hb d_Mo_arithmetic_28 (by decide) (fun c10 => ?_) (fun c10 => ?_)
        · have h := h.2 c10
          exact t_Mo_arithmetic_b38 X h hP hS (lv_sub hl [2, 3, 1, 0] rfl)
        · have h := h.1 c10
          exact t_Mo_arithmetic_b31 X h hP hS (lv_sub hl [2] rfl)
theorem yv_Mo_arithmetic : yV R_Mo y_Mo_arithmetic prog_10_method_21_code 4 (none) 1 := ⟨by decide +kernel, q_615, qp_36, q_7, q_616⟩
/-! Mo.store -/
theorem d_Mo_store_0 : decode prog_10_method_22_code 0 = .ok (.iload_n 1, 1) := by decide +kernel
theorem d_Mo_store_1 : decode prog_10_method_22_code 1 = .ok (.bipush 11, 2) := by decide +kernel
theorem d_Mo_store_3 : decode prog_10_method_22_code 3 = .ok (.if_icmp .ne 10, 3) := by decide +kernel
theorem d_Mo_store_6 : decode prog_10_method_22_code 6 = .ok (.aload_n 0, 1) := by decide +kernel
theorem d_Mo_store_7 : decode prog_10_method_22_code 7 = .ok (.invokevirtual 120, 3) := by decide +kernel
theorem d_Mo_store_10 : decode prog_10_method_22_code 10 = .ok (.goto 4, 3) := by decide +kernel
theorem d_Mo_store_13 : decode prog_10_method_22_code 13 = .ok (.iconst 0, 1) := by decide +kernel
theorem d_Mo_store_14 : decode prog_10_method_22_code 14 = .ok (.istore_n 3, 1) := by decide +kernel
theorem d_Mo_store_15 : decode prog_10_method_22_code 15 = .ok (.aload_n 0, 1) := by decide +kernel
theorem d_Mo_store_16 : decode prog_10_method_22_code 16 = .ok (.invokevirtual 120, 3) := by decide +kernel
theorem d_Mo_store_19 : decode prog_10_method_22_code 19 = .ok (.i2l, 1) := by decide +kernel
theorem d_Mo_store_20 : decode prog_10_method_22_code 20 = .ok (.iload_n 2, 1) := by decide +kernel
theorem d_Mo_store_21 : decode prog_10_method_22_code 21 = .ok (.i2l, 1) := by decide +kernel
theorem d_Mo_store_22 : decode prog_10_method_22_code 22 = .ok (.ladd, 1) := by decide +kernel
theorem d_Mo_store_23 : decode prog_10_method_22_code 23 = .ok (.lstore 4, 2) := by decide +kernel
theorem d_Mo_store_25 : decode prog_10_method_22_code 25 = .ok (.lload 4, 2) := by decide +kernel
theorem d_Mo_store_27 : decode prog_10_method_22_code 27 = .ok (.lconst 0, 1) := by decide +kernel
theorem d_Mo_store_28 : decode prog_10_method_22_code 28 = .ok (.lcmp, 1) := by decide +kernel
theorem d_Mo_store_29 : decode prog_10_method_22_code 29 = .ok (.ifCond .lt 12, 3) := by decide +kernel
theorem d_Mo_store_32 : decode prog_10_method_22_code 32 = .ok (.lload 4, 2) := by decide +kernel
theorem d_Mo_store_34 : decode prog_10_method_22_code 34 = .ok (.ldc2_w 134, 3) := by decide +kernel
theorem d_Mo_store_37 : decode prog_10_method_22_code 37 = .ok (.lcmp, 1) := by decide +kernel
theorem d_Mo_store_38 : decode prog_10_method_22_code 38 = .ok (.ifCond .le 10, 3) := by decide +kernel
theorem d_Mo_store_41 : decode prog_10_method_22_code 41 = .ok (.aload_n 0, 1) := by decide +kernel
theorem d_Mo_store_42 : decode prog_10_method_22_code 42 = .ok (.bipush 11, 2) := by decide +kernel
theorem d_Mo_store_44 : decode prog_10_method_22_code 44 = .ok (.putfield 111, 3) := by decide +kernel
theorem d_Mo_store_47 : decode prog_10_method_22_code 47 = .ok (.return_, 1) := by decide +kernel
theorem d_Mo_store_48 : decode prog_10_method_22_code 48 = .ok (.iload_n 1, 1) := by decide +kernel
theorem d_Mo_store_49 : decode prog_10_method_22_code 49 = .ok (.bipush 11, 2) := by decide +kernel
theorem d_Mo_store_51 : decode prog_10_method_22_code 51 = .ok (.if_icmp .ne 15, 3) := by decide +kernel
theorem d_Mo_store_54 : decode prog_10_method_22_code 54 = .ok (.aload_n 0, 1) := by decide +kernel
theorem d_Mo_store_55 : decode prog_10_method_22_code 55 = .ok (.getfield 50, 3) := by decide +kernel
theorem d_Mo_store_58 : decode prog_10_method_22_code 58 = .ok (.lload 4, 2) := by decide +kernel
theorem d_Mo_store_60 : decode prog_10_method_22_code 60 = .ok (.l2i, 1) := by decide +kernel
theorem d_Mo_store_61 : decode prog_10_method_22_code 61 = .ok (.iload_n 3, 1) := by decide +kernel
theorem d_Mo_store_62 : decode prog_10_method_22_code 62 = .ok (.iastore, 1) := by decide +kernel
theorem d_Mo_store_63 : decode prog_10_method_22_code 63 = .ok (.goto 15, 3) := by decide +kernel
theorem d_Mo_store_66 : decode prog_10_method_22_code 66 = .ok (.aload_n 0, 1) := by decide +kernel
theorem d_Mo_store_67 : decode prog_10_method_22_code 67 = .ok (.aload_n 0, 1) := by decide +kernel
theorem d_Mo_store_68 : decode prog_10_method_22_code 68 = .ok (.getfield 50, 3) := by decide +kernel
theorem d_Mo_store_71 : decode prog_10_method_22_code 71 = .ok (.lload 4, 2) := by decide +kernel
theorem d_Mo_store_73 : decode prog_10_method_22_code 73 = .ok (.l2i, 1) := by decide +kernel
theorem d_Mo_store_74 : decode prog_10_method_22_code 74 = .ok (.iaload, 1) := by decide +kernel
theorem d_Mo_store_75 : decode prog_10_method_22_code 75 = .ok (.invokevirtual 131, 3) := by decide +kernel
theorem d_Mo_store_78 : decode prog_10_method_22_code 78 = .ok (.return_, 1) := by decide +kernel
abbrev rm_Mo_store : Room := { frames := 1, cells := 0, slots := 0, locals := 21 }
def p_Mo_store_b41 (k : vS → Prop) (V : vS) : Prop := ∀ V1 : vS, V1 = sv V 34 22 11 → (k V1)
set_option maxRecDepth 100000 in
set_option maxHeartbeats 4000000 in
theorem t_Mo_store_b41 {k : vS → Prop} (X : cx g p s m meth c args R_Mo prog_10_method_22_code 6 (none)) {V : vS} (h : p_Mo_store_b41 k V) (hP : va_P g.1 vcl (cw g V) H) (hS : va_S (gA g) s.heap H locs) (hl : lv_has ls 6 [(0, .ref (ga g 34))]) : W p l e rm_Mo_store s m args below meth c H locs 0 0 (MQ below (va_Qv k (Bw g) (gA g)) args s 0 0 (gA g)) (F0 m 41 ls []) := by
  obtain ⟨hx, hb, -, -, hown, hts, -, -, hz, hG⟩ := id X
  unfold p_Mo_store_b41 at h
  refine lv_aload_n hx hb d_Mo_store_41 rfl (lv_at hl 0 rfl) ?_
  refine lv_bipush (v := 11) hx hb d_Mo_store_42 (by decide) ?_
  refine pf_Mo_trap X hP hS q_468 d_Mo_store_44 (fun V1 H locs eV1 hP hS => ?_)
  have h := h V1 eV1
  exact rw_vret X hP hS h d_Mo_store_47
def p_Mo_store_b78 (k : vS → Prop) (V : vS) : Prop := k V
set_option maxRecDepth 100000 in
set_option maxHeartbeats 4000000 in
theorem t_Mo_store_b78 {k : vS → Prop} (X : cx g p s m meth c args R_Mo prog_10_method_22_code 6 (none)) {V : vS} (h : p_Mo_store_b78 k V) (hP : va_P g.1 vcl (cw g V) H) (hS : va_S (gA g) s.heap H locs) (hl : lv_has ls 6 []) : W p l e rm_Mo_store s m args below meth c H locs 0 0 (MQ below (va_Qv k (Bw g) (gA g)) args s 0 0 (gA g)) (F0 m 78 ls []) := by
  obtain ⟨hx, hb, -, -, hown, hts, -, -, hz, hG⟩ := id X
  unfold p_Mo_store_b78 at h
  exact rw_vret X hP hS h d_Mo_store_78
def p_Mo_store_b14 (k : vS → Prop) (V : vS) (x1 : Int32) (x2 : Int32) (s0 : Int32) : Prop := p_Mo_pop (fun r2 V1 => ∀ y4 : Int64, y4 = ((r2 : Int32).toInt64) + ((x2 : Int32).toInt64) → (((lg_cmp y4 0) < 0 → (p_Mo_store_b41 k V1)) ∧ (¬ (lg_cmp y4 0) < 0 → (((lg_cmp y4 31) ≤ 0 → ((x1 = 11 → (vp_in ((y4 : Int64).toInt32) 32 ∧ ∀ V12 : vS, V12 = sv V1 47 (nt ((y4 : Int64).toInt32)) s0 → (p_Mo_store_b78 k V12))) ∧ (¬ x1 = 11 → (vp_in ((y4 : Int64).toInt32) 32 ∧ (p_Mo_push (fun V9 => p_Mo_store_b78 k V9) V1 (V1.1 47 (nt ((y4 : Int64).toInt32)))))))) ∧ (¬ (lg_cmp y4 31) ≤ 0 → (p_Mo_store_b41 k V1)))))) V
set_option maxRecDepth 100000 in
set_option maxHeartbeats 4000000 in
theorem t_Mo_store_b14 {k : vS → Prop} (X : cx g p s m meth c args R_Mo prog_10_method_22_code 6 (none)) {V : vS} {x1 : Int32} {x2 : Int32} {s0 : Int32} (h : p_Mo_store_b14 k V x1 x2 s0) (hP : va_P g.1 vcl (cw g V) H) (hS : va_S (gA g) s.heap H locs) (hl : lv_has ls 6 [(0, .ref (ga g 34)), (1, .int x1), (2, .int x2)]) : W p l e rm_Mo_store s m args below meth c H locs 0 0 (MQ below (va_Qv k (Bw g) (gA g)) args s 0 0 (gA g)) (F0 m 14 ls [.int s0]) := by
  obtain ⟨hx, hb, -, -, hown, hts, -, -, hz, hG⟩ := id X
  unfold p_Mo_store_b14 at h
  refine lv_istore_n (lv' := [(3, .int s0), (0, .ref (ga g 34)), (1, .int x1), (2, .int x2)]) hx hb d_Mo_store_14 rfl hl (by decide) rfl (fun ls hl => ?_)
  refine lv_aload_n hx hb d_Mo_store_15 rfl (lv_at hl 1 rfl) ?_
  refine rw_cVi (rest := []) X hP hS yv_Mo_pop isO_Mo (c_Mo_pop hG h) q_601 ⟨rfl, rfl, by decide, by decide⟩ rfl rfl hl.1 (Nat.le_of_ble_eq_true rfl) ⟨Nat.zero_le _, Nat.zero_le _⟩ d_Mo_store_16 (fun r2 V1 H locs h hP hS => ?_)
  refine lv_i2l (v := (r2 : Int32).toInt64) hx hb d_Mo_store_19 rfl ?_
  refine lv_iload_n hx hb d_Mo_store_20 rfl (lv_at hl 3 rfl) ?_
  refine lv_i2l (v := (x2 : Int32).toInt64) hx hb d_Mo_store_21 rfl ?_
  refine lv_ladd hx hb d_Mo_store_22 ?_
  refine lv_topl (fun y4 ey4 => ?_)
  have h := h y4 ey4
  refine lv_lstore (lv' := [(4, .long y4), (3, .int s0), (0, .ref (ga g 34)), (1, .int x1), (2, .int x2)]) hx hb d_Mo_store_23 hl (by decide) rfl (fun ls hl => ?_)
  refine lv_lload hx hb d_Mo_store_25 (lv_at hl 0 rfl) ?_
  refine lv_lconst (v := 0) hx hb d_Mo_store_27 (by decide) ?_
  refine W.lcmp hx hb d_Mo_store_28 ?_
  refine lv_if_lt (tgt := 41) hx hb d_Mo_store_29 (by decide) (fun c5 => ?_) (fun c5 => ?_)
  · have h := h.1 c5
    exact t_Mo_store_b41 X h hP hS (lv_sub hl [2] rfl)
  · have h := h.2 c5
    refine lv_lload hx hb d_Mo_store_32 (lv_at hl 0 rfl) ?_
    refine lv_ldc2 (v := 31) hx hb hown (hts _ q_622) d_Mo_store_34 ?_
    refine W.lcmp hx hb d_Mo_store_37 ?_
    refine lv_if_le (tgt := 48) hx hb d_Mo_store_38 (by decide) (fun c6 => ?_) (fun c6 => ?_)
    · have h := h.1 c6
      refine lv_iload_n hx hb d_Mo_store_48 rfl (lv_at hl 3 rfl) ?_
      refine lv_bipush (v := 11) hx hb d_Mo_store_49 (by decide) ?_
      refine lv_icmp_ne (tgt := 66) hx hb d_Mo_store_51 (by decide) (fun c7 => ?_) (fun c7 => ?_)
      · have h := h.2 c7
        refine lv_aload_n hx hb d_Mo_store_66 rfl (lv_at hl 2 rfl) ?_
        refine lv_aload_n hx hb d_Mo_store_67 rfl (lv_at hl 2 rfl) ?_
        refine gf_Mo_cells X hP q_469 d_Mo_store_68 ?_
        refine lv_lload hx hb d_Mo_store_71 (lv_at hl 0 rfl) ?_
        refine lv_l2i (v := (y4 : Int64).toInt32) hx hb d_Mo_store_73 rfl ?_
        obtain ⟨hi8, h⟩ := h
        refine rw_iald X hP isI_47 hi8 d_Mo_store_74 ?_
        refine rw_cVv (rest := []) X hP hS yv_Mo_push isO_Mo (c_Mo_push hG h) q_609 ⟨rfl, rfl, by decide, by decide⟩ rfl rfl hl.1 (Nat.le_of_ble_eq_true rfl) ⟨Nat.zero_le _, Nat.zero_le _⟩ d_Mo_store_75 (fun V9 H locs h hP hS => ?_)
        exact t_Mo_store_b78 X h hP hS (lv_sub hl [] rfl)
      · have h := h.1 c7
        refine lv_aload_n hx hb d_Mo_store_54 rfl (lv_at hl 2 rfl) ?_
        refine gf_Mo_cells X hP q_469 d_Mo_store_55 ?_
        refine lv_lload hx hb d_Mo_store_58 (lv_at hl 0 rfl) ?_
        refine lv_l2i (v := (y4 : Int64).toInt32) hx hb d_Mo_store_60 rfl ?_
        refine lv_iload_n hx hb d_Mo_store_61 rfl (lv_at hl 1 rfl) ?_
        obtain ⟨hi11, h⟩ := h
        refine rw_iast X hP hS isI_47 hi11 d_Mo_store_62 (fun V12 H locs eV12 hP hS => ?_)
        have h := h V12 eV12
        refine lv_goto (tgt := 78) hx hb d_Mo_store_63 (by decide) ?_
        exact t_Mo_store_b78 X h hP hS (lv_sub hl [] rfl)
    · have h := h.2 c6
      exact t_Mo_store_b41 X h hP hS (lv_sub hl [2] rfl)
def p_Mo_store (k : vS → Prop) (V : vS) (x1 : Int32) (x2 : Int32) : Prop := (x1 = 11 → (p_Mo_pop (fun r3 V2 => p_Mo_store_b14 k V2 x1 x2 r3) V)) ∧ (¬ x1 = 11 → (p_Mo_store_b14 k V x1 x2 0))
set_option maxRecDepth 100000 in
set_option maxHeartbeats 4000000 in
theorem c_Mo_store {l : Launch} {g : gT} (hG : gd g) {V : vS} {x1 : Int32} {x2 : Int32} {k : vS → Prop} (h : p_Mo_store k V x1 x2) : Cv g l y_Mo_store prog_10_method_22_code 6 (none) rm_Mo_store [.ref (ga g 34), .int x1, .int x2] V k := by
  unfold Cv
  refine Met.ofW (cc := prog_10_method_22_code) (maxL := 6) (ret := none) (by decide) rfl ?_
  intro p e s m args below meth c s₁ B hml hv
  obtain ⟨rfl, hP, hK, hZ⟩ := hv
  have X : cx g p s m meth c [.ref (ga g 34), .int x1, .int x2].toArray R_Mo prog_10_method_22_code 6 (none) := ⟨B.exec, B.bytes, B.returns, hml, findClass_of_methodNamed B.named, fun w hw => atoms_spec (ws := Cond.code y_Mo_store prog_10_method_22_code 6 (none) :: TBL) B.pre w (List.mem_cons_of_mem _ hw), B.notSynchronized, hK, hZ, hG⟩
  have hl := lv_entry [.ref (ga g 34), .int x1, .int x2] (n := 6) (Nat.le_of_ble_eq_true rfl)
  rw [lg_entry_eq]
  generalize (lg_sl [.ref (ga g 34), .int x1, .int x2] ++ List.replicate (6 - (lg_sl [.ref (ga g 34), .int x1, .int x2]).length) Slot.unset).toArray = ls at hl ⊢
  have hl : lv_has ls 6 [(0, .ref (ga g 34)), (1, .int x1), (2, .int x2)] := hl
  have hS : va_S (gA g) s.heap s.heap [] := va_S.rf
  obtain ⟨hx, hb, -, -, hown, hts, -, -, hz, -⟩ := id X
  show W p l e rm_Mo_store s m _ below meth c s.heap [] 0 0 (MQ below (va_Qv k (Bw g) (gA g)) _ s 0 0 (gA g)) (F0 m 0 ls [])
  unfold p_Mo_store at h
  refine lv_iload_n hx hb d_Mo_store_0 rfl (lv_at hl 1 rfl) ?_
  refine lv_bipush (v := 11) hx hb d_Mo_store_1 (by decide) ?_
  refine lv_icmp_ne (tgt := 13) hx hb d_Mo_store_3 (by decide) (fun c1 => ?_) (fun c1 => ?_)
  · have h := h.2 c1
    refine lv_iconst (v := 0) hx hb d_Mo_store_13 (by decide) ?_
    exact t_Mo_store_b14 X h hP hS (lv_sub hl [0, 1, 2] rfl)
  · have h := h.1 c1
    refine lv_aload_n hx hb d_Mo_store_6 rfl (lv_at hl 0 rfl) ?_
    refine rw_cVi (rest := []) X hP hS yv_Mo_pop isO_Mo (c_Mo_pop hG h) q_601 ⟨rfl, rfl, by decide, by decide⟩ rfl rfl hl.1 (Nat.le_of_ble_eq_true rfl) ⟨Nat.zero_le _, Nat.zero_le _⟩ d_Mo_store_7 (fun r3 V2 H locs h hP hS => ?_)
    refine lv_goto (tgt := 14) hx hb d_Mo_store_10 (by decide) ?_
    exact t_Mo_store_b14 X h hP hS (lv_sub hl [0, 1, 2] rfl)
theorem yv_Mo_store : yV R_Mo y_Mo_store prog_10_method_22_code 6 (none) 2 := ⟨by decide +kernel, q_620, qp_37, q_7, q_621⟩
/-! Mo.ask -/
theorem d_Mo_ask_0 : decode prog_10_method_24_code 0 = .ok (.aload_n 0, 1) := by decide +kernel
theorem d_Mo_ask_1 : decode prog_10_method_24_code 1 = .ok (.getfield 53, 3) := by decide +kernel
theorem d_Mo_ask_4 : decode prog_10_method_24_code 4 = .ok (.iload_n 1, 1) := by decide +kernel
theorem d_Mo_ask_5 : decode prog_10_method_24_code 5 = .ok (.baload, 1) := by decide +kernel
theorem d_Mo_ask_6 : decode prog_10_method_24_code 6 = .ok (.ifCond .ne 10, 3) := by decide +kernel
theorem d_Mo_ask_9 : decode prog_10_method_24_code 9 = .ok (.aload_n 0, 1) := by decide +kernel
theorem d_Mo_ask_10 : decode prog_10_method_24_code 10 = .ok (.bipush 14, 2) := by decide +kernel
theorem d_Mo_ask_12 : decode prog_10_method_24_code 12 = .ok (.putfield 111, 3) := by decide +kernel
theorem d_Mo_ask_15 : decode prog_10_method_24_code 15 = .ok (.return_, 1) := by decide +kernel
theorem d_Mo_ask_16 : decode prog_10_method_24_code 16 = .ok (.aload_n 0, 1) := by decide +kernel
theorem d_Mo_ask_17 : decode prog_10_method_24_code 17 = .ok (.iload_n 1, 1) := by decide +kernel
theorem d_Mo_ask_18 : decode prog_10_method_24_code 18 = .ok (.putfield 46, 3) := by decide +kernel
theorem d_Mo_ask_21 : decode prog_10_method_24_code 21 = .ok (.aload_n 0, 1) := by decide +kernel
theorem d_Mo_ask_22 : decode prog_10_method_24_code 22 = .ok (.aload_n 0, 1) := by decide +kernel
theorem d_Mo_ask_23 : decode prog_10_method_24_code 23 = .ok (.invokevirtual 120, 3) := by decide +kernel
theorem d_Mo_ask_26 : decode prog_10_method_24_code 26 = .ok (.putfield 153, 3) := by decide +kernel
theorem d_Mo_ask_29 : decode prog_10_method_24_code 29 = .ok (.return_, 1) := by decide +kernel
abbrev rm_Mo_ask : Room := { frames := 1, cells := 0, slots := 0, locals := 20 }
def p_Mo_ask (k : vS → Prop) (V : vS) (x1 : Int32) : Prop := vp_in x1 4 ∧ (((V.1 48 (nt x1)) = 0 → (∀ V8 : vS, V8 = sv V 34 22 14 → (k V8))) ∧ (¬ (V.1 48 (nt x1)) = 0 → (∀ V3 : vS, V3 = sv V 34 20 x1 → (p_Mo_pop (fun r5 V4 => ∀ V7 : vS, V7 = sv V4 34 21 r5 → (k V7)) V3))))
set_option maxRecDepth 100000 in
set_option maxHeartbeats 4000000 in
theorem c_Mo_ask {l : Launch} {g : gT} (hG : gd g) {V : vS} {x1 : Int32} {k : vS → Prop} (h : p_Mo_ask k V x1) : Cv g l y_Mo_ask prog_10_method_24_code 2 (none) rm_Mo_ask [.ref (ga g 34), .int x1] V k := by
  unfold Cv
  refine Met.ofW (cc := prog_10_method_24_code) (maxL := 2) (ret := none) (by decide) rfl ?_
  intro p e s m args below meth c s₁ B hml hv
  obtain ⟨rfl, hP, hK, hZ⟩ := hv
  have X : cx g p s m meth c [.ref (ga g 34), .int x1].toArray R_Mo prog_10_method_24_code 2 (none) := ⟨B.exec, B.bytes, B.returns, hml, findClass_of_methodNamed B.named, fun w hw => atoms_spec (ws := Cond.code y_Mo_ask prog_10_method_24_code 2 (none) :: TBL) B.pre w (List.mem_cons_of_mem _ hw), B.notSynchronized, hK, hZ, hG⟩
  have hl := lv_entry [.ref (ga g 34), .int x1] (n := 2) (Nat.le_of_ble_eq_true rfl)
  rw [lg_entry_eq]
  generalize (lg_sl [.ref (ga g 34), .int x1] ++ List.replicate (2 - (lg_sl [.ref (ga g 34), .int x1]).length) Slot.unset).toArray = ls at hl ⊢
  have hl : lv_has ls 2 [(0, .ref (ga g 34)), (1, .int x1)] := hl
  have hS : va_S (gA g) s.heap s.heap [] := va_S.rf
  obtain ⟨hx, hb, -, -, hown, hts, -, -, hz, -⟩ := id X
  show W p l e rm_Mo_ask s m _ below meth c s.heap [] 0 0 (MQ below (va_Qv k (Bw g) (gA g)) _ s 0 0 (gA g)) (F0 m 0 ls [])
  unfold p_Mo_ask at h
  refine lv_aload_n hx hb d_Mo_ask_0 rfl (lv_at hl 0 rfl) ?_
  refine gf_Mo_granted X hP q_470 d_Mo_ask_1 ?_
  refine lv_iload_n hx hb d_Mo_ask_4 rfl (lv_at hl 1 rfl) ?_
  obtain ⟨hi1, h⟩ := h
  refine rw_zald X hP isZ_48 hi1 d_Mo_ask_5 ?_
  refine lv_if_ne (tgt := 16) hx hb d_Mo_ask_6 (by decide) (fun c2 => ?_) (fun c2 => ?_)
  · have h := h.2 c2
    refine lv_aload_n hx hb d_Mo_ask_16 rfl (lv_at hl 0 rfl) ?_
    refine lv_iload_n hx hb d_Mo_ask_17 rfl (lv_at hl 1 rfl) ?_
    refine pf_Mo_waits X hP hS q_466 d_Mo_ask_18 (fun V3 H locs eV3 hP hS => ?_)
    have h := h V3 eV3
    refine lv_aload_n hx hb d_Mo_ask_21 rfl (lv_at hl 0 rfl) ?_
    refine lv_aload_n hx hb d_Mo_ask_22 rfl (lv_at hl 0 rfl) ?_
    refine rw_cVi (rest := [.ref (ga g 34)]) X hP hS yv_Mo_pop isO_Mo (c_Mo_pop hG h) q_601 ⟨rfl, rfl, by decide, by decide⟩ rfl rfl hl.1 (Nat.le_of_ble_eq_true rfl) ⟨Nat.zero_le _, Nat.zero_le _⟩ d_Mo_ask_23 (fun r5 V4 H locs h hP hS => ?_)
    refine pf_Mo_askedWith X hP hS q_467 d_Mo_ask_26 (fun V7 H locs eV7 hP hS => ?_)
    have h := h V7 eV7
    exact rw_vret X hP hS h d_Mo_ask_29
  · have h := h.1 c2
    refine lv_aload_n hx hb d_Mo_ask_9 rfl (lv_at hl 0 rfl) ?_
    refine lv_bipush (v := 14) hx hb d_Mo_ask_10 (by decide) ?_
    refine pf_Mo_trap X hP hS q_468 d_Mo_ask_12 (fun V8 H locs eV8 hP hS => ?_)
    have h := h V8 eV8
    exact rw_vret X hP hS h d_Mo_ask_15
theorem yv_Mo_ask : yV R_Mo y_Mo_ask prog_10_method_24_code 2 (none) 1 := ⟨by decide +kernel, q_633, qp_40, q_7, q_634⟩
/-! Mo.step -/
theorem d_Mo_step_0 : decode prog_10_method_23_code 0 = .ok (.aload_n 0, 1) := by decide +kernel
theorem d_Mo_step_1 : decode prog_10_method_23_code 1 = .ok (.getfield 34, 3) := by decide +kernel
theorem d_Mo_step_4 : decode prog_10_method_23_code 4 = .ok (.aload_n 0, 1) := by decide +kernel
theorem d_Mo_step_5 : decode prog_10_method_23_code 5 = .ok (.getfield 61, 3) := by decide +kernel
theorem d_Mo_step_8 : decode prog_10_method_23_code 8 = .ok (.iconst 1, 1) := by decide +kernel
theorem d_Mo_step_9 : decode prog_10_method_23_code 9 = .ok (.isub, 1) := by decide +kernel
theorem d_Mo_step_10 : decode prog_10_method_23_code 10 = .ok (.iaload, 1) := by decide +kernel
theorem d_Mo_step_11 : decode prog_10_method_23_code 11 = .ok (.istore_n 1, 1) := by decide +kernel
theorem d_Mo_step_12 : decode prog_10_method_23_code 12 = .ok (.aload_n 0, 1) := by decide +kernel
theorem d_Mo_step_13 : decode prog_10_method_23_code 13 = .ok (.getfield 37, 3) := by decide +kernel
theorem d_Mo_step_16 : decode prog_10_method_23_code 16 = .ok (.aload_n 0, 1) := by decide +kernel
theorem d_Mo_step_17 : decode prog_10_method_23_code 17 = .ok (.getfield 61, 3) := by decide +kernel
theorem d_Mo_step_20 : decode prog_10_method_23_code 20 = .ok (.iconst 1, 1) := by decide +kernel
theorem d_Mo_step_21 : decode prog_10_method_23_code 21 = .ok (.isub, 1) := by decide +kernel
theorem d_Mo_step_22 : decode prog_10_method_23_code 22 = .ok (.iaload, 1) := by decide +kernel
theorem d_Mo_step_23 : decode prog_10_method_23_code 23 = .ok (.istore_n 2, 1) := by decide +kernel
theorem d_Mo_step_24 : decode prog_10_method_23_code 24 = .ok (.aload_n 0, 1) := by decide +kernel
theorem d_Mo_step_25 : decode prog_10_method_23_code 25 = .ok (.getfield 22, 3) := by decide +kernel
theorem d_Mo_step_28 : decode prog_10_method_23_code 28 = .ok (.iload_n 1, 1) := by decide +kernel
theorem d_Mo_step_29 : decode prog_10_method_23_code 29 = .ok (.bipush 24, 2) := by decide +kernel
theorem d_Mo_step_31 : decode prog_10_method_23_code 31 = .ok (.imul, 1) := by decide +kernel
theorem d_Mo_step_32 : decode prog_10_method_23_code 32 = .ok (.iload_n 2, 1) := by decide +kernel
theorem d_Mo_step_33 : decode prog_10_method_23_code 33 = .ok (.iadd, 1) := by decide +kernel
theorem d_Mo_step_34 : decode prog_10_method_23_code 34 = .ok (.iaload, 1) := by decide +kernel
theorem d_Mo_step_35 : decode prog_10_method_23_code 35 = .ok (.istore_n 3, 1) := by decide +kernel
theorem d_Mo_step_36 : decode prog_10_method_23_code 36 = .ok (.aload_n 0, 1) := by decide +kernel
theorem d_Mo_step_37 : decode prog_10_method_23_code 37 = .ok (.getfield 25, 3) := by decide +kernel
theorem d_Mo_step_40 : decode prog_10_method_23_code 40 = .ok (.iload_n 1, 1) := by decide +kernel
theorem d_Mo_step_41 : decode prog_10_method_23_code 41 = .ok (.bipush 24, 2) := by decide +kernel
theorem d_Mo_step_43 : decode prog_10_method_23_code 43 = .ok (.imul, 1) := by decide +kernel
theorem d_Mo_step_44 : decode prog_10_method_23_code 44 = .ok (.iload_n 2, 1) := by decide +kernel
theorem d_Mo_step_45 : decode prog_10_method_23_code 45 = .ok (.iadd, 1) := by decide +kernel
theorem d_Mo_step_46 : decode prog_10_method_23_code 46 = .ok (.iaload, 1) := by decide +kernel
theorem d_Mo_step_47 : decode prog_10_method_23_code 47 = .ok (.istore 4, 2) := by decide +kernel
theorem d_Mo_step_49 : decode prog_10_method_23_code 49 = .ok (.aload_n 0, 1) := by decide +kernel
theorem d_Mo_step_50 : decode prog_10_method_23_code 50 = .ok (.getfield 37, 3) := by decide +kernel
theorem d_Mo_step_53 : decode prog_10_method_23_code 53 = .ok (.aload_n 0, 1) := by decide +kernel
theorem d_Mo_step_54 : decode prog_10_method_23_code 54 = .ok (.getfield 61, 3) := by decide +kernel
theorem d_Mo_step_57 : decode prog_10_method_23_code 57 = .ok (.iconst 1, 1) := by decide +kernel
theorem d_Mo_step_58 : decode prog_10_method_23_code 58 = .ok (.isub, 1) := by decide +kernel
theorem d_Mo_step_59 : decode prog_10_method_23_code 59 = .ok (.dup2, 1) := by decide +kernel
theorem d_Mo_step_60 : decode prog_10_method_23_code 60 = .ok (.iaload, 1) := by decide +kernel
theorem d_Mo_step_61 : decode prog_10_method_23_code 61 = .ok (.iconst 1, 1) := by decide +kernel
theorem d_Mo_step_62 : decode prog_10_method_23_code 62 = .ok (.iadd, 1) := by decide +kernel
theorem d_Mo_step_63 : decode prog_10_method_23_code 63 = .ok (.iastore, 1) := by decide +kernel
theorem d_Mo_step_64 : decode prog_10_method_23_code 64 = .ok (.iload_n 3, 1) := by decide +kernel
theorem d_Mo_step_65 : decode prog_10_method_23_code 65 = .ok (.ifCond .ne 12, 3) := by decide +kernel
theorem d_Mo_step_68 : decode prog_10_method_23_code 68 = .ok (.aload_n 0, 1) := by decide +kernel
theorem d_Mo_step_69 : decode prog_10_method_23_code 69 = .ok (.iload 4, 2) := by decide +kernel
theorem d_Mo_step_71 : decode prog_10_method_23_code 71 = .ok (.invokevirtual 131, 3) := by decide +kernel
theorem d_Mo_step_74 : decode prog_10_method_23_code 74 = .ok (.goto 189, 3) := by decide +kernel
theorem d_Mo_step_77 : decode prog_10_method_23_code 77 = .ok (.iload_n 3, 1) := by decide +kernel
theorem d_Mo_step_78 : decode prog_10_method_23_code 78 = .ok (.iconst 1, 1) := by decide +kernel
theorem d_Mo_step_79 : decode prog_10_method_23_code 79 = .ok (.if_icmp .ne 26, 3) := by decide +kernel
theorem d_Mo_step_82 : decode prog_10_method_23_code 82 = .ok (.aload_n 0, 1) := by decide +kernel
theorem d_Mo_step_83 : decode prog_10_method_23_code 83 = .ok (.aload_n 0, 1) := by decide +kernel
theorem d_Mo_step_84 : decode prog_10_method_23_code 84 = .ok (.getfield 40, 3) := by decide +kernel
theorem d_Mo_step_87 : decode prog_10_method_23_code 87 = .ok (.aload_n 0, 1) := by decide +kernel
theorem d_Mo_step_88 : decode prog_10_method_23_code 88 = .ok (.getfield 61, 3) := by decide +kernel
theorem d_Mo_step_91 : decode prog_10_method_23_code 91 = .ok (.iconst 5, 1) := by decide +kernel
theorem d_Mo_step_92 : decode prog_10_method_23_code 92 = .ok (.imul, 1) := by decide +kernel
theorem d_Mo_step_93 : decode prog_10_method_23_code 93 = .ok (.iconst 5, 1) := by decide +kernel
theorem d_Mo_step_94 : decode prog_10_method_23_code 94 = .ok (.isub, 1) := by decide +kernel
theorem d_Mo_step_95 : decode prog_10_method_23_code 95 = .ok (.iload 4, 2) := by decide +kernel
theorem d_Mo_step_97 : decode prog_10_method_23_code 97 = .ok (.iadd, 1) := by decide +kernel
theorem d_Mo_step_98 : decode prog_10_method_23_code 98 = .ok (.iaload, 1) := by decide +kernel
theorem d_Mo_step_99 : decode prog_10_method_23_code 99 = .ok (.invokevirtual 131, 3) := by decide +kernel
theorem d_Mo_step_102 : decode prog_10_method_23_code 102 = .ok (.goto 161, 3) := by decide +kernel
theorem d_Mo_step_105 : decode prog_10_method_23_code 105 = .ok (.iload_n 3, 1) := by decide +kernel
theorem d_Mo_step_106 : decode prog_10_method_23_code 106 = .ok (.iconst 2, 1) := by decide +kernel
theorem d_Mo_step_107 : decode prog_10_method_23_code 107 = .ok (.if_icmp .ne 26, 3) := by decide +kernel
theorem d_Mo_step_110 : decode prog_10_method_23_code 110 = .ok (.aload_n 0, 1) := by decide +kernel
theorem d_Mo_step_111 : decode prog_10_method_23_code 111 = .ok (.getfield 40, 3) := by decide +kernel
theorem d_Mo_step_114 : decode prog_10_method_23_code 114 = .ok (.aload_n 0, 1) := by decide +kernel
theorem d_Mo_step_115 : decode prog_10_method_23_code 115 = .ok (.getfield 61, 3) := by decide +kernel
theorem d_Mo_step_118 : decode prog_10_method_23_code 118 = .ok (.iconst 5, 1) := by decide +kernel
theorem d_Mo_step_119 : decode prog_10_method_23_code 119 = .ok (.imul, 1) := by decide +kernel
theorem d_Mo_step_120 : decode prog_10_method_23_code 120 = .ok (.iconst 5, 1) := by decide +kernel
theorem d_Mo_step_121 : decode prog_10_method_23_code 121 = .ok (.isub, 1) := by decide +kernel
theorem d_Mo_step_122 : decode prog_10_method_23_code 122 = .ok (.iload 4, 2) := by decide +kernel
theorem d_Mo_step_124 : decode prog_10_method_23_code 124 = .ok (.iadd, 1) := by decide +kernel
theorem d_Mo_step_125 : decode prog_10_method_23_code 125 = .ok (.aload_n 0, 1) := by decide +kernel
theorem d_Mo_step_126 : decode prog_10_method_23_code 126 = .ok (.invokevirtual 120, 3) := by decide +kernel
theorem d_Mo_step_129 : decode prog_10_method_23_code 129 = .ok (.iastore, 1) := by decide +kernel
theorem d_Mo_step_130 : decode prog_10_method_23_code 130 = .ok (.goto 133, 3) := by decide +kernel
theorem d_Mo_step_133 : decode prog_10_method_23_code 133 = .ok (.iload_n 3, 1) := by decide +kernel
theorem d_Mo_step_134 : decode prog_10_method_23_code 134 = .ok (.bipush 8, 2) := by decide +kernel
theorem d_Mo_step_136 : decode prog_10_method_23_code 136 = .ok (.if_icmp .gt 11, 3) := by decide +kernel
theorem d_Mo_step_139 : decode prog_10_method_23_code 139 = .ok (.aload_n 0, 1) := by decide +kernel
theorem d_Mo_step_140 : decode prog_10_method_23_code 140 = .ok (.iload_n 3, 1) := by decide +kernel
theorem d_Mo_step_141 : decode prog_10_method_23_code 141 = .ok (.invokevirtual 136, 3) := by decide +kernel
theorem d_Mo_step_144 : decode prog_10_method_23_code 144 = .ok (.goto 119, 3) := by decide +kernel
theorem d_Mo_step_147 : decode prog_10_method_23_code 147 = .ok (.iload_n 3, 1) := by decide +kernel
theorem d_Mo_step_148 : decode prog_10_method_23_code 148 = .ok (.bipush 9, 2) := by decide +kernel
theorem d_Mo_step_150 : decode prog_10_method_23_code 150 = .ok (.if_icmp .ne 16, 3) := by decide +kernel
theorem d_Mo_step_153 : decode prog_10_method_23_code 153 = .ok (.aload_n 0, 1) := by decide +kernel
theorem d_Mo_step_154 : decode prog_10_method_23_code 154 = .ok (.dup, 1) := by decide +kernel
theorem d_Mo_step_155 : decode prog_10_method_23_code 155 = .ok (.getfield 64, 3) := by decide +kernel
theorem d_Mo_step_158 : decode prog_10_method_23_code 158 = .ok (.iconst 1, 1) := by decide +kernel
theorem d_Mo_step_159 : decode prog_10_method_23_code 159 = .ok (.isub, 1) := by decide +kernel
theorem d_Mo_step_160 : decode prog_10_method_23_code 160 = .ok (.putfield 64, 3) := by decide +kernel
theorem d_Mo_step_163 : decode prog_10_method_23_code 163 = .ok (.goto 100, 3) := by decide +kernel
theorem d_Mo_step_166 : decode prog_10_method_23_code 166 = .ok (.iload_n 3, 1) := by decide +kernel
theorem d_Mo_step_167 : decode prog_10_method_23_code 167 = .ok (.bipush 11, 2) := by decide +kernel
theorem d_Mo_step_169 : decode prog_10_method_23_code 169 = .ok (.if_icmp .gt 13, 3) := by decide +kernel
theorem d_Mo_step_172 : decode prog_10_method_23_code 172 = .ok (.aload_n 0, 1) := by decide +kernel
theorem d_Mo_step_173 : decode prog_10_method_23_code 173 = .ok (.iload_n 3, 1) := by decide +kernel
theorem d_Mo_step_174 : decode prog_10_method_23_code 174 = .ok (.iload 4, 2) := by decide +kernel
theorem d_Mo_step_176 : decode prog_10_method_23_code 176 = .ok (.invokevirtual 139, 3) := by decide +kernel
theorem d_Mo_step_179 : decode prog_10_method_23_code 179 = .ok (.goto 84, 3) := by decide +kernel
theorem d_Mo_step_182 : decode prog_10_method_23_code 182 = .ok (.iload_n 3, 1) := by decide +kernel
theorem d_Mo_step_183 : decode prog_10_method_23_code 183 = .ok (.bipush 15, 2) := by decide +kernel
theorem d_Mo_step_185 : decode prog_10_method_23_code 185 = .ok (.if_icmp .ne 14, 3) := by decide +kernel
theorem d_Mo_step_188 : decode prog_10_method_23_code 188 = .ok (.aload_n 0, 1) := by decide +kernel
theorem d_Mo_step_189 : decode prog_10_method_23_code 189 = .ok (.iload_n 1, 1) := by decide +kernel
theorem d_Mo_step_190 : decode prog_10_method_23_code 190 = .ok (.iload_n 2, 1) := by decide +kernel
theorem d_Mo_step_191 : decode prog_10_method_23_code 191 = .ok (.iload 4, 2) := by decide +kernel
theorem d_Mo_step_193 : decode prog_10_method_23_code 193 = .ok (.invokevirtual 143, 3) := by decide +kernel
theorem d_Mo_step_196 : decode prog_10_method_23_code 196 = .ok (.goto 67, 3) := by decide +kernel
theorem d_Mo_step_199 : decode prog_10_method_23_code 199 = .ok (.iload_n 3, 1) := by decide +kernel
theorem d_Mo_step_200 : decode prog_10_method_23_code 200 = .ok (.bipush 16, 2) := by decide +kernel
theorem d_Mo_step_202 : decode prog_10_method_23_code 202 = .ok (.if_icmp .ne 21, 3) := by decide +kernel
theorem d_Mo_step_205 : decode prog_10_method_23_code 205 = .ok (.aload_n 0, 1) := by decide +kernel
theorem d_Mo_step_206 : decode prog_10_method_23_code 206 = .ok (.invokevirtual 120, 3) := by decide +kernel
theorem d_Mo_step_209 : decode prog_10_method_23_code 209 = .ok (.ifCond .eq 14, 3) := by decide +kernel
theorem d_Mo_step_212 : decode prog_10_method_23_code 212 = .ok (.aload_n 0, 1) := by decide +kernel
theorem d_Mo_step_213 : decode prog_10_method_23_code 213 = .ok (.iload_n 1, 1) := by decide +kernel
theorem d_Mo_step_214 : decode prog_10_method_23_code 214 = .ok (.iload_n 2, 1) := by decide +kernel
theorem d_Mo_step_215 : decode prog_10_method_23_code 215 = .ok (.iload 4, 2) := by decide +kernel
theorem d_Mo_step_217 : decode prog_10_method_23_code 217 = .ok (.invokevirtual 143, 3) := by decide +kernel
theorem d_Mo_step_220 : decode prog_10_method_23_code 220 = .ok (.goto 43, 3) := by decide +kernel
theorem d_Mo_step_223 : decode prog_10_method_23_code 223 = .ok (.iload_n 3, 1) := by decide +kernel
theorem d_Mo_step_224 : decode prog_10_method_23_code 224 = .ok (.bipush 17, 2) := by decide +kernel
theorem d_Mo_step_226 : decode prog_10_method_23_code 226 = .ok (.if_icmp .ne 12, 3) := by decide +kernel
theorem d_Mo_step_229 : decode prog_10_method_23_code 229 = .ok (.aload_n 0, 1) := by decide +kernel
theorem d_Mo_step_230 : decode prog_10_method_23_code 230 = .ok (.iload 4, 2) := by decide +kernel
theorem d_Mo_step_232 : decode prog_10_method_23_code 232 = .ok (.invokevirtual 147, 3) := by decide +kernel
theorem d_Mo_step_235 : decode prog_10_method_23_code 235 = .ok (.goto 28, 3) := by decide +kernel
theorem d_Mo_step_238 : decode prog_10_method_23_code 238 = .ok (.iload_n 3, 1) := by decide +kernel
theorem d_Mo_step_239 : decode prog_10_method_23_code 239 = .ok (.bipush 18, 2) := by decide +kernel
theorem d_Mo_step_241 : decode prog_10_method_23_code 241 = .ok (.if_icmp .ne 12, 3) := by decide +kernel
theorem d_Mo_step_244 : decode prog_10_method_23_code 244 = .ok (.aload_n 0, 1) := by decide +kernel
theorem d_Mo_step_245 : decode prog_10_method_23_code 245 = .ok (.iload 4, 2) := by decide +kernel
theorem d_Mo_step_247 : decode prog_10_method_23_code 247 = .ok (.invokevirtual 150, 3) := by decide +kernel
theorem d_Mo_step_250 : decode prog_10_method_23_code 250 = .ok (.goto 13, 3) := by decide +kernel
theorem d_Mo_step_253 : decode prog_10_method_23_code 253 = .ok (.iload_n 3, 1) := by decide +kernel
theorem d_Mo_step_254 : decode prog_10_method_23_code 254 = .ok (.bipush 19, 2) := by decide +kernel
theorem d_Mo_step_256 : decode prog_10_method_23_code 256 = .ok (.if_icmp .ne 7, 3) := by decide +kernel
theorem d_Mo_step_259 : decode prog_10_method_23_code 259 = .ok (.aload_n 0, 1) := by decide +kernel
theorem d_Mo_step_260 : decode prog_10_method_23_code 260 = .ok (.invokevirtual 127, 3) := by decide +kernel
theorem d_Mo_step_263 : decode prog_10_method_23_code 263 = .ok (.return_, 1) := by decide +kernel
abbrev rm_Mo_step : Room := { frames := 3, cells := 0, slots := 0, locals := 68 }
def p_Mo_step_b263 (k : vS → Prop) (V : vS) : Prop := k V
set_option maxRecDepth 100000 in
set_option maxHeartbeats 4000000 in
theorem t_Mo_step_b263 {k : vS → Prop} (X : cx g p s m meth c args R_Mo prog_10_method_23_code 5 (none)) {V : vS} (h : p_Mo_step_b263 k V) (hP : va_P g.1 vcl (cw g V) H) (hS : va_S (gA g) s.heap H locs) (hl : lv_has ls 5 []) : W p l e rm_Mo_step s m args below meth c H locs 0 0 (MQ below (va_Qv k (Bw g) (gA g)) args s 0 0 (gA g)) (F0 m 263 ls []) := by
  obtain ⟨hx, hb, -, -, hown, hts, -, -, hz, hG⟩ := id X
  unfold p_Mo_step_b263 at h
  exact rw_vret X hP hS h d_Mo_step_263
def p_Mo_step_b223 (k : vS → Prop) (V : vS) (x3 : Int32) (x4 : Int32) : Prop := (x3 = 17 → (p_Mo_call (fun V8 => p_Mo_step_b263 k V8) V x4)) ∧ (¬ x3 = 17 → ((x3 = 18 → (p_Mo_ask (fun V6 => p_Mo_step_b263 k V6) V x4)) ∧ (¬ x3 = 18 → ((x3 = 19 → (p_Mo_leave (fun V4 => p_Mo_step_b263 k V4) V)) ∧ (¬ x3 = 19 → (p_Mo_step_b263 k V))))))
set_option maxRecDepth 100000 in
set_option maxHeartbeats 4000000 in
theorem t_Mo_step_b223 {k : vS → Prop} (X : cx g p s m meth c args R_Mo prog_10_method_23_code 5 (none)) {V : vS} {x3 : Int32} {x4 : Int32} (h : p_Mo_step_b223 k V x3 x4) (hP : va_P g.1 vcl (cw g V) H) (hS : va_S (gA g) s.heap H locs) (hl : lv_has ls 5 [(0, .ref (ga g 34)), (3, .int x3), (4, .int x4)]) : W p l e rm_Mo_step s m args below meth c H locs 0 0 (MQ below (va_Qv k (Bw g) (gA g)) args s 0 0 (gA g)) (F0 m 223 ls []) := by
  obtain ⟨hx, hb, -, -, hown, hts, -, -, hz, hG⟩ := id X
  unfold p_Mo_step_b223 at h
  refine lv_iload_n hx hb d_Mo_step_223 rfl (lv_at hl 1 rfl) ?_
  refine lv_bipush (v := 17) hx hb d_Mo_step_224 (by decide) ?_
  refine lv_icmp_ne (tgt := 238) hx hb d_Mo_step_226 (by decide) (fun c1 => ?_) (fun c1 => ?_)
  · have h := h.2 c1
    refine lv_iload_n hx hb d_Mo_step_238 rfl (lv_at hl 1 rfl) ?_
    refine lv_bipush (v := 18) hx hb d_Mo_step_239 (by decide) ?_
    refine lv_icmp_ne (tgt := 253) hx hb d_Mo_step_241 (by decide) (fun c2 => ?_) (fun c2 => ?_)
    · have h := h.2 c2
      refine lv_iload_n hx hb d_Mo_step_253 rfl (lv_at hl 1 rfl) ?_
      refine lv_bipush (v := 19) hx hb d_Mo_step_254 (by decide) ?_
      refine lv_icmp_ne (tgt := 263) hx hb d_Mo_step_256 (by decide) (fun c3 => ?_) (fun c3 => ?_)
      · have h := h.2 c3
        exact t_Mo_step_b263 X h hP hS (lv_sub hl [] rfl)
      · have h := h.1 c3
        refine lv_aload_n hx hb d_Mo_step_259 rfl (lv_at hl 0 rfl) ?_
        refine rw_cVv (rest := []) X hP hS yv_Mo_leave isO_Mo (c_Mo_leave hG h) q_597 ⟨rfl, rfl, by decide, by decide⟩ rfl rfl hl.1 (Nat.le_of_ble_eq_true rfl) ⟨Nat.zero_le _, Nat.zero_le _⟩ d_Mo_step_260 (fun V4 H locs h hP hS => ?_)
        exact t_Mo_step_b263 X h hP hS (lv_sub hl [] rfl)
    · have h := h.1 c2
      refine lv_aload_n hx hb d_Mo_step_244 rfl (lv_at hl 0 rfl) ?_
      refine lv_iload hx hb d_Mo_step_245 (lv_at hl 2 rfl) ?_
      refine rw_cVv (rest := []) X hP hS yv_Mo_ask isO_Mo (c_Mo_ask hG h) q_631 ⟨rfl, rfl, by decide, by decide⟩ rfl rfl hl.1 (Nat.le_of_ble_eq_true rfl) ⟨Nat.zero_le _, Nat.zero_le _⟩ d_Mo_step_247 (fun V6 H locs h hP hS => ?_)
      refine lv_goto (tgt := 263) hx hb d_Mo_step_250 (by decide) ?_
      exact t_Mo_step_b263 X h hP hS (lv_sub hl [] rfl)
  · have h := h.1 c1
    refine lv_aload_n hx hb d_Mo_step_229 rfl (lv_at hl 0 rfl) ?_
    refine lv_iload hx hb d_Mo_step_230 (lv_at hl 2 rfl) ?_
    refine rw_cVv (rest := []) X hP hS yv_Mo_call isO_Mo (c_Mo_call hG h) q_627 ⟨rfl, rfl, by decide, by decide⟩ rfl rfl hl.1 (Nat.le_of_ble_eq_true rfl) ⟨Nat.zero_le _, Nat.zero_le _⟩ d_Mo_step_232 (fun V8 H locs h hP hS => ?_)
    refine lv_goto (tgt := 263) hx hb d_Mo_step_235 (by decide) ?_
    exact t_Mo_step_b263 X h hP hS (lv_sub hl [] rfl)
def p_Mo_step (k : vS → Prop) (V : vS) : Prop := vp_in ((V.1 34 18) - 1) 7 ∧ (∀ y2 : Int32, y2 = V.1 43 (nt ((V.1 34 18) - 1)) → (vp_in ((V.1 34 18) - 1) 7 ∧ (∀ y4 : Int32, y4 = V.1 44 (nt ((V.1 34 18) - 1)) → (vp_in ((y2 * 24) + y4) 96 ∧ (∀ y6 : Int32, y6 = V.1 39 (nt ((y2 * 24) + y4)) → (vp_in ((y2 * 24) + y4) 96 ∧ (∀ y8 : Int32, y8 = V.1 40 (nt ((y2 * 24) + y4)) → (vp_in ((V.1 34 18) - 1) 7 ∧ (vp_in ((V.1 34 18) - 1) 7 ∧ ∀ V11 : vS, V11 = sv V 44 (nt ((V.1 34 18) - 1)) ((V.1 44 (nt ((V.1 34 18) - 1))) + 1) → ((y6 = 0 → (p_Mo_push (fun V41 => p_Mo_step_b263 k V41) V11 y8)) ∧ (¬ y6 = 0 → ((y6 = 1 → (vp_in ((((V11.1 34 18) * 5) - 5) + y8) 35 ∧ (p_Mo_push (fun V39 => p_Mo_step_b263 k V39) V11 (V11.1 45 (nt ((((V11.1 34 18) * 5) - 5) + y8)))))) ∧ (¬ y6 = 1 → ((y6 = 2 → (p_Mo_pop (fun r34 V33 => vp_in ((((V11.1 34 18) * 5) - 5) + y8) 35 ∧ ∀ V37 : vS, V37 = sv V33 45 (nt ((((V11.1 34 18) * 5) - 5) + y8)) r34 → (p_Mo_step_b263 k V37)) V11)) ∧ (¬ y6 = 2 → ((8 < y6 → ((y6 = 9 → (∀ V30 : vS, V30 = sv V11 34 19 ((V11.1 34 19) - 1) → (p_Mo_step_b263 k V30))) ∧ (¬ y6 = 9 → ((11 < y6 → ((y6 = 15 → (p_Mo_branch (fun V26 => p_Mo_step_b263 k V26) V11 y2 y4 y8)) ∧ (¬ y6 = 15 → ((y6 = 16 → (p_Mo_pop (fun r21 V20 => (r21 = 0 → (p_Mo_step_b223 k V20 y6 y8)) ∧ (¬ r21 = 0 → (p_Mo_branch (fun V24 => p_Mo_step_b263 k V24) V20 y2 y4 y8))) V11)) ∧ (¬ y6 = 16 → (p_Mo_step_b223 k V11 y6 y8)))))) ∧ (¬ 11 < y6 → (p_Mo_store (fun V28 => p_Mo_step_b263 k V28) V11 y6 y8)))))) ∧ (¬ 8 < y6 → (p_Mo_arithmetic (fun V31 => p_Mo_step_b263 k V31) V11 y6))))))))))))))))))
set_option maxRecDepth 100000 in
set_option maxHeartbeats 4000000 in
theorem c_Mo_step {l : Launch} {g : gT} (hG : gd g) {V : vS} {k : vS → Prop} (h : p_Mo_step k V) : Cv g l y_Mo_step prog_10_method_23_code 5 (none) rm_Mo_step [.ref (ga g 34)] V k := by
  unfold Cv
  refine Met.ofW (cc := prog_10_method_23_code) (maxL := 5) (ret := none) (by decide) rfl ?_
  intro p e s m args below meth c s₁ B hml hv
  obtain ⟨rfl, hP, hK, hZ⟩ := hv
  have X : cx g p s m meth c [.ref (ga g 34)].toArray R_Mo prog_10_method_23_code 5 (none) := ⟨B.exec, B.bytes, B.returns, hml, findClass_of_methodNamed B.named, fun w hw => atoms_spec (ws := Cond.code y_Mo_step prog_10_method_23_code 5 (none) :: TBL) B.pre w (List.mem_cons_of_mem _ hw), B.notSynchronized, hK, hZ, hG⟩
  have hl := lv_entry [.ref (ga g 34)] (n := 5) (Nat.le_of_ble_eq_true rfl)
  rw [lg_entry_eq]
  generalize (lg_sl [.ref (ga g 34)] ++ List.replicate (5 - (lg_sl [.ref (ga g 34)]).length) Slot.unset).toArray = ls at hl ⊢
  have hl : lv_has ls 5 [(0, .ref (ga g 34))] := hl
  have hS : va_S (gA g) s.heap s.heap [] := va_S.rf
  obtain ⟨hx, hb, -, -, hown, hts, -, -, hz, -⟩ := id X
  show W p l e rm_Mo_step s m _ below meth c s.heap [] 0 0 (MQ below (va_Qv k (Bw g) (gA g)) _ s 0 0 (gA g)) (F0 m 0 ls [])
  unfold p_Mo_step at h
  refine lv_aload_n hx hb d_Mo_step_0 rfl (lv_at hl 0 rfl) ?_
  refine gf_Mo_running X hP q_460 d_Mo_step_1 ?_
  refine lv_aload_n hx hb d_Mo_step_4 rfl (lv_at hl 0 rfl) ?_
  refine gf_Mo_depth X hP q_464 d_Mo_step_5 ?_
  refine lv_iconst (v := 1) hx hb d_Mo_step_8 (by decide) ?_
  refine lv_isub hx hb d_Mo_step_9 ?_
  obtain ⟨hi1, h⟩ := h
  refine rw_iald X hP isI_43 hi1 d_Mo_step_10 ?_
  refine lv_topi (fun y2 ey2 => ?_)
  have h := h y2 ey2
  refine lv_istore_n (lv' := [(1, .int y2), (0, .ref (ga g 34))]) hx hb d_Mo_step_11 rfl hl (by decide) rfl (fun ls hl => ?_)
  refine lv_aload_n hx hb d_Mo_step_12 rfl (lv_at hl 1 rfl) ?_
  refine gf_Mo_next X hP q_461 d_Mo_step_13 ?_
  refine lv_aload_n hx hb d_Mo_step_16 rfl (lv_at hl 1 rfl) ?_
  refine gf_Mo_depth X hP q_464 d_Mo_step_17 ?_
  refine lv_iconst (v := 1) hx hb d_Mo_step_20 (by decide) ?_
  refine lv_isub hx hb d_Mo_step_21 ?_
  obtain ⟨hi3, h⟩ := h
  refine rw_iald X hP isI_44 hi3 d_Mo_step_22 ?_
  refine lv_topi (fun y4 ey4 => ?_)
  have h := h y4 ey4
  refine lv_istore_n (lv' := [(2, .int y4), (1, .int y2), (0, .ref (ga g 34))]) hx hb d_Mo_step_23 rfl hl (by decide) rfl (fun ls hl => ?_)
  refine lv_aload_n hx hb d_Mo_step_24 rfl (lv_at hl 2 rfl) ?_
  refine gf_Mo_op X hP q_450 d_Mo_step_25 ?_
  refine lv_iload_n hx hb d_Mo_step_28 rfl (lv_at hl 1 rfl) ?_
  refine lv_bipush (v := 24) hx hb d_Mo_step_29 (by decide) ?_
  refine lv_imul hx hb d_Mo_step_31 ?_
  refine lv_iload_n hx hb d_Mo_step_32 rfl (lv_at hl 0 rfl) ?_
  refine lv_iadd hx hb d_Mo_step_33 ?_
  obtain ⟨hi5, h⟩ := h
  refine rw_iald X hP isI_39 hi5 d_Mo_step_34 ?_
  refine lv_topi (fun y6 ey6 => ?_)
  have h := h y6 ey6
  refine lv_istore_n (lv' := [(3, .int y6), (2, .int y4), (1, .int y2), (0, .ref (ga g 34))]) hx hb d_Mo_step_35 rfl hl (by decide) rfl (fun ls hl => ?_)
  refine lv_aload_n hx hb d_Mo_step_36 rfl (lv_at hl 3 rfl) ?_
  refine gf_Mo_arg X hP q_451 d_Mo_step_37 ?_
  refine lv_iload_n hx hb d_Mo_step_40 rfl (lv_at hl 2 rfl) ?_
  refine lv_bipush (v := 24) hx hb d_Mo_step_41 (by decide) ?_
  refine lv_imul hx hb d_Mo_step_43 ?_
  refine lv_iload_n hx hb d_Mo_step_44 rfl (lv_at hl 1 rfl) ?_
  refine lv_iadd hx hb d_Mo_step_45 ?_
  obtain ⟨hi7, h⟩ := h
  refine rw_iald X hP isI_40 hi7 d_Mo_step_46 ?_
  refine lv_topi (fun y8 ey8 => ?_)
  have h := h y8 ey8
  refine lv_istore (lv' := [(4, .int y8), (3, .int y6), (2, .int y4), (1, .int y2), (0, .ref (ga g 34))]) hx hb d_Mo_step_47 hl (by decide) rfl (fun ls hl => ?_)
  refine lv_aload_n hx hb d_Mo_step_49 rfl (lv_at hl 4 rfl) ?_
  refine gf_Mo_next X hP q_461 d_Mo_step_50 ?_
  refine lv_aload_n hx hb d_Mo_step_53 rfl (lv_at hl 4 rfl) ?_
  refine gf_Mo_depth X hP q_464 d_Mo_step_54 ?_
  refine lv_iconst (v := 1) hx hb d_Mo_step_57 (by decide) ?_
  refine lv_isub hx hb d_Mo_step_58 ?_
  refine lv_dup2_11 hx hb d_Mo_step_59 rfl rfl ?_
  obtain ⟨hi9, h⟩ := h
  refine rw_iald X hP isI_44 hi9 d_Mo_step_60 ?_
  refine lv_iconst (v := 1) hx hb d_Mo_step_61 (by decide) ?_
  refine lv_iadd hx hb d_Mo_step_62 ?_
  obtain ⟨hi10, h⟩ := h
  refine rw_iast X hP hS isI_44 hi10 d_Mo_step_63 (fun V11 H locs eV11 hP hS => ?_)
  have h := h V11 eV11
  refine lv_iload_n hx hb d_Mo_step_64 rfl (lv_at hl 1 rfl) ?_
  refine lv_if_ne (tgt := 77) hx hb d_Mo_step_65 (by decide) (fun c12 => ?_) (fun c12 => ?_)
  · have h := h.2 c12
    refine lv_iload_n hx hb d_Mo_step_77 rfl (lv_at hl 1 rfl) ?_
    refine lv_iconst (v := 1) hx hb d_Mo_step_78 (by decide) ?_
    refine lv_icmp_ne (tgt := 105) hx hb d_Mo_step_79 (by decide) (fun c13 => ?_) (fun c13 => ?_)
    · have h := h.2 c13
      refine lv_iload_n hx hb d_Mo_step_105 rfl (lv_at hl 1 rfl) ?_
      refine lv_iconst (v := 2) hx hb d_Mo_step_106 (by decide) ?_
      refine lv_icmp_ne (tgt := 133) hx hb d_Mo_step_107 (by decide) (fun c14 => ?_) (fun c14 => ?_)
      · have h := h.2 c14
        refine lv_iload_n hx hb d_Mo_step_133 rfl (lv_at hl 1 rfl) ?_
        refine lv_bipush (v := 8) hx hb d_Mo_step_134 (by decide) ?_
        refine lv_icmp_gt (tgt := 147) hx hb d_Mo_step_136 (by decide) (fun c15 => ?_) (fun c15 => ?_)
        · have h := h.1 c15
          refine lv_iload_n hx hb d_Mo_step_147 rfl (lv_at hl 1 rfl) ?_
          refine lv_bipush (v := 9) hx hb d_Mo_step_148 (by decide) ?_
          refine lv_icmp_ne (tgt := 166) hx hb d_Mo_step_150 (by decide) (fun c16 => ?_) (fun c16 => ?_)
          · have h := h.2 c16
            refine lv_iload_n hx hb d_Mo_step_166 rfl (lv_at hl 1 rfl) ?_
            refine lv_bipush (v := 11) hx hb d_Mo_step_167 (by decide) ?_
            refine lv_icmp_gt (tgt := 182) hx hb d_Mo_step_169 (by decide) (fun c17 => ?_) (fun c17 => ?_)
            · have h := h.1 c17
              refine lv_iload_n hx hb d_Mo_step_182 rfl (lv_at hl 1 rfl) ?_
              refine lv_bipush (v := 15) hx hb d_Mo_step_183 (by decide) ?_
              refine lv_icmp_ne (tgt := 199) hx hb d_Mo_step_185 (by decide) (fun c18 => ?_) (fun c18 => ?_)
              · have h := h.2 c18
                refine lv_iload_n hx hb d_Mo_step_199 rfl (lv_at hl 1 rfl) ?_
                refine lv_bipush (v := 16) hx hb d_Mo_step_200 (by decide) ?_
                refine lv_icmp_ne (tgt := 223) hx hb d_Mo_step_202 (by decide) (fun c19 => ?_) (fun c19 => ?_)
                · have h := h.2 c19
                  exact t_Mo_step_b223 X h hP hS (lv_sub hl [4, 1, 0] rfl)
                · have h := h.1 c19
                  refine lv_aload_n hx hb d_Mo_step_205 rfl (lv_at hl 4 rfl) ?_
                  refine rw_cVi (rest := []) X hP hS yv_Mo_pop isO_Mo (c_Mo_pop hG h) q_601 ⟨rfl, rfl, by decide, by decide⟩ rfl rfl hl.1 (Nat.le_of_ble_eq_true rfl) ⟨Nat.zero_le _, Nat.zero_le _⟩ d_Mo_step_206 (fun r21 V20 H locs h hP hS => ?_)
                  refine lv_if_eq (tgt := 223) hx hb d_Mo_step_209 (by decide) (fun c23 => ?_) (fun c23 => ?_)
                  · have h := h.1 c23
                    exact t_Mo_step_b223 X h hP hS (lv_sub hl [4, 1, 0] rfl)
                  · have h := h.2 c23
                    refine lv_aload_n hx hb d_Mo_step_212 rfl (lv_at hl 4 rfl) ?_
                    refine lv_iload_n hx hb d_Mo_step_213 rfl (lv_at hl 3 rfl) ?_
                    refine lv_iload_n hx hb d_Mo_step_214 rfl (lv_at hl 2 rfl) ?_
                    refine lv_iload hx hb d_Mo_step_215 (lv_at hl 0 rfl) ?_
                    refine rw_cVv (rest := []) X hP hS yv_Mo_branch isO_Mo (c_Mo_branch hG h) q_623 ⟨rfl, rfl, by decide, by decide⟩ rfl rfl hl.1 (Nat.le_of_ble_eq_true rfl) ⟨Nat.zero_le _, Nat.zero_le _⟩ d_Mo_step_217 (fun V24 H locs h hP hS => ?_)
                    refine lv_goto (tgt := 263) hx hb d_Mo_step_220 (by decide) ?_
                    exact t_Mo_step_b263 X h hP hS (lv_sub hl [] rfl)
              · have h := h.1 c18
                refine lv_aload_n hx hb d_Mo_step_188 rfl (lv_at hl 4 rfl) ?_
                refine lv_iload_n hx hb d_Mo_step_189 rfl (lv_at hl 3 rfl) ?_
                refine lv_iload_n hx hb d_Mo_step_190 rfl (lv_at hl 2 rfl) ?_
                refine lv_iload hx hb d_Mo_step_191 (lv_at hl 0 rfl) ?_
                refine rw_cVv (rest := []) X hP hS yv_Mo_branch isO_Mo (c_Mo_branch hG h) q_623 ⟨rfl, rfl, by decide, by decide⟩ rfl rfl hl.1 (Nat.le_of_ble_eq_true rfl) ⟨Nat.zero_le _, Nat.zero_le _⟩ d_Mo_step_193 (fun V26 H locs h hP hS => ?_)
                refine lv_goto (tgt := 263) hx hb d_Mo_step_196 (by decide) ?_
                exact t_Mo_step_b263 X h hP hS (lv_sub hl [] rfl)
            · have h := h.2 c17
              refine lv_aload_n hx hb d_Mo_step_172 rfl (lv_at hl 4 rfl) ?_
              refine lv_iload_n hx hb d_Mo_step_173 rfl (lv_at hl 1 rfl) ?_
              refine lv_iload hx hb d_Mo_step_174 (lv_at hl 0 rfl) ?_
              refine rw_cVv (rest := []) X hP hS yv_Mo_store isO_Mo (c_Mo_store hG h) q_618 ⟨rfl, rfl, by decide, by decide⟩ rfl rfl hl.1 (Nat.le_of_ble_eq_true rfl) ⟨Nat.zero_le _, Nat.zero_le _⟩ d_Mo_step_176 (fun V28 H locs h hP hS => ?_)
              refine lv_goto (tgt := 263) hx hb d_Mo_step_179 (by decide) ?_
              exact t_Mo_step_b263 X h hP hS (lv_sub hl [] rfl)
          · have h := h.1 c16
            refine lv_aload_n hx hb d_Mo_step_153 rfl (lv_at hl 4 rfl) ?_
            refine lv_dup hx hb d_Mo_step_154 rfl ?_
            refine gf_Mo_size X hP q_465 d_Mo_step_155 ?_
            refine lv_iconst (v := 1) hx hb d_Mo_step_158 (by decide) ?_
            refine lv_isub hx hb d_Mo_step_159 ?_
            refine pf_Mo_size X hP hS q_465 d_Mo_step_160 (fun V30 H locs eV30 hP hS => ?_)
            have h := h V30 eV30
            refine lv_goto (tgt := 263) hx hb d_Mo_step_163 (by decide) ?_
            exact t_Mo_step_b263 X h hP hS (lv_sub hl [] rfl)
        · have h := h.2 c15
          refine lv_aload_n hx hb d_Mo_step_139 rfl (lv_at hl 4 rfl) ?_
          refine lv_iload_n hx hb d_Mo_step_140 rfl (lv_at hl 1 rfl) ?_
          refine rw_cVv (rest := []) X hP hS yv_Mo_arithmetic isO_Mo (c_Mo_arithmetic hG h) q_613 ⟨rfl, rfl, by decide, by decide⟩ rfl rfl hl.1 (Nat.le_of_ble_eq_true rfl) ⟨Nat.zero_le _, Nat.zero_le _⟩ d_Mo_step_141 (fun V31 H locs h hP hS => ?_)
          refine lv_goto (tgt := 263) hx hb d_Mo_step_144 (by decide) ?_
          exact t_Mo_step_b263 X h hP hS (lv_sub hl [] rfl)
      · have h := h.1 c14
        refine lv_aload_n hx hb d_Mo_step_110 rfl (lv_at hl 4 rfl) ?_
        refine gf_Mo_locals X hP q_462 d_Mo_step_111 ?_
        refine lv_aload_n hx hb d_Mo_step_114 rfl (lv_at hl 4 rfl) ?_
        refine gf_Mo_depth X hP q_464 d_Mo_step_115 ?_
        refine lv_iconst (v := 5) hx hb d_Mo_step_118 (by decide) ?_
        refine lv_imul hx hb d_Mo_step_119 ?_
        refine lv_iconst (v := 5) hx hb d_Mo_step_120 (by decide) ?_
        refine lv_isub hx hb d_Mo_step_121 ?_
        refine lv_iload hx hb d_Mo_step_122 (lv_at hl 0 rfl) ?_
        refine lv_iadd hx hb d_Mo_step_124 ?_
        refine lv_aload_n hx hb d_Mo_step_125 rfl (lv_at hl 4 rfl) ?_
        refine rw_cVi (rest := [.int ((((V11.1 34 18) * 5) - 5) + y8), .ref (ga g 45)]) X hP hS yv_Mo_pop isO_Mo (c_Mo_pop hG h) q_601 ⟨rfl, rfl, by decide, by decide⟩ rfl rfl hl.1 (Nat.le_of_ble_eq_true rfl) ⟨Nat.zero_le _, Nat.zero_le _⟩ d_Mo_step_126 (fun r34 V33 H locs h hP hS => ?_)
        obtain ⟨hi36, h⟩ := h
        refine rw_iast X hP hS isI_45 hi36 d_Mo_step_129 (fun V37 H locs eV37 hP hS => ?_)
        have h := h V37 eV37
        refine lv_goto (tgt := 263) hx hb d_Mo_step_130 (by decide) ?_
        exact t_Mo_step_b263 X h hP hS (lv_sub hl [] rfl)
    · have h := h.1 c13
      refine lv_aload_n hx hb d_Mo_step_82 rfl (lv_at hl 4 rfl) ?_
      refine lv_aload_n hx hb d_Mo_step_83 rfl (lv_at hl 4 rfl) ?_
      refine gf_Mo_locals X hP q_462 d_Mo_step_84 ?_
      refine lv_aload_n hx hb d_Mo_step_87 rfl (lv_at hl 4 rfl) ?_
      refine gf_Mo_depth X hP q_464 d_Mo_step_88 ?_
      refine lv_iconst (v := 5) hx hb d_Mo_step_91 (by decide) ?_
      refine lv_imul hx hb d_Mo_step_92 ?_
      refine lv_iconst (v := 5) hx hb d_Mo_step_93 (by decide) ?_
      refine lv_isub hx hb d_Mo_step_94 ?_
      refine lv_iload hx hb d_Mo_step_95 (lv_at hl 0 rfl) ?_
      refine lv_iadd hx hb d_Mo_step_97 ?_
      obtain ⟨hi38, h⟩ := h
      refine rw_iald X hP isI_45 hi38 d_Mo_step_98 ?_
      refine rw_cVv (rest := []) X hP hS yv_Mo_push isO_Mo (c_Mo_push hG h) q_609 ⟨rfl, rfl, by decide, by decide⟩ rfl rfl hl.1 (Nat.le_of_ble_eq_true rfl) ⟨Nat.zero_le _, Nat.zero_le _⟩ d_Mo_step_99 (fun V39 H locs h hP hS => ?_)
      refine lv_goto (tgt := 263) hx hb d_Mo_step_102 (by decide) ?_
      exact t_Mo_step_b263 X h hP hS (lv_sub hl [] rfl)
  · have h := h.1 c12
    refine lv_aload_n hx hb d_Mo_step_68 rfl (lv_at hl 4 rfl) ?_
    refine lv_iload hx hb d_Mo_step_69 (lv_at hl 0 rfl) ?_
    refine rw_cVv (rest := []) X hP hS yv_Mo_push isO_Mo (c_Mo_push hG h) q_609 ⟨rfl, rfl, by decide, by decide⟩ rfl rfl hl.1 (Nat.le_of_ble_eq_true rfl) ⟨Nat.zero_le _, Nat.zero_le _⟩ d_Mo_step_71 (fun V41 H locs h hP hS => ?_)
    refine lv_goto (tgt := 263) hx hb d_Mo_step_74 (by decide) ?_
    exact t_Mo_step_b263 X h hP hS (lv_sub hl [] rfl)
theorem yv_Mo_step : yV R_Mo y_Mo_step prog_10_method_23_code 5 (none) 0 := ⟨by decide +kernel, q_607, qp_34, q_7, q_608⟩
/-! Mo.resume -/
theorem d_Mo_resume_0 : decode prog_10_method_25_code 0 = .ok (.iload_n 1, 1) := by decide +kernel
theorem d_Mo_resume_1 : decode prog_10_method_25_code 1 = .ok (.iconst 1, 1) := by decide +kernel
theorem d_Mo_resume_2 : decode prog_10_method_25_code 2 = .ok (.if_icmp .lt 10, 3) := by decide +kernel
theorem d_Mo_resume_5 : decode prog_10_method_25_code 5 = .ok (.iload_n 1, 1) := by decide +kernel
theorem d_Mo_resume_6 : decode prog_10_method_25_code 6 = .ok (.sipush 200, 3) := by decide +kernel
theorem d_Mo_resume_9 : decode prog_10_method_25_code 9 = .ok (.if_icmp .le 5, 3) := by decide +kernel
theorem d_Mo_resume_12 : decode prog_10_method_25_code 12 = .ok (.iconst (-1), 1) := by decide +kernel
theorem d_Mo_resume_13 : decode prog_10_method_25_code 13 = .ok (.ireturn, 1) := by decide +kernel
theorem d_Mo_resume_14 : decode prog_10_method_25_code 14 = .ok (.aload_n 0, 1) := by decide +kernel
theorem d_Mo_resume_15 : decode prog_10_method_25_code 15 = .ok (.getfield 61, 3) := by decide +kernel
theorem d_Mo_resume_18 : decode prog_10_method_25_code 18 = .ok (.ifCond .eq 10, 3) := by decide +kernel
theorem d_Mo_resume_21 : decode prog_10_method_25_code 21 = .ok (.aload_n 0, 1) := by decide +kernel
theorem d_Mo_resume_22 : decode prog_10_method_25_code 22 = .ok (.getfield 46, 3) := by decide +kernel
theorem d_Mo_resume_25 : decode prog_10_method_25_code 25 = .ok (.ifCond .lt 6, 3) := by decide +kernel
theorem d_Mo_resume_28 : decode prog_10_method_25_code 28 = .ok (.bipush (-3), 2) := by decide +kernel
theorem d_Mo_resume_30 : decode prog_10_method_25_code 30 = .ok (.ireturn, 1) := by decide +kernel
theorem d_Mo_resume_31 : decode prog_10_method_25_code 31 = .ok (.iload_n 1, 1) := by decide +kernel
theorem d_Mo_resume_32 : decode prog_10_method_25_code 32 = .ok (.istore_n 2, 1) := by decide +kernel
theorem d_Mo_resume_33 : decode prog_10_method_25_code 33 = .ok (.aload_n 0, 1) := by decide +kernel
theorem d_Mo_resume_34 : decode prog_10_method_25_code 34 = .ok (.iconst 0, 1) := by decide +kernel
theorem d_Mo_resume_35 : decode prog_10_method_25_code 35 = .ok (.putfield 111, 3) := by decide +kernel
theorem d_Mo_resume_38 : decode prog_10_method_25_code 38 = .ok (.aload_n 0, 1) := by decide +kernel
theorem d_Mo_resume_39 : decode prog_10_method_25_code 39 = .ok (.getfield 111, 3) := by decide +kernel
theorem d_Mo_resume_42 : decode prog_10_method_25_code 42 = .ok (.ifCond .ne 80, 3) := by decide +kernel
theorem d_Mo_resume_45 : decode prog_10_method_25_code 45 = .ok (.aload_n 0, 1) := by decide +kernel
theorem d_Mo_resume_46 : decode prog_10_method_25_code 46 = .ok (.getfield 46, 3) := by decide +kernel
theorem d_Mo_resume_49 : decode prog_10_method_25_code 49 = .ok (.ifCond .ge 73, 3) := by decide +kernel
theorem d_Mo_resume_52 : decode prog_10_method_25_code 52 = .ok (.aload_n 0, 1) := by decide +kernel
theorem d_Mo_resume_53 : decode prog_10_method_25_code 53 = .ok (.getfield 61, 3) := by decide +kernel
theorem d_Mo_resume_56 : decode prog_10_method_25_code 56 = .ok (.ifCond .le 66, 3) := by decide +kernel
theorem d_Mo_resume_59 : decode prog_10_method_25_code 59 = .ok (.aload_n 0, 1) := by decide +kernel
theorem d_Mo_resume_60 : decode prog_10_method_25_code 60 = .ok (.getfield 37, 3) := by decide +kernel
theorem d_Mo_resume_63 : decode prog_10_method_25_code 63 = .ok (.aload_n 0, 1) := by decide +kernel
theorem d_Mo_resume_64 : decode prog_10_method_25_code 64 = .ok (.getfield 61, 3) := by decide +kernel
theorem d_Mo_resume_67 : decode prog_10_method_25_code 67 = .ok (.iconst 1, 1) := by decide +kernel
theorem d_Mo_resume_68 : decode prog_10_method_25_code 68 = .ok (.isub, 1) := by decide +kernel
theorem d_Mo_resume_69 : decode prog_10_method_25_code 69 = .ok (.iaload, 1) := by decide +kernel
theorem d_Mo_resume_70 : decode prog_10_method_25_code 70 = .ok (.aload_n 0, 1) := by decide +kernel
theorem d_Mo_resume_71 : decode prog_10_method_25_code 71 = .ok (.getfield 19, 3) := by decide +kernel
theorem d_Mo_resume_74 : decode prog_10_method_25_code 74 = .ok (.aload_n 0, 1) := by decide +kernel
theorem d_Mo_resume_75 : decode prog_10_method_25_code 75 = .ok (.getfield 34, 3) := by decide +kernel
theorem d_Mo_resume_78 : decode prog_10_method_25_code 78 = .ok (.aload_n 0, 1) := by decide +kernel
theorem d_Mo_resume_79 : decode prog_10_method_25_code 79 = .ok (.getfield 61, 3) := by decide +kernel
theorem d_Mo_resume_82 : decode prog_10_method_25_code 82 = .ok (.iconst 1, 1) := by decide +kernel
theorem d_Mo_resume_83 : decode prog_10_method_25_code 83 = .ok (.isub, 1) := by decide +kernel
theorem d_Mo_resume_84 : decode prog_10_method_25_code 84 = .ok (.iaload, 1) := by decide +kernel
theorem d_Mo_resume_85 : decode prog_10_method_25_code 85 = .ok (.iaload, 1) := by decide +kernel
theorem d_Mo_resume_86 : decode prog_10_method_25_code 86 = .ok (.if_icmp .ne 10, 3) := by decide +kernel
theorem d_Mo_resume_89 : decode prog_10_method_25_code 89 = .ok (.aload_n 0, 1) := by decide +kernel
theorem d_Mo_resume_90 : decode prog_10_method_25_code 90 = .ok (.invokevirtual 127, 3) := by decide +kernel
theorem d_Mo_resume_93 : decode prog_10_method_25_code 93 = .ok (.goto (-55), 3) := by decide +kernel
theorem d_Mo_resume_96 : decode prog_10_method_25_code 96 = .ok (.iload_n 2, 1) := by decide +kernel
theorem d_Mo_resume_97 : decode prog_10_method_25_code 97 = .ok (.ifCond .ne 5, 3) := by decide +kernel
theorem d_Mo_resume_100 : decode prog_10_method_25_code 100 = .ok (.iconst 2, 1) := by decide +kernel
theorem d_Mo_resume_101 : decode prog_10_method_25_code 101 = .ok (.ireturn, 1) := by decide +kernel
theorem d_Mo_resume_102 : decode prog_10_method_25_code 102 = .ok (.iinc 2 (-1), 3) := by decide +kernel
theorem d_Mo_resume_105 : decode prog_10_method_25_code 105 = .ok (.aload_n 0, 1) := by decide +kernel
theorem d_Mo_resume_106 : decode prog_10_method_25_code 106 = .ok (.dup, 1) := by decide +kernel
theorem d_Mo_resume_107 : decode prog_10_method_25_code 107 = .ok (.getfield 156, 3) := by decide +kernel
theorem d_Mo_resume_110 : decode prog_10_method_25_code 110 = .ok (.iconst 1, 1) := by decide +kernel
theorem d_Mo_resume_111 : decode prog_10_method_25_code 111 = .ok (.iadd, 1) := by decide +kernel
theorem d_Mo_resume_112 : decode prog_10_method_25_code 112 = .ok (.putfield 156, 3) := by decide +kernel
theorem d_Mo_resume_115 : decode prog_10_method_25_code 115 = .ok (.aload_n 0, 1) := by decide +kernel
theorem d_Mo_resume_116 : decode prog_10_method_25_code 116 = .ok (.invokevirtual 159, 3) := by decide +kernel
theorem d_Mo_resume_119 : decode prog_10_method_25_code 119 = .ok (.goto (-81), 3) := by decide +kernel
theorem d_Mo_resume_122 : decode prog_10_method_25_code 122 = .ok (.aload_n 0, 1) := by decide +kernel
theorem d_Mo_resume_123 : decode prog_10_method_25_code 123 = .ok (.getfield 46, 3) := by decide +kernel
theorem d_Mo_resume_126 : decode prog_10_method_25_code 126 = .ok (.ifCond .lt 5, 3) := by decide +kernel
theorem d_Mo_resume_129 : decode prog_10_method_25_code 129 = .ok (.iconst 3, 1) := by decide +kernel
theorem d_Mo_resume_130 : decode prog_10_method_25_code 130 = .ok (.ireturn, 1) := by decide +kernel
theorem d_Mo_resume_131 : decode prog_10_method_25_code 131 = .ok (.aload_n 0, 1) := by decide +kernel
theorem d_Mo_resume_132 : decode prog_10_method_25_code 132 = .ok (.getfield 111, 3) := by decide +kernel
theorem d_Mo_resume_135 : decode prog_10_method_25_code 135 = .ok (.ifCond .ne 5, 3) := by decide +kernel
theorem d_Mo_resume_138 : decode prog_10_method_25_code 138 = .ok (.iconst 1, 1) := by decide +kernel
theorem d_Mo_resume_139 : decode prog_10_method_25_code 139 = .ok (.ireturn, 1) := by decide +kernel
theorem d_Mo_resume_140 : decode prog_10_method_25_code 140 = .ok (.aload_n 0, 1) := by decide +kernel
theorem d_Mo_resume_141 : decode prog_10_method_25_code 141 = .ok (.dup, 1) := by decide +kernel
theorem d_Mo_resume_142 : decode prog_10_method_25_code 142 = .ok (.getfield 162, 3) := by decide +kernel
theorem d_Mo_resume_145 : decode prog_10_method_25_code 145 = .ok (.iconst 1, 1) := by decide +kernel
theorem d_Mo_resume_146 : decode prog_10_method_25_code 146 = .ok (.iadd, 1) := by decide +kernel
theorem d_Mo_resume_147 : decode prog_10_method_25_code 147 = .ok (.putfield 162, 3) := by decide +kernel
theorem d_Mo_resume_150 : decode prog_10_method_25_code 150 = .ok (.aload_n 0, 1) := by decide +kernel
theorem d_Mo_resume_151 : decode prog_10_method_25_code 151 = .ok (.iconst 0, 1) := by decide +kernel
theorem d_Mo_resume_152 : decode prog_10_method_25_code 152 = .ok (.putfield 61, 3) := by decide +kernel
theorem d_Mo_resume_155 : decode prog_10_method_25_code 155 = .ok (.aload_n 0, 1) := by decide +kernel
theorem d_Mo_resume_156 : decode prog_10_method_25_code 156 = .ok (.iconst 0, 1) := by decide +kernel
theorem d_Mo_resume_157 : decode prog_10_method_25_code 157 = .ok (.putfield 64, 3) := by decide +kernel
theorem d_Mo_resume_160 : decode prog_10_method_25_code 160 = .ok (.aload_n 0, 1) := by decide +kernel
theorem d_Mo_resume_161 : decode prog_10_method_25_code 161 = .ok (.getfield 111, 3) := by decide +kernel
theorem d_Mo_resume_164 : decode prog_10_method_25_code 164 = .ok (.ireturn, 1) := by decide +kernel
abbrev rm_Mo_resume : Room := { frames := 4, cells := 0, slots := 0, locals := 92 }
def p_Mo_resume_b12 (k : Int32 → vS → Prop) (V : vS) : Prop := k (-1) V
set_option maxRecDepth 100000 in
set_option maxHeartbeats 4000000 in
theorem t_Mo_resume_b12 {k : Int32 → vS → Prop} (X : cx g p s m meth c args R_Mo prog_10_method_25_code 3 (some .int)) {V : vS} (h : p_Mo_resume_b12 k V) (hP : va_P g.1 vcl (cw g V) H) (hS : va_S (gA g) s.heap H locs) (hl : lv_has ls 3 []) : W p l e rm_Mo_resume s m args below meth c H locs 0 0 (MQ below (va_Qi k (Bw g) (gA g)) args s 0 0 (gA g)) (F0 m 12 ls []) := by
  obtain ⟨hx, hb, -, -, hown, hts, -, -, hz, hG⟩ := id X
  unfold p_Mo_resume_b12 at h
  refine lv_iconst (v := (-1)) hx hb d_Mo_resume_12 (by decide) ?_
  exact rw_iret X hP hS h d_Mo_resume_13
def p_Mo_resume_b28 (k : Int32 → vS → Prop) (V : vS) : Prop := k (-3) V
set_option maxRecDepth 100000 in
set_option maxHeartbeats 4000000 in
theorem t_Mo_resume_b28 {k : Int32 → vS → Prop} (X : cx g p s m meth c args R_Mo prog_10_method_25_code 3 (some .int)) {V : vS} (h : p_Mo_resume_b28 k V) (hP : va_P g.1 vcl (cw g V) H) (hS : va_S (gA g) s.heap H locs) (hl : lv_has ls 3 []) : W p l e rm_Mo_resume s m args below meth c H locs 0 0 (MQ below (va_Qi k (Bw g) (gA g)) args s 0 0 (gA g)) (F0 m 28 ls []) := by
  obtain ⟨hx, hb, -, -, hown, hts, -, -, hz, hG⟩ := id X
  unfold p_Mo_resume_b28 at h
  refine lv_bipush (v := (-3)) hx hb d_Mo_resume_28 (by decide) ?_
  exact rw_iret X hP hS h d_Mo_resume_30
def p_Mo_resume_b122 (k : Int32 → vS → Prop) (V : vS) : Prop := ((V.1 34 20) < 0 → (((V.1 34 22) = 0 → (k 1 V)) ∧ (¬ (V.1 34 22) = 0 → (∀ V3 : vS, V3 = sv V 34 29 ((V.1 34 29) + 1) → (∀ V4 : vS, V4 = sv V3 34 18 0 → (∀ V5 : vS, V5 = sv V4 34 19 0 → (k (V5.1 34 22) V5))))))) ∧ (¬ (V.1 34 20) < 0 → (k 3 V))
set_option maxRecDepth 100000 in
set_option maxHeartbeats 4000000 in
theorem t_Mo_resume_b122 {k : Int32 → vS → Prop} (X : cx g p s m meth c args R_Mo prog_10_method_25_code 3 (some .int)) {V : vS} (h : p_Mo_resume_b122 k V) (hP : va_P g.1 vcl (cw g V) H) (hS : va_S (gA g) s.heap H locs) (hl : lv_has ls 3 [(0, .ref (ga g 34))]) : W p l e rm_Mo_resume s m args below meth c H locs 0 0 (MQ below (va_Qi k (Bw g) (gA g)) args s 0 0 (gA g)) (F0 m 122 ls []) := by
  obtain ⟨hx, hb, -, -, hown, hts, -, -, hz, hG⟩ := id X
  unfold p_Mo_resume_b122 at h
  refine lv_aload_n hx hb d_Mo_resume_122 rfl (lv_at hl 0 rfl) ?_
  refine gf_Mo_waits X hP q_466 d_Mo_resume_123 ?_
  refine lv_if_lt (tgt := 131) hx hb d_Mo_resume_126 (by decide) (fun c1 => ?_) (fun c1 => ?_)
  · have h := h.1 c1
    refine lv_aload_n hx hb d_Mo_resume_131 rfl (lv_at hl 0 rfl) ?_
    refine gf_Mo_trap X hP q_468 d_Mo_resume_132 ?_
    refine lv_if_ne (tgt := 140) hx hb d_Mo_resume_135 (by decide) (fun c2 => ?_) (fun c2 => ?_)
    · have h := h.2 c2
      refine lv_aload_n hx hb d_Mo_resume_140 rfl (lv_at hl 0 rfl) ?_
      refine lv_dup hx hb d_Mo_resume_141 rfl ?_
      refine gf_Mo_trapped X hP q_475 d_Mo_resume_142 ?_
      refine lv_iconst (v := 1) hx hb d_Mo_resume_145 (by decide) ?_
      refine lv_iadd hx hb d_Mo_resume_146 ?_
      refine pf_Mo_trapped X hP hS q_475 d_Mo_resume_147 (fun V3 H locs eV3 hP hS => ?_)
      have h := h V3 eV3
      refine lv_aload_n hx hb d_Mo_resume_150 rfl (lv_at hl 0 rfl) ?_
      refine lv_iconst (v := 0) hx hb d_Mo_resume_151 (by decide) ?_
      refine pf_Mo_depth X hP hS q_464 d_Mo_resume_152 (fun V4 H locs eV4 hP hS => ?_)
      have h := h V4 eV4
      refine lv_aload_n hx hb d_Mo_resume_155 rfl (lv_at hl 0 rfl) ?_
      refine lv_iconst (v := 0) hx hb d_Mo_resume_156 (by decide) ?_
      refine pf_Mo_size X hP hS q_465 d_Mo_resume_157 (fun V5 H locs eV5 hP hS => ?_)
      have h := h V5 eV5
      refine lv_aload_n hx hb d_Mo_resume_160 rfl (lv_at hl 0 rfl) ?_
      refine gf_Mo_trap X hP q_468 d_Mo_resume_161 ?_
      exact rw_iret X hP hS h d_Mo_resume_164
    · have h := h.1 c2
      refine lv_iconst (v := 1) hx hb d_Mo_resume_138 (by decide) ?_
      exact rw_iret X hP hS h d_Mo_resume_139
  · have h := h.2 c1
    refine lv_iconst (v := 3) hx hb d_Mo_resume_129 (by decide) ?_
    exact rw_iret X hP hS h d_Mo_resume_130
def p_Mo_resume_b38 (k : Int32 → vS → Prop) : Nat → vS → Int32 → Prop
  | 0, _, _ => False
  | n + 1, V, x2 => ((V.1 34 22) = 0 → ((0 ≤ (V.1 34 20) → (p_Mo_resume_b122 k V)) ∧ (¬ 0 ≤ (V.1 34 20) → (((V.1 34 18) ≤ 0 → (p_Mo_resume_b122 k V)) ∧ (¬ (V.1 34 18) ≤ 0 → (vp_in ((V.1 34 18) - 1) 7 ∧ (vp_in ((V.1 34 18) - 1) 7 ∧ (vp_in (V.1 43 (nt ((V.1 34 18) - 1))) 4 ∧ (((V.1 44 (nt ((V.1 34 18) - 1))) = (V.1 38 (nt (V.1 43 (nt ((V.1 34 18) - 1))))) → (p_Mo_leave (fun V13 => (p_Mo_resume_b38 k n) V13 x2) V)) ∧ (¬ (V.1 44 (nt ((V.1 34 18) - 1))) = (V.1 38 (nt (V.1 43 (nt ((V.1 34 18) - 1))))) → ((x2 = 0 → (k 2 V)) ∧ (¬ x2 = 0 → (∀ y9 : Int32, y9 = x2 + (-1) → (∀ V10 : vS, V10 = sv V 34 27 ((V.1 34 27) + 1) → (p_Mo_step (fun V11 => (p_Mo_resume_b38 k n) V11 y9) V10))))))))))))))) ∧ (¬ (V.1 34 22) = 0 → (p_Mo_resume_b122 k V))
set_option maxRecDepth 100000 in
set_option maxHeartbeats 4000000 in
theorem t_Mo_resume_b38 {k : Int32 → vS → Prop} (X : cx g p s m meth c args R_Mo prog_10_method_25_code 3 (some .int)) : ∀ (n : Nat) (V : vS) (x2 : Int32), p_Mo_resume_b38 k n V x2 → ∀ (H : Heap) (locs : List Loc) (ls : Array Slot), va_P g.1 vcl (cw g V) H → va_S (gA g) s.heap H locs → lv_has ls 3 [(0, .ref (ga g 34)), (2, .int x2)] → W p l e rm_Mo_resume s m args below meth c H locs 0 0 (MQ below (va_Qi k (Bw g) (gA g)) args s 0 0 (gA g)) (F0 m 38 ls []) := by
  obtain ⟨hx, hb, -, -, hown, hts, -, -, hz, hG⟩ := id X
  intro n
  induction n with
  | zero =>
    intro V x2 h
    exact h.elim
  | succ n ih =>
    intro V x2 h H locs ls hP hS hl
    unfold p_Mo_resume_b38 at h
    refine lv_aload_n hx hb d_Mo_resume_38 rfl (lv_at hl 0 rfl) ?_
    refine gf_Mo_trap X hP q_468 d_Mo_resume_39 ?_
    refine lv_if_ne (tgt := 122) hx hb d_Mo_resume_42 (by decide) (fun c1 => ?_) (fun c1 => ?_)
    · have h := h.2 c1
      exact t_Mo_resume_b122 X h hP hS (lv_sub hl [0] rfl)
    · have h := h.1 c1
      refine lv_aload_n hx hb d_Mo_resume_45 rfl (lv_at hl 0 rfl) ?_
      refine gf_Mo_waits X hP q_466 d_Mo_resume_46 ?_
      refine lv_if_ge (tgt := 122) hx hb d_Mo_resume_49 (by decide) (fun c2 => ?_) (fun c2 => ?_)
      · have h := h.1 c2
        exact t_Mo_resume_b122 X h hP hS (lv_sub hl [0] rfl)
      · have h := h.2 c2
        refine lv_aload_n hx hb d_Mo_resume_52 rfl (lv_at hl 0 rfl) ?_
        refine gf_Mo_depth X hP q_464 d_Mo_resume_53 ?_
        refine lv_if_le (tgt := 122) hx hb d_Mo_resume_56 (by decide) (fun c3 => ?_) (fun c3 => ?_)
        · have h := h.1 c3
          exact t_Mo_resume_b122 X h hP hS (lv_sub hl [0] rfl)
        · have h := h.2 c3
          refine lv_aload_n hx hb d_Mo_resume_59 rfl (lv_at hl 0 rfl) ?_
          refine gf_Mo_next X hP q_461 d_Mo_resume_60 ?_
          refine lv_aload_n hx hb d_Mo_resume_63 rfl (lv_at hl 0 rfl) ?_
          refine gf_Mo_depth X hP q_464 d_Mo_resume_64 ?_
          refine lv_iconst (v := 1) hx hb d_Mo_resume_67 (by decide) ?_
          refine lv_isub hx hb d_Mo_resume_68 ?_
          obtain ⟨hi4, h⟩ := h
          refine rw_iald X hP isI_44 hi4 d_Mo_resume_69 ?_
          refine lv_aload_n hx hb d_Mo_resume_70 rfl (lv_at hl 0 rfl) ?_
          refine gf_Mo_length X hP q_449 d_Mo_resume_71 ?_
          refine lv_aload_n hx hb d_Mo_resume_74 rfl (lv_at hl 0 rfl) ?_
          refine gf_Mo_running X hP q_460 d_Mo_resume_75 ?_
          refine lv_aload_n hx hb d_Mo_resume_78 rfl (lv_at hl 0 rfl) ?_
          refine gf_Mo_depth X hP q_464 d_Mo_resume_79 ?_
          refine lv_iconst (v := 1) hx hb d_Mo_resume_82 (by decide) ?_
          refine lv_isub hx hb d_Mo_resume_83 ?_
          obtain ⟨hi5, h⟩ := h
          refine rw_iald X hP isI_43 hi5 d_Mo_resume_84 ?_
          obtain ⟨hi6, h⟩ := h
          refine rw_iald X hP isI_38 hi6 d_Mo_resume_85 ?_
          refine lv_icmp_ne (tgt := 96) hx hb d_Mo_resume_86 (by decide) (fun c7 => ?_) (fun c7 => ?_)
          · have h := h.2 c7
            refine lv_iload_n hx hb d_Mo_resume_96 rfl (lv_at hl 1 rfl) ?_
            refine lv_if_ne (tgt := 102) hx hb d_Mo_resume_97 (by decide) (fun c8 => ?_) (fun c8 => ?_)
            · have h := h.2 c8
              obtain ⟨y9, ey9⟩ : ∃ z : Int32, z = x2 + (-1) := ⟨_, rfl⟩
              have h := h y9 ey9
              refine lv_iinc (v := y9) (lv' := [(2, .int y9), (0, .ref (ga g 34))]) hx hb d_Mo_resume_102 hl (k := 1) rfl (by rw [ey9]; rfl) (by decide) rfl (fun ls hl => ?_)
              refine lv_aload_n hx hb d_Mo_resume_105 rfl (lv_at hl 1 rfl) ?_
              refine lv_dup hx hb d_Mo_resume_106 rfl ?_
              refine gf_Mo_fuelUsed X hP q_473 d_Mo_resume_107 ?_
              refine lv_iconst (v := 1) hx hb d_Mo_resume_110 (by decide) ?_
              refine lv_iadd hx hb d_Mo_resume_111 ?_
              refine pf_Mo_fuelUsed X hP hS q_473 d_Mo_resume_112 (fun V10 H locs eV10 hP hS => ?_)
              have h := h V10 eV10
              refine lv_aload_n hx hb d_Mo_resume_115 rfl (lv_at hl 1 rfl) ?_
              refine rw_cVv (rest := []) X hP hS yv_Mo_step isO_Mo (c_Mo_step hG h) q_605 ⟨rfl, rfl, by decide, by decide⟩ rfl rfl hl.1 (Nat.le_of_ble_eq_true rfl) ⟨Nat.zero_le _, Nat.zero_le _⟩ d_Mo_resume_116 (fun V11 H locs h hP hS => ?_)
              refine lv_goto (tgt := 38) hx hb d_Mo_resume_119 (by decide) ?_
              exact ih V11 y9 h _ _ _ hP hS (lv_sub hl [1, 0] rfl)
            · have h := h.1 c8
              refine lv_iconst (v := 2) hx hb d_Mo_resume_100 (by decide) ?_
              exact rw_iret X hP hS h d_Mo_resume_101
          · have h := h.1 c7
            refine lv_aload_n hx hb d_Mo_resume_89 rfl (lv_at hl 0 rfl) ?_
            refine rw_cVv (rest := []) X hP hS yv_Mo_leave isO_Mo (c_Mo_leave hG h) q_597 ⟨rfl, rfl, by decide, by decide⟩ rfl rfl hl.1 (Nat.le_of_ble_eq_true rfl) ⟨Nat.zero_le _, Nat.zero_le _⟩ d_Mo_resume_90 (fun V13 H locs h hP hS => ?_)
            refine lv_goto (tgt := 38) hx hb d_Mo_resume_93 (by decide) ?_
            exact ih V13 x2 h _ _ _ hP hS (lv_sub hl [0, 1] rfl)
def p_Mo_resume (k : Int32 → vS → Prop) (V : vS) (x1 : Int32) : Prop := (x1 < 1 → (p_Mo_resume_b12 k V)) ∧ (¬ x1 < 1 → ((x1 ≤ 200 → (((V.1 34 18) = 0 → (p_Mo_resume_b28 k V)) ∧ (¬ (V.1 34 18) = 0 → (((V.1 34 20) < 0 → (∀ V5 : vS, V5 = sv V 34 22 0 → (∃ n, p_Mo_resume_b38 k n V5 x1))) ∧ (¬ (V.1 34 20) < 0 → (p_Mo_resume_b28 k V)))))) ∧ (¬ x1 ≤ 200 → (p_Mo_resume_b12 k V))))
set_option maxRecDepth 100000 in
set_option maxHeartbeats 4000000 in
theorem c_Mo_resume {l : Launch} {g : gT} (hG : gd g) {V : vS} {x1 : Int32} {k : Int32 → vS → Prop} (h : p_Mo_resume k V x1) : Ci g l y_Mo_resume prog_10_method_25_code 3 (some .int) rm_Mo_resume [.ref (ga g 34), .int x1] V k := by
  unfold Ci
  refine Met.ofW (cc := prog_10_method_25_code) (maxL := 3) (ret := some .int) (by decide) rfl ?_
  intro p e s m args below meth c s₁ B hml hv
  obtain ⟨rfl, hP, hK, hZ⟩ := hv
  have X : cx g p s m meth c [.ref (ga g 34), .int x1].toArray R_Mo prog_10_method_25_code 3 (some .int) := ⟨B.exec, B.bytes, B.returns, hml, findClass_of_methodNamed B.named, fun w hw => atoms_spec (ws := Cond.code y_Mo_resume prog_10_method_25_code 3 (some .int) :: TBL) B.pre w (List.mem_cons_of_mem _ hw), B.notSynchronized, hK, hZ, hG⟩
  have hl := lv_entry [.ref (ga g 34), .int x1] (n := 3) (Nat.le_of_ble_eq_true rfl)
  rw [lg_entry_eq]
  generalize (lg_sl [.ref (ga g 34), .int x1] ++ List.replicate (3 - (lg_sl [.ref (ga g 34), .int x1]).length) Slot.unset).toArray = ls at hl ⊢
  have hl : lv_has ls 3 [(0, .ref (ga g 34)), (1, .int x1)] := hl
  have hS : va_S (gA g) s.heap s.heap [] := va_S.rf
  obtain ⟨hx, hb, -, -, hown, hts, -, -, hz, -⟩ := id X
  show W p l e rm_Mo_resume s m _ below meth c s.heap [] 0 0 (MQ below (va_Qi k (Bw g) (gA g)) _ s 0 0 (gA g)) (F0 m 0 ls [])
  unfold p_Mo_resume at h
  refine lv_iload_n hx hb d_Mo_resume_0 rfl (lv_at hl 1 rfl) ?_
  refine lv_iconst (v := 1) hx hb d_Mo_resume_1 (by decide) ?_
  refine lv_icmp_lt (tgt := 12) hx hb d_Mo_resume_2 (by decide) (fun c1 => ?_) (fun c1 => ?_)
  · have h := h.1 c1
    exact t_Mo_resume_b12 X h hP hS (lv_sub hl [] rfl)
  · have h := h.2 c1
    refine lv_iload_n hx hb d_Mo_resume_5 rfl (lv_at hl 1 rfl) ?_
    refine lv_sipush (v := 200) hx hb d_Mo_resume_6 (by decide) ?_
    refine lv_icmp_le (tgt := 14) hx hb d_Mo_resume_9 (by decide) (fun c2 => ?_) (fun c2 => ?_)
    · have h := h.1 c2
      refine lv_aload_n hx hb d_Mo_resume_14 rfl (lv_at hl 0 rfl) ?_
      refine gf_Mo_depth X hP q_464 d_Mo_resume_15 ?_
      refine lv_if_eq (tgt := 28) hx hb d_Mo_resume_18 (by decide) (fun c3 => ?_) (fun c3 => ?_)
      · have h := h.1 c3
        exact t_Mo_resume_b28 X h hP hS (lv_sub hl [] rfl)
      · have h := h.2 c3
        refine lv_aload_n hx hb d_Mo_resume_21 rfl (lv_at hl 0 rfl) ?_
        refine gf_Mo_waits X hP q_466 d_Mo_resume_22 ?_
        refine lv_if_lt (tgt := 31) hx hb d_Mo_resume_25 (by decide) (fun c4 => ?_) (fun c4 => ?_)
        · have h := h.1 c4
          refine lv_iload_n hx hb d_Mo_resume_31 rfl (lv_at hl 1 rfl) ?_
          refine lv_istore_n (lv' := [(2, .int x1), (0, .ref (ga g 34)), (1, .int x1)]) hx hb d_Mo_resume_32 rfl hl (by decide) rfl (fun ls hl => ?_)
          refine lv_aload_n hx hb d_Mo_resume_33 rfl (lv_at hl 1 rfl) ?_
          refine lv_iconst (v := 0) hx hb d_Mo_resume_34 (by decide) ?_
          refine pf_Mo_trap X hP hS q_468 d_Mo_resume_35 (fun V5 H locs eV5 hP hS => ?_)
          have h := h V5 eV5
          obtain ⟨n, h⟩ := h
          exact t_Mo_resume_b38 X n V5 x1 h _ _ _ hP hS (lv_sub hl [1, 0] rfl)
        · have h := h.2 c4
          exact t_Mo_resume_b28 X h hP hS (lv_sub hl [] rfl)
    · have h := h.2 c2
      exact t_Mo_resume_b12 X h hP hS (lv_sub hl [] rfl)
theorem yv_Mo_resume : yV R_Mo y_Mo_resume prog_10_method_25_code 3 (some .int) 1 := ⟨by decide +kernel, q_594, q_595, q_7, q_596⟩
/-! Mo.reply -/
theorem d_Mo_reply_0 : decode prog_10_method_26_code 0 = .ok (.aload_n 0, 1) := by decide +kernel
theorem d_Mo_reply_1 : decode prog_10_method_26_code 1 = .ok (.getfield 46, 3) := by decide +kernel
theorem d_Mo_reply_4 : decode prog_10_method_26_code 4 = .ok (.ifCond .ge 6, 3) := by decide +kernel
theorem d_Mo_reply_7 : decode prog_10_method_26_code 7 = .ok (.bipush (-3), 2) := by decide +kernel
theorem d_Mo_reply_9 : decode prog_10_method_26_code 9 = .ok (.ireturn, 1) := by decide +kernel
theorem d_Mo_reply_10 : decode prog_10_method_26_code 10 = .ok (.aload_n 0, 1) := by decide +kernel
theorem d_Mo_reply_11 : decode prog_10_method_26_code 11 = .ok (.iconst (-1), 1) := by decide +kernel
theorem d_Mo_reply_12 : decode prog_10_method_26_code 12 = .ok (.putfield 46, 3) := by decide +kernel
theorem d_Mo_reply_15 : decode prog_10_method_26_code 15 = .ok (.aload_n 0, 1) := by decide +kernel
theorem d_Mo_reply_16 : decode prog_10_method_26_code 16 = .ok (.getfield 43, 3) := by decide +kernel
theorem d_Mo_reply_19 : decode prog_10_method_26_code 19 = .ok (.aload_n 0, 1) := by decide +kernel
theorem d_Mo_reply_20 : decode prog_10_method_26_code 20 = .ok (.getfield 64, 3) := by decide +kernel
theorem d_Mo_reply_23 : decode prog_10_method_26_code 23 = .ok (.iload_n 1, 1) := by decide +kernel
theorem d_Mo_reply_24 : decode prog_10_method_26_code 24 = .ok (.iastore, 1) := by decide +kernel
theorem d_Mo_reply_25 : decode prog_10_method_26_code 25 = .ok (.aload_n 0, 1) := by decide +kernel
theorem d_Mo_reply_26 : decode prog_10_method_26_code 26 = .ok (.dup, 1) := by decide +kernel
theorem d_Mo_reply_27 : decode prog_10_method_26_code 27 = .ok (.getfield 64, 3) := by decide +kernel
theorem d_Mo_reply_30 : decode prog_10_method_26_code 30 = .ok (.iconst 1, 1) := by decide +kernel
theorem d_Mo_reply_31 : decode prog_10_method_26_code 31 = .ok (.iadd, 1) := by decide +kernel
theorem d_Mo_reply_32 : decode prog_10_method_26_code 32 = .ok (.putfield 64, 3) := by decide +kernel
theorem d_Mo_reply_35 : decode prog_10_method_26_code 35 = .ok (.iconst 0, 1) := by decide +kernel
theorem d_Mo_reply_36 : decode prog_10_method_26_code 36 = .ok (.ireturn, 1) := by decide +kernel
abbrev rm_Mo_reply : Room := { frames := 0, cells := 0, slots := 0, locals := 0 }
def p_Mo_reply (k : Int32 → vS → Prop) (V : vS) (x1 : Int32) : Prop := (0 ≤ (V.1 34 20) → (∀ V2 : vS, V2 = sv V 34 20 (-1) → (vp_in (V2.1 34 19) 42 ∧ ∀ V4 : vS, V4 = sv V2 46 (nt (V2.1 34 19)) x1 → (∀ V5 : vS, V5 = sv V4 34 19 ((V4.1 34 19) + 1) → (k 0 V5))))) ∧ (¬ 0 ≤ (V.1 34 20) → (k (-3) V))
set_option maxRecDepth 100000 in
set_option maxHeartbeats 4000000 in
theorem c_Mo_reply {l : Launch} {g : gT} (hG : gd g) {V : vS} {x1 : Int32} {k : Int32 → vS → Prop} (h : p_Mo_reply k V x1) : Ci g l y_Mo_reply prog_10_method_26_code 2 (some .int) rm_Mo_reply [.ref (ga g 34), .int x1] V k := by
  unfold Ci
  refine Met.ofW (cc := prog_10_method_26_code) (maxL := 2) (ret := some .int) (by decide) rfl ?_
  intro p e s m args below meth c s₁ B hml hv
  obtain ⟨rfl, hP, hK, hZ⟩ := hv
  have X : cx g p s m meth c [.ref (ga g 34), .int x1].toArray R_Mo prog_10_method_26_code 2 (some .int) := ⟨B.exec, B.bytes, B.returns, hml, findClass_of_methodNamed B.named, fun w hw => atoms_spec (ws := Cond.code y_Mo_reply prog_10_method_26_code 2 (some .int) :: TBL) B.pre w (List.mem_cons_of_mem _ hw), B.notSynchronized, hK, hZ, hG⟩
  have hl := lv_entry [.ref (ga g 34), .int x1] (n := 2) (Nat.le_of_ble_eq_true rfl)
  rw [lg_entry_eq]
  generalize (lg_sl [.ref (ga g 34), .int x1] ++ List.replicate (2 - (lg_sl [.ref (ga g 34), .int x1]).length) Slot.unset).toArray = ls at hl ⊢
  have hl : lv_has ls 2 [(0, .ref (ga g 34)), (1, .int x1)] := hl
  have hS : va_S (gA g) s.heap s.heap [] := va_S.rf
  obtain ⟨hx, hb, -, -, hown, hts, -, -, hz, -⟩ := id X
  show W p l e rm_Mo_reply s m _ below meth c s.heap [] 0 0 (MQ below (va_Qi k (Bw g) (gA g)) _ s 0 0 (gA g)) (F0 m 0 ls [])
  unfold p_Mo_reply at h
  refine lv_aload_n hx hb d_Mo_reply_0 rfl (lv_at hl 0 rfl) ?_
  refine gf_Mo_waits X hP q_466 d_Mo_reply_1 ?_
  refine lv_if_ge (tgt := 10) hx hb d_Mo_reply_4 (by decide) (fun c1 => ?_) (fun c1 => ?_)
  · have h := h.1 c1
    refine lv_aload_n hx hb d_Mo_reply_10 rfl (lv_at hl 0 rfl) ?_
    refine lv_iconst (v := (-1)) hx hb d_Mo_reply_11 (by decide) ?_
    refine pf_Mo_waits X hP hS q_466 d_Mo_reply_12 (fun V2 H locs eV2 hP hS => ?_)
    have h := h V2 eV2
    refine lv_aload_n hx hb d_Mo_reply_15 rfl (lv_at hl 0 rfl) ?_
    refine gf_Mo_stack X hP q_463 d_Mo_reply_16 ?_
    refine lv_aload_n hx hb d_Mo_reply_19 rfl (lv_at hl 0 rfl) ?_
    refine gf_Mo_size X hP q_465 d_Mo_reply_20 ?_
    refine lv_iload_n hx hb d_Mo_reply_23 rfl (lv_at hl 1 rfl) ?_
    obtain ⟨hi3, h⟩ := h
    refine rw_iast X hP hS isI_46 hi3 d_Mo_reply_24 (fun V4 H locs eV4 hP hS => ?_)
    have h := h V4 eV4
    refine lv_aload_n hx hb d_Mo_reply_25 rfl (lv_at hl 0 rfl) ?_
    refine lv_dup hx hb d_Mo_reply_26 rfl ?_
    refine gf_Mo_size X hP q_465 d_Mo_reply_27 ?_
    refine lv_iconst (v := 1) hx hb d_Mo_reply_30 (by decide) ?_
    refine lv_iadd hx hb d_Mo_reply_31 ?_
    refine pf_Mo_size X hP hS q_465 d_Mo_reply_32 (fun V5 H locs eV5 hP hS => ?_)
    have h := h V5 eV5
    refine lv_iconst (v := 0) hx hb d_Mo_reply_35 (by decide) ?_
    exact rw_iret X hP hS h d_Mo_reply_36
  · have h := h.2 c1
    refine lv_bipush (v := (-3)) hx hb d_Mo_reply_7 (by decide) ?_
    exact rw_iret X hP hS h d_Mo_reply_9
theorem yv_Mo_reply : yV R_Mo y_Mo_reply prog_10_method_26_code 2 (some .int) 1 := ⟨by decide +kernel, q_636, q_637, q_7, q_638⟩
/-! Mo.grant -/
theorem d_Mo_grant_0 : decode prog_10_method_27_code 0 = .ok (.iload_n 1, 1) := by decide +kernel
theorem d_Mo_grant_1 : decode prog_10_method_27_code 1 = .ok (.ifCond .lt 8, 3) := by decide +kernel
theorem d_Mo_grant_4 : decode prog_10_method_27_code 4 = .ok (.iload_n 1, 1) := by decide +kernel
theorem d_Mo_grant_5 : decode prog_10_method_27_code 5 = .ok (.iconst 3, 1) := by decide +kernel
theorem d_Mo_grant_6 : decode prog_10_method_27_code 6 = .ok (.if_icmp .le 5, 3) := by decide +kernel
theorem d_Mo_grant_9 : decode prog_10_method_27_code 9 = .ok (.iconst (-1), 1) := by decide +kernel
theorem d_Mo_grant_10 : decode prog_10_method_27_code 10 = .ok (.ireturn, 1) := by decide +kernel
theorem d_Mo_grant_11 : decode prog_10_method_27_code 11 = .ok (.aload_n 0, 1) := by decide +kernel
theorem d_Mo_grant_12 : decode prog_10_method_27_code 12 = .ok (.getfield 53, 3) := by decide +kernel
theorem d_Mo_grant_15 : decode prog_10_method_27_code 15 = .ok (.iload_n 1, 1) := by decide +kernel
theorem d_Mo_grant_16 : decode prog_10_method_27_code 16 = .ok (.iload_n 2, 1) := by decide +kernel
theorem d_Mo_grant_17 : decode prog_10_method_27_code 17 = .ok (.bastore, 1) := by decide +kernel
theorem d_Mo_grant_18 : decode prog_10_method_27_code 18 = .ok (.iconst 0, 1) := by decide +kernel
theorem d_Mo_grant_19 : decode prog_10_method_27_code 19 = .ok (.ireturn, 1) := by decide +kernel
abbrev rm_Mo_grant : Room := { frames := 0, cells := 0, slots := 0, locals := 0 }
def p_Mo_grant_b9 (k : Int32 → vS → Prop) (V : vS) : Prop := k (-1) V
set_option maxRecDepth 100000 in
set_option maxHeartbeats 4000000 in
theorem t_Mo_grant_b9 {k : Int32 → vS → Prop} (X : cx g p s m meth c args R_Mo prog_10_method_27_code 3 (some .int)) {V : vS} (h : p_Mo_grant_b9 k V) (hP : va_P g.1 vcl (cw g V) H) (hS : va_S (gA g) s.heap H locs) (hl : lv_has ls 3 []) : W p l e rm_Mo_grant s m args below meth c H locs 0 0 (MQ below (va_Qi k (Bw g) (gA g)) args s 0 0 (gA g)) (F0 m 9 ls []) := by
  obtain ⟨hx, hb, -, -, hown, hts, -, -, hz, hG⟩ := id X
  unfold p_Mo_grant_b9 at h
  refine lv_iconst (v := (-1)) hx hb d_Mo_grant_9 (by decide) ?_
  exact rw_iret X hP hS h d_Mo_grant_10
def p_Mo_grant (k : Int32 → vS → Prop) (V : vS) (x1 : Int32) (x2 : Int32) : Prop := (x1 < 0 → (p_Mo_grant_b9 k V)) ∧ (¬ x1 < 0 → ((x1 ≤ 3 → (vp_in x1 4 ∧ ∀ V4 : vS, V4 = sv V 48 (nt x1) (vp_nar .boolean x2) → (k 0 V4))) ∧ (¬ x1 ≤ 3 → (p_Mo_grant_b9 k V))))
set_option maxRecDepth 100000 in
set_option maxHeartbeats 4000000 in
theorem c_Mo_grant {l : Launch} {g : gT} (hG : gd g) {V : vS} {x1 : Int32} {x2 : Int32} {k : Int32 → vS → Prop} (h : p_Mo_grant k V x1 x2) : Ci g l y_Mo_grant prog_10_method_27_code 3 (some .int) rm_Mo_grant [.ref (ga g 34), .int x1, .int x2] V k := by
  unfold Ci
  refine Met.ofW (cc := prog_10_method_27_code) (maxL := 3) (ret := some .int) (by decide) rfl ?_
  intro p e s m args below meth c s₁ B hml hv
  obtain ⟨rfl, hP, hK, hZ⟩ := hv
  have X : cx g p s m meth c [.ref (ga g 34), .int x1, .int x2].toArray R_Mo prog_10_method_27_code 3 (some .int) := ⟨B.exec, B.bytes, B.returns, hml, findClass_of_methodNamed B.named, fun w hw => atoms_spec (ws := Cond.code y_Mo_grant prog_10_method_27_code 3 (some .int) :: TBL) B.pre w (List.mem_cons_of_mem _ hw), B.notSynchronized, hK, hZ, hG⟩
  have hl := lv_entry [.ref (ga g 34), .int x1, .int x2] (n := 3) (Nat.le_of_ble_eq_true rfl)
  rw [lg_entry_eq]
  generalize (lg_sl [.ref (ga g 34), .int x1, .int x2] ++ List.replicate (3 - (lg_sl [.ref (ga g 34), .int x1, .int x2]).length) Slot.unset).toArray = ls at hl ⊢
  have hl : lv_has ls 3 [(0, .ref (ga g 34)), (1, .int x1), (2, .int x2)] := hl
  have hS : va_S (gA g) s.heap s.heap [] := va_S.rf
  obtain ⟨hx, hb, -, -, hown, hts, -, -, hz, -⟩ := id X
  show W p l e rm_Mo_grant s m _ below meth c s.heap [] 0 0 (MQ below (va_Qi k (Bw g) (gA g)) _ s 0 0 (gA g)) (F0 m 0 ls [])
  unfold p_Mo_grant at h
  refine lv_iload_n hx hb d_Mo_grant_0 rfl (lv_at hl 1 rfl) ?_
  refine lv_if_lt (tgt := 9) hx hb d_Mo_grant_1 (by decide) (fun c1 => ?_) (fun c1 => ?_)
  · have h := h.1 c1
    exact t_Mo_grant_b9 X h hP hS (lv_sub hl [] rfl)
  · have h := h.2 c1
    refine lv_iload_n hx hb d_Mo_grant_4 rfl (lv_at hl 1 rfl) ?_
    refine lv_iconst (v := 3) hx hb d_Mo_grant_5 (by decide) ?_
    refine lv_icmp_le (tgt := 11) hx hb d_Mo_grant_6 (by decide) (fun c2 => ?_) (fun c2 => ?_)
    · have h := h.1 c2
      refine lv_aload_n hx hb d_Mo_grant_11 rfl (lv_at hl 0 rfl) ?_
      refine gf_Mo_granted X hP q_470 d_Mo_grant_12 ?_
      refine lv_iload_n hx hb d_Mo_grant_15 rfl (lv_at hl 1 rfl) ?_
      refine lv_iload_n hx hb d_Mo_grant_16 rfl (lv_at hl 2 rfl) ?_
      obtain ⟨hi3, h⟩ := h
      refine rw_zast X hP hS isZ_48 hi3 d_Mo_grant_17 (fun V4 H locs eV4 hP hS => ?_)
      have h := h V4 eV4
      refine lv_iconst (v := 0) hx hb d_Mo_grant_18 (by decide) ?_
      exact rw_iret X hP hS h d_Mo_grant_19
    · have h := h.2 c2
      exact t_Mo_grant_b9 X h hP hS (lv_sub hl [] rfl)
theorem yv_Mo_grant : yV R_Mo y_Mo_grant prog_10_method_27_code 3 (some .int) 2 := ⟨by decide +kernel, q_640, q_641, q_7, q_642⟩
/-! Mo.result -/
theorem d_Mo_result_0 : decode prog_10_method_28_code 0 = .ok (.aload_n 0, 1) := by decide +kernel
theorem d_Mo_result_1 : decode prog_10_method_28_code 1 = .ok (.getfield 117, 3) := by decide +kernel
theorem d_Mo_result_4 : decode prog_10_method_28_code 4 = .ok (.ifCond .eq 11, 3) := by decide +kernel
theorem d_Mo_result_7 : decode prog_10_method_28_code 7 = .ok (.aload_n 0, 1) := by decide +kernel
theorem d_Mo_result_8 : decode prog_10_method_28_code 8 = .ok (.getfield 124, 3) := by decide +kernel
theorem d_Mo_result_11 : decode prog_10_method_28_code 11 = .ok (.i2l, 1) := by decide +kernel
theorem d_Mo_result_12 : decode prog_10_method_28_code 12 = .ok (.goto 6, 3) := by decide +kernel
theorem d_Mo_result_15 : decode prog_10_method_28_code 15 = .ok (.ldc2_w 165, 3) := by decide +kernel
theorem d_Mo_result_18 : decode prog_10_method_28_code 18 = .ok (.lreturn, 1) := by decide +kernel
abbrev rm_Mo_result : Room := { frames := 0, cells := 0, slots := 0, locals := 0 }
def p_Mo_result_b18 (k : Int64 → vS → Prop) (V : vS) (s0 : Int64) : Prop := k s0 V
set_option maxRecDepth 100000 in
set_option maxHeartbeats 4000000 in
theorem t_Mo_result_b18 {k : Int64 → vS → Prop} (X : cx g p s m meth c args R_Mo prog_10_method_28_code 1 (some .long)) {V : vS} {s0 : Int64} (h : p_Mo_result_b18 k V s0) (hP : va_P g.1 vcl (cw g V) H) (hS : va_S (gA g) s.heap H locs) (hl : lv_has ls 1 []) : W p l e rm_Mo_result s m args below meth c H locs 0 0 (MQ below (va_Ql k (Bw g) (gA g)) args s 0 0 (gA g)) (F0 m 18 ls [.long s0]) := by
  obtain ⟨hx, hb, -, -, hown, hts, -, -, hz, hG⟩ := id X
  unfold p_Mo_result_b18 at h
  exact rw_lret X hP hS h d_Mo_result_18
def p_Mo_result (k : Int64 → vS → Prop) (V : vS) : Prop := ((V.1 34 25) = 0 → (p_Mo_result_b18 k V (-1000000000000))) ∧ (¬ (V.1 34 25) = 0 → (p_Mo_result_b18 k V ((V.1 34 26 : Int32).toInt64)))
set_option maxRecDepth 100000 in
set_option maxHeartbeats 4000000 in
theorem c_Mo_result {l : Launch} {g : gT} (hG : gd g) {V : vS} {k : Int64 → vS → Prop} (h : p_Mo_result k V) : Cl g l y_Mo_result prog_10_method_28_code 1 (some .long) rm_Mo_result [.ref (ga g 34)] V k := by
  unfold Cl
  refine Met.ofW (cc := prog_10_method_28_code) (maxL := 1) (ret := some .long) (by decide) rfl ?_
  intro p e s m args below meth c s₁ B hml hv
  obtain ⟨rfl, hP, hK, hZ⟩ := hv
  have X : cx g p s m meth c [.ref (ga g 34)].toArray R_Mo prog_10_method_28_code 1 (some .long) := ⟨B.exec, B.bytes, B.returns, hml, findClass_of_methodNamed B.named, fun w hw => atoms_spec (ws := Cond.code y_Mo_result prog_10_method_28_code 1 (some .long) :: TBL) B.pre w (List.mem_cons_of_mem _ hw), B.notSynchronized, hK, hZ, hG⟩
  have hl := lv_entry [.ref (ga g 34)] (n := 1) (Nat.le_of_ble_eq_true rfl)
  rw [lg_entry_eq]
  generalize (lg_sl [.ref (ga g 34)] ++ List.replicate (1 - (lg_sl [.ref (ga g 34)]).length) Slot.unset).toArray = ls at hl ⊢
  have hl : lv_has ls 1 [(0, .ref (ga g 34))] := hl
  have hS : va_S (gA g) s.heap s.heap [] := va_S.rf
  obtain ⟨hx, hb, -, -, hown, hts, -, -, hz, -⟩ := id X
  show W p l e rm_Mo_result s m _ below meth c s.heap [] 0 0 (MQ below (va_Ql k (Bw g) (gA g)) _ s 0 0 (gA g)) (F0 m 0 ls [])
  unfold p_Mo_result at h
  refine lv_aload_n hx hb d_Mo_result_0 rfl (lv_at hl 0 rfl) ?_
  refine gf_Mo_hasResult X hP q_471 d_Mo_result_1 ?_
  refine lv_if_eq (tgt := 15) hx hb d_Mo_result_4 (by decide) (fun c1 => ?_) (fun c1 => ?_)
  · have h := h.1 c1
    refine lv_ldc2 (v := (-1000000000000)) hx hb hown (hts _ q_647) d_Mo_result_15 ?_
    exact t_Mo_result_b18 X h hP hS (lv_sub hl [] rfl)
  · have h := h.2 c1
    refine lv_aload_n hx hb d_Mo_result_7 rfl (lv_at hl 0 rfl) ?_
    refine gf_Mo_result X hP q_472 d_Mo_result_8 ?_
    refine lv_i2l (v := (V.1 34 26 : Int32).toInt64) hx hb d_Mo_result_11 rfl ?_
    refine lv_goto (tgt := 18) hx hb d_Mo_result_12 (by decide) ?_
    exact t_Mo_result_b18 X h hP hS (lv_sub hl [] rfl)
theorem yv_Mo_result : yV R_Mo y_Mo_result prog_10_method_28_code 1 (some .long) 0 := ⟨by decide +kernel, q_644, q_645, q_7, q_646⟩
/-! Mo.memory -/
theorem d_Mo_memory_0 : decode prog_10_method_29_code 0 = .ok (.iload_n 1, 1) := by decide +kernel
theorem d_Mo_memory_1 : decode prog_10_method_29_code 1 = .ok (.ifCond .lt 9, 3) := by decide +kernel
theorem d_Mo_memory_4 : decode prog_10_method_29_code 4 = .ok (.iload_n 1, 1) := by decide +kernel
theorem d_Mo_memory_5 : decode prog_10_method_29_code 5 = .ok (.bipush 31, 2) := by decide +kernel
theorem d_Mo_memory_7 : decode prog_10_method_29_code 7 = .ok (.if_icmp .le 9, 3) := by decide +kernel
theorem d_Mo_memory_10 : decode prog_10_method_29_code 10 = .ok (.ldc2_w 165, 3) := by decide +kernel
theorem d_Mo_memory_13 : decode prog_10_method_29_code 13 = .ok (.goto 10, 3) := by decide +kernel
theorem d_Mo_memory_16 : decode prog_10_method_29_code 16 = .ok (.aload_n 0, 1) := by decide +kernel
theorem d_Mo_memory_17 : decode prog_10_method_29_code 17 = .ok (.getfield 50, 3) := by decide +kernel
theorem d_Mo_memory_20 : decode prog_10_method_29_code 20 = .ok (.iload_n 1, 1) := by decide +kernel
theorem d_Mo_memory_21 : decode prog_10_method_29_code 21 = .ok (.iaload, 1) := by decide +kernel
theorem d_Mo_memory_22 : decode prog_10_method_29_code 22 = .ok (.i2l, 1) := by decide +kernel
theorem d_Mo_memory_23 : decode prog_10_method_29_code 23 = .ok (.lreturn, 1) := by decide +kernel
abbrev rm_Mo_memory : Room := { frames := 0, cells := 0, slots := 0, locals := 0 }
def p_Mo_memory_b23 (k : Int64 → vS → Prop) (V : vS) (s0 : Int64) : Prop := k s0 V
set_option maxRecDepth 100000 in
set_option maxHeartbeats 4000000 in
theorem t_Mo_memory_b23 {k : Int64 → vS → Prop} (X : cx g p s m meth c args R_Mo prog_10_method_29_code 2 (some .long)) {V : vS} {s0 : Int64} (h : p_Mo_memory_b23 k V s0) (hP : va_P g.1 vcl (cw g V) H) (hS : va_S (gA g) s.heap H locs) (hl : lv_has ls 2 []) : W p l e rm_Mo_memory s m args below meth c H locs 0 0 (MQ below (va_Ql k (Bw g) (gA g)) args s 0 0 (gA g)) (F0 m 23 ls [.long s0]) := by
  obtain ⟨hx, hb, -, -, hown, hts, -, -, hz, hG⟩ := id X
  unfold p_Mo_memory_b23 at h
  exact rw_lret X hP hS h d_Mo_memory_23
def p_Mo_memory_b10 (k : Int64 → vS → Prop) (V : vS) : Prop := p_Mo_memory_b23 k V (-1000000000000)
set_option maxRecDepth 100000 in
set_option maxHeartbeats 4000000 in
theorem t_Mo_memory_b10 {k : Int64 → vS → Prop} (X : cx g p s m meth c args R_Mo prog_10_method_29_code 2 (some .long)) {V : vS} (h : p_Mo_memory_b10 k V) (hP : va_P g.1 vcl (cw g V) H) (hS : va_S (gA g) s.heap H locs) (hl : lv_has ls 2 []) : W p l e rm_Mo_memory s m args below meth c H locs 0 0 (MQ below (va_Ql k (Bw g) (gA g)) args s 0 0 (gA g)) (F0 m 10 ls []) := by
  obtain ⟨hx, hb, -, -, hown, hts, -, -, hz, hG⟩ := id X
  unfold p_Mo_memory_b10 at h
  refine lv_ldc2 (v := (-1000000000000)) hx hb hown (hts _ q_647) d_Mo_memory_10 ?_
  refine lv_goto (tgt := 23) hx hb d_Mo_memory_13 (by decide) ?_
  exact t_Mo_memory_b23 X h hP hS (lv_sub hl [] rfl)
def p_Mo_memory (k : Int64 → vS → Prop) (V : vS) (x1 : Int32) : Prop := (x1 < 0 → (p_Mo_memory_b10 k V)) ∧ (¬ x1 < 0 → ((x1 ≤ 31 → (vp_in x1 32 ∧ (p_Mo_memory_b23 k V ((V.1 47 (nt x1) : Int32).toInt64)))) ∧ (¬ x1 ≤ 31 → (p_Mo_memory_b10 k V))))
set_option maxRecDepth 100000 in
set_option maxHeartbeats 4000000 in
theorem c_Mo_memory {l : Launch} {g : gT} (hG : gd g) {V : vS} {x1 : Int32} {k : Int64 → vS → Prop} (h : p_Mo_memory k V x1) : Cl g l y_Mo_memory prog_10_method_29_code 2 (some .long) rm_Mo_memory [.ref (ga g 34), .int x1] V k := by
  unfold Cl
  refine Met.ofW (cc := prog_10_method_29_code) (maxL := 2) (ret := some .long) (by decide) rfl ?_
  intro p e s m args below meth c s₁ B hml hv
  obtain ⟨rfl, hP, hK, hZ⟩ := hv
  have X : cx g p s m meth c [.ref (ga g 34), .int x1].toArray R_Mo prog_10_method_29_code 2 (some .long) := ⟨B.exec, B.bytes, B.returns, hml, findClass_of_methodNamed B.named, fun w hw => atoms_spec (ws := Cond.code y_Mo_memory prog_10_method_29_code 2 (some .long) :: TBL) B.pre w (List.mem_cons_of_mem _ hw), B.notSynchronized, hK, hZ, hG⟩
  have hl := lv_entry [.ref (ga g 34), .int x1] (n := 2) (Nat.le_of_ble_eq_true rfl)
  rw [lg_entry_eq]
  generalize (lg_sl [.ref (ga g 34), .int x1] ++ List.replicate (2 - (lg_sl [.ref (ga g 34), .int x1]).length) Slot.unset).toArray = ls at hl ⊢
  have hl : lv_has ls 2 [(0, .ref (ga g 34)), (1, .int x1)] := hl
  have hS : va_S (gA g) s.heap s.heap [] := va_S.rf
  obtain ⟨hx, hb, -, -, hown, hts, -, -, hz, -⟩ := id X
  show W p l e rm_Mo_memory s m _ below meth c s.heap [] 0 0 (MQ below (va_Ql k (Bw g) (gA g)) _ s 0 0 (gA g)) (F0 m 0 ls [])
  unfold p_Mo_memory at h
  refine lv_iload_n hx hb d_Mo_memory_0 rfl (lv_at hl 1 rfl) ?_
  refine lv_if_lt (tgt := 10) hx hb d_Mo_memory_1 (by decide) (fun c1 => ?_) (fun c1 => ?_)
  · have h := h.1 c1
    exact t_Mo_memory_b10 X h hP hS (lv_sub hl [] rfl)
  · have h := h.2 c1
    refine lv_iload_n hx hb d_Mo_memory_4 rfl (lv_at hl 1 rfl) ?_
    refine lv_bipush (v := 31) hx hb d_Mo_memory_5 (by decide) ?_
    refine lv_icmp_le (tgt := 16) hx hb d_Mo_memory_7 (by decide) (fun c2 => ?_) (fun c2 => ?_)
    · have h := h.1 c2
      refine lv_aload_n hx hb d_Mo_memory_16 rfl (lv_at hl 0 rfl) ?_
      refine gf_Mo_cells X hP q_469 d_Mo_memory_17 ?_
      refine lv_iload_n hx hb d_Mo_memory_20 rfl (lv_at hl 1 rfl) ?_
      obtain ⟨hi3, h⟩ := h
      refine rw_iald X hP isI_47 hi3 d_Mo_memory_21 ?_
      refine lv_i2l (v := (V.1 47 (nt x1) : Int32).toInt64) hx hb d_Mo_memory_22 rfl ?_
      exact t_Mo_memory_b23 X h hP hS (lv_sub hl [] rfl)
    · have h := h.2 c2
      exact t_Mo_memory_b10 X h hP hS (lv_sub hl [] rfl)
theorem yv_Mo_memory : yV R_Mo y_Mo_memory prog_10_method_29_code 2 (some .long) 1 := ⟨by decide +kernel, q_649, q_650, q_7, q_651⟩
/-! Mo.poke -/
theorem d_Mo_poke_0 : decode prog_10_method_30_code 0 = .ok (.iload_n 1, 1) := by decide +kernel
theorem d_Mo_poke_1 : decode prog_10_method_30_code 1 = .ok (.ifCond .lt 9, 3) := by decide +kernel
theorem d_Mo_poke_4 : decode prog_10_method_30_code 4 = .ok (.iload_n 1, 1) := by decide +kernel
theorem d_Mo_poke_5 : decode prog_10_method_30_code 5 = .ok (.bipush 31, 2) := by decide +kernel
theorem d_Mo_poke_7 : decode prog_10_method_30_code 7 = .ok (.if_icmp .le 5, 3) := by decide +kernel
theorem d_Mo_poke_10 : decode prog_10_method_30_code 10 = .ok (.iconst (-1), 1) := by decide +kernel
theorem d_Mo_poke_11 : decode prog_10_method_30_code 11 = .ok (.ireturn, 1) := by decide +kernel
theorem d_Mo_poke_12 : decode prog_10_method_30_code 12 = .ok (.aload_n 0, 1) := by decide +kernel
theorem d_Mo_poke_13 : decode prog_10_method_30_code 13 = .ok (.getfield 50, 3) := by decide +kernel
theorem d_Mo_poke_16 : decode prog_10_method_30_code 16 = .ok (.iload_n 1, 1) := by decide +kernel
theorem d_Mo_poke_17 : decode prog_10_method_30_code 17 = .ok (.iload_n 2, 1) := by decide +kernel
theorem d_Mo_poke_18 : decode prog_10_method_30_code 18 = .ok (.iastore, 1) := by decide +kernel
theorem d_Mo_poke_19 : decode prog_10_method_30_code 19 = .ok (.iconst 0, 1) := by decide +kernel
theorem d_Mo_poke_20 : decode prog_10_method_30_code 20 = .ok (.ireturn, 1) := by decide +kernel
abbrev rm_Mo_poke : Room := { frames := 0, cells := 0, slots := 0, locals := 0 }
def p_Mo_poke_b10 (k : Int32 → vS → Prop) (V : vS) : Prop := k (-1) V
set_option maxRecDepth 100000 in
set_option maxHeartbeats 4000000 in
theorem t_Mo_poke_b10 {k : Int32 → vS → Prop} (X : cx g p s m meth c args R_Mo prog_10_method_30_code 3 (some .int)) {V : vS} (h : p_Mo_poke_b10 k V) (hP : va_P g.1 vcl (cw g V) H) (hS : va_S (gA g) s.heap H locs) (hl : lv_has ls 3 []) : W p l e rm_Mo_poke s m args below meth c H locs 0 0 (MQ below (va_Qi k (Bw g) (gA g)) args s 0 0 (gA g)) (F0 m 10 ls []) := by
  obtain ⟨hx, hb, -, -, hown, hts, -, -, hz, hG⟩ := id X
  unfold p_Mo_poke_b10 at h
  refine lv_iconst (v := (-1)) hx hb d_Mo_poke_10 (by decide) ?_
  exact rw_iret X hP hS h d_Mo_poke_11
def p_Mo_poke (k : Int32 → vS → Prop) (V : vS) (x1 : Int32) (x2 : Int32) : Prop := (x1 < 0 → (p_Mo_poke_b10 k V)) ∧ (¬ x1 < 0 → ((x1 ≤ 31 → (vp_in x1 32 ∧ ∀ V4 : vS, V4 = sv V 47 (nt x1) x2 → (k 0 V4))) ∧ (¬ x1 ≤ 31 → (p_Mo_poke_b10 k V))))
set_option maxRecDepth 100000 in
set_option maxHeartbeats 4000000 in
theorem c_Mo_poke {l : Launch} {g : gT} (hG : gd g) {V : vS} {x1 : Int32} {x2 : Int32} {k : Int32 → vS → Prop} (h : p_Mo_poke k V x1 x2) : Ci g l y_Mo_poke prog_10_method_30_code 3 (some .int) rm_Mo_poke [.ref (ga g 34), .int x1, .int x2] V k := by
  unfold Ci
  refine Met.ofW (cc := prog_10_method_30_code) (maxL := 3) (ret := some .int) (by decide) rfl ?_
  intro p e s m args below meth c s₁ B hml hv
  obtain ⟨rfl, hP, hK, hZ⟩ := hv
  have X : cx g p s m meth c [.ref (ga g 34), .int x1, .int x2].toArray R_Mo prog_10_method_30_code 3 (some .int) := ⟨B.exec, B.bytes, B.returns, hml, findClass_of_methodNamed B.named, fun w hw => atoms_spec (ws := Cond.code y_Mo_poke prog_10_method_30_code 3 (some .int) :: TBL) B.pre w (List.mem_cons_of_mem _ hw), B.notSynchronized, hK, hZ, hG⟩
  have hl := lv_entry [.ref (ga g 34), .int x1, .int x2] (n := 3) (Nat.le_of_ble_eq_true rfl)
  rw [lg_entry_eq]
  generalize (lg_sl [.ref (ga g 34), .int x1, .int x2] ++ List.replicate (3 - (lg_sl [.ref (ga g 34), .int x1, .int x2]).length) Slot.unset).toArray = ls at hl ⊢
  have hl : lv_has ls 3 [(0, .ref (ga g 34)), (1, .int x1), (2, .int x2)] := hl
  have hS : va_S (gA g) s.heap s.heap [] := va_S.rf
  obtain ⟨hx, hb, -, -, hown, hts, -, -, hz, -⟩ := id X
  show W p l e rm_Mo_poke s m _ below meth c s.heap [] 0 0 (MQ below (va_Qi k (Bw g) (gA g)) _ s 0 0 (gA g)) (F0 m 0 ls [])
  unfold p_Mo_poke at h
  refine lv_iload_n hx hb d_Mo_poke_0 rfl (lv_at hl 1 rfl) ?_
  refine lv_if_lt (tgt := 10) hx hb d_Mo_poke_1 (by decide) (fun c1 => ?_) (fun c1 => ?_)
  · have h := h.1 c1
    exact t_Mo_poke_b10 X h hP hS (lv_sub hl [] rfl)
  · have h := h.2 c1
    refine lv_iload_n hx hb d_Mo_poke_4 rfl (lv_at hl 1 rfl) ?_
    refine lv_bipush (v := 31) hx hb d_Mo_poke_5 (by decide) ?_
    refine lv_icmp_le (tgt := 12) hx hb d_Mo_poke_7 (by decide) (fun c2 => ?_) (fun c2 => ?_)
    · have h := h.1 c2
      refine lv_aload_n hx hb d_Mo_poke_12 rfl (lv_at hl 0 rfl) ?_
      refine gf_Mo_cells X hP q_469 d_Mo_poke_13 ?_
      refine lv_iload_n hx hb d_Mo_poke_16 rfl (lv_at hl 1 rfl) ?_
      refine lv_iload_n hx hb d_Mo_poke_17 rfl (lv_at hl 2 rfl) ?_
      obtain ⟨hi3, h⟩ := h
      refine rw_iast X hP hS isI_47 hi3 d_Mo_poke_18 (fun V4 H locs eV4 hP hS => ?_)
      have h := h V4 eV4
      refine lv_iconst (v := 0) hx hb d_Mo_poke_19 (by decide) ?_
      exact rw_iret X hP hS h d_Mo_poke_20
    · have h := h.2 c2
      exact t_Mo_poke_b10 X h hP hS (lv_sub hl [] rfl)
theorem yv_Mo_poke : yV R_Mo y_Mo_poke prog_10_method_30_code 3 (some .int) 2 := ⟨by decide +kernel, q_653, q_654, q_7, q_655⟩
/-! Mo.state -/
theorem d_Mo_state_0 : decode prog_10_method_31_code 0 = .ok (.iload_n 1, 1) := by decide +kernel
theorem d_Mo_state_1 : decode prog_10_method_31_code 1 = .ok (.ifCond .lt 15, 3) := by decide +kernel
theorem d_Mo_state_4 : decode prog_10_method_31_code 4 = .ok (.iload_n 1, 1) := by decide +kernel
theorem d_Mo_state_5 : decode prog_10_method_31_code 5 = .ok (.iconst 5, 1) := by decide +kernel
theorem d_Mo_state_6 : decode prog_10_method_31_code 6 = .ok (.if_icmp .gt 10, 3) := by decide +kernel
theorem d_Mo_state_9 : decode prog_10_method_31_code 9 = .ok (.aload_n 0, 1) := by decide +kernel
theorem d_Mo_state_10 : decode prog_10_method_31_code 10 = .ok (.getfield 61, 3) := by decide +kernel
theorem d_Mo_state_13 : decode prog_10_method_31_code 13 = .ok (.ifCond .ne 5, 3) := by decide +kernel
theorem d_Mo_state_16 : decode prog_10_method_31_code 16 = .ok (.iconst (-1), 1) := by decide +kernel
theorem d_Mo_state_17 : decode prog_10_method_31_code 17 = .ok (.ireturn, 1) := by decide +kernel
theorem d_Mo_state_18 : decode prog_10_method_31_code 18 = .ok (.iload_n 1, 1) := by decide +kernel
theorem d_Mo_state_19 : decode prog_10_method_31_code 19 = .ok (.ifCond .ne 8, 3) := by decide +kernel
theorem d_Mo_state_22 : decode prog_10_method_31_code 22 = .ok (.aload_n 0, 1) := by decide +kernel
theorem d_Mo_state_23 : decode prog_10_method_31_code 23 = .ok (.getfield 61, 3) := by decide +kernel
theorem d_Mo_state_26 : decode prog_10_method_31_code 26 = .ok (.ireturn, 1) := by decide +kernel
theorem d_Mo_state_27 : decode prog_10_method_31_code 27 = .ok (.iload_n 1, 1) := by decide +kernel
theorem d_Mo_state_28 : decode prog_10_method_31_code 28 = .ok (.iconst 1, 1) := by decide +kernel
theorem d_Mo_state_29 : decode prog_10_method_31_code 29 = .ok (.if_icmp .ne 15, 3) := by decide +kernel
theorem d_Mo_state_32 : decode prog_10_method_31_code 32 = .ok (.aload_n 0, 1) := by decide +kernel
theorem d_Mo_state_33 : decode prog_10_method_31_code 33 = .ok (.getfield 34, 3) := by decide +kernel
theorem d_Mo_state_36 : decode prog_10_method_31_code 36 = .ok (.aload_n 0, 1) := by decide +kernel
theorem d_Mo_state_37 : decode prog_10_method_31_code 37 = .ok (.getfield 61, 3) := by decide +kernel
theorem d_Mo_state_40 : decode prog_10_method_31_code 40 = .ok (.iconst 1, 1) := by decide +kernel
theorem d_Mo_state_41 : decode prog_10_method_31_code 41 = .ok (.isub, 1) := by decide +kernel
theorem d_Mo_state_42 : decode prog_10_method_31_code 42 = .ok (.iaload, 1) := by decide +kernel
theorem d_Mo_state_43 : decode prog_10_method_31_code 43 = .ok (.ireturn, 1) := by decide +kernel
theorem d_Mo_state_44 : decode prog_10_method_31_code 44 = .ok (.iload_n 1, 1) := by decide +kernel
theorem d_Mo_state_45 : decode prog_10_method_31_code 45 = .ok (.iconst 2, 1) := by decide +kernel
theorem d_Mo_state_46 : decode prog_10_method_31_code 46 = .ok (.if_icmp .ne 15, 3) := by decide +kernel
theorem d_Mo_state_49 : decode prog_10_method_31_code 49 = .ok (.aload_n 0, 1) := by decide +kernel
theorem d_Mo_state_50 : decode prog_10_method_31_code 50 = .ok (.getfield 37, 3) := by decide +kernel
theorem d_Mo_state_53 : decode prog_10_method_31_code 53 = .ok (.aload_n 0, 1) := by decide +kernel
theorem d_Mo_state_54 : decode prog_10_method_31_code 54 = .ok (.getfield 61, 3) := by decide +kernel
theorem d_Mo_state_57 : decode prog_10_method_31_code 57 = .ok (.iconst 1, 1) := by decide +kernel
theorem d_Mo_state_58 : decode prog_10_method_31_code 58 = .ok (.isub, 1) := by decide +kernel
theorem d_Mo_state_59 : decode prog_10_method_31_code 59 = .ok (.iaload, 1) := by decide +kernel
theorem d_Mo_state_60 : decode prog_10_method_31_code 60 = .ok (.ireturn, 1) := by decide +kernel
theorem d_Mo_state_61 : decode prog_10_method_31_code 61 = .ok (.iload_n 1, 1) := by decide +kernel
theorem d_Mo_state_62 : decode prog_10_method_31_code 62 = .ok (.iconst 3, 1) := by decide +kernel
theorem d_Mo_state_63 : decode prog_10_method_31_code 63 = .ok (.if_icmp .ne 8, 3) := by decide +kernel
theorem d_Mo_state_66 : decode prog_10_method_31_code 66 = .ok (.aload_n 0, 1) := by decide +kernel
theorem d_Mo_state_67 : decode prog_10_method_31_code 67 = .ok (.getfield 64, 3) := by decide +kernel
theorem d_Mo_state_70 : decode prog_10_method_31_code 70 = .ok (.ireturn, 1) := by decide +kernel
theorem d_Mo_state_71 : decode prog_10_method_31_code 71 = .ok (.iload_n 1, 1) := by decide +kernel
theorem d_Mo_state_72 : decode prog_10_method_31_code 72 = .ok (.iconst 4, 1) := by decide +kernel
theorem d_Mo_state_73 : decode prog_10_method_31_code 73 = .ok (.if_icmp .ne 10, 3) := by decide +kernel
theorem d_Mo_state_76 : decode prog_10_method_31_code 76 = .ok (.aload_n 0, 1) := by decide +kernel
theorem d_Mo_state_77 : decode prog_10_method_31_code 77 = .ok (.getfield 46, 3) := by decide +kernel
theorem d_Mo_state_80 : decode prog_10_method_31_code 80 = .ok (.goto 18, 3) := by decide +kernel
theorem d_Mo_state_83 : decode prog_10_method_31_code 83 = .ok (.aload_n 0, 1) := by decide +kernel
theorem d_Mo_state_84 : decode prog_10_method_31_code 84 = .ok (.getfield 46, 3) := by decide +kernel
theorem d_Mo_state_87 : decode prog_10_method_31_code 87 = .ok (.ifCond .ge 7, 3) := by decide +kernel
theorem d_Mo_state_90 : decode prog_10_method_31_code 90 = .ok (.iconst 0, 1) := by decide +kernel
theorem d_Mo_state_91 : decode prog_10_method_31_code 91 = .ok (.goto 7, 3) := by decide +kernel
theorem d_Mo_state_94 : decode prog_10_method_31_code 94 = .ok (.aload_n 0, 1) := by decide +kernel
theorem d_Mo_state_95 : decode prog_10_method_31_code 95 = .ok (.getfield 153, 3) := by decide +kernel
theorem d_Mo_state_98 : decode prog_10_method_31_code 98 = .ok (.ireturn, 1) := by decide +kernel
abbrev rm_Mo_state : Room := { frames := 0, cells := 0, slots := 0, locals := 0 }
def p_Mo_state_b16 (k : Int32 → vS → Prop) (V : vS) : Prop := k (-1) V
set_option maxRecDepth 100000 in
set_option maxHeartbeats 4000000 in
theorem t_Mo_state_b16 {k : Int32 → vS → Prop} (X : cx g p s m meth c args R_Mo prog_10_method_31_code 2 (some .int)) {V : vS} (h : p_Mo_state_b16 k V) (hP : va_P g.1 vcl (cw g V) H) (hS : va_S (gA g) s.heap H locs) (hl : lv_has ls 2 []) : W p l e rm_Mo_state s m args below meth c H locs 0 0 (MQ below (va_Qi k (Bw g) (gA g)) args s 0 0 (gA g)) (F0 m 16 ls []) := by
  obtain ⟨hx, hb, -, -, hown, hts, -, -, hz, hG⟩ := id X
  unfold p_Mo_state_b16 at h
  refine lv_iconst (v := (-1)) hx hb d_Mo_state_16 (by decide) ?_
  exact rw_iret X hP hS h d_Mo_state_17
def p_Mo_state_b98 (k : Int32 → vS → Prop) (V : vS) (s0 : Int32) : Prop := k s0 V
set_option maxRecDepth 100000 in
set_option maxHeartbeats 4000000 in
theorem t_Mo_state_b98 {k : Int32 → vS → Prop} (X : cx g p s m meth c args R_Mo prog_10_method_31_code 2 (some .int)) {V : vS} {s0 : Int32} (h : p_Mo_state_b98 k V s0) (hP : va_P g.1 vcl (cw g V) H) (hS : va_S (gA g) s.heap H locs) (hl : lv_has ls 2 []) : W p l e rm_Mo_state s m args below meth c H locs 0 0 (MQ below (va_Qi k (Bw g) (gA g)) args s 0 0 (gA g)) (F0 m 98 ls [.int s0]) := by
  obtain ⟨hx, hb, -, -, hown, hts, -, -, hz, hG⟩ := id X
  unfold p_Mo_state_b98 at h
  exact rw_iret X hP hS h d_Mo_state_98
def p_Mo_state (k : Int32 → vS → Prop) (V : vS) (x1 : Int32) : Prop := (x1 < 0 → (p_Mo_state_b16 k V)) ∧ (¬ x1 < 0 → ((5 < x1 → (p_Mo_state_b16 k V)) ∧ (¬ 5 < x1 → (((V.1 34 18) = 0 → (p_Mo_state_b16 k V)) ∧ (¬ (V.1 34 18) = 0 → ((x1 = 0 → (k (V.1 34 18) V)) ∧ (¬ x1 = 0 → ((x1 = 1 → (vp_in ((V.1 34 18) - 1) 7 ∧ (k (V.1 43 (nt ((V.1 34 18) - 1))) V))) ∧ (¬ x1 = 1 → ((x1 = 2 → (vp_in ((V.1 34 18) - 1) 7 ∧ (k (V.1 44 (nt ((V.1 34 18) - 1))) V))) ∧ (¬ x1 = 2 → ((x1 = 3 → (k (V.1 34 19) V)) ∧ (¬ x1 = 3 → ((x1 = 4 → (p_Mo_state_b98 k V (V.1 34 20))) ∧ (¬ x1 = 4 → ((0 ≤ (V.1 34 20) → (p_Mo_state_b98 k V (V.1 34 21))) ∧ (¬ 0 ≤ (V.1 34 20) → (p_Mo_state_b98 k V 0))))))))))))))))))
set_option maxRecDepth 100000 in
set_option maxHeartbeats 4000000 in
theorem c_Mo_state {l : Launch} {g : gT} (hG : gd g) {V : vS} {x1 : Int32} {k : Int32 → vS → Prop} (h : p_Mo_state k V x1) : Ci g l y_Mo_state prog_10_method_31_code 2 (some .int) rm_Mo_state [.ref (ga g 34), .int x1] V k := by
  unfold Ci
  refine Met.ofW (cc := prog_10_method_31_code) (maxL := 2) (ret := some .int) (by decide) rfl ?_
  intro p e s m args below meth c s₁ B hml hv
  obtain ⟨rfl, hP, hK, hZ⟩ := hv
  have X : cx g p s m meth c [.ref (ga g 34), .int x1].toArray R_Mo prog_10_method_31_code 2 (some .int) := ⟨B.exec, B.bytes, B.returns, hml, findClass_of_methodNamed B.named, fun w hw => atoms_spec (ws := Cond.code y_Mo_state prog_10_method_31_code 2 (some .int) :: TBL) B.pre w (List.mem_cons_of_mem _ hw), B.notSynchronized, hK, hZ, hG⟩
  have hl := lv_entry [.ref (ga g 34), .int x1] (n := 2) (Nat.le_of_ble_eq_true rfl)
  rw [lg_entry_eq]
  generalize (lg_sl [.ref (ga g 34), .int x1] ++ List.replicate (2 - (lg_sl [.ref (ga g 34), .int x1]).length) Slot.unset).toArray = ls at hl ⊢
  have hl : lv_has ls 2 [(0, .ref (ga g 34)), (1, .int x1)] := hl
  have hS : va_S (gA g) s.heap s.heap [] := va_S.rf
  obtain ⟨hx, hb, -, -, hown, hts, -, -, hz, -⟩ := id X
  show W p l e rm_Mo_state s m _ below meth c s.heap [] 0 0 (MQ below (va_Qi k (Bw g) (gA g)) _ s 0 0 (gA g)) (F0 m 0 ls [])
  unfold p_Mo_state at h
  refine lv_iload_n hx hb d_Mo_state_0 rfl (lv_at hl 1 rfl) ?_
  refine lv_if_lt (tgt := 16) hx hb d_Mo_state_1 (by decide) (fun c1 => ?_) (fun c1 => ?_)
  · have h := h.1 c1
    exact t_Mo_state_b16 X h hP hS (lv_sub hl [] rfl)
  · have h := h.2 c1
    refine lv_iload_n hx hb d_Mo_state_4 rfl (lv_at hl 1 rfl) ?_
    refine lv_iconst (v := 5) hx hb d_Mo_state_5 (by decide) ?_
    refine lv_icmp_gt (tgt := 16) hx hb d_Mo_state_6 (by decide) (fun c2 => ?_) (fun c2 => ?_)
    · have h := h.1 c2
      exact t_Mo_state_b16 X h hP hS (lv_sub hl [] rfl)
    · have h := h.2 c2
      refine lv_aload_n hx hb d_Mo_state_9 rfl (lv_at hl 0 rfl) ?_
      refine gf_Mo_depth X hP q_464 d_Mo_state_10 ?_
      refine lv_if_ne (tgt := 18) hx hb d_Mo_state_13 (by decide) (fun c3 => ?_) (fun c3 => ?_)
      · have h := h.2 c3
        refine lv_iload_n hx hb d_Mo_state_18 rfl (lv_at hl 1 rfl) ?_
        refine lv_if_ne (tgt := 27) hx hb d_Mo_state_19 (by decide) (fun c4 => ?_) (fun c4 => ?_)
        · have h := h.2 c4
          refine lv_iload_n hx hb d_Mo_state_27 rfl (lv_at hl 1 rfl) ?_
          refine lv_iconst (v := 1) hx hb d_Mo_state_28 (by decide) ?_
          refine lv_icmp_ne (tgt := 44) hx hb d_Mo_state_29 (by decide) (fun c5 => ?_) (fun c5 => ?_)
          · have h := h.2 c5
            refine lv_iload_n hx hb d_Mo_state_44 rfl (lv_at hl 1 rfl) ?_
            refine lv_iconst (v := 2) hx hb d_Mo_state_45 (by decide) ?_
            refine lv_icmp_ne (tgt := 61) hx hb d_Mo_state_46 (by decide) (fun c6 => ?_) (fun c6 => ?_)
            · have h := h.2 c6
              refine lv_iload_n hx hb d_Mo_state_61 rfl (lv_at hl 1 rfl) ?_
              refine lv_iconst (v := 3) hx hb d_Mo_state_62 (by decide) ?_
              refine lv_icmp_ne (tgt := 71) hx hb d_Mo_state_63 (by decide) (fun c7 => ?_) (fun c7 => ?_)
              · have h := h.2 c7
                refine lv_iload_n hx hb d_Mo_state_71 rfl (lv_at hl 1 rfl) ?_
                refine lv_iconst (v := 4) hx hb d_Mo_state_72 (by decide) ?_
                refine lv_icmp_ne (tgt := 83) hx hb d_Mo_state_73 (by decide) (fun c8 => ?_) (fun c8 => ?_)
                · have h := h.2 c8
                  refine lv_aload_n hx hb d_Mo_state_83 rfl (lv_at hl 0 rfl) ?_
                  refine gf_Mo_waits X hP q_466 d_Mo_state_84 ?_
                  refine lv_if_ge (tgt := 94) hx hb d_Mo_state_87 (by decide) (fun c9 => ?_) (fun c9 => ?_)
                  · have h := h.1 c9
                    refine lv_aload_n hx hb d_Mo_state_94 rfl (lv_at hl 0 rfl) ?_
                    refine gf_Mo_askedWith X hP q_467 d_Mo_state_95 ?_
                    exact t_Mo_state_b98 X h hP hS (lv_sub hl [] rfl)
                  · have h := h.2 c9
                    refine lv_iconst (v := 0) hx hb d_Mo_state_90 (by decide) ?_
                    refine lv_goto (tgt := 98) hx hb d_Mo_state_91 (by decide) ?_
                    exact t_Mo_state_b98 X h hP hS (lv_sub hl [] rfl)
                · have h := h.1 c8
                  refine lv_aload_n hx hb d_Mo_state_76 rfl (lv_at hl 0 rfl) ?_
                  refine gf_Mo_waits X hP q_466 d_Mo_state_77 ?_
                  refine lv_goto (tgt := 98) hx hb d_Mo_state_80 (by decide) ?_
                  exact t_Mo_state_b98 X h hP hS (lv_sub hl [] rfl)
              · have h := h.1 c7
                refine lv_aload_n hx hb d_Mo_state_66 rfl (lv_at hl 0 rfl) ?_
                refine gf_Mo_size X hP q_465 d_Mo_state_67 ?_
                exact rw_iret X hP hS h d_Mo_state_70
            · have h := h.1 c6
              refine lv_aload_n hx hb d_Mo_state_49 rfl (lv_at hl 0 rfl) ?_
              refine gf_Mo_next X hP q_461 d_Mo_state_50 ?_
              refine lv_aload_n hx hb d_Mo_state_53 rfl (lv_at hl 0 rfl) ?_
              refine gf_Mo_depth X hP q_464 d_Mo_state_54 ?_
              refine lv_iconst (v := 1) hx hb d_Mo_state_57 (by decide) ?_
              refine lv_isub hx hb d_Mo_state_58 ?_
              obtain ⟨hi10, h⟩ := h
              refine rw_iald X hP isI_44 hi10 d_Mo_state_59 ?_
              exact rw_iret X hP hS h d_Mo_state_60
          · have h := h.1 c5
            refine lv_aload_n hx hb d_Mo_state_32 rfl (lv_at hl 0 rfl) ?_
            refine gf_Mo_running X hP q_460 d_Mo_state_33 ?_
            refine lv_aload_n hx hb d_Mo_state_36 rfl (lv_at hl 0 rfl) ?_
            refine gf_Mo_depth X hP q_464 d_Mo_state_37 ?_
            refine lv_iconst (v := 1) hx hb d_Mo_state_40 (by decide) ?_
            refine lv_isub hx hb d_Mo_state_41 ?_
            obtain ⟨hi11, h⟩ := h
            refine rw_iald X hP isI_43 hi11 d_Mo_state_42 ?_
            exact rw_iret X hP hS h d_Mo_state_43
        · have h := h.1 c4
          refine lv_aload_n hx hb d_Mo_state_22 rfl (lv_at hl 0 rfl) ?_
          refine gf_Mo_depth X hP q_464 d_Mo_state_23 ?_
          exact rw_iret X hP hS h d_Mo_state_26
      · have h := h.1 c3
        exact t_Mo_state_b16 X h hP hS (lv_sub hl [] rfl)
theorem yv_Mo_state : yV R_Mo y_Mo_state prog_10_method_31_code 2 (some .int) 1 := ⟨by decide +kernel, q_657, q_658, q_7, q_659⟩
/-! Mo.count -/
theorem d_Mo_count_0 : decode prog_10_method_32_code 0 = .ok (.iload_n 1, 1) := by decide +kernel
theorem d_Mo_count_1 : decode prog_10_method_32_code 1 = .ok (.ifCond .ne 8, 3) := by decide +kernel
theorem d_Mo_count_4 : decode prog_10_method_32_code 4 = .ok (.aload_n 0, 1) := by decide +kernel
theorem d_Mo_count_5 : decode prog_10_method_32_code 5 = .ok (.getfield 67, 3) := by decide +kernel
theorem d_Mo_count_8 : decode prog_10_method_32_code 8 = .ok (.ireturn, 1) := by decide +kernel
theorem d_Mo_count_9 : decode prog_10_method_32_code 9 = .ok (.iload_n 1, 1) := by decide +kernel
theorem d_Mo_count_10 : decode prog_10_method_32_code 10 = .ok (.iconst 1, 1) := by decide +kernel
theorem d_Mo_count_11 : decode prog_10_method_32_code 11 = .ok (.if_icmp .lt 29, 3) := by decide +kernel
theorem d_Mo_count_14 : decode prog_10_method_32_code 14 = .ok (.iload_n 1, 1) := by decide +kernel
theorem d_Mo_count_15 : decode prog_10_method_32_code 15 = .ok (.iconst 4, 1) := by decide +kernel
theorem d_Mo_count_16 : decode prog_10_method_32_code 16 = .ok (.if_icmp .gt 24, 3) := by decide +kernel
theorem d_Mo_count_19 : decode prog_10_method_32_code 19 = .ok (.iload_n 1, 1) := by decide +kernel
theorem d_Mo_count_20 : decode prog_10_method_32_code 20 = .ok (.aload_n 0, 1) := by decide +kernel
theorem d_Mo_count_21 : decode prog_10_method_32_code 21 = .ok (.getfield 67, 3) := by decide +kernel
theorem d_Mo_count_24 : decode prog_10_method_32_code 24 = .ok (.if_icmp .gt 14, 3) := by decide +kernel
theorem d_Mo_count_27 : decode prog_10_method_32_code 27 = .ok (.aload_n 0, 1) := by decide +kernel
theorem d_Mo_count_28 : decode prog_10_method_32_code 28 = .ok (.getfield 19, 3) := by decide +kernel
theorem d_Mo_count_31 : decode prog_10_method_32_code 31 = .ok (.iload_n 1, 1) := by decide +kernel
theorem d_Mo_count_32 : decode prog_10_method_32_code 32 = .ok (.iconst 1, 1) := by decide +kernel
theorem d_Mo_count_33 : decode prog_10_method_32_code 33 = .ok (.isub, 1) := by decide +kernel
theorem d_Mo_count_34 : decode prog_10_method_32_code 34 = .ok (.iaload, 1) := by decide +kernel
theorem d_Mo_count_35 : decode prog_10_method_32_code 35 = .ok (.goto 4, 3) := by decide +kernel
theorem d_Mo_count_38 : decode prog_10_method_32_code 38 = .ok (.iconst 0, 1) := by decide +kernel
theorem d_Mo_count_39 : decode prog_10_method_32_code 39 = .ok (.ireturn, 1) := by decide +kernel
theorem d_Mo_count_40 : decode prog_10_method_32_code 40 = .ok (.iload_n 1, 1) := by decide +kernel
theorem d_Mo_count_41 : decode prog_10_method_32_code 41 = .ok (.iconst 5, 1) := by decide +kernel
theorem d_Mo_count_42 : decode prog_10_method_32_code 42 = .ok (.if_icmp .ne 8, 3) := by decide +kernel
theorem d_Mo_count_45 : decode prog_10_method_32_code 45 = .ok (.aload_n 0, 1) := by decide +kernel
theorem d_Mo_count_46 : decode prog_10_method_32_code 46 = .ok (.getfield 156, 3) := by decide +kernel
theorem d_Mo_count_49 : decode prog_10_method_32_code 49 = .ok (.ireturn, 1) := by decide +kernel
theorem d_Mo_count_50 : decode prog_10_method_32_code 50 = .ok (.iload_n 1, 1) := by decide +kernel
theorem d_Mo_count_51 : decode prog_10_method_32_code 51 = .ok (.bipush 6, 2) := by decide +kernel
theorem d_Mo_count_53 : decode prog_10_method_32_code 53 = .ok (.if_icmp .ne 16, 3) := by decide +kernel
theorem d_Mo_count_56 : decode prog_10_method_32_code 56 = .ok (.aload_n 0, 1) := by decide +kernel
theorem d_Mo_count_57 : decode prog_10_method_32_code 57 = .ok (.getfield 57, 3) := by decide +kernel
theorem d_Mo_count_60 : decode prog_10_method_32_code 60 = .ok (.ifCond .eq 7, 3) := by decide +kernel
theorem d_Mo_count_63 : decode prog_10_method_32_code 63 = .ok (.iconst 1, 1) := by decide +kernel
theorem d_Mo_count_64 : decode prog_10_method_32_code 64 = .ok (.goto 4, 3) := by decide +kernel
theorem d_Mo_count_67 : decode prog_10_method_32_code 67 = .ok (.iconst 0, 1) := by decide +kernel
theorem d_Mo_count_68 : decode prog_10_method_32_code 68 = .ok (.ireturn, 1) := by decide +kernel
theorem d_Mo_count_69 : decode prog_10_method_32_code 69 = .ok (.iload_n 1, 1) := by decide +kernel
theorem d_Mo_count_70 : decode prog_10_method_32_code 70 = .ok (.bipush 7, 2) := by decide +kernel
theorem d_Mo_count_72 : decode prog_10_method_32_code 72 = .ok (.if_icmp .ne 8, 3) := by decide +kernel
theorem d_Mo_count_75 : decode prog_10_method_32_code 75 = .ok (.aload_n 0, 1) := by decide +kernel
theorem d_Mo_count_76 : decode prog_10_method_32_code 76 = .ok (.getfield 114, 3) := by decide +kernel
theorem d_Mo_count_79 : decode prog_10_method_32_code 79 = .ok (.ireturn, 1) := by decide +kernel
theorem d_Mo_count_80 : decode prog_10_method_32_code 80 = .ok (.iload_n 1, 1) := by decide +kernel
theorem d_Mo_count_81 : decode prog_10_method_32_code 81 = .ok (.bipush 8, 2) := by decide +kernel
theorem d_Mo_count_83 : decode prog_10_method_32_code 83 = .ok (.if_icmp .ne 10, 3) := by decide +kernel
theorem d_Mo_count_86 : decode prog_10_method_32_code 86 = .ok (.aload_n 0, 1) := by decide +kernel
theorem d_Mo_count_87 : decode prog_10_method_32_code 87 = .ok (.getfield 162, 3) := by decide +kernel
theorem d_Mo_count_90 : decode prog_10_method_32_code 90 = .ok (.goto 4, 3) := by decide +kernel
theorem d_Mo_count_93 : decode prog_10_method_32_code 93 = .ok (.iconst (-1), 1) := by decide +kernel
theorem d_Mo_count_94 : decode prog_10_method_32_code 94 = .ok (.ireturn, 1) := by decide +kernel
abbrev rm_Mo_count : Room := { frames := 0, cells := 0, slots := 0, locals := 0 }
def p_Mo_count_b39 (k : Int32 → vS → Prop) (V : vS) (s0 : Int32) : Prop := k s0 V
set_option maxRecDepth 100000 in
set_option maxHeartbeats 4000000 in
theorem t_Mo_count_b39 {k : Int32 → vS → Prop} (X : cx g p s m meth c args R_Mo prog_10_method_32_code 2 (some .int)) {V : vS} {s0 : Int32} (h : p_Mo_count_b39 k V s0) (hP : va_P g.1 vcl (cw g V) H) (hS : va_S (gA g) s.heap H locs) (hl : lv_has ls 2 []) : W p l e rm_Mo_count s m args below meth c H locs 0 0 (MQ below (va_Qi k (Bw g) (gA g)) args s 0 0 (gA g)) (F0 m 39 ls [.int s0]) := by
  obtain ⟨hx, hb, -, -, hown, hts, -, -, hz, hG⟩ := id X
  unfold p_Mo_count_b39 at h
  exact rw_iret X hP hS h d_Mo_count_39
def p_Mo_count_b68 (k : Int32 → vS → Prop) (V : vS) (s0 : Int32) : Prop := k s0 V
set_option maxRecDepth 100000 in
set_option maxHeartbeats 4000000 in
theorem t_Mo_count_b68 {k : Int32 → vS → Prop} (X : cx g p s m meth c args R_Mo prog_10_method_32_code 2 (some .int)) {V : vS} {s0 : Int32} (h : p_Mo_count_b68 k V s0) (hP : va_P g.1 vcl (cw g V) H) (hS : va_S (gA g) s.heap H locs) (hl : lv_has ls 2 []) : W p l e rm_Mo_count s m args below meth c H locs 0 0 (MQ below (va_Qi k (Bw g) (gA g)) args s 0 0 (gA g)) (F0 m 68 ls [.int s0]) := by
  obtain ⟨hx, hb, -, -, hown, hts, -, -, hz, hG⟩ := id X
  unfold p_Mo_count_b68 at h
  exact rw_iret X hP hS h d_Mo_count_68
def p_Mo_count_b94 (k : Int32 → vS → Prop) (V : vS) (s0 : Int32) : Prop := k s0 V
set_option maxRecDepth 100000 in
set_option maxHeartbeats 4000000 in
theorem t_Mo_count_b94 {k : Int32 → vS → Prop} (X : cx g p s m meth c args R_Mo prog_10_method_32_code 2 (some .int)) {V : vS} {s0 : Int32} (h : p_Mo_count_b94 k V s0) (hP : va_P g.1 vcl (cw g V) H) (hS : va_S (gA g) s.heap H locs) (hl : lv_has ls 2 []) : W p l e rm_Mo_count s m args below meth c H locs 0 0 (MQ below (va_Qi k (Bw g) (gA g)) args s 0 0 (gA g)) (F0 m 94 ls [.int s0]) := by
  obtain ⟨hx, hb, -, -, hown, hts, -, -, hz, hG⟩ := id X
  unfold p_Mo_count_b94 at h
  exact rw_iret X hP hS h d_Mo_count_94
def p_Mo_count_b40 (k : Int32 → vS → Prop) (V : vS) (x1 : Int32) : Prop := (x1 = 5 → (k (V.1 34 27) V)) ∧ (¬ x1 = 5 → ((x1 = 6 → (((V.1 34 8) = 0 → (p_Mo_count_b68 k V 0)) ∧ (¬ (V.1 34 8) = 0 → (p_Mo_count_b68 k V 1)))) ∧ (¬ x1 = 6 → ((x1 = 7 → (k (V.1 34 28) V)) ∧ (¬ x1 = 7 → ((x1 = 8 → (p_Mo_count_b94 k V (V.1 34 29))) ∧ (¬ x1 = 8 → (p_Mo_count_b94 k V (-1)))))))))
set_option maxRecDepth 100000 in
set_option maxHeartbeats 4000000 in
theorem t_Mo_count_b40 {k : Int32 → vS → Prop} (X : cx g p s m meth c args R_Mo prog_10_method_32_code 2 (some .int)) {V : vS} {x1 : Int32} (h : p_Mo_count_b40 k V x1) (hP : va_P g.1 vcl (cw g V) H) (hS : va_S (gA g) s.heap H locs) (hl : lv_has ls 2 [(0, .ref (ga g 34)), (1, .int x1)]) : W p l e rm_Mo_count s m args below meth c H locs 0 0 (MQ below (va_Qi k (Bw g) (gA g)) args s 0 0 (gA g)) (F0 m 40 ls []) := by
  obtain ⟨hx, hb, -, -, hown, hts, -, -, hz, hG⟩ := id X
  unfold p_Mo_count_b40 at h
  refine lv_iload_n hx hb d_Mo_count_40 rfl (lv_at hl 1 rfl) ?_
  refine lv_iconst (v := 5) hx hb d_Mo_count_41 (by decide) ?_
  refine lv_icmp_ne (tgt := 50) hx hb d_Mo_count_42 (by decide) (fun c1 => ?_) (fun c1 => ?_)
  · have h := h.2 c1
    refine lv_iload_n hx hb d_Mo_count_50 rfl (lv_at hl 1 rfl) ?_
    refine lv_bipush (v := 6) hx hb d_Mo_count_51 (by decide) ?_
    refine lv_icmp_ne (tgt := 69) hx hb d_Mo_count_53 (by decide) (fun c2 => ?_) (fun c2 => ?_)
    · have h := h.2 c2
      refine lv_iload_n hx hb d_Mo_count_69 rfl (lv_at hl 1 rfl) ?_
      refine lv_bipush (v := 7) hx hb d_Mo_count_70 (by decide) ?_
      refine lv_icmp_ne (tgt := 80) hx hb d_Mo_count_72 (by decide) (fun c3 => ?_) (fun c3 => ?_)
      · have h := h.2 c3
        refine lv_iload_n hx hb d_Mo_count_80 rfl (lv_at hl 1 rfl) ?_
        refine lv_bipush (v := 8) hx hb d_Mo_count_81 (by decide) ?_
        refine lv_icmp_ne (tgt := 93) hx hb d_Mo_count_83 (by decide) (fun c4 => ?_) (fun c4 => ?_)
        · have h := h.2 c4
          refine lv_iconst (v := (-1)) hx hb d_Mo_count_93 (by decide) ?_
          exact t_Mo_count_b94 X h hP hS (lv_sub hl [] rfl)
        · have h := h.1 c4
          refine lv_aload_n hx hb d_Mo_count_86 rfl (lv_at hl 0 rfl) ?_
          refine gf_Mo_trapped X hP q_475 d_Mo_count_87 ?_
          refine lv_goto (tgt := 94) hx hb d_Mo_count_90 (by decide) ?_
          exact t_Mo_count_b94 X h hP hS (lv_sub hl [] rfl)
      · have h := h.1 c3
        refine lv_aload_n hx hb d_Mo_count_75 rfl (lv_at hl 0 rfl) ?_
        refine gf_Mo_ended X hP q_474 d_Mo_count_76 ?_
        exact rw_iret X hP hS h d_Mo_count_79
    · have h := h.1 c2
      refine lv_aload_n hx hb d_Mo_count_56 rfl (lv_at hl 0 rfl) ?_
      refine gf_Mo_checked X hP q_454 d_Mo_count_57 ?_
      refine lv_if_eq (tgt := 67) hx hb d_Mo_count_60 (by decide) (fun c5 => ?_) (fun c5 => ?_)
      · have h := h.1 c5
        refine lv_iconst (v := 0) hx hb d_Mo_count_67 (by decide) ?_
        exact t_Mo_count_b68 X h hP hS (lv_sub hl [] rfl)
      · have h := h.2 c5
        refine lv_iconst (v := 1) hx hb d_Mo_count_63 (by decide) ?_
        refine lv_goto (tgt := 68) hx hb d_Mo_count_64 (by decide) ?_
        exact t_Mo_count_b68 X h hP hS (lv_sub hl [] rfl)
  · have h := h.1 c1
    refine lv_aload_n hx hb d_Mo_count_45 rfl (lv_at hl 0 rfl) ?_
    refine gf_Mo_fuelUsed X hP q_473 d_Mo_count_46 ?_
    exact rw_iret X hP hS h d_Mo_count_49
def p_Mo_count (k : Int32 → vS → Prop) (V : vS) (x1 : Int32) : Prop := (x1 = 0 → (k (V.1 34 6) V)) ∧ (¬ x1 = 0 → ((x1 < 1 → (p_Mo_count_b40 k V x1)) ∧ (¬ x1 < 1 → ((4 < x1 → (p_Mo_count_b40 k V x1)) ∧ (¬ 4 < x1 → (((V.1 34 6) < x1 → (p_Mo_count_b39 k V 0)) ∧ (¬ (V.1 34 6) < x1 → (vp_in (x1 - 1) 4 ∧ (p_Mo_count_b39 k V (V.1 38 (nt (x1 - 1))))))))))))
set_option maxRecDepth 100000 in
set_option maxHeartbeats 4000000 in
theorem c_Mo_count {l : Launch} {g : gT} (hG : gd g) {V : vS} {x1 : Int32} {k : Int32 → vS → Prop} (h : p_Mo_count k V x1) : Ci g l y_Mo_count prog_10_method_32_code 2 (some .int) rm_Mo_count [.ref (ga g 34), .int x1] V k := by
  unfold Ci
  refine Met.ofW (cc := prog_10_method_32_code) (maxL := 2) (ret := some .int) (by decide) rfl ?_
  intro p e s m args below meth c s₁ B hml hv
  obtain ⟨rfl, hP, hK, hZ⟩ := hv
  have X : cx g p s m meth c [.ref (ga g 34), .int x1].toArray R_Mo prog_10_method_32_code 2 (some .int) := ⟨B.exec, B.bytes, B.returns, hml, findClass_of_methodNamed B.named, fun w hw => atoms_spec (ws := Cond.code y_Mo_count prog_10_method_32_code 2 (some .int) :: TBL) B.pre w (List.mem_cons_of_mem _ hw), B.notSynchronized, hK, hZ, hG⟩
  have hl := lv_entry [.ref (ga g 34), .int x1] (n := 2) (Nat.le_of_ble_eq_true rfl)
  rw [lg_entry_eq]
  generalize (lg_sl [.ref (ga g 34), .int x1] ++ List.replicate (2 - (lg_sl [.ref (ga g 34), .int x1]).length) Slot.unset).toArray = ls at hl ⊢
  have hl : lv_has ls 2 [(0, .ref (ga g 34)), (1, .int x1)] := hl
  have hS : va_S (gA g) s.heap s.heap [] := va_S.rf
  obtain ⟨hx, hb, -, -, hown, hts, -, -, hz, -⟩ := id X
  show W p l e rm_Mo_count s m _ below meth c s.heap [] 0 0 (MQ below (va_Qi k (Bw g) (gA g)) _ s 0 0 (gA g)) (F0 m 0 ls [])
  unfold p_Mo_count at h
  refine lv_iload_n hx hb d_Mo_count_0 rfl (lv_at hl 1 rfl) ?_
  refine lv_if_ne (tgt := 9) hx hb d_Mo_count_1 (by decide) (fun c1 => ?_) (fun c1 => ?_)
  · have h := h.2 c1
    refine lv_iload_n hx hb d_Mo_count_9 rfl (lv_at hl 1 rfl) ?_
    refine lv_iconst (v := 1) hx hb d_Mo_count_10 (by decide) ?_
    refine lv_icmp_lt (tgt := 40) hx hb d_Mo_count_11 (by decide) (fun c2 => ?_) (fun c2 => ?_)
    · have h := h.1 c2
      exact t_Mo_count_b40 X h hP hS (lv_sub hl [0, 1] rfl)
    · have h := h.2 c2
      refine lv_iload_n hx hb d_Mo_count_14 rfl (lv_at hl 1 rfl) ?_
      refine lv_iconst (v := 4) hx hb d_Mo_count_15 (by decide) ?_
      refine lv_icmp_gt (tgt := 40) hx hb d_Mo_count_16 (by decide) (fun c3 => ?_) (fun c3 => ?_)
      · have h := h.1 c3
        exact t_Mo_count_b40 X h hP hS (lv_sub hl [0, 1] rfl)
      · have h := h.2 c3
        refine lv_iload_n hx hb d_Mo_count_19 rfl (lv_at hl 1 rfl) ?_
        refine lv_aload_n hx hb d_Mo_count_20 rfl (lv_at hl 0 rfl) ?_
        refine gf_Mo_functions X hP q_452 d_Mo_count_21 ?_
        refine lv_icmp_gt (tgt := 38) hx hb d_Mo_count_24 (by decide) (fun c4 => ?_) (fun c4 => ?_)
        · have h := h.1 c4
          refine lv_iconst (v := 0) hx hb d_Mo_count_38 (by decide) ?_
          exact t_Mo_count_b39 X h hP hS (lv_sub hl [] rfl)
        · have h := h.2 c4
          refine lv_aload_n hx hb d_Mo_count_27 rfl (lv_at hl 0 rfl) ?_
          refine gf_Mo_length X hP q_449 d_Mo_count_28 ?_
          refine lv_iload_n hx hb d_Mo_count_31 rfl (lv_at hl 1 rfl) ?_
          refine lv_iconst (v := 1) hx hb d_Mo_count_32 (by decide) ?_
          refine lv_isub hx hb d_Mo_count_33 ?_
          obtain ⟨hi5, h⟩ := h
          refine rw_iald X hP isI_38 hi5 d_Mo_count_34 ?_
          refine lv_goto (tgt := 39) hx hb d_Mo_count_35 (by decide) ?_
          exact t_Mo_count_b39 X h hP hS (lv_sub hl [] rfl)
  · have h := h.1 c1
    refine lv_aload_n hx hb d_Mo_count_4 rfl (lv_at hl 0 rfl) ?_
    refine gf_Mo_functions X hP q_452 d_Mo_count_5 ?_
    exact rw_iret X hP hS h d_Mo_count_8
theorem yv_Mo_count : yV R_Mo y_Mo_count prog_10_method_32_code 2 (some .int) 1 := ⟨by decide +kernel, q_661, q_662, q_7, q_663⟩
end MM
