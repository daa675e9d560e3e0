section MM
variable {p : Program} {l : Launch} {e : Env} {s : State} {m : MethodId} {args : Array Value} {below : List Frame} {meth : Method} {c : Code} {H : Heap} {locs : List Loc}
variable {g : gT} {ls : Array Slot}
/-! PR.within -/
theorem d_PR_within_0 : decode prog_1_method_17_code 0 = .ok (.iload_n 0, 1) := by decide +kernel
theorem d_PR_within_1 : decode prog_1_method_17_code 1 = .ok (.ifCond .lt 12, 3) := by decide +kernel
theorem d_PR_within_4 : decode prog_1_method_17_code 4 = .ok (.iload_n 0, 1) := by decide +kernel
theorem d_PR_within_5 : decode prog_1_method_17_code 5 = .ok (.iload_n 1, 1) := by decide +kernel
theorem d_PR_within_6 : decode prog_1_method_17_code 6 = .ok (.if_icmp .gt 7, 3) := by decide +kernel
theorem d_PR_within_9 : decode prog_1_method_17_code 9 = .ok (.iconst 1, 1) := by decide +kernel
theorem d_PR_within_10 : decode prog_1_method_17_code 10 = .ok (.goto 4, 3) := by decide +kernel
theorem d_PR_within_13 : decode prog_1_method_17_code 13 = .ok (.iconst 0, 1) := by decide +kernel
theorem d_PR_within_14 : decode prog_1_method_17_code 14 = .ok (.ireturn, 1) := by decide +kernel
abbrev rm_PR_within : Room := { frames := 0, cells := 0, slots := 0, locals := 0 }
def p_PR_within_b14 (k : Int32 → vS → Prop) (V : vS) (s0 : Int32) : Prop := (s0 = 0 ∨ s0 = 1) ∧ (k s0 V)
set_option maxRecDepth 100000 in
set_option maxHeartbeats 4000000 in
theorem t_PR_within_b14 {k : Int32 → vS → Prop} (X : cx g p s m meth c args R_PR prog_1_method_17_code 2 (some .boolean)) {V : vS} {s0 : Int32} (h : p_PR_within_b14 k V s0) (hP : va_P g.1 vcl (cw g V) H) (hS : va_S (gA g) s.heap H locs) (hl : lv_has ls 2 []) : W p l e rm_PR_within s m args below meth c H locs 0 0 (MQ below (va_Qi k (Bw g) (gA g)) args s 0 0 (gA g)) (F0 m 14 ls [.int s0]) := by
  obtain ⟨hx, hb, -, -, hown, hts, -, -, hz, hG⟩ := id X
  unfold p_PR_within_b14 at h
  obtain ⟨hb1, h⟩ := h
  exact rw_zret X hP hS hb1 h d_PR_within_14
def p_PR_within_b13 (k : Int32 → vS → Prop) (V : vS) : Prop := p_PR_within_b14 k V 0
set_option maxRecDepth 100000 in
set_option maxHeartbeats 4000000 in
theorem t_PR_within_b13 {k : Int32 → vS → Prop} (X : cx g p s m meth c args R_PR prog_1_method_17_code 2 (some .boolean)) {V : vS} (h : p_PR_within_b13 k V) (hP : va_P g.1 vcl (cw g V) H) (hS : va_S (gA g) s.heap H locs) (hl : lv_has ls 2 []) : W p l e rm_PR_within s m args below meth c H locs 0 0 (MQ below (va_Qi k (Bw g) (gA g)) args s 0 0 (gA g)) (F0 m 13 ls []) := by
  obtain ⟨hx, hb, -, -, hown, hts, -, -, hz, hG⟩ := id X
  unfold p_PR_within_b13 at h
  refine lv_iconst (v := 0) hx hb d_PR_within_13 (by decide) ?_
  exact t_PR_within_b14 X h hP hS (lv_sub hl [] rfl)
def p_PR_within (k : Int32 → vS → Prop) (V : vS) (x0 : Int32) (x1 : Int32) : Prop := (x0 < 0 → (p_PR_within_b13 k V)) ∧ (¬ x0 < 0 → ((x1 < x0 → (p_PR_within_b13 k V)) ∧ (¬ x1 < x0 → (p_PR_within_b14 k V 1))))
set_option maxRecDepth 100000 in
set_option maxHeartbeats 4000000 in
theorem c_PR_within {l : Launch} {g : gT} (hG : gd g) {V : vS} {x0 : Int32} {x1 : Int32} {k : Int32 → vS → Prop} (h : p_PR_within k V x0 x1) : Ci g l y_PR_within prog_1_method_17_code 2 (some .boolean) rm_PR_within [.int x0, .int x1] V k := by
  unfold Ci
  refine Met.ofW (cc := prog_1_method_17_code) (maxL := 2) (ret := some .boolean) (by decide) rfl ?_
  intro p e s m args below meth c s₁ B hml hv
  obtain ⟨rfl, hP, hK, hZ⟩ := hv
  have X : cx g p s m meth c [.int x0, .int x1].toArray R_PR prog_1_method_17_code 2 (some .boolean) := ⟨B.exec, B.bytes, B.returns, hml, findClass_of_methodNamed B.named, fun w hw => atoms_spec (ws := Cond.code y_PR_within prog_1_method_17_code 2 (some .boolean) :: TBL) B.pre w (List.mem_cons_of_mem _ hw), B.notSynchronized, hK, hZ, hG⟩
  have hl := lv_entry [.int x0, .int x1] (n := 2) (Nat.le_of_ble_eq_true rfl)
  rw [lg_entry_eq]
  generalize (lg_sl [.int x0, .int x1] ++ List.replicate (2 - (lg_sl [.int x0, .int x1]).length) Slot.unset).toArray = ls at hl ⊢
  have hl : lv_has ls 2 [(0, .int x0), (1, .int x1)] := hl
  have hS : va_S (gA g) s.heap s.heap [] := va_S.rf
  obtain ⟨hx, hb, -, -, hown, hts, -, -, hz, -⟩ := id X
  show W p l e rm_PR_within s m _ below meth c s.heap [] 0 0 (MQ below (va_Qi k (Bw g) (gA g)) _ s 0 0 (gA g)) (F0 m 0 ls [])
  unfold p_PR_within at h
  refine lv_iload_n hx hb d_PR_within_0 rfl (lv_at hl 0 rfl) ?_
  refine lv_if_lt (tgt := 13) hx hb d_PR_within_1 (by decide) (fun c1 => ?_) (fun c1 => ?_)
  · have h := h.1 c1
    exact t_PR_within_b13 X h hP hS (lv_sub hl [] rfl)
  · have h := h.2 c1
    refine lv_iload_n hx hb d_PR_within_4 rfl (lv_at hl 0 rfl) ?_
    refine lv_iload_n hx hb d_PR_within_5 rfl (lv_at hl 1 rfl) ?_
    refine lv_icmp_gt (tgt := 13) hx hb d_PR_within_6 (by decide) (fun c2 => ?_) (fun c2 => ?_)
    · have h := h.1 c2
      exact t_PR_within_b13 X h hP hS (lv_sub hl [] rfl)
    · have h := h.2 c2
      refine lv_iconst (v := 1) hx hb d_PR_within_9 (by decide) ?_
      refine lv_goto (tgt := 14) hx hb d_PR_within_10 (by decide) ?_
      exact t_PR_within_b14 X h hP hS (lv_sub hl [] rfl)
theorem ys_PR_within : yS y_PR_within prog_1_method_17_code 2 (some .boolean) 2 := ⟨by decide +kernel, q_209, q_1, q_210⟩
/-! Op.opensPart -/
theorem d_Op_opensPart_0 : decode prog_7_method_2_code 0 = .ok (.iload_n 0, 1) := by decide +kernel
theorem d_Op_opensPart_1 : decode prog_7_method_2_code 1 = .ok (.bipush 12, 2) := by decide +kernel
theorem d_Op_opensPart_3 : decode prog_7_method_2_code 3 = .ok (.if_icmp .eq 9, 3) := by decide +kernel
theorem d_Op_opensPart_6 : decode prog_7_method_2_code 6 = .ok (.iload_n 0, 1) := by decide +kernel
theorem d_Op_opensPart_7 : decode prog_7_method_2_code 7 = .ok (.bipush 13, 2) := by decide +kernel
theorem d_Op_opensPart_9 : decode prog_7_method_2_code 9 = .ok (.if_icmp .ne 7, 3) := by decide +kernel
theorem d_Op_opensPart_12 : decode prog_7_method_2_code 12 = .ok (.iconst 1, 1) := by decide +kernel
theorem d_Op_opensPart_13 : decode prog_7_method_2_code 13 = .ok (.goto 4, 3) := by decide +kernel
theorem d_Op_opensPart_16 : decode prog_7_method_2_code 16 = .ok (.iconst 0, 1) := by decide +kernel
theorem d_Op_opensPart_17 : decode prog_7_method_2_code 17 = .ok (.ireturn, 1) := by decide +kernel
abbrev rm_Op_opensPart : Room := { frames := 0, cells := 0, slots := 0, locals := 0 }
def p_Op_opensPart_b17 (k : Int32 → vS → Prop) (V : vS) (s0 : Int32) : Prop := (s0 = 0 ∨ s0 = 1) ∧ (k s0 V)
set_option maxRecDepth 100000 in
set_option maxHeartbeats 4000000 in
theorem t_Op_opensPart_b17 {k : Int32 → vS → Prop} (X : cx g p s m meth c args R_Op prog_7_method_2_code 1 (some .boolean)) {V : vS} {s0 : Int32} (h : p_Op_opensPart_b17 k V s0) (hP : va_P g.1 vcl (cw g V) H) (hS : va_S (gA g) s.heap H locs) (hl : lv_has ls 1 []) : W p l e rm_Op_opensPart s m args below meth c H locs 0 0 (MQ below (va_Qi k (Bw g) (gA g)) args s 0 0 (gA g)) (F0 m 17 ls [.int s0]) := by
  obtain ⟨hx, hb, -, -, hown, hts, -, -, hz, hG⟩ := id X
  unfold p_Op_opensPart_b17 at h
  obtain ⟨hb1, h⟩ := h
  exact rw_zret X hP hS hb1 h d_Op_opensPart_17
def p_Op_opensPart_b12 (k : Int32 → vS → Prop) (V : vS) : Prop := p_Op_opensPart_b17 k V 1
set_option maxRecDepth 100000 in
set_option maxHeartbeats 4000000 in
theorem t_Op_opensPart_b12 {k : Int32 → vS → Prop} (X : cx g p s m meth c args R_Op prog_7_method_2_code 1 (some .boolean)) {V : vS} (h : p_Op_opensPart_b12 k V) (hP : va_P g.1 vcl (cw g V) H) (hS : va_S (gA g) s.heap H locs) (hl : lv_has ls 1 []) : W p l e rm_Op_opensPart s m args below meth c H locs 0 0 (MQ below (va_Qi k (Bw g) (gA g)) args s 0 0 (gA g)) (F0 m 12 ls []) := by
  obtain ⟨hx, hb, -, -, hown, hts, -, -, hz, hG⟩ := id X
  unfold p_Op_opensPart_b12 at h
  refine lv_iconst (v := 1) hx hb d_Op_opensPart_12 (by decide) ?_
  refine lv_goto (tgt := 17) hx hb d_Op_opensPart_13 (by decide) ?_
  exact t_Op_opensPart_b17 X h hP hS (lv_sub hl [] rfl)
def p_Op_opensPart (k : Int32 → vS → Prop) (V : vS) (x0 : Int32) : Prop := (x0 = 12 → (p_Op_opensPart_b12 k V)) ∧ (¬ x0 = 12 → ((x0 = 13 → (p_Op_opensPart_b12 k V)) ∧ (¬ x0 = 13 → (p_Op_opensPart_b17 k V 0))))
set_option maxRecDepth 100000 in
set_option maxHeartbeats 4000000 in
theorem c_Op_opensPart {l : Launch} {g : gT} (hG : gd g) {V : vS} {x0 : Int32} {k : Int32 → vS → Prop} (h : p_Op_opensPart k V x0) : Ci g l y_Op_opensPart prog_7_method_2_code 1 (some .boolean) rm_Op_opensPart [.int x0] V k := by
  unfold Ci
  refine Met.ofW (cc := prog_7_method_2_code) (maxL := 1) (ret := some .boolean) (by decide) rfl ?_
  intro p e s m args below meth c s₁ B hml hv
  obtain ⟨rfl, hP, hK, hZ⟩ := hv
  have X : cx g p s m meth c [.int x0].toArray R_Op prog_7_method_2_code 1 (some .boolean) := ⟨B.exec, B.bytes, B.returns, hml, findClass_of_methodNamed B.named, fun w hw => atoms_spec (ws := Cond.code y_Op_opensPart prog_7_method_2_code 1 (some .boolean) :: TBL) B.pre w (List.mem_cons_of_mem _ hw), B.notSynchronized, hK, hZ, hG⟩
  have hl := lv_entry [.int x0] (n := 1) (Nat.le_of_ble_eq_true rfl)
  rw [lg_entry_eq]
  generalize (lg_sl [.int x0] ++ List.replicate (1 - (lg_sl [.int x0]).length) Slot.unset).toArray = ls at hl ⊢
  have hl : lv_has ls 1 [(0, .int x0)] := hl
  have hS : va_S (gA g) s.heap s.heap [] := va_S.rf
  obtain ⟨hx, hb, -, -, hown, hts, -, -, hz, -⟩ := id X
  show W p l e rm_Op_opensPart s m _ below meth c s.heap [] 0 0 (MQ below (va_Qi k (Bw g) (gA g)) _ s 0 0 (gA g)) (F0 m 0 ls [])
  unfold p_Op_opensPart at h
  refine lv_iload_n hx hb d_Op_opensPart_0 rfl (lv_at hl 0 rfl) ?_
  refine lv_bipush (v := 12) hx hb d_Op_opensPart_1 (by decide) ?_
  refine lv_icmp_eq (tgt := 12) hx hb d_Op_opensPart_3 (by decide) (fun c1 => ?_) (fun c1 => ?_)
  · have h := h.1 c1
    exact t_Op_opensPart_b12 X h hP hS (lv_sub hl [] rfl)
  · have h := h.2 c1
    refine lv_iload_n hx hb d_Op_opensPart_6 rfl (lv_at hl 0 rfl) ?_
    refine lv_bipush (v := 13) hx hb d_Op_opensPart_7 (by decide) ?_
    refine lv_icmp_ne (tgt := 16) hx hb d_Op_opensPart_9 (by decide) (fun c2 => ?_) (fun c2 => ?_)
    · have h := h.2 c2
      refine lv_iconst (v := 0) hx hb d_Op_opensPart_16 (by decide) ?_
      exact t_Op_opensPart_b17 X h hP hS (lv_sub hl [] rfl)
    · have h := h.1 c2
      exact t_Op_opensPart_b12 X h hP hS (lv_sub hl [] rfl)
theorem ys_Op_opensPart : yS y_Op_opensPart prog_7_method_2_code 1 (some .boolean) 1 := ⟨by decide +kernel, q_293, q_8, q_294⟩
/-! Op.neverGoesOn -/
theorem d_Op_neverGoesOn_0 : decode prog_7_method_3_code 0 = .ok (.iload_n 0, 1) := by decide +kernel
theorem d_Op_neverGoesOn_1 : decode prog_7_method_3_code 1 = .ok (.bipush 15, 2) := by decide +kernel
theorem d_Op_neverGoesOn_3 : decode prog_7_method_3_code 3 = .ok (.if_icmp .eq 9, 3) := by decide +kernel
theorem d_Op_neverGoesOn_6 : decode prog_7_method_3_code 6 = .ok (.iload_n 0, 1) := by decide +kernel
theorem d_Op_neverGoesOn_7 : decode prog_7_method_3_code 7 = .ok (.bipush 19, 2) := by decide +kernel
theorem d_Op_neverGoesOn_9 : decode prog_7_method_3_code 9 = .ok (.if_icmp .ne 7, 3) := by decide +kernel
theorem d_Op_neverGoesOn_12 : decode prog_7_method_3_code 12 = .ok (.iconst 1, 1) := by decide +kernel
theorem d_Op_neverGoesOn_13 : decode prog_7_method_3_code 13 = .ok (.goto 4, 3) := by decide +kernel
theorem d_Op_neverGoesOn_16 : decode prog_7_method_3_code 16 = .ok (.iconst 0, 1) := by decide +kernel
theorem d_Op_neverGoesOn_17 : decode prog_7_method_3_code 17 = .ok (.ireturn, 1) := by decide +kernel
abbrev rm_Op_neverGoesOn : Room := { frames := 0, cells := 0, slots := 0, locals := 0 }
def p_Op_neverGoesOn_b17 (k : Int32 → vS → Prop) (V : vS) (s0 : Int32) : Prop := (s0 = 0 ∨ s0 = 1) ∧ (k s0 V)
set_option maxRecDepth 100000 in
set_option maxHeartbeats 4000000 in
theorem t_Op_neverGoesOn_b17 {k : Int32 → vS → Prop} (X : cx g p s m meth c args R_Op prog_7_method_3_code 1 (some .boolean)) {V : vS} {s0 : Int32} (h : p_Op_neverGoesOn_b17 k V s0) (hP : va_P g.1 vcl (cw g V) H) (hS : va_S (gA g) s.heap H locs) (hl : lv_has ls 1 []) : W p l e rm_Op_neverGoesOn s m args below meth c H locs 0 0 (MQ below (va_Qi k (Bw g) (gA g)) args s 0 0 (gA g)) (F0 m 17 ls [.int s0]) := by
  obtain ⟨hx, hb, -, -, hown, hts, -, -, hz, hG⟩ := id X
  unfold p_Op_neverGoesOn_b17 at h
  obtain ⟨hb1, h⟩ := h
  exact rw_zret X hP hS hb1 h d_Op_neverGoesOn_17
def p_Op_neverGoesOn_b12 (k : Int32 → vS → Prop) (V : vS) : Prop := p_Op_neverGoesOn_b17 k V 1
set_option maxRecDepth 100000 in
set_option maxHeartbeats 4000000 in
theorem t_Op_neverGoesOn_b12 {k : Int32 → vS → Prop} (X : cx g p s m meth c args R_Op prog_7_method_3_code 1 (some .boolean)) {V : vS} (h : p_Op_neverGoesOn_b12 k V) (hP : va_P g.1 vcl (cw g V) H) (hS : va_S (gA g) s.heap H locs) (hl : lv_has ls 1 []) : W p l e rm_Op_neverGoesOn s m args below meth c H locs 0 0 (MQ below (va_Qi k (Bw g) (gA g)) args s 0 0 (gA g)) (F0 m 12 ls []) := by
  obtain ⟨hx, hb, -, -, hown, hts, -, -, hz, hG⟩ := id X
  unfold p_Op_neverGoesOn_b12 at h
  refine lv_iconst (v := 1) hx hb d_Op_neverGoesOn_12 (by decide) ?_
  refine lv_goto (tgt := 17) hx hb d_Op_neverGoesOn_13 (by decide) ?_
  exact t_Op_neverGoesOn_b17 X h hP hS (lv_sub hl [] rfl)
def p_Op_neverGoesOn (k : Int32 → vS → Prop) (V : vS) (x0 : Int32) : Prop := (x0 = 15 → (p_Op_neverGoesOn_b12 k V)) ∧ (¬ x0 = 15 → ((x0 = 19 → (p_Op_neverGoesOn_b12 k V)) ∧ (¬ x0 = 19 → (p_Op_neverGoesOn_b17 k V 0))))
set_option maxRecDepth 100000 in
set_option maxHeartbeats 4000000 in
theorem c_Op_neverGoesOn {l : Launch} {g : gT} (hG : gd g) {V : vS} {x0 : Int32} {k : Int32 → vS → Prop} (h : p_Op_neverGoesOn k V x0) : Ci g l y_Op_neverGoesOn prog_7_method_3_code 1 (some .boolean) rm_Op_neverGoesOn [.int x0] V k := by
  unfold Ci
  refine Met.ofW (cc := prog_7_method_3_code) (maxL := 1) (ret := some .boolean) (by decide) rfl ?_
  intro p e s m args below meth c s₁ B hml hv
  obtain ⟨rfl, hP, hK, hZ⟩ := hv
  have X : cx g p s m meth c [.int x0].toArray R_Op prog_7_method_3_code 1 (some .boolean) := ⟨B.exec, B.bytes, B.returns, hml, findClass_of_methodNamed B.named, fun w hw => atoms_spec (ws := Cond.code y_Op_neverGoesOn prog_7_method_3_code 1 (some .boolean) :: TBL) B.pre w (List.mem_cons_of_mem _ hw), B.notSynchronized, hK, hZ, hG⟩
  have hl := lv_entry [.int x0] (n := 1) (Nat.le_of_ble_eq_true rfl)
  rw [lg_entry_eq]
  generalize (lg_sl [.int x0] ++ List.replicate (1 - (lg_sl [.int x0]).length) Slot.unset).toArray = ls at hl ⊢
  have hl : lv_has ls 1 [(0, .int x0)] := hl
  have hS : va_S (gA g) s.heap s.heap [] := va_S.rf
  obtain ⟨hx, hb, -, -, hown, hts, -, -, hz, -⟩ := id X
  show W p l e rm_Op_neverGoesOn s m _ below meth c s.heap [] 0 0 (MQ below (va_Qi k (Bw g) (gA g)) _ s 0 0 (gA g)) (F0 m 0 ls [])
  unfold p_Op_neverGoesOn at h
  refine lv_iload_n hx hb d_Op_neverGoesOn_0 rfl (lv_at hl 0 rfl) ?_
  refine lv_bipush (v := 15) hx hb d_Op_neverGoesOn_1 (by decide) ?_
  refine lv_icmp_eq (tgt := 12) hx hb d_Op_neverGoesOn_3 (by decide) (fun c1 => ?_) (fun c1 => ?_)
  · have h := h.1 c1
    exact t_Op_neverGoesOn_b12 X h hP hS (lv_sub hl [] rfl)
  · have h := h.2 c1
    refine lv_iload_n hx hb d_Op_neverGoesOn_6 rfl (lv_at hl 0 rfl) ?_
    refine lv_bipush (v := 19) hx hb d_Op_neverGoesOn_7 (by decide) ?_
    refine lv_icmp_ne (tgt := 16) hx hb d_Op_neverGoesOn_9 (by decide) (fun c2 => ?_) (fun c2 => ?_)
    · have h := h.2 c2
      refine lv_iconst (v := 0) hx hb d_Op_neverGoesOn_16 (by decide) ?_
      exact t_Op_neverGoesOn_b17 X h hP hS (lv_sub hl [] rfl)
    · have h := h.1 c2
      exact t_Op_neverGoesOn_b12 X h hP hS (lv_sub hl [] rfl)
theorem ys_Op_neverGoesOn : yS y_Op_neverGoesOn prog_7_method_3_code 1 (some .boolean) 1 := ⟨by decide +kernel, q_290, q_8, q_291⟩
/-! Mc.isCell -/
theorem d_Mc_isCell_0 : decode prog_6_method_17_code 0 = .ok (.lload_n 0, 1) := by decide +kernel
theorem d_Mc_isCell_1 : decode prog_6_method_17_code 1 = .ok (.lconst 0, 1) := by decide +kernel
theorem d_Mc_isCell_2 : decode prog_6_method_17_code 2 = .ok (.lcmp, 1) := by decide +kernel
theorem d_Mc_isCell_3 : decode prog_6_method_17_code 3 = .ok (.ifCond .lt 15, 3) := by decide +kernel
theorem d_Mc_isCell_6 : decode prog_6_method_17_code 6 = .ok (.lload_n 0, 1) := by decide +kernel
theorem d_Mc_isCell_7 : decode prog_6_method_17_code 7 = .ok (.ldc2_w 158, 3) := by decide +kernel
theorem d_Mc_isCell_10 : decode prog_6_method_17_code 10 = .ok (.lcmp, 1) := by decide +kernel
theorem d_Mc_isCell_11 : decode prog_6_method_17_code 11 = .ok (.ifCond .ge 7, 3) := by decide +kernel
theorem d_Mc_isCell_14 : decode prog_6_method_17_code 14 = .ok (.iconst 1, 1) := by decide +kernel
theorem d_Mc_isCell_15 : decode prog_6_method_17_code 15 = .ok (.goto 4, 3) := by decide +kernel
theorem d_Mc_isCell_18 : decode prog_6_method_17_code 18 = .ok (.iconst 0, 1) := by decide +kernel
theorem d_Mc_isCell_19 : decode prog_6_method_17_code 19 = .ok (.ireturn, 1) := by decide +kernel
abbrev rm_Mc_isCell : Room := { frames := 0, cells := 0, slots := 0, locals := 0 }
def p_Mc_isCell_b19 (k : Int32 → vS → Prop) (V : vS) (s0 : Int32) : Prop := (s0 = 0 ∨ s0 = 1) ∧ (k s0 V)
set_option maxRecDepth 100000 in
set_option maxHeartbeats 4000000 in
theorem t_Mc_isCell_b19 {k : Int32 → vS → Prop} (X : cx g p s m meth c args R_Mc prog_6_method_17_code 2 (some .boolean)) {V : vS} {s0 : Int32} (h : p_Mc_isCell_b19 k V s0) (hP : va_P g.1 vcl (cw g V) H) (hS : va_S (gA g) s.heap H locs) (hl : lv_has ls 2 []) : W p l e rm_Mc_isCell s m args below meth c H locs 0 0 (MQ below (va_Qi k (Bw g) (gA g)) args s 0 0 (gA g)) (F0 m 19 ls [.int s0]) := by
  obtain ⟨hx, hb, -, -, hown, hts, -, -, hz, hG⟩ := id X
  unfold p_Mc_isCell_b19 at h
  obtain ⟨hb1, h⟩ := h
  exact rw_zret X hP hS hb1 h d_Mc_isCell_19
def p_Mc_isCell_b18 (k : Int32 → vS → Prop) (V : vS) : Prop := p_Mc_isCell_b19 k V 0
set_option maxRecDepth 100000 in
set_option maxHeartbeats 4000000 in
theorem t_Mc_isCell_b18 {k : Int32 → vS → Prop} (X : cx g p s m meth c args R_Mc prog_6_method_17_code 2 (some .boolean)) {V : vS} (h : p_Mc_isCell_b18 k V) (hP : va_P g.1 vcl (cw g V) H) (hS : va_S (gA g) s.heap H locs) (hl : lv_has ls 2 []) : W p l e rm_Mc_isCell s m args below meth c H locs 0 0 (MQ below (va_Qi k (Bw g) (gA g)) args s 0 0 (gA g)) (F0 m 18 ls []) := by
  obtain ⟨hx, hb, -, -, hown, hts, -, -, hz, hG⟩ := id X
  unfold p_Mc_isCell_b18 at h
  refine lv_iconst (v := 0) hx hb d_Mc_isCell_18 (by decide) ?_
  exact t_Mc_isCell_b19 X h hP hS (lv_sub hl [] rfl)
def p_Mc_isCell (k : Int32 → vS → Prop) (V : vS) (x0 : Int64) : Prop := ((lg_cmp x0 0) < 0 → (p_Mc_isCell_b18 k V)) ∧ (¬ (lg_cmp x0 0) < 0 → ((0 ≤ (lg_cmp x0 32) → (p_Mc_isCell_b18 k V)) ∧ (¬ 0 ≤ (lg_cmp x0 32) → (p_Mc_isCell_b19 k V 1))))
set_option maxRecDepth 100000 in
set_option maxHeartbeats 4000000 in
theorem c_Mc_isCell {l : Launch} {g : gT} (hG : gd g) {V : vS} {x0 : Int64} {k : Int32 → vS → Prop} (h : p_Mc_isCell k V x0) : Ci g l y_Mc_isCell prog_6_method_17_code 2 (some .boolean) rm_Mc_isCell [.long x0] V k := by
  unfold Ci
  refine Met.ofW (cc := prog_6_method_17_code) (maxL := 2) (ret := some .boolean) (by decide) rfl ?_
  intro p e s m args below meth c s₁ B hml hv
  obtain ⟨rfl, hP, hK, hZ⟩ := hv
  have X : cx g p s m meth c [.long x0].toArray R_Mc prog_6_method_17_code 2 (some .boolean) := ⟨B.exec, B.bytes, B.returns, hml, findClass_of_methodNamed B.named, fun w hw => atoms_spec (ws := Cond.code y_Mc_isCell prog_6_method_17_code 2 (some .boolean) :: TBL) B.pre w (List.mem_cons_of_mem _ hw), B.notSynchronized, hK, hZ, hG⟩
  have hl := lv_entry [.long x0] (n := 2) (Nat.le_of_ble_eq_true rfl)
  rw [lg_entry_eq]
  generalize (lg_sl [.long x0] ++ List.replicate (2 - (lg_sl [.long x0]).length) Slot.unset).toArray = ls at hl ⊢
  have hl : lv_has ls 2 [(0, .long x0)] := hl
  have hS : va_S (gA g) s.heap s.heap [] := va_S.rf
  obtain ⟨hx, hb, -, -, hown, hts, -, -, hz, -⟩ := id X
  show W p l e rm_Mc_isCell s m _ below meth c s.heap [] 0 0 (MQ below (va_Qi k (Bw g) (gA g)) _ s 0 0 (gA g)) (F0 m 0 ls [])
  unfold p_Mc_isCell at h
  refine lv_lload_n hx hb d_Mc_isCell_0 rfl (lv_at hl 0 rfl) ?_
  refine lv_lconst (v := 0) hx hb d_Mc_isCell_1 (by decide) ?_
  refine W.lcmp hx hb d_Mc_isCell_2 ?_
  refine lv_if_lt (tgt := 18) hx hb d_Mc_isCell_3 (by decide) (fun c1 => ?_) (fun c1 => ?_)
  · have h := h.1 c1
    exact t_Mc_isCell_b18 X h hP hS (lv_sub hl [] rfl)
  · have h := h.2 c1
    refine lv_lload_n hx hb d_Mc_isCell_6 rfl (lv_at hl 0 rfl) ?_
    refine lv_ldc2 (v := 32) hx hb hown (hts _ q_368) d_Mc_isCell_7 ?_
    refine W.lcmp hx hb d_Mc_isCell_10 ?_
    refine lv_if_ge (tgt := 18) hx hb d_Mc_isCell_11 (by decide) (fun c2 => ?_) (fun c2 => ?_)
    · have h := h.1 c2
      exact t_Mc_isCell_b18 X h hP hS (lv_sub hl [] rfl)
    · have h := h.2 c2
      refine lv_iconst (v := 1) hx hb d_Mc_isCell_14 (by decide) ?_
      refine lv_goto (tgt := 19) hx hb d_Mc_isCell_15 (by decide) ?_
      exact t_Mc_isCell_b19 X h hP hS (lv_sub hl [] rfl)
theorem ys_Mc_isCell : yS y_Mc_isCell prog_6_method_17_code 2 (some .boolean) 1 := ⟨by decide +kernel, q_366, q_5, q_367⟩
/-! Mc.isUnderWay -/
theorem d_Mc_isUnderWay_0 : decode prog_6_method_2_code 0 = .ok (.aload_n 0, 1) := by decide +kernel
theorem d_Mc_isUnderWay_1 : decode prog_6_method_2_code 1 = .ok (.getfield 28, 3) := by decide +kernel
theorem d_Mc_isUnderWay_4 : decode prog_6_method_2_code 4 = .ok (.ifCond .le 7, 3) := by decide +kernel
theorem d_Mc_isUnderWay_7 : decode prog_6_method_2_code 7 = .ok (.iconst 1, 1) := by decide +kernel
theorem d_Mc_isUnderWay_8 : decode prog_6_method_2_code 8 = .ok (.goto 4, 3) := by decide +kernel
theorem d_Mc_isUnderWay_11 : decode prog_6_method_2_code 11 = .ok (.iconst 0, 1) := by decide +kernel
theorem d_Mc_isUnderWay_12 : decode prog_6_method_2_code 12 = .ok (.ireturn, 1) := by decide +kernel
abbrev rm_Mc_isUnderWay : Room := { frames := 0, cells := 0, slots := 0, locals := 0 }
def p_Mc_isUnderWay_b12 (k : Int32 → vS → Prop) (V : vS) (s0 : Int32) : Prop := (s0 = 0 ∨ s0 = 1) ∧ (k s0 V)
set_option maxRecDepth 100000 in
set_option maxHeartbeats 4000000 in
theorem t_Mc_isUnderWay_b12 {k : Int32 → vS → Prop} (X : cx g p s m meth c args R_Mc prog_6_method_2_code 1 (some .boolean)) {V : vS} {s0 : Int32} (h : p_Mc_isUnderWay_b12 k V s0) (hP : va_P g.1 vcl (cw g V) H) (hS : va_S (gA g) s.heap H locs) (hl : lv_has ls 1 []) : W p l e rm_Mc_isUnderWay s m args below meth c H locs 0 0 (MQ below (va_Qi k (Bw g) (gA g)) args s 0 0 (gA g)) (F0 m 12 ls [.int s0]) := by
  obtain ⟨hx, hb, -, -, hown, hts, -, -, hz, hG⟩ := id X
  unfold p_Mc_isUnderWay_b12 at h
  obtain ⟨hb1, h⟩ := h
  exact rw_zret X hP hS hb1 h d_Mc_isUnderWay_12
def p_Mc_isUnderWay (k : Int32 → vS → Prop) (V : vS) : Prop := ((V.1 17 5) ≤ 0 → (p_Mc_isUnderWay_b12 k V 0)) ∧ (¬ (V.1 17 5) ≤ 0 → (p_Mc_isUnderWay_b12 k V 1))
set_option maxRecDepth 100000 in
set_option maxHeartbeats 4000000 in
theorem c_Mc_isUnderWay {l : Launch} {g : gT} (hG : gd g) {V : vS} {k : Int32 → vS → Prop} (h : p_Mc_isUnderWay k V) : Ci g l y_Mc_isUnderWay prog_6_method_2_code 1 (some .boolean) rm_Mc_isUnderWay [.ref (ga g 17)] V k := by
  unfold Ci
  refine Met.ofW (cc := prog_6_method_2_code) (maxL := 1) (ret := some .boolean) (by decide) rfl ?_
  intro p e s m args below meth c s₁ B hml hv
  obtain ⟨rfl, hP, hK, hZ⟩ := hv
  have X : cx g p s m meth c [.ref (ga g 17)].toArray R_Mc prog_6_method_2_code 1 (some .boolean) := ⟨B.exec, B.bytes, B.returns, hml, findClass_of_methodNamed B.named, fun w hw => atoms_spec (ws := Cond.code y_Mc_isUnderWay prog_6_method_2_code 1 (some .boolean) :: TBL) B.pre w (List.mem_cons_of_mem _ hw), B.notSynchronized, hK, hZ, hG⟩
  have hl := lv_entry [.ref (ga g 17)] (n := 1) (Nat.le_of_ble_eq_true rfl)
  rw [lg_entry_eq]
  generalize (lg_sl [.ref (ga g 17)] ++ List.replicate (1 - (lg_sl [.ref (ga g 17)]).length) Slot.unset).toArray = ls at hl ⊢
  have hl : lv_has ls 1 [(0, .ref (ga g 17))] := hl
  have hS : va_S (gA g) s.heap s.heap [] := va_S.rf
  obtain ⟨hx, hb, -, -, hown, hts, -, -, hz, -⟩ := id X
  show W p l e rm_Mc_isUnderWay s m _ below meth c s.heap [] 0 0 (MQ below (va_Qi k (Bw g) (gA g)) _ s 0 0 (gA g)) (F0 m 0 ls [])
  unfold p_Mc_isUnderWay at h
  refine lv_aload_n hx hb d_Mc_isUnderWay_0 rfl (lv_at hl 0 rfl) ?_
  refine gf_Mc_depth X hP q_148 d_Mc_isUnderWay_1 ?_
  refine lv_if_le (tgt := 11) hx hb d_Mc_isUnderWay_4 (by decide) (fun c1 => ?_) (fun c1 => ?_)
  · have h := h.1 c1
    refine lv_iconst (v := 0) hx hb d_Mc_isUnderWay_11 (by decide) ?_
    exact t_Mc_isUnderWay_b12 X h hP hS (lv_sub hl [] rfl)
  · have h := h.2 c1
    refine lv_iconst (v := 1) hx hb d_Mc_isUnderWay_7 (by decide) ?_
    refine lv_goto (tgt := 12) hx hb d_Mc_isUnderWay_8 (by decide) ?_
    exact t_Mc_isUnderWay_b12 X h hP hS (lv_sub hl [] rfl)
theorem yv_Mc_isUnderWay : yV R_Mc y_Mc_isUnderWay prog_6_method_2_code 1 (some .boolean) 0 := ⟨by decide +kernel, q_325, q_326, q_5, q_327⟩
/-! Mc.isWaiting -/
theorem d_Mc_isWaiting_0 : decode prog_6_method_3_code 0 = .ok (.aload_n 0, 1) := by decide +kernel
theorem d_Mc_isWaiting_1 : decode prog_6_method_3_code 1 = .ok (.getfield 35, 3) := by decide +kernel
theorem d_Mc_isWaiting_4 : decode prog_6_method_3_code 4 = .ok (.iconst (-1), 1) := by decide +kernel
theorem d_Mc_isWaiting_5 : decode prog_6_method_3_code 5 = .ok (.if_icmp .eq 7, 3) := by decide +kernel
theorem d_Mc_isWaiting_8 : decode prog_6_method_3_code 8 = .ok (.iconst 1, 1) := by decide +kernel
theorem d_Mc_isWaiting_9 : decode prog_6_method_3_code 9 = .ok (.goto 4, 3) := by decide +kernel
theorem d_Mc_isWaiting_12 : decode prog_6_method_3_code 12 = .ok (.iconst 0, 1) := by decide +kernel
theorem d_Mc_isWaiting_13 : decode prog_6_method_3_code 13 = .ok (.ireturn, 1) := by decide +kernel
abbrev rm_Mc_isWaiting : Room := { frames := 0, cells := 0, slots := 0, locals := 0 }
def p_Mc_isWaiting_b13 (k : Int32 → vS → Prop) (V : vS) (s0 : Int32) : Prop := (s0 = 0 ∨ s0 = 1) ∧ (k s0 V)
set_option maxRecDepth 100000 in
set_option maxHeartbeats 4000000 in
theorem t_Mc_isWaiting_b13 {k : Int32 → vS → Prop} (X : cx g p s m meth c args R_Mc prog_6_method_3_code 1 (some .boolean)) {V : vS} {s0 : Int32} (h : p_Mc_isWaiting_b13 k V s0) (hP : va_P g.1 vcl (cw g V) H) (hS : va_S (gA g) s.heap H locs) (hl : lv_has ls 1 []) : W p l e rm_Mc_isWaiting s m args below meth c H locs 0 0 (MQ below (va_Qi k (Bw g) (gA g)) args s 0 0 (gA g)) (F0 m 13 ls [.int s0]) := by
  obtain ⟨hx, hb, -, -, hown, hts, -, -, hz, hG⟩ := id X
  unfold p_Mc_isWaiting_b13 at h
  obtain ⟨hb1, h⟩ := h
  exact rw_zret X hP hS hb1 h d_Mc_isWaiting_13
def p_Mc_isWaiting (k : Int32 → vS → Prop) (V : vS) : Prop := ((V.1 17 7) = (-1) → (p_Mc_isWaiting_b13 k V 0)) ∧ (¬ (V.1 17 7) = (-1) → (p_Mc_isWaiting_b13 k V 1))
set_option maxRecDepth 100000 in
set_option maxHeartbeats 4000000 in
theorem c_Mc_isWaiting {l : Launch} {g : gT} (hG : gd g) {V : vS} {k : Int32 → vS → Prop} (h : p_Mc_isWaiting k V) : Ci g l y_Mc_isWaiting prog_6_method_3_code 1 (some .boolean) rm_Mc_isWaiting [.ref (ga g 17)] V k := by
  unfold Ci
  refine Met.ofW (cc := prog_6_method_3_code) (maxL := 1) (ret := some .boolean) (by decide) rfl ?_
  intro p e s m args below meth c s₁ B hml hv
  obtain ⟨rfl, hP, hK, hZ⟩ := hv
  have X : cx g p s m meth c [.ref (ga g 17)].toArray R_Mc prog_6_method_3_code 1 (some .boolean) := ⟨B.exec, B.bytes, B.returns, hml, findClass_of_methodNamed B.named, fun w hw => atoms_spec (ws := Cond.code y_Mc_isWaiting prog_6_method_3_code 1 (some .boolean) :: TBL) B.pre w (List.mem_cons_of_mem _ hw), B.notSynchronized, hK, hZ, hG⟩
  have hl := lv_entry [.ref (ga g 17)] (n := 1) (Nat.le_of_ble_eq_true rfl)
  rw [lg_entry_eq]
  generalize (lg_sl [.ref (ga g 17)] ++ List.replicate (1 - (lg_sl [.ref (ga g 17)]).length) Slot.unset).toArray = ls at hl ⊢
  have hl : lv_has ls 1 [(0, .ref (ga g 17))] := hl
  have hS : va_S (gA g) s.heap s.heap [] := va_S.rf
  obtain ⟨hx, hb, -, -, hown, hts, -, -, hz, -⟩ := id X
  show W p l e rm_Mc_isWaiting s m _ below meth c s.heap [] 0 0 (MQ below (va_Qi k (Bw g) (gA g)) _ s 0 0 (gA g)) (F0 m 0 ls [])
  unfold p_Mc_isWaiting at h
  refine lv_aload_n hx hb d_Mc_isWaiting_0 rfl (lv_at hl 0 rfl) ?_
  refine gf_Mc_waitsFor X hP q_152 d_Mc_isWaiting_1 ?_
  refine lv_iconst (v := (-1)) hx hb d_Mc_isWaiting_4 (by decide) ?_
  refine lv_icmp_eq (tgt := 12) hx hb d_Mc_isWaiting_5 (by decide) (fun c1 => ?_) (fun c1 => ?_)
  · have h := h.1 c1
    refine lv_iconst (v := 0) hx hb d_Mc_isWaiting_12 (by decide) ?_
    exact t_Mc_isWaiting_b13 X h hP hS (lv_sub hl [] rfl)
  · have h := h.2 c1
    refine lv_iconst (v := 1) hx hb d_Mc_isWaiting_8 (by decide) ?_
    refine lv_goto (tgt := 13) hx hb d_Mc_isWaiting_9 (by decide) ?_
    exact t_Mc_isWaiting_b13 X h hP hS (lv_sub hl [] rfl)
theorem yv_Mc_isWaiting : yV R_Mc y_Mc_isWaiting prog_6_method_3_code 1 (some .boolean) 0 := ⟨by decide +kernel, q_329, q_330, q_5, q_331⟩
/-! Mc.innermost -/
theorem d_Mc_innermost_0 : decode prog_6_method_4_code 0 = .ok (.aload_n 0, 1) := by decide +kernel
theorem d_Mc_innermost_1 : decode prog_6_method_4_code 1 = .ok (.getfield 11, 3) := by decide +kernel
theorem d_Mc_innermost_4 : decode prog_6_method_4_code 4 = .ok (.aload_n 0, 1) := by decide +kernel
theorem d_Mc_innermost_5 : decode prog_6_method_4_code 5 = .ok (.getfield 28, 3) := by decide +kernel
theorem d_Mc_innermost_8 : decode prog_6_method_4_code 8 = .ok (.iconst 1, 1) := by decide +kernel
theorem d_Mc_innermost_9 : decode prog_6_method_4_code 9 = .ok (.isub, 1) := by decide +kernel
theorem d_Mc_innermost_10 : decode prog_6_method_4_code 10 = .ok (.aaload, 1) := by decide +kernel
theorem d_Mc_innermost_11 : decode prog_6_method_4_code 11 = .ok (.areturn, 1) := by decide +kernel
abbrev rm_Mc_innermost : Room := { frames := 0, cells := 0, slots := 0, locals := 0 }
def p_Mc_innermost (k : Nat → vS → Prop) (V : vS) : Prop := vp_in ((V.1 17 5) - 1) 6 ∧ (k (19 + nt ((V.1 17 5) - 1)) V)
set_option maxRecDepth 100000 in
set_option maxHeartbeats 4000000 in
theorem c_Mc_innermost {l : Launch} {g : gT} (hG : gd g) {V : vS} {k : Nat → vS → Prop} (h : p_Mc_innermost k V) : Cr g l y_Mc_innermost prog_6_method_4_code 1 (some (.object R_Fr)) rm_Mc_innermost [.ref (ga g 17)] V k := by
  unfold Cr
  refine Met.ofW (cc := prog_6_method_4_code) (maxL := 1) (ret := some (.object R_Fr)) (by decide) rfl ?_
  intro p e s m args below meth c s₁ B hml hv
  obtain ⟨rfl, hP, hK, hZ⟩ := hv
  have X : cx g p s m meth c [.ref (ga g 17)].toArray R_Mc prog_6_method_4_code 1 (some (.object R_Fr)) := ⟨B.exec, B.bytes, B.returns, hml, findClass_of_methodNamed B.named, fun w hw => atoms_spec (ws := Cond.code y_Mc_innermost prog_6_method_4_code 1 (some (.object R_Fr)) :: TBL) B.pre w (List.mem_cons_of_mem _ hw), B.notSynchronized, hK, hZ, hG⟩
  have hl := lv_entry [.ref (ga g 17)] (n := 1) (Nat.le_of_ble_eq_true rfl)
  rw [lg_entry_eq]
  generalize (lg_sl [.ref (ga g 17)] ++ List.replicate (1 - (lg_sl [.ref (ga g 17)]).length) Slot.unset).toArray = ls at hl ⊢
  have hl : lv_has ls 1 [(0, .ref (ga g 17))] := hl
  have hS : va_S (gA g) s.heap s.heap [] := va_S.rf
  obtain ⟨hx, hb, -, -, hown, hts, -, -, hz, -⟩ := id X
  show W p l e rm_Mc_innermost s m _ below meth c s.heap [] 0 0 (MQ below (va_Qr (S := Nat × vS) (fun u => (19 ≤ u.1 ∧ u.1 < 25) ∧ k u.1 u.2) (fun u a t => a = ga g u.1 ∧ Bw g u.2 t) (gA g)) _ s 0 0 (gA g)) (F0 m 0 ls [])
  unfold p_Mc_innermost at h
  refine lv_aload_n hx hb d_Mc_innermost_0 rfl (lv_at hl 0 rfl) ?_
  refine gf_Mc_frames X hP q_142 d_Mc_innermost_1 ?_
  refine lv_aload_n hx hb d_Mc_innermost_4 rfl (lv_at hl 0 rfl) ?_
  refine gf_Mc_depth X hP q_148 d_Mc_innermost_5 ?_
  refine lv_iconst (v := 1) hx hb d_Mc_innermost_8 (by decide) ?_
  refine lv_isub hx hb d_Mc_innermost_9 ?_
  obtain ⟨hi1, h⟩ := h
  refine rw_aaldR X hP hi1 d_Mc_innermost_10 ?_
  exact rw_aret X hP hS (fr_of hi1) h d_Mc_innermost_11
theorem yv_Mc_innermost : yV R_Mc y_Mc_innermost prog_6_method_4_code 1 (some (.object R_Fr)) 0 := ⟨by decide +kernel, q_341, q_342, q_5, q_343⟩
/-! Mc.stopWaiting -/
theorem d_Mc_stopWaiting_0 : decode prog_6_method_23_code 0 = .ok (.aload_n 0, 1) := by decide +kernel
theorem d_Mc_stopWaiting_1 : decode prog_6_method_23_code 1 = .ok (.iconst (-1), 1) := by decide +kernel
theorem d_Mc_stopWaiting_2 : decode prog_6_method_23_code 2 = .ok (.putfield 35, 3) := by decide +kernel
theorem d_Mc_stopWaiting_5 : decode prog_6_method_23_code 5 = .ok (.aload_n 0, 1) := by decide +kernel
theorem d_Mc_stopWaiting_6 : decode prog_6_method_23_code 6 = .ok (.iconst 0, 1) := by decide +kernel
theorem d_Mc_stopWaiting_7 : decode prog_6_method_23_code 7 = .ok (.putfield 38, 3) := by decide +kernel
theorem d_Mc_stopWaiting_10 : decode prog_6_method_23_code 10 = .ok (.return_, 1) := by decide +kernel
abbrev rm_Mc_stopWaiting : Room := { frames := 0, cells := 0, slots := 0, locals := 0 }
def p_Mc_stopWaiting (k : vS → Prop) (V : vS) : Prop := ∀ V1 : vS, V1 = sv V 17 7 (-1) → (∀ V2 : vS, V2 = sv V1 17 8 0 → (k V2))
set_option maxRecDepth 100000 in
set_option maxHeartbeats 4000000 in
theorem c_Mc_stopWaiting {l : Launch} {g : gT} (hG : gd g) {V : vS} {k : vS → Prop} (h : p_Mc_stopWaiting k V) : Cv g l y_Mc_stopWaiting prog_6_method_23_code 1 (none) rm_Mc_stopWaiting [.ref (ga g 17)] V k := by
  unfold Cv
  refine Met.ofW (cc := prog_6_method_23_code) (maxL := 1) (ret := none) (by decide) rfl ?_
  intro p e s m args below meth c s₁ B hml hv
  obtain ⟨rfl, hP, hK, hZ⟩ := hv
  have X : cx g p s m meth c [.ref (ga g 17)].toArray R_Mc prog_6_method_23_code 1 (none) := ⟨B.exec, B.bytes, B.returns, hml, findClass_of_methodNamed B.named, fun w hw => atoms_spec (ws := Cond.code y_Mc_stopWaiting prog_6_method_23_code 1 (none) :: TBL) B.pre w (List.mem_cons_of_mem _ hw), B.notSynchronized, hK, hZ, hG⟩
  have hl := lv_entry [.ref (ga g 17)] (n := 1) (Nat.le_of_ble_eq_true rfl)
  rw [lg_entry_eq]
  generalize (lg_sl [.ref (ga g 17)] ++ List.replicate (1 - (lg_sl [.ref (ga g 17)]).length) Slot.unset).toArray = ls at hl ⊢
  have hl : lv_has ls 1 [(0, .ref (ga g 17))] := hl
  have hS : va_S (gA g) s.heap s.heap [] := va_S.rf
  obtain ⟨hx, hb, -, -, hown, hts, -, -, hz, -⟩ := id X
  show W p l e rm_Mc_stopWaiting s m _ below meth c s.heap [] 0 0 (MQ below (va_Qv k (Bw g) (gA g)) _ s 0 0 (gA g)) (F0 m 0 ls [])
  unfold p_Mc_stopWaiting at h
  refine lv_aload_n hx hb d_Mc_stopWaiting_0 rfl (lv_at hl 0 rfl) ?_
  refine lv_iconst (v := (-1)) hx hb d_Mc_stopWaiting_1 (by decide) ?_
  refine pf_Mc_waitsFor X hP hS q_152 d_Mc_stopWaiting_2 (fun V1 H locs eV1 hP hS => ?_)
  have h := h V1 eV1
  refine lv_aload_n hx hb d_Mc_stopWaiting_5 rfl (lv_at hl 0 rfl) ?_
  refine lv_iconst (v := 0) hx hb d_Mc_stopWaiting_6 (by decide) ?_
  refine pf_Mc_asked X hP hS q_154 d_Mc_stopWaiting_7 (fun V2 H locs eV2 hP hS => ?_)
  have h := h V2 eV2
  exact rw_vret X hP hS h d_Mc_stopWaiting_10
theorem yv_Mc_stopWaiting : yV R_Mc y_Mc_stopWaiting prog_6_method_23_code 1 (none) 0 := ⟨by decide +kernel, q_221, qp_1, q_5, q_222⟩
/-! Mc.dropRun -/
theorem d_Mc_dropRun_0 : decode prog_6_method_5_code 0 = .ok (.aload_n 0, 1) := by decide +kernel
theorem d_Mc_dropRun_1 : decode prog_6_method_5_code 1 = .ok (.iconst 0, 1) := by decide +kernel
theorem d_Mc_dropRun_2 : decode prog_6_method_5_code 2 = .ok (.putfield 28, 3) := by decide +kernel
theorem d_Mc_dropRun_5 : decode prog_6_method_5_code 5 = .ok (.aload_n 0, 1) := by decide +kernel
theorem d_Mc_dropRun_6 : decode prog_6_method_5_code 6 = .ok (.iconst 0, 1) := by decide +kernel
theorem d_Mc_dropRun_7 : decode prog_6_method_5_code 7 = .ok (.putfield 32, 3) := by decide +kernel
theorem d_Mc_dropRun_10 : decode prog_6_method_5_code 10 = .ok (.aload_n 0, 1) := by decide +kernel
theorem d_Mc_dropRun_11 : decode prog_6_method_5_code 11 = .ok (.invokevirtual 61, 3) := by decide +kernel
theorem d_Mc_dropRun_14 : decode prog_6_method_5_code 14 = .ok (.return_, 1) := by decide +kernel
abbrev rm_Mc_dropRun : Room := { frames := 1, cells := 0, slots := 0, locals := 20 }
def p_Mc_dropRun (k : vS → Prop) (V : vS) : Prop := ∀ V1 : vS, V1 = sv V 17 5 0 → (∀ V2 : vS, V2 = sv V1 17 6 0 → (p_Mc_stopWaiting (fun V3 => k V3) V2))
set_option maxRecDepth 100000 in
set_option maxHeartbeats 4000000 in
theorem c_Mc_dropRun {l : Launch} {g : gT} (hG : gd g) {V : vS} {k : vS → Prop} (h : p_Mc_dropRun k V) : Cv g l y_Mc_dropRun prog_6_method_5_code 1 (none) rm_Mc_dropRun [.ref (ga g 17)] V k := by
  unfold Cv
  refine Met.ofW (cc := prog_6_method_5_code) (maxL := 1) (ret := none) (by decide) rfl ?_
  intro p e s m args below meth c s₁ B hml hv
  obtain ⟨rfl, hP, hK, hZ⟩ := hv
  have X : cx g p s m meth c [.ref (ga g 17)].toArray R_Mc prog_6_method_5_code 1 (none) := ⟨B.exec, B.bytes, B.returns, hml, findClass_of_methodNamed B.named, fun w hw => atoms_spec (ws := Cond.code y_Mc_dropRun prog_6_method_5_code 1 (none) :: TBL) B.pre w (List.mem_cons_of_mem _ hw), B.notSynchronized, hK, hZ, hG⟩
  have hl := lv_entry [.ref (ga g 17)] (n := 1) (Nat.le_of_ble_eq_true rfl)
  rw [lg_entry_eq]
  generalize (lg_sl [.ref (ga g 17)] ++ List.replicate (1 - (lg_sl [.ref (ga g 17)]).length) Slot.unset).toArray = ls at hl ⊢
  have hl : lv_has ls 1 [(0, .ref (ga g 17))] := hl
  have hS : va_S (gA g) s.heap s.heap [] := va_S.rf
  obtain ⟨hx, hb, -, -, hown, hts, -, -, hz, -⟩ := id X
  show W p l e rm_Mc_dropRun s m _ below meth c s.heap [] 0 0 (MQ below (va_Qv k (Bw g) (gA g)) _ s 0 0 (gA g)) (F0 m 0 ls [])
  unfold p_Mc_dropRun at h
  refine lv_aload_n hx hb d_Mc_dropRun_0 rfl (lv_at hl 0 rfl) ?_
  refine lv_iconst (v := 0) hx hb d_Mc_dropRun_1 (by decide) ?_
  refine pf_Mc_depth X hP hS q_148 d_Mc_dropRun_2 (fun V1 H locs eV1 hP hS => ?_)
  have h := h V1 eV1
  refine lv_aload_n hx hb d_Mc_dropRun_5 rfl (lv_at hl 0 rfl) ?_
  refine lv_iconst (v := 0) hx hb d_Mc_dropRun_6 (by decide) ?_
  refine pf_Mc_values X hP hS q_150 d_Mc_dropRun_7 (fun V2 H locs eV2 hP hS => ?_)
  have h := h V2 eV2
  refine lv_aload_n hx hb d_Mc_dropRun_10 rfl (lv_at hl 0 rfl) ?_
  refine rw_cVv (rest := []) X hP hS yv_Mc_stopWaiting isO_Mc (c_Mc_stopWaiting hG h) q_219 ⟨rfl, rfl, by decide, by decide⟩ rfl rfl hl.1 (Nat.le_of_ble_eq_true rfl) ⟨Nat.zero_le _, Nat.zero_le _⟩ d_Mc_dropRun_11 (fun V3 H locs h hP hS => ?_)
  exact rw_vret X hP hS h d_Mc_dropRun_14
theorem yv_Mc_dropRun : yV R_Mc y_Mc_dropRun prog_6_method_5_code 1 (none) 0 := ⟨by decide +kernel, q_216, q_217, q_5, q_218⟩
/-! Mc.endTrapped -/
theorem d_Mc_endTrapped_0 : decode prog_6_method_11_code 0 = .ok (.aload_n 0, 1) := by decide +kernel
theorem d_Mc_endTrapped_1 : decode prog_6_method_11_code 1 = .ok (.dup, 1) := by decide +kernel
theorem d_Mc_endTrapped_2 : decode prog_6_method_11_code 2 = .ok (.getfield 47, 3) := by decide +kernel
theorem d_Mc_endTrapped_5 : decode prog_6_method_11_code 5 = .ok (.iconst 1, 1) := by decide +kernel
theorem d_Mc_endTrapped_6 : decode prog_6_method_11_code 6 = .ok (.iadd, 1) := by decide +kernel
theorem d_Mc_endTrapped_7 : decode prog_6_method_11_code 7 = .ok (.putfield 47, 3) := by decide +kernel
theorem d_Mc_endTrapped_10 : decode prog_6_method_11_code 10 = .ok (.aload_n 0, 1) := by decide +kernel
theorem d_Mc_endTrapped_11 : decode prog_6_method_11_code 11 = .ok (.invokevirtual 64, 3) := by decide +kernel
theorem d_Mc_endTrapped_14 : decode prog_6_method_11_code 14 = .ok (.return_, 1) := by decide +kernel
abbrev rm_Mc_endTrapped : Room := { frames := 2, cells := 0, slots := 0, locals := 40 }
def p_Mc_endTrapped (k : vS → Prop) (V : vS) : Prop := ∀ V1 : vS, V1 = sv V 17 11 ((V.1 17 11) + 1) → (p_Mc_dropRun (fun V2 => k V2) V1)
set_option maxRecDepth 100000 in
set_option maxHeartbeats 4000000 in
theorem c_Mc_endTrapped {l : Launch} {g : gT} (hG : gd g) {V : vS} {k : vS → Prop} (h : p_Mc_endTrapped k V) : Cv g l y_Mc_endTrapped prog_6_method_11_code 1 (none) rm_Mc_endTrapped [.ref (ga g 17)] V k := by
  unfold Cv
  refine Met.ofW (cc := prog_6_method_11_code) (maxL := 1) (ret := none) (by decide) rfl ?_
  intro p e s m args below meth c s₁ B hml hv
  obtain ⟨rfl, hP, hK, hZ⟩ := hv
  have X : cx g p s m meth c [.ref (ga g 17)].toArray R_Mc prog_6_method_11_code 1 (none) := ⟨B.exec, B.bytes, B.returns, hml, findClass_of_methodNamed B.named, fun w hw => atoms_spec (ws := Cond.code y_Mc_endTrapped prog_6_method_11_code 1 (none) :: TBL) B.pre w (List.mem_cons_of_mem _ hw), B.notSynchronized, hK, hZ, hG⟩
  have hl := lv_entry [.ref (ga g 17)] (n := 1) (Nat.le_of_ble_eq_true rfl)
  rw [lg_entry_eq]
  generalize (lg_sl [.ref (ga g 17)] ++ List.replicate (1 - (lg_sl [.ref (ga g 17)]).length) Slot.unset).toArray = ls at hl ⊢
  have hl : lv_has ls 1 [(0, .ref (ga g 17))] := hl
  have hS : va_S (gA g) s.heap s.heap [] := va_S.rf
  obtain ⟨hx, hb, -, -, hown, hts, -, -, hz, -⟩ := id X
  show W p l e rm_Mc_endTrapped s m _ below meth c s.heap [] 0 0 (MQ below (va_Qv k (Bw g) (gA g)) _ s 0 0 (gA g)) (F0 m 0 ls [])
  unfold p_Mc_endTrapped at h
  refine lv_aload_n hx hb d_Mc_endTrapped_0 rfl (lv_at hl 0 rfl) ?_
  refine lv_dup hx hb d_Mc_endTrapped_1 rfl ?_
  refine gf_Mc_runsTrapped X hP q_160 d_Mc_endTrapped_2 ?_
  refine lv_iconst (v := 1) hx hb d_Mc_endTrapped_5 (by decide) ?_
  refine lv_iadd hx hb d_Mc_endTrapped_6 ?_
  refine pf_Mc_runsTrapped X hP hS q_160 d_Mc_endTrapped_7 (fun V1 H locs eV1 hP hS => ?_)
  have h := h V1 eV1
  refine lv_aload_n hx hb d_Mc_endTrapped_10 rfl (lv_at hl 0 rfl) ?_
  refine rw_cVv (rest := []) X hP hS yv_Mc_dropRun isO_Mc (c_Mc_dropRun hG h) q_311 ⟨rfl, rfl, by decide, by decide⟩ rfl rfl hl.1 (Nat.le_of_ble_eq_true rfl) ⟨Nat.zero_le _, Nat.zero_le _⟩ d_Mc_endTrapped_11 (fun V2 H locs h hP hS => ?_)
  exact rw_vret X hP hS h d_Mc_endTrapped_14
theorem yv_Mc_endTrapped : yV R_Mc y_Mc_endTrapped prog_6_method_11_code 1 (none) 0 := ⟨by decide +kernel, q_404, qp_23, q_5, q_405⟩
/-! Mc.put -/
theorem d_Mc_put_0 : decode prog_6_method_21_code 0 = .ok (.aload_n 0, 1) := by decide +kernel
theorem d_Mc_put_1 : decode prog_6_method_21_code 1 = .ok (.getfield 32, 3) := by decide +kernel
theorem d_Mc_put_4 : decode prog_6_method_21_code 4 = .ok (.bipush 40, 2) := by decide +kernel
theorem d_Mc_put_6 : decode prog_6_method_21_code 6 = .ok (.if_icmp .ne 6, 3) := by decide +kernel
theorem d_Mc_put_9 : decode prog_6_method_21_code 9 = .ok (.bipush 13, 2) := by decide +kernel
theorem d_Mc_put_11 : decode prog_6_method_21_code 11 = .ok (.ireturn, 1) := by decide +kernel
theorem d_Mc_put_12 : decode prog_6_method_21_code 12 = .ok (.aload_n 0, 1) := by decide +kernel
theorem d_Mc_put_13 : decode prog_6_method_21_code 13 = .ok (.getfield 17, 3) := by decide +kernel
theorem d_Mc_put_16 : decode prog_6_method_21_code 16 = .ok (.aload_n 0, 1) := by decide +kernel
theorem d_Mc_put_17 : decode prog_6_method_21_code 17 = .ok (.getfield 32, 3) := by decide +kernel
theorem d_Mc_put_20 : decode prog_6_method_21_code 20 = .ok (.iload_n 1, 1) := by decide +kernel
theorem d_Mc_put_21 : decode prog_6_method_21_code 21 = .ok (.iastore, 1) := by decide +kernel
theorem d_Mc_put_22 : decode prog_6_method_21_code 22 = .ok (.aload_n 0, 1) := by decide +kernel
theorem d_Mc_put_23 : decode prog_6_method_21_code 23 = .ok (.dup, 1) := by decide +kernel
theorem d_Mc_put_24 : decode prog_6_method_21_code 24 = .ok (.getfield 32, 3) := by decide +kernel
theorem d_Mc_put_27 : decode prog_6_method_21_code 27 = .ok (.iconst 1, 1) := by decide +kernel
theorem d_Mc_put_28 : decode prog_6_method_21_code 28 = .ok (.iadd, 1) := by decide +kernel
theorem d_Mc_put_29 : decode prog_6_method_21_code 29 = .ok (.putfield 32, 3) := by decide +kernel
theorem d_Mc_put_32 : decode prog_6_method_21_code 32 = .ok (.iconst 0, 1) := by decide +kernel
theorem d_Mc_put_33 : decode prog_6_method_21_code 33 = .ok (.ireturn, 1) := by decide +kernel
abbrev rm_Mc_put : Room := { frames := 0, cells := 0, slots := 0, locals := 0 }
def p_Mc_put (k : Int32 → vS → Prop) (V : vS) (x1 : Int32) : Prop := ((V.1 17 6) = 40 → (k 13 V)) ∧ (¬ (V.1 17 6) = 40 → (vp_in (V.1 17 6) 40 ∧ ∀ V3 : vS, V3 = sv V 31 (nt (V.1 17 6)) x1 → (∀ V4 : vS, V4 = sv V3 17 6 ((V3.1 17 6) + 1) → (k 0 V4))))
set_option maxRecDepth 100000 in
set_option maxHeartbeats 4000000 in
theorem c_Mc_put {l : Launch} {g : gT} (hG : gd g) {V : vS} {x1 : Int32} {k : Int32 → vS → Prop} (h : p_Mc_put k V x1) : Ci g l y_Mc_put prog_6_method_21_code 2 (some .int) rm_Mc_put [.ref (ga g 17), .int x1] V k := by
  unfold Ci
  refine Met.ofW (cc := prog_6_method_21_code) (maxL := 2) (ret := some .int) (by decide) rfl ?_
  intro p e s m args below meth c s₁ B hml hv
  obtain ⟨rfl, hP, hK, hZ⟩ := hv
  have X : cx g p s m meth c [.ref (ga g 17), .int x1].toArray R_Mc prog_6_method_21_code 2 (some .int) := ⟨B.exec, B.bytes, B.returns, hml, findClass_of_methodNamed B.named, fun w hw => atoms_spec (ws := Cond.code y_Mc_put prog_6_method_21_code 2 (some .int) :: TBL) B.pre w (List.mem_cons_of_mem _ hw), B.notSynchronized, hK, hZ, hG⟩
  have hl := lv_entry [.ref (ga g 17), .int x1] (n := 2) (Nat.le_of_ble_eq_true rfl)
  rw [lg_entry_eq]
  generalize (lg_sl [.ref (ga g 17), .int x1] ++ List.replicate (2 - (lg_sl [.ref (ga g 17), .int x1]).length) Slot.unset).toArray = ls at hl ⊢
  have hl : lv_has ls 2 [(0, .ref (ga g 17)), (1, .int x1)] := hl
  have hS : va_S (gA g) s.heap s.heap [] := va_S.rf
  obtain ⟨hx, hb, -, -, hown, hts, -, -, hz, -⟩ := id X
  show W p l e rm_Mc_put s m _ below meth c s.heap [] 0 0 (MQ below (va_Qi k (Bw g) (gA g)) _ s 0 0 (gA g)) (F0 m 0 ls [])
  unfold p_Mc_put at h
  refine lv_aload_n hx hb d_Mc_put_0 rfl (lv_at hl 0 rfl) ?_
  refine gf_Mc_values X hP q_150 d_Mc_put_1 ?_
  refine lv_bipush (v := 40) hx hb d_Mc_put_4 (by decide) ?_
  refine lv_icmp_ne (tgt := 12) hx hb d_Mc_put_6 (by decide) (fun c1 => ?_) (fun c1 => ?_)
  · have h := h.2 c1
    refine lv_aload_n hx hb d_Mc_put_12 rfl (lv_at hl 0 rfl) ?_
    refine gf_Mc_stack X hP q_143 d_Mc_put_13 ?_
    refine lv_aload_n hx hb d_Mc_put_16 rfl (lv_at hl 0 rfl) ?_
    refine gf_Mc_values X hP q_150 d_Mc_put_17 ?_
    refine lv_iload_n hx hb d_Mc_put_20 rfl (lv_at hl 1 rfl) ?_
    obtain ⟨hi2, h⟩ := h
    refine rw_iast X hP hS isI_31 hi2 d_Mc_put_21 (fun V3 H locs eV3 hP hS => ?_)
    have h := h V3 eV3
    refine lv_aload_n hx hb d_Mc_put_22 rfl (lv_at hl 0 rfl) ?_
    refine lv_dup hx hb d_Mc_put_23 rfl ?_
    refine gf_Mc_values X hP q_150 d_Mc_put_24 ?_
    refine lv_iconst (v := 1) hx hb d_Mc_put_27 (by decide) ?_
    refine lv_iadd hx hb d_Mc_put_28 ?_
    refine pf_Mc_values X hP hS q_150 d_Mc_put_29 (fun V4 H locs eV4 hP hS => ?_)
    have h := h V4 eV4
    refine lv_iconst (v := 0) hx hb d_Mc_put_32 (by decide) ?_
    exact rw_iret X hP hS h d_Mc_put_33
  · have h := h.1 c1
    refine lv_bipush (v := 13) hx hb d_Mc_put_9 (by decide) ?_
    exact rw_iret X hP hS h d_Mc_put_11
theorem yv_Mc_put : yV R_Mc y_Mc_put prog_6_method_21_code 2 (some .int) 1 := ⟨by decide +kernel, q_355, qp_13, q_5, q_356⟩
/-! Mc.take -/
theorem d_Mc_take_0 : decode prog_6_method_22_code 0 = .ok (.aload_n 0, 1) := by decide +kernel
theorem d_Mc_take_1 : decode prog_6_method_22_code 1 = .ok (.dup, 1) := by decide +kernel
theorem d_Mc_take_2 : decode prog_6_method_22_code 2 = .ok (.getfield 32, 3) := by decide +kernel
theorem d_Mc_take_5 : decode prog_6_method_22_code 5 = .ok (.iconst 1, 1) := by decide +kernel
theorem d_Mc_take_6 : decode prog_6_method_22_code 6 = .ok (.isub, 1) := by decide +kernel
theorem d_Mc_take_7 : decode prog_6_method_22_code 7 = .ok (.putfield 32, 3) := by decide +kernel
theorem d_Mc_take_10 : decode prog_6_method_22_code 10 = .ok (.aload_n 0, 1) := by decide +kernel
theorem d_Mc_take_11 : decode prog_6_method_22_code 11 = .ok (.getfield 17, 3) := by decide +kernel
theorem d_Mc_take_14 : decode prog_6_method_22_code 14 = .ok (.aload_n 0, 1) := by decide +kernel
theorem d_Mc_take_15 : decode prog_6_method_22_code 15 = .ok (.getfield 32, 3) := by decide +kernel
theorem d_Mc_take_18 : decode prog_6_method_22_code 18 = .ok (.iaload, 1) := by decide +kernel
theorem d_Mc_take_19 : decode prog_6_method_22_code 19 = .ok (.ireturn, 1) := by decide +kernel
abbrev rm_Mc_take : Room := { frames := 0, cells := 0, slots := 0, locals := 0 }
def p_Mc_take (k : Int32 → vS → Prop) (V : vS) : Prop := ∀ V1 : vS, V1 = sv V 17 6 ((V.1 17 6) - 1) → (vp_in (V1.1 17 6) 40 ∧ (k (V1.1 31 (nt (V1.1 17 6))) V1))
set_option maxRecDepth 100000 in
set_option maxHeartbeats 4000000 in
theorem c_Mc_take {l : Launch} {g : gT} (hG : gd g) {V : vS} {k : Int32 → vS → Prop} (h : p_Mc_take k V) : Ci g l y_Mc_take prog_6_method_22_code 1 (some .int) rm_Mc_take [.ref (ga g 17)] V k := by
  unfold Ci
  refine Met.ofW (cc := prog_6_method_22_code) (maxL := 1) (ret := some .int) (by decide) rfl ?_
  intro p e s m args below meth c s₁ B hml hv
  obtain ⟨rfl, hP, hK, hZ⟩ := hv
  have X : cx g p s m meth c [.ref (ga g 17)].toArray R_Mc prog_6_method_22_code 1 (some .int) := ⟨B.exec, B.bytes, B.returns, hml, findClass_of_methodNamed B.named, fun w hw => atoms_spec (ws := Cond.code y_Mc_take prog_6_method_22_code 1 (some .int) :: TBL) B.pre w (List.mem_cons_of_mem _ hw), B.notSynchronized, hK, hZ, hG⟩
  have hl := lv_entry [.ref (ga g 17)] (n := 1) (Nat.le_of_ble_eq_true rfl)
  rw [lg_entry_eq]
  generalize (lg_sl [.ref (ga g 17)] ++ List.replicate (1 - (lg_sl [.ref (ga g 17)]).length) Slot.unset).toArray = ls at hl ⊢
  have hl : lv_has ls 1 [(0, .ref (ga g 17))] := hl
  have hS : va_S (gA g) s.heap s.heap [] := va_S.rf
  obtain ⟨hx, hb, -, -, hown, hts, -, -, hz, -⟩ := id X
  show W p l e rm_Mc_take s m _ below meth c s.heap [] 0 0 (MQ below (va_Qi k (Bw g) (gA g)) _ s 0 0 (gA g)) (F0 m 0 ls [])
  unfold p_Mc_take at h
  refine lv_aload_n hx hb d_Mc_take_0 rfl (lv_at hl 0 rfl) ?_
  refine lv_dup hx hb d_Mc_take_1 rfl ?_
  refine gf_Mc_values X hP q_150 d_Mc_take_2 ?_
  refine lv_iconst (v := 1) hx hb d_Mc_take_5 (by decide) ?_
  refine lv_isub hx hb d_Mc_take_6 ?_
  refine pf_Mc_values X hP hS q_150 d_Mc_take_7 (fun V1 H locs eV1 hP hS => ?_)
  have h := h V1 eV1
  refine lv_aload_n hx hb d_Mc_take_10 rfl (lv_at hl 0 rfl) ?_
  refine gf_Mc_stack X hP q_143 d_Mc_take_11 ?_
  refine lv_aload_n hx hb d_Mc_take_14 rfl (lv_at hl 0 rfl) ?_
  refine gf_Mc_values X hP q_150 d_Mc_take_15 ?_
  obtain ⟨hi2, h⟩ := h
  refine rw_iald X hP isI_31 hi2 d_Mc_take_18 ?_
  exact rw_iret X hP hS h d_Mc_take_19
theorem yv_Mc_take : yV R_Mc y_Mc_take prog_6_method_22_code 1 (some .int) 0 := ⟨by decide +kernel, q_359, qp_14, q_5, q_360⟩
/-! Fr.begin -/
theorem d_Fr_begin_0 : decode prog_4_method_2_code 0 = .ok (.aload_n 0, 1) := by decide +kernel
theorem d_Fr_begin_1 : decode prog_4_method_2_code 1 = .ok (.iload_n 1, 1) := by decide +kernel
theorem d_Fr_begin_2 : decode prog_4_method_2_code 2 = .ok (.putfield 15, 3) := by decide +kernel
theorem d_Fr_begin_5 : decode prog_4_method_2_code 5 = .ok (.aload_n 0, 1) := by decide +kernel
theorem d_Fr_begin_6 : decode prog_4_method_2_code 6 = .ok (.iconst 0, 1) := by decide +kernel
theorem d_Fr_begin_7 : decode prog_4_method_2_code 7 = .ok (.putfield 19, 3) := by decide +kernel
theorem d_Fr_begin_10 : decode prog_4_method_2_code 10 = .ok (.iconst 0, 1) := by decide +kernel
theorem d_Fr_begin_11 : decode prog_4_method_2_code 11 = .ok (.istore_n 2, 1) := by decide +kernel
theorem d_Fr_begin_12 : decode prog_4_method_2_code 12 = .ok (.iload_n 2, 1) := by decide +kernel
theorem d_Fr_begin_13 : decode prog_4_method_2_code 13 = .ok (.aload_n 0, 1) := by decide +kernel
theorem d_Fr_begin_14 : decode prog_4_method_2_code 14 = .ok (.getfield 9, 3) := by decide +kernel
theorem d_Fr_begin_17 : decode prog_4_method_2_code 17 = .ok (.arraylength, 1) := by decide +kernel
theorem d_Fr_begin_18 : decode prog_4_method_2_code 18 = .ok (.if_icmp .ge 16, 3) := by decide +kernel
theorem d_Fr_begin_21 : decode prog_4_method_2_code 21 = .ok (.aload_n 0, 1) := by decide +kernel
theorem d_Fr_begin_22 : decode prog_4_method_2_code 22 = .ok (.getfield 9, 3) := by decide +kernel
theorem d_Fr_begin_25 : decode prog_4_method_2_code 25 = .ok (.iload_n 2, 1) := by decide +kernel
theorem d_Fr_begin_26 : decode prog_4_method_2_code 26 = .ok (.iconst 0, 1) := by decide +kernel
theorem d_Fr_begin_27 : decode prog_4_method_2_code 27 = .ok (.iastore, 1) := by decide +kernel
theorem d_Fr_begin_28 : decode prog_4_method_2_code 28 = .ok (.iinc 2 1, 3) := by decide +kernel
theorem d_Fr_begin_31 : decode prog_4_method_2_code 31 = .ok (.goto (-19), 3) := by decide +kernel
theorem d_Fr_begin_34 : decode prog_4_method_2_code 34 = .ok (.return_, 1) := by decide +kernel
abbrev rm_Fr_begin : Room := { frames := 0, cells := 0, slots := 0, locals := 0 }
def p_Fr_begin_b12 (k : vS → Prop) : Nat → vS → Nat → Int32 → Prop
  | 0, _, _, _ => False
  | n + 1, V, f0, x2 => (5 ≤ x2 → (k V)) ∧ (¬ 5 ≤ x2 → (vp_in x2 5 ∧ ∀ V3 : vS, V3 = sv V (f0 + 6) (nt x2) 0 → (∀ y4 : Int32, y4 = x2 + 1 → ((p_Fr_begin_b12 k n) V3 f0 y4))))
set_option maxRecDepth 100000 in
set_option maxHeartbeats 4000000 in
theorem t_Fr_begin_b12 {k : vS → Prop} (X : cx g p s m meth c args R_Fr prog_4_method_2_code 3 (none)) : ∀ (n : Nat) (V : vS) (f0 : Nat) (x2 : Int32) (hf0 : 19 ≤ f0 ∧ f0 < 25), p_Fr_begin_b12 k n V f0 x2 → ∀ (H : Heap) (locs : List Loc) (ls : Array Slot), va_P g.1 vcl (cw g V) H → va_S (gA g) s.heap H locs → lv_has ls 3 [(0, .ref (ga g f0)), (2, .int x2)] → W p l e rm_Fr_begin s m args below meth c H locs 0 0 (MQ below (va_Qv k (Bw g) (gA g)) args s 0 0 (gA g)) (F0 m 12 ls []) := by
  obtain ⟨hx, hb, -, -, hown, hts, -, -, hz, hG⟩ := id X
  intro n
  induction n with
  | zero =>
    intro V f0 x2 hf0 h
    exact h.elim
  | succ n ih =>
    intro V f0 x2 hf0 h H locs ls hP hS hl
    unfold p_Fr_begin_b12 at h
    refine lv_iload_n hx hb d_Fr_begin_12 rfl (lv_at hl 1 rfl) ?_
    refine lv_aload_n hx hb d_Fr_begin_13 rfl (lv_at hl 0 rfl) ?_
    refine gf_Fr_locals X hP hf0 q_125 d_Fr_begin_14 ?_
    refine rw_ilen (v := 5) X hP (isI_loc hf0) rfl d_Fr_begin_17 ?_
    refine lv_icmp_ge (tgt := 34) hx hb d_Fr_begin_18 (by decide) (fun c1 => ?_) (fun c1 => ?_)
    · have h := h.1 c1
      exact rw_vret X hP hS h d_Fr_begin_34
    · have h := h.2 c1
      refine lv_aload_n hx hb d_Fr_begin_21 rfl (lv_at hl 0 rfl) ?_
      refine gf_Fr_locals X hP hf0 q_125 d_Fr_begin_22 ?_
      refine lv_iload_n hx hb d_Fr_begin_25 rfl (lv_at hl 1 rfl) ?_
      refine lv_iconst (v := 0) hx hb d_Fr_begin_26 (by decide) ?_
      obtain ⟨hi2, h⟩ := h
      refine rw_iast X hP hS (isI_loc hf0) hi2 d_Fr_begin_27 (fun V3 H locs eV3 hP hS => ?_)
      have h := h V3 eV3
      obtain ⟨y4, ey4⟩ : ∃ z : Int32, z = x2 + 1 := ⟨_, rfl⟩
      have h := h y4 ey4
      refine lv_iinc (v := y4) (lv' := [(2, .int y4), (0, .ref (ga g f0))]) hx hb d_Fr_begin_28 hl (k := 1) rfl (by rw [ey4]; rfl) (by decide) rfl (fun ls hl => ?_)
      refine lv_goto (tgt := 12) hx hb d_Fr_begin_31 (by decide) ?_
      exact ih V3 f0 y4 hf0 h _ _ _ hP hS (lv_sub hl [1, 0] rfl)
def p_Fr_begin (k : vS → Prop) (V : vS) (f0 : Nat) (x1 : Int32) : Prop := ∀ V1 : vS, V1 = sv V f0 1 x1 → (∀ V2 : vS, V2 = sv V1 f0 2 0 → (∃ n, p_Fr_begin_b12 k n V2 f0 0))
set_option maxRecDepth 100000 in
set_option maxHeartbeats 4000000 in
theorem c_Fr_begin {l : Launch} {g : gT} (hG : gd g) {V : vS} {f0 : Nat} {x1 : Int32} (hf0 : 19 ≤ f0 ∧ f0 < 25) {k : vS → Prop} (h : p_Fr_begin k V f0 x1) : Cv g l y_Fr_begin prog_4_method_2_code 3 (none) rm_Fr_begin [.ref (ga g f0), .int x1] V k := by
  unfold Cv
  refine Met.ofW (cc := prog_4_method_2_code) (maxL := 3) (ret := none) (by decide) rfl ?_
  intro p e s m args below meth c s₁ B hml hv
  obtain ⟨rfl, hP, hK, hZ⟩ := hv
  have X : cx g p s m meth c [.ref (ga g f0), .int x1].toArray R_Fr prog_4_method_2_code 3 (none) := ⟨B.exec, B.bytes, B.returns, hml, findClass_of_methodNamed B.named, fun w hw => atoms_spec (ws := Cond.code y_Fr_begin prog_4_method_2_code 3 (none) :: TBL) B.pre w (List.mem_cons_of_mem _ hw), B.notSynchronized, hK, hZ, hG⟩
  have hl := lv_entry [.ref (ga g f0), .int x1] (n := 3) (Nat.le_of_ble_eq_true rfl)
  rw [lg_entry_eq]
  generalize (lg_sl [.ref (ga g f0), .int x1] ++ List.replicate (3 - (lg_sl [.ref (ga g f0), .int x1]).length) Slot.unset).toArray = ls at hl ⊢
  have hl : lv_has ls 3 [(0, .ref (ga g f0)), (1, .int x1)] := hl
  have hS : va_S (gA g) s.heap s.heap [] := va_S.rf
  obtain ⟨hx, hb, -, -, hown, hts, -, -, hz, -⟩ := id X
  show W p l e rm_Fr_begin s m _ below meth c s.heap [] 0 0 (MQ below (va_Qv k (Bw g) (gA g)) _ s 0 0 (gA g)) (F0 m 0 ls [])
  unfold p_Fr_begin at h
  refine lv_aload_n hx hb d_Fr_begin_0 rfl (lv_at hl 0 rfl) ?_
  refine lv_iload_n hx hb d_Fr_begin_1 rfl (lv_at hl 1 rfl) ?_
  refine pf_Fr_number X hP hS hf0 q_127 d_Fr_begin_2 (fun V1 H locs eV1 hP hS => ?_)
  have h := h V1 eV1
  refine lv_aload_n hx hb d_Fr_begin_5 rfl (lv_at hl 0 rfl) ?_
  refine lv_iconst (v := 0) hx hb d_Fr_begin_6 (by decide) ?_
  refine pf_Fr_next X hP hS hf0 q_130 d_Fr_begin_7 (fun V2 H locs eV2 hP hS => ?_)
  have h := h V2 eV2
  refine lv_iconst (v := 0) hx hb d_Fr_begin_10 (by decide) ?_
  refine lv_istore_n (lv' := [(2, .int 0), (0, .ref (ga g f0)), (1, .int x1)]) hx hb d_Fr_begin_11 rfl hl (by decide) rfl (fun ls hl => ?_)
  obtain ⟨n, h⟩ := h
  exact t_Fr_begin_b12 X n V2 f0 0 hf0 h _ _ _ hP hS (lv_sub hl [1, 0] rfl)
theorem yv_Fr_begin : yV R_Fr y_Fr_begin prog_4_method_2_code 3 (none) 1 := ⟨by decide +kernel, q_317, q_318, q_6, q_319⟩
/-! Mc.enter -/
theorem d_Mc_enter_0 : decode prog_6_method_20_code 0 = .ok (.aload_n 0, 1) := by decide +kernel
theorem d_Mc_enter_1 : decode prog_6_method_20_code 1 = .ok (.getfield 11, 3) := by decide +kernel
theorem d_Mc_enter_4 : decode prog_6_method_20_code 4 = .ok (.aload_n 0, 1) := by decide +kernel
theorem d_Mc_enter_5 : decode prog_6_method_20_code 5 = .ok (.getfield 28, 3) := by decide +kernel
theorem d_Mc_enter_8 : decode prog_6_method_20_code 8 = .ok (.aaload, 1) := by decide +kernel
theorem d_Mc_enter_9 : decode prog_6_method_20_code 9 = .ok (.astore_n 2, 1) := by decide +kernel
theorem d_Mc_enter_10 : decode prog_6_method_20_code 10 = .ok (.aload_n 2, 1) := by decide +kernel
theorem d_Mc_enter_11 : decode prog_6_method_20_code 11 = .ok (.iload_n 1, 1) := by decide +kernel
theorem d_Mc_enter_12 : decode prog_6_method_20_code 12 = .ok (.invokevirtual 160, 3) := by decide +kernel
theorem d_Mc_enter_15 : decode prog_6_method_20_code 15 = .ok (.aload_n 0, 1) := by decide +kernel
theorem d_Mc_enter_16 : decode prog_6_method_20_code 16 = .ok (.dup, 1) := by decide +kernel
theorem d_Mc_enter_17 : decode prog_6_method_20_code 17 = .ok (.getfield 28, 3) := by decide +kernel
theorem d_Mc_enter_20 : decode prog_6_method_20_code 20 = .ok (.iconst 1, 1) := by decide +kernel
theorem d_Mc_enter_21 : decode prog_6_method_20_code 21 = .ok (.iadd, 1) := by decide +kernel
theorem d_Mc_enter_22 : decode prog_6_method_20_code 22 = .ok (.putfield 28, 3) := by decide +kernel
theorem d_Mc_enter_25 : decode prog_6_method_20_code 25 = .ok (.aload_n 2, 1) := by decide +kernel
theorem d_Mc_enter_26 : decode prog_6_method_20_code 26 = .ok (.areturn, 1) := by decide +kernel
abbrev rm_Mc_enter : Room := { frames := 1, cells := 0, slots := 0, locals := 22 }
def p_Mc_enter (k : Nat → vS → Prop) (V : vS) (x1 : Int32) : Prop := vp_in (V.1 17 5) 6 ∧ (p_Fr_begin (fun V2 => ∀ V4 : vS, V4 = sv V2 17 5 ((V2.1 17 5) + 1) → (k (19 + nt (V.1 17 5)) V4)) V (19 + nt (V.1 17 5)) x1)
set_option maxRecDepth 100000 in
set_option maxHeartbeats 4000000 in
theorem c_Mc_enter {l : Launch} {g : gT} (hG : gd g) {V : vS} {x1 : Int32} {k : Nat → vS → Prop} (h : p_Mc_enter k V x1) : Cr g l y_Mc_enter prog_6_method_20_code 3 (some (.object R_Fr)) rm_Mc_enter [.ref (ga g 17), .int x1] V k := by
  unfold Cr
  refine Met.ofW (cc := prog_6_method_20_code) (maxL := 3) (ret := some (.object R_Fr)) (by decide) rfl ?_
  intro p e s m args below meth c s₁ B hml hv
  obtain ⟨rfl, hP, hK, hZ⟩ := hv
  have X : cx g p s m meth c [.ref (ga g 17), .int x1].toArray R_Mc prog_6_method_20_code 3 (some (.object R_Fr)) := ⟨B.exec, B.bytes, B.returns, hml, findClass_of_methodNamed B.named, fun w hw => atoms_spec (ws := Cond.code y_Mc_enter prog_6_method_20_code 3 (some (.object R_Fr)) :: TBL) B.pre w (List.mem_cons_of_mem _ hw), B.notSynchronized, hK, hZ, hG⟩
  have hl := lv_entry [.ref (ga g 17), .int x1] (n := 3) (Nat.le_of_ble_eq_true rfl)
  rw [lg_entry_eq]
  generalize (lg_sl [.ref (ga g 17), .int x1] ++ List.replicate (3 - (lg_sl [.ref (ga g 17), .int x1]).length) Slot.unset).toArray = ls at hl ⊢
  have hl : lv_has ls 3 [(0, .ref (ga g 17)), (1, .int x1)] := hl
  have hS : va_S (gA g) s.heap s.heap [] := va_S.rf
  obtain ⟨hx, hb, -, -, hown, hts, -, -, hz, -⟩ := id X
  show W p l e rm_Mc_enter s m _ below meth c s.heap [] 0 0 (MQ below (va_Qr (S := Nat × vS) (fun u => (19 ≤ u.1 ∧ u.1 < 25) ∧ k u.1 u.2) (fun u a t => a = ga g u.1 ∧ Bw g u.2 t) (gA g)) _ s 0 0 (gA g)) (F0 m 0 ls [])
  unfold p_Mc_enter at h
  refine lv_aload_n hx hb d_Mc_enter_0 rfl (lv_at hl 0 rfl) ?_
  refine gf_Mc_frames X hP q_142 d_Mc_enter_1 ?_
  refine lv_aload_n hx hb d_Mc_enter_4 rfl (lv_at hl 0 rfl) ?_
  refine gf_Mc_depth X hP q_148 d_Mc_enter_5 ?_
  obtain ⟨hi1, h⟩ := h
  refine rw_aaldR X hP hi1 d_Mc_enter_8 ?_
  refine lv_astore_n (lv' := [(2, .ref (ga g (19 + nt (V.1 17 5)))), (0, .ref (ga g 17)), (1, .int x1)]) hx hb d_Mc_enter_9 rfl hl (by decide) rfl (fun ls hl => ?_)
  refine lv_aload_n hx hb d_Mc_enter_10 rfl (lv_at hl 0 rfl) ?_
  refine lv_iload_n hx hb d_Mc_enter_11 rfl (lv_at hl 2 rfl) ?_
  refine rw_cVv (rest := []) X hP hS yv_Fr_begin (isO_Fr (fr_of hi1)) (c_Fr_begin hG (fr_of hi1) h) q_316 ⟨rfl, rfl, by decide, by decide⟩ rfl rfl hl.1 (Nat.le_of_ble_eq_true rfl) ⟨Nat.zero_le _, Nat.zero_le _⟩ d_Mc_enter_12 (fun V2 H locs h hP hS => ?_)
  refine lv_aload_n hx hb d_Mc_enter_15 rfl (lv_at hl 1 rfl) ?_
  refine lv_dup hx hb d_Mc_enter_16 rfl ?_
  refine gf_Mc_depth X hP q_148 d_Mc_enter_17 ?_
  refine lv_iconst (v := 1) hx hb d_Mc_enter_20 (by decide) ?_
  refine lv_iadd hx hb d_Mc_enter_21 ?_
  refine pf_Mc_depth X hP hS q_148 d_Mc_enter_22 (fun V4 H locs eV4 hP hS => ?_)
  have h := h V4 eV4
  refine lv_aload_n hx hb d_Mc_enter_25 rfl (lv_at hl 0 rfl) ?_
  exact rw_aret X hP hS (fr_of hi1) h d_Mc_enter_26
theorem yv_Mc_enter : yV R_Mc y_Mc_enter prog_6_method_20_code 3 (some (.object R_Fr)) 1 := ⟨by decide +kernel, q_314, qp_9, q_5, q_315⟩
/-! Pg.has -/
theorem d_Pg_has_0 : decode prog_8_method_2_code 0 = .ok (.iload_n 1, 1) := by decide +kernel
theorem d_Pg_has_1 : decode prog_8_method_2_code 1 = .ok (.ifCond .lt 15, 3) := by decide +kernel
theorem d_Pg_has_4 : decode prog_8_method_2_code 4 = .ok (.iload_n 1, 1) := by decide +kernel
theorem d_Pg_has_5 : decode prog_8_method_2_code 5 = .ok (.aload_n 0, 1) := by decide +kernel
theorem d_Pg_has_6 : decode prog_8_method_2_code 6 = .ok (.getfield 17, 3) := by decide +kernel
theorem d_Pg_has_9 : decode prog_8_method_2_code 9 = .ok (.if_icmp .ge 7, 3) := by decide +kernel
theorem d_Pg_has_12 : decode prog_8_method_2_code 12 = .ok (.iconst 1, 1) := by decide +kernel
theorem d_Pg_has_13 : decode prog_8_method_2_code 13 = .ok (.goto 4, 3) := by decide +kernel
theorem d_Pg_has_16 : decode prog_8_method_2_code 16 = .ok (.iconst 0, 1) := by decide +kernel
theorem d_Pg_has_17 : decode prog_8_method_2_code 17 = .ok (.ireturn, 1) := by decide +kernel
abbrev rm_Pg_has : Room := { frames := 0, cells := 0, slots := 0, locals := 0 }
def p_Pg_has_b17 (k : Int32 → vS → Prop) (V : vS) (s0 : Int32) : Prop := (s0 = 0 ∨ s0 = 1) ∧ (k s0 V)
set_option maxRecDepth 100000 in
set_option maxHeartbeats 4000000 in
theorem t_Pg_has_b17 {k : Int32 → vS → Prop} (X : cx g p s m meth c args R_Pg prog_8_method_2_code 2 (some .boolean)) {V : vS} {s0 : Int32} (h : p_Pg_has_b17 k V s0) (hP : va_P g.1 vcl (cw g V) H) (hS : va_S (gA g) s.heap H locs) (hl : lv_has ls 2 []) : W p l e rm_Pg_has s m args below meth c H locs 0 0 (MQ below (va_Qi k (Bw g) (gA g)) args s 0 0 (gA g)) (F0 m 17 ls [.int s0]) := by
  obtain ⟨hx, hb, -, -, hown, hts, -, -, hz, hG⟩ := id X
  unfold p_Pg_has_b17 at h
  obtain ⟨hb1, h⟩ := h
  exact rw_zret X hP hS hb1 h d_Pg_has_17
def p_Pg_has_b16 (k : Int32 → vS → Prop) (V : vS) : Prop := p_Pg_has_b17 k V 0
set_option maxRecDepth 100000 in
set_option maxHeartbeats 4000000 in
theorem t_Pg_has_b16 {k : Int32 → vS → Prop} (X : cx g p s m meth c args R_Pg prog_8_method_2_code 2 (some .boolean)) {V : vS} (h : p_Pg_has_b16 k V) (hP : va_P g.1 vcl (cw g V) H) (hS : va_S (gA g) s.heap H locs) (hl : lv_has ls 2 []) : W p l e rm_Pg_has s m args below meth c H locs 0 0 (MQ below (va_Qi k (Bw g) (gA g)) args s 0 0 (gA g)) (F0 m 16 ls []) := by
  obtain ⟨hx, hb, -, -, hown, hts, -, -, hz, hG⟩ := id X
  unfold p_Pg_has_b16 at h
  refine lv_iconst (v := 0) hx hb d_Pg_has_16 (by decide) ?_
  exact t_Pg_has_b17 X h hP hS (lv_sub hl [] rfl)
def p_Pg_has (k : Int32 → vS → Prop) (V : vS) (x1 : Int32) : Prop := (x1 < 0 → (p_Pg_has_b16 k V)) ∧ (¬ x1 < 0 → (((V.1 1 1) ≤ x1 → (p_Pg_has_b16 k V)) ∧ (¬ (V.1 1 1) ≤ x1 → (p_Pg_has_b17 k V 1))))
set_option maxRecDepth 100000 in
set_option maxHeartbeats 4000000 in
theorem c_Pg_has {l : Launch} {g : gT} (hG : gd g) {V : vS} {x1 : Int32} {k : Int32 → vS → Prop} (h : p_Pg_has k V x1) : Ci g l y_Pg_has prog_8_method_2_code 2 (some .boolean) rm_Pg_has [.ref (ga g 1), .int x1] V k := by
  unfold Ci
  refine Met.ofW (cc := prog_8_method_2_code) (maxL := 2) (ret := some .boolean) (by decide) rfl ?_
  intro p e s m args below meth c s₁ B hml hv
  obtain ⟨rfl, hP, hK, hZ⟩ := hv
  have X : cx g p s m meth c [.ref (ga g 1), .int x1].toArray R_Pg prog_8_method_2_code 2 (some .boolean) := ⟨B.exec, B.bytes, B.returns, hml, findClass_of_methodNamed B.named, fun w hw => atoms_spec (ws := Cond.code y_Pg_has prog_8_method_2_code 2 (some .boolean) :: TBL) B.pre w (List.mem_cons_of_mem _ hw), B.notSynchronized, hK, hZ, hG⟩
  have hl := lv_entry [.ref (ga g 1), .int x1] (n := 2) (Nat.le_of_ble_eq_true rfl)
  rw [lg_entry_eq]
  generalize (lg_sl [.ref (ga g 1), .int x1] ++ List.replicate (2 - (lg_sl [.ref (ga g 1), .int x1]).length) Slot.unset).toArray = ls at hl ⊢
  have hl : lv_has ls 2 [(0, .ref (ga g 1)), (1, .int x1)] := hl
  have hS : va_S (gA g) s.heap s.heap [] := va_S.rf
  obtain ⟨hx, hb, -, -, hown, hts, -, -, hz, -⟩ := id X
  show W p l e rm_Pg_has s m _ below meth c s.heap [] 0 0 (MQ below (va_Qi k (Bw g) (gA g)) _ s 0 0 (gA g)) (F0 m 0 ls [])
  unfold p_Pg_has at h
  refine lv_iload_n hx hb d_Pg_has_0 rfl (lv_at hl 1 rfl) ?_
  refine lv_if_lt (tgt := 16) hx hb d_Pg_has_1 (by decide) (fun c1 => ?_) (fun c1 => ?_)
  · have h := h.1 c1
    exact t_Pg_has_b16 X h hP hS (lv_sub hl [] rfl)
  · have h := h.2 c1
    refine lv_iload_n hx hb d_Pg_has_4 rfl (lv_at hl 1 rfl) ?_
    refine lv_aload_n hx hb d_Pg_has_5 rfl (lv_at hl 0 rfl) ?_
    refine gf_Pg_size X hP q_69 d_Pg_has_6 ?_
    refine lv_icmp_ge (tgt := 16) hx hb d_Pg_has_9 (by decide) (fun c2 => ?_) (fun c2 => ?_)
    · have h := h.1 c2
      exact t_Pg_has_b16 X h hP hS (lv_sub hl [] rfl)
    · have h := h.2 c2
      refine lv_iconst (v := 1) hx hb d_Pg_has_12 (by decide) ?_
      refine lv_goto (tgt := 17) hx hb d_Pg_has_13 (by decide) ?_
      exact t_Pg_has_b17 X h hP hS (lv_sub hl [] rfl)
theorem yv_Pg_has : yV R_Pg y_Pg_has prog_8_method_2_code 2 (some .boolean) 1 := ⟨by decide +kernel, q_232, q_233, q_2, q_234⟩
/-! Pg.add -/
theorem d_Pg_add_0 : decode prog_8_method_3_code 0 = .ok (.aload_n 0, 1) := by decide +kernel
theorem d_Pg_add_1 : decode prog_8_method_3_code 1 = .ok (.getfield 17, 3) := by decide +kernel
theorem d_Pg_add_4 : decode prog_8_method_3_code 4 = .ok (.istore 4, 2) := by decide +kernel
theorem d_Pg_add_6 : decode prog_8_method_3_code 6 = .ok (.aload_n 0, 1) := by decide +kernel
theorem d_Pg_add_7 : decode prog_8_method_3_code 7 = .ok (.getfield 11, 3) := by decide +kernel
theorem d_Pg_add_10 : decode prog_8_method_3_code 10 = .ok (.iload 4, 2) := by decide +kernel
theorem d_Pg_add_12 : decode prog_8_method_3_code 12 = .ok (.aaload, 1) := by decide +kernel
theorem d_Pg_add_13 : decode prog_8_method_3_code 13 = .ok (.iload_n 1, 1) := by decide +kernel
theorem d_Pg_add_14 : decode prog_8_method_3_code 14 = .ok (.putfield 22, 3) := by decide +kernel
theorem d_Pg_add_17 : decode prog_8_method_3_code 17 = .ok (.aload_n 0, 1) := by decide +kernel
theorem d_Pg_add_18 : decode prog_8_method_3_code 18 = .ok (.getfield 11, 3) := by decide +kernel
theorem d_Pg_add_21 : decode prog_8_method_3_code 21 = .ok (.iload 4, 2) := by decide +kernel
theorem d_Pg_add_23 : decode prog_8_method_3_code 23 = .ok (.aaload, 1) := by decide +kernel
theorem d_Pg_add_24 : decode prog_8_method_3_code 24 = .ok (.iload_n 2, 1) := by decide +kernel
theorem d_Pg_add_25 : decode prog_8_method_3_code 25 = .ok (.putfield 25, 3) := by decide +kernel
theorem d_Pg_add_28 : decode prog_8_method_3_code 28 = .ok (.aload_n 0, 1) := by decide +kernel
theorem d_Pg_add_29 : decode prog_8_method_3_code 29 = .ok (.getfield 11, 3) := by decide +kernel
theorem d_Pg_add_32 : decode prog_8_method_3_code 32 = .ok (.iload 4, 2) := by decide +kernel
theorem d_Pg_add_34 : decode prog_8_method_3_code 34 = .ok (.aaload, 1) := by decide +kernel
theorem d_Pg_add_35 : decode prog_8_method_3_code 35 = .ok (.iload_n 3, 1) := by decide +kernel
theorem d_Pg_add_36 : decode prog_8_method_3_code 36 = .ok (.putfield 28, 3) := by decide +kernel
theorem d_Pg_add_39 : decode prog_8_method_3_code 39 = .ok (.aload_n 0, 1) := by decide +kernel
theorem d_Pg_add_40 : decode prog_8_method_3_code 40 = .ok (.iload 4, 2) := by decide +kernel
theorem d_Pg_add_42 : decode prog_8_method_3_code 42 = .ok (.iconst 1, 1) := by decide +kernel
theorem d_Pg_add_43 : decode prog_8_method_3_code 43 = .ok (.iadd, 1) := by decide +kernel
theorem d_Pg_add_44 : decode prog_8_method_3_code 44 = .ok (.putfield 17, 3) := by decide +kernel
theorem d_Pg_add_47 : decode prog_8_method_3_code 47 = .ok (.iload 4, 2) := by decide +kernel
theorem d_Pg_add_49 : decode prog_8_method_3_code 49 = .ok (.ireturn, 1) := by decide +kernel
abbrev rm_Pg_add : Room := { frames := 0, cells := 0, slots := 0, locals := 0 }
def p_Pg_add (k : Int32 → vS → Prop) (V : vS) (x1 : Int32) (x2 : Int32) (x3 : Int32) : Prop := ∀ y1 : Int32, y1 = V.1 1 1 → (vp_in y1 4 ∧ (∀ V3 : vS, V3 = sv V (3 + nt y1) 3 x1 → (vp_in y1 4 ∧ (∀ V5 : vS, V5 = sv V3 (3 + nt y1) 4 x2 → (vp_in y1 4 ∧ (∀ V7 : vS, V7 = sv V5 (3 + nt y1) 5 x3 → (∀ V8 : vS, V8 = sv V7 1 1 (y1 + 1) → (k y1 V8))))))))
set_option maxRecDepth 100000 in
set_option maxHeartbeats 4000000 in
theorem c_Pg_add {l : Launch} {g : gT} (hG : gd g) {V : vS} {x1 : Int32} {x2 : Int32} {x3 : Int32} {k : Int32 → vS → Prop} (h : p_Pg_add k V x1 x2 x3) : Ci g l y_Pg_add prog_8_method_3_code 5 (some .int) rm_Pg_add [.ref (ga g 1), .int x1, .int x2, .int x3] V k := by
  unfold Ci
  refine Met.ofW (cc := prog_8_method_3_code) (maxL := 5) (ret := some .int) (by decide) rfl ?_
  intro p e s m args below meth c s₁ B hml hv
  obtain ⟨rfl, hP, hK, hZ⟩ := hv
  have X : cx g p s m meth c [.ref (ga g 1), .int x1, .int x2, .int x3].toArray R_Pg prog_8_method_3_code 5 (some .int) := ⟨B.exec, B.bytes, B.returns, hml, findClass_of_methodNamed B.named, fun w hw => atoms_spec (ws := Cond.code y_Pg_add prog_8_method_3_code 5 (some .int) :: TBL) B.pre w (List.mem_cons_of_mem _ hw), B.notSynchronized, hK, hZ, hG⟩
  have hl := lv_entry [.ref (ga g 1), .int x1, .int x2, .int x3] (n := 5) (Nat.le_of_ble_eq_true rfl)
  rw [lg_entry_eq]
  generalize (lg_sl [.ref (ga g 1), .int x1, .int x2, .int x3] ++ List.replicate (5 - (lg_sl [.ref (ga g 1), .int x1, .int x2, .int x3]).length) Slot.unset).toArray = ls at hl ⊢
  have hl : lv_has ls 5 [(0, .ref (ga g 1)), (1, .int x1), (2, .int x2), (3, .int x3)] := hl
  have hS : va_S (gA g) s.heap s.heap [] := va_S.rf
  obtain ⟨hx, hb, -, -, hown, hts, -, -, hz, -⟩ := id X
  show W p l e rm_Pg_add s m _ below meth c s.heap [] 0 0 (MQ below (va_Qi k (Bw g) (gA g)) _ s 0 0 (gA g)) (F0 m 0 ls [])
  unfold p_Pg_add at h
  refine lv_aload_n hx hb d_Pg_add_0 rfl (lv_at hl 0 rfl) ?_
  refine gf_Pg_size X hP q_69 d_Pg_add_1 ?_
  refine lv_topi (fun y1 ey1 => ?_)
  have h := h y1 ey1
  refine lv_istore (lv' := [(4, .int y1), (0, .ref (ga g 1)), (1, .int x1), (2, .int x2), (3, .int x3)]) hx hb d_Pg_add_4 hl (by decide) rfl (fun ls hl => ?_)
  refine lv_aload_n hx hb d_Pg_add_6 rfl (lv_at hl 1 rfl) ?_
  refine gf_Pg_functions X hP q_65 d_Pg_add_7 ?_
  refine lv_iload hx hb d_Pg_add_10 (lv_at hl 0 rfl) ?_
  obtain ⟨hi2, h⟩ := h
  refine rw_aaldF X hP hi2 d_Pg_add_12 ?_
  refine lv_iload_n hx hb d_Pg_add_13 rfl (lv_at hl 2 rfl) ?_
  refine pf_Fn_takes X hP hS (fn_of hi2) q_41 d_Pg_add_14 (fun V3 H locs eV3 hP hS => ?_)
  have h := h V3 eV3
  refine lv_aload_n hx hb d_Pg_add_17 rfl (lv_at hl 1 rfl) ?_
  refine gf_Pg_functions X hP q_65 d_Pg_add_18 ?_
  refine lv_iload hx hb d_Pg_add_21 (lv_at hl 0 rfl) ?_
  obtain ⟨hi4, h⟩ := h
  refine rw_aaldF X hP hi4 d_Pg_add_23 ?_
  refine lv_iload_n hx hb d_Pg_add_24 rfl (lv_at hl 3 rfl) ?_
  refine pf_Fn_gives X hP hS (fn_of hi4) q_45 d_Pg_add_25 (fun V5 H locs eV5 hP hS => ?_)
  have h := h V5 eV5
  refine lv_aload_n hx hb d_Pg_add_28 rfl (lv_at hl 1 rfl) ?_
  refine gf_Pg_functions X hP q_65 d_Pg_add_29 ?_
  refine lv_iload hx hb d_Pg_add_32 (lv_at hl 0 rfl) ?_
  obtain ⟨hi6, h⟩ := h
  refine rw_aaldF X hP hi6 d_Pg_add_34 ?_
  refine lv_iload_n hx hb d_Pg_add_35 rfl (lv_at hl 4 rfl) ?_
  refine pf_Fn_locals X hP hS (fn_of hi6) q_49 d_Pg_add_36 (fun V7 H locs eV7 hP hS => ?_)
  have h := h V7 eV7
  refine lv_aload_n hx hb d_Pg_add_39 rfl (lv_at hl 1 rfl) ?_
  refine lv_iload hx hb d_Pg_add_40 (lv_at hl 0 rfl) ?_
  refine lv_iconst (v := 1) hx hb d_Pg_add_42 (by decide) ?_
  refine lv_iadd hx hb d_Pg_add_43 ?_
  refine pf_Pg_size X hP hS q_69 d_Pg_add_44 (fun V8 H locs eV8 hP hS => ?_)
  have h := h V8 eV8
  refine lv_iload hx hb d_Pg_add_47 (lv_at hl 0 rfl) ?_
  exact rw_iret X hP hS h d_Pg_add_49
theorem yv_Pg_add : yV R_Pg y_Pg_add prog_8_method_3_code 5 (some .int) 3 := ⟨by decide +kernel, q_224, q_225, q_2, q_226⟩
/-! Pg.taken -/
theorem d_Pg_taken_0 : decode prog_8_method_4_code 0 = .ok (.iload_n 1, 1) := by decide +kernel
theorem d_Pg_taken_1 : decode prog_8_method_4_code 1 = .ok (.bipush 17, 2) := by decide +kernel
theorem d_Pg_taken_3 : decode prog_8_method_4_code 3 = .ok (.if_icmp .ne 15, 3) := by decide +kernel
theorem d_Pg_taken_6 : decode prog_8_method_4_code 6 = .ok (.aload_n 0, 1) := by decide +kernel
theorem d_Pg_taken_7 : decode prog_8_method_4_code 7 = .ok (.getfield 11, 3) := by decide +kernel
theorem d_Pg_taken_10 : decode prog_8_method_4_code 10 = .ok (.iload_n 2, 1) := by decide +kernel
theorem d_Pg_taken_11 : decode prog_8_method_4_code 11 = .ok (.aaload, 1) := by decide +kernel
theorem d_Pg_taken_12 : decode prog_8_method_4_code 12 = .ok (.getfield 22, 3) := by decide +kernel
theorem d_Pg_taken_15 : decode prog_8_method_4_code 15 = .ok (.goto 8, 3) := by decide +kernel
theorem d_Pg_taken_18 : decode prog_8_method_4_code 18 = .ok (.getstatic 33, 3) := by decide +kernel
theorem d_Pg_taken_21 : decode prog_8_method_4_code 21 = .ok (.iload_n 1, 1) := by decide +kernel
theorem d_Pg_taken_22 : decode prog_8_method_4_code 22 = .ok (.iaload, 1) := by decide +kernel
theorem d_Pg_taken_23 : decode prog_8_method_4_code 23 = .ok (.ireturn, 1) := by decide +kernel
abbrev rm_Pg_taken : Room := { frames := 0, cells := 0, slots := 0, locals := 0 }
def p_Pg_taken_b23 (k : Int32 → vS → Prop) (V : vS) (s0 : Int32) : Prop := k s0 V
set_option maxRecDepth 100000 in
set_option maxHeartbeats 4000000 in
theorem t_Pg_taken_b23 {k : Int32 → vS → Prop} (X : cx g p s m meth c args R_Pg prog_8_method_4_code 3 (some .int)) {V : vS} {s0 : Int32} (h : p_Pg_taken_b23 k V s0) (hP : va_P g.1 vcl (cw g V) H) (hS : va_S (gA g) s.heap H locs) (hl : lv_has ls 3 []) : W p l e rm_Pg_taken s m args below meth c H locs 0 0 (MQ below (va_Qi k (Bw g) (gA g)) args s 0 0 (gA g)) (F0 m 23 ls [.int s0]) := by
  obtain ⟨hx, hb, -, -, hown, hts, -, -, hz, hG⟩ := id X
  unfold p_Pg_taken_b23 at h
  exact rw_iret X hP hS h d_Pg_taken_23
def p_Pg_taken (k : Int32 → vS → Prop) (V : vS) (x1 : Int32) (x2 : Int32) : Prop := (x1 = 17 → (vp_in x2 4 ∧ (p_Pg_taken_b23 k V (V.1 (3 + nt x2) 3)))) ∧ (¬ x1 = 17 → (vp_in x1 20 ∧ (p_Pg_taken_b23 k V (tTakes (nt x1)))))
set_option maxRecDepth 100000 in
set_option maxHeartbeats 4000000 in
theorem c_Pg_taken {l : Launch} {g : gT} (hG : gd g) {V : vS} {x1 : Int32} {x2 : Int32} {k : Int32 → vS → Prop} (h : p_Pg_taken k V x1 x2) : Ci g l y_Pg_taken prog_8_method_4_code 3 (some .int) rm_Pg_taken [.ref (ga g 1), .int x1, .int x2] V k := by
  unfold Ci
  refine Met.ofW (cc := prog_8_method_4_code) (maxL := 3) (ret := some .int) (by decide) rfl ?_
  intro p e s m args below meth c s₁ B hml hv
  obtain ⟨rfl, hP, hK, hZ⟩ := hv
  have X : cx g p s m meth c [.ref (ga g 1), .int x1, .int x2].toArray R_Pg prog_8_method_4_code 3 (some .int) := ⟨B.exec, B.bytes, B.returns, hml, findClass_of_methodNamed B.named, fun w hw => atoms_spec (ws := Cond.code y_Pg_taken prog_8_method_4_code 3 (some .int) :: TBL) B.pre w (List.mem_cons_of_mem _ hw), B.notSynchronized, hK, hZ, hG⟩
  have hl := lv_entry [.ref (ga g 1), .int x1, .int x2] (n := 3) (Nat.le_of_ble_eq_true rfl)
  rw [lg_entry_eq]
  generalize (lg_sl [.ref (ga g 1), .int x1, .int x2] ++ List.replicate (3 - (lg_sl [.ref (ga g 1), .int x1, .int x2]).length) Slot.unset).toArray = ls at hl ⊢
  have hl : lv_has ls 3 [(0, .ref (ga g 1)), (1, .int x1), (2, .int x2)] := hl
  have hS : va_S (gA g) s.heap s.heap [] := va_S.rf
  obtain ⟨hx, hb, -, -, hown, hts, -, -, hz, -⟩ := id X
  show W p l e rm_Pg_taken s m _ below meth c s.heap [] 0 0 (MQ below (va_Qi k (Bw g) (gA g)) _ s 0 0 (gA g)) (F0 m 0 ls [])
  unfold p_Pg_taken at h
  refine lv_iload_n hx hb d_Pg_taken_0 rfl (lv_at hl 1 rfl) ?_
  refine lv_bipush (v := 17) hx hb d_Pg_taken_1 (by decide) ?_
  refine lv_icmp_ne (tgt := 18) hx hb d_Pg_taken_3 (by decide) (fun c1 => ?_) (fun c1 => ?_)
  · have h := h.2 c1
    refine gs_TAKES (ref := R_Op) (host := R_PR) X hS hz.2.2.2.2.2.1 d_Pg_taken_18 ?_
    refine lv_iload_n hx hb d_Pg_taken_21 rfl (lv_at hl 1 rfl) ?_
    obtain ⟨hi2, h⟩ := h
    refine gl_TAKES X hS hi2 d_Pg_taken_22 ?_
    exact t_Pg_taken_b23 X h hP hS (lv_sub hl [] rfl)
  · have h := h.1 c1
    refine lv_aload_n hx hb d_Pg_taken_6 rfl (lv_at hl 0 rfl) ?_
    refine gf_Pg_functions X hP q_65 d_Pg_taken_7 ?_
    refine lv_iload_n hx hb d_Pg_taken_10 rfl (lv_at hl 2 rfl) ?_
    obtain ⟨hi3, h⟩ := h
    refine rw_aaldF X hP hi3 d_Pg_taken_11 ?_
    refine gf_Fn_takes X hP (fn_of hi3) q_41 d_Pg_taken_12 ?_
    refine lv_goto (tgt := 23) hx hb d_Pg_taken_15 (by decide) ?_
    exact t_Pg_taken_b23 X h hP hS (lv_sub hl [] rfl)
theorem yv_Pg_taken : yV R_Pg y_Pg_taken prog_8_method_4_code 3 (some .int) 2 := ⟨by decide +kernel, q_266, q_267, q_2, q_268⟩
/-! Pg.put -/
theorem d_Pg_put_0 : decode prog_8_method_5_code 0 = .ok (.iload_n 1, 1) := by decide +kernel
theorem d_Pg_put_1 : decode prog_8_method_5_code 1 = .ok (.bipush 17, 2) := by decide +kernel
theorem d_Pg_put_3 : decode prog_8_method_5_code 3 = .ok (.if_icmp .ne 15, 3) := by decide +kernel
theorem d_Pg_put_6 : decode prog_8_method_5_code 6 = .ok (.aload_n 0, 1) := by decide +kernel
theorem d_Pg_put_7 : decode prog_8_method_5_code 7 = .ok (.getfield 11, 3) := by decide +kernel
theorem d_Pg_put_10 : decode prog_8_method_5_code 10 = .ok (.iload_n 2, 1) := by decide +kernel
theorem d_Pg_put_11 : decode prog_8_method_5_code 11 = .ok (.aaload, 1) := by decide +kernel
theorem d_Pg_put_12 : decode prog_8_method_5_code 12 = .ok (.getfield 25, 3) := by decide +kernel
theorem d_Pg_put_15 : decode prog_8_method_5_code 15 = .ok (.goto 8, 3) := by decide +kernel
theorem d_Pg_put_18 : decode prog_8_method_5_code 18 = .ok (.getstatic 37, 3) := by decide +kernel
theorem d_Pg_put_21 : decode prog_8_method_5_code 21 = .ok (.iload_n 1, 1) := by decide +kernel
theorem d_Pg_put_22 : decode prog_8_method_5_code 22 = .ok (.iaload, 1) := by decide +kernel
theorem d_Pg_put_23 : decode prog_8_method_5_code 23 = .ok (.ireturn, 1) := by decide +kernel
abbrev rm_Pg_put : Room := { frames := 0, cells := 0, slots := 0, locals := 0 }
def p_Pg_put_b23 (k : Int32 → vS → Prop) (V : vS) (s0 : Int32) : Prop := k s0 V
set_option maxRecDepth 100000 in
set_option maxHeartbeats 4000000 in
theorem t_Pg_put_b23 {k : Int32 → vS → Prop} (X : cx g p s m meth c args R_Pg prog_8_method_5_code 3 (some .int)) {V : vS} {s0 : Int32} (h : p_Pg_put_b23 k V s0) (hP : va_P g.1 vcl (cw g V) H) (hS : va_S (gA g) s.heap H locs) (hl : lv_has ls 3 []) : W p l e rm_Pg_put s m args below meth c H locs 0 0 (MQ below (va_Qi k (Bw g) (gA g)) args s 0 0 (gA g)) (F0 m 23 ls [.int s0]) := by
  obtain ⟨hx, hb, -, -, hown, hts, -, -, hz, hG⟩ := id X
  unfold p_Pg_put_b23 at h
  exact rw_iret X hP hS h d_Pg_put_23
def p_Pg_put (k : Int32 → vS → Prop) (V : vS) (x1 : Int32) (x2 : Int32) : Prop := (x1 = 17 → (vp_in x2 4 ∧ (p_Pg_put_b23 k V (V.1 (3 + nt x2) 4)))) ∧ (¬ x1 = 17 → (vp_in x1 20 ∧ (p_Pg_put_b23 k V (tPuts (nt x1)))))
set_option maxRecDepth 100000 in
set_option maxHeartbeats 4000000 in
theorem c_Pg_put {l : Launch} {g : gT} (hG : gd g) {V : vS} {x1 : Int32} {x2 : Int32} {k : Int32 → vS → Prop} (h : p_Pg_put k V x1 x2) : Ci g l y_Pg_put prog_8_method_5_code 3 (some .int) rm_Pg_put [.ref (ga g 1), .int x1, .int x2] V k := by
  unfold Ci
  refine Met.ofW (cc := prog_8_method_5_code) (maxL := 3) (ret := some .int) (by decide) rfl ?_
  intro p e s m args below meth c s₁ B hml hv
  obtain ⟨rfl, hP, hK, hZ⟩ := hv
  have X : cx g p s m meth c [.ref (ga g 1), .int x1, .int x2].toArray R_Pg prog_8_method_5_code 3 (some .int) := ⟨B.exec, B.bytes, B.returns, hml, findClass_of_methodNamed B.named, fun w hw => atoms_spec (ws := Cond.code y_Pg_put prog_8_method_5_code 3 (some .int) :: TBL) B.pre w (List.mem_cons_of_mem _ hw), B.notSynchronized, hK, hZ, hG⟩
  have hl := lv_entry [.ref (ga g 1), .int x1, .int x2] (n := 3) (Nat.le_of_ble_eq_true rfl)
  rw [lg_entry_eq]
  generalize (lg_sl [.ref (ga g 1), .int x1, .int x2] ++ List.replicate (3 - (lg_sl [.ref (ga g 1), .int x1, .int x2]).length) Slot.unset).toArray = ls at hl ⊢
  have hl : lv_has ls 3 [(0, .ref (ga g 1)), (1, .int x1), (2, .int x2)] := hl
  have hS : va_S (gA g) s.heap s.heap [] := va_S.rf
  obtain ⟨hx, hb, -, -, hown, hts, -, -, hz, -⟩ := id X
  show W p l e rm_Pg_put s m _ below meth c s.heap [] 0 0 (MQ below (va_Qi k (Bw g) (gA g)) _ s 0 0 (gA g)) (F0 m 0 ls [])
  unfold p_Pg_put at h
  refine lv_iload_n hx hb d_Pg_put_0 rfl (lv_at hl 1 rfl) ?_
  refine lv_bipush (v := 17) hx hb d_Pg_put_1 (by decide) ?_
  refine lv_icmp_ne (tgt := 18) hx hb d_Pg_put_3 (by decide) (fun c1 => ?_) (fun c1 => ?_)
  · have h := h.2 c1
    refine gs_PUTS (ref := R_Op) (host := R_PR) X hS hz.2.2.2.2.2.2 d_Pg_put_18 ?_
    refine lv_iload_n hx hb d_Pg_put_21 rfl (lv_at hl 1 rfl) ?_
    obtain ⟨hi2, h⟩ := h
    refine gl_PUTS X hS hi2 d_Pg_put_22 ?_
    exact t_Pg_put_b23 X h hP hS (lv_sub hl [] rfl)
  · have h := h.1 c1
    refine lv_aload_n hx hb d_Pg_put_6 rfl (lv_at hl 0 rfl) ?_
    refine gf_Pg_functions X hP q_65 d_Pg_put_7 ?_
    refine lv_iload_n hx hb d_Pg_put_10 rfl (lv_at hl 2 rfl) ?_
    obtain ⟨hi3, h⟩ := h
    refine rw_aaldF X hP hi3 d_Pg_put_11 ?_
    refine gf_Fn_gives X hP (fn_of hi3) q_45 d_Pg_put_12 ?_
    refine lv_goto (tgt := 23) hx hb d_Pg_put_15 (by decide) ?_
    exact t_Pg_put_b23 X h hP hS (lv_sub hl [] rfl)
theorem yv_Pg_put : yV R_Pg y_Pg_put prog_8_method_5_code 3 (some .int) 2 := ⟨by decide +kernel, q_284, q_285, q_2, q_286⟩
/-! Fn.add -/
theorem d_Fn_add_0 : decode prog_5_method_2_code 0 = .ok (.aload_n 0, 1) := by decide +kernel
theorem d_Fn_add_1 : decode prog_5_method_2_code 1 = .ok (.getfield 18, 3) := by decide +kernel
theorem d_Fn_add_4 : decode prog_5_method_2_code 4 = .ok (.istore_n 3, 1) := by decide +kernel
theorem d_Fn_add_5 : decode prog_5_method_2_code 5 = .ok (.aload_n 0, 1) := by decide +kernel
theorem d_Fn_add_6 : decode prog_5_method_2_code 6 = .ok (.getfield 9, 3) := by decide +kernel
theorem d_Fn_add_9 : decode prog_5_method_2_code 9 = .ok (.iload_n 3, 1) := by decide +kernel
theorem d_Fn_add_10 : decode prog_5_method_2_code 10 = .ok (.iload_n 1, 1) := by decide +kernel
theorem d_Fn_add_11 : decode prog_5_method_2_code 11 = .ok (.iastore, 1) := by decide +kernel
theorem d_Fn_add_12 : decode prog_5_method_2_code 12 = .ok (.aload_n 0, 1) := by decide +kernel
theorem d_Fn_add_13 : decode prog_5_method_2_code 13 = .ok (.getfield 15, 3) := by decide +kernel
theorem d_Fn_add_16 : decode prog_5_method_2_code 16 = .ok (.iload_n 3, 1) := by decide +kernel
theorem d_Fn_add_17 : decode prog_5_method_2_code 17 = .ok (.iload_n 2, 1) := by decide +kernel
theorem d_Fn_add_18 : decode prog_5_method_2_code 18 = .ok (.iastore, 1) := by decide +kernel
theorem d_Fn_add_19 : decode prog_5_method_2_code 19 = .ok (.aload_n 0, 1) := by decide +kernel
theorem d_Fn_add_20 : decode prog_5_method_2_code 20 = .ok (.iload_n 3, 1) := by decide +kernel
theorem d_Fn_add_21 : decode prog_5_method_2_code 21 = .ok (.iconst 1, 1) := by decide +kernel
theorem d_Fn_add_22 : decode prog_5_method_2_code 22 = .ok (.iadd, 1) := by decide +kernel
theorem d_Fn_add_23 : decode prog_5_method_2_code 23 = .ok (.putfield 18, 3) := by decide +kernel
theorem d_Fn_add_26 : decode prog_5_method_2_code 26 = .ok (.iload_n 3, 1) := by decide +kernel
theorem d_Fn_add_27 : decode prog_5_method_2_code 27 = .ok (.ireturn, 1) := by decide +kernel
abbrev rm_Fn_add : Room := { frames := 0, cells := 0, slots := 0, locals := 0 }
def p_Fn_add (k : Int32 → vS → Prop) (V : vS) (f0 : Nat) (x1 : Int32) (x2 : Int32) : Prop := ∀ y1 : Int32, y1 = V.1 f0 2 → (vp_in y1 24 ∧ ∀ V3 : vS, V3 = sv V (f0 + 4) (nt y1) x1 → (vp_in y1 24 ∧ ∀ V5 : vS, V5 = sv V3 (f0 + 8) (nt y1) x2 → (∀ V6 : vS, V6 = sv V5 f0 2 (y1 + 1) → (k y1 V6))))
set_option maxRecDepth 100000 in
set_option maxHeartbeats 4000000 in
theorem c_Fn_add {l : Launch} {g : gT} (hG : gd g) {V : vS} {f0 : Nat} {x1 : Int32} {x2 : Int32} (hf0 : 3 ≤ f0 ∧ f0 < 7) {k : Int32 → vS → Prop} (h : p_Fn_add k V f0 x1 x2) : Ci g l y_Fn_add prog_5_method_2_code 4 (some .int) rm_Fn_add [.ref (ga g f0), .int x1, .int x2] V k := by
  unfold Ci
  refine Met.ofW (cc := prog_5_method_2_code) (maxL := 4) (ret := some .int) (by decide) rfl ?_
  intro p e s m args below meth c s₁ B hml hv
  obtain ⟨rfl, hP, hK, hZ⟩ := hv
  have X : cx g p s m meth c [.ref (ga g f0), .int x1, .int x2].toArray R_Fn prog_5_method_2_code 4 (some .int) := ⟨B.exec, B.bytes, B.returns, hml, findClass_of_methodNamed B.named, fun w hw => atoms_spec (ws := Cond.code y_Fn_add prog_5_method_2_code 4 (some .int) :: TBL) B.pre w (List.mem_cons_of_mem _ hw), B.notSynchronized, hK, hZ, hG⟩
  have hl := lv_entry [.ref (ga g f0), .int x1, .int x2] (n := 4) (Nat.le_of_ble_eq_true rfl)
  rw [lg_entry_eq]
  generalize (lg_sl [.ref (ga g f0), .int x1, .int x2] ++ List.replicate (4 - (lg_sl [.ref (ga g f0), .int x1, .int x2]).length) Slot.unset).toArray = ls at hl ⊢
  have hl : lv_has ls 4 [(0, .ref (ga g f0)), (1, .int x1), (2, .int x2)] := hl
  have hS : va_S (gA g) s.heap s.heap [] := va_S.rf
  obtain ⟨hx, hb, -, -, hown, hts, -, -, hz, -⟩ := id X
  show W p l e rm_Fn_add s m _ below meth c s.heap [] 0 0 (MQ below (va_Qi k (Bw g) (gA g)) _ s 0 0 (gA g)) (F0 m 0 ls [])
  unfold p_Fn_add at h
  refine lv_aload_n hx hb d_Fn_add_0 rfl (lv_at hl 0 rfl) ?_
  refine gf_Fn_length X hP hf0 q_36 d_Fn_add_1 ?_
  refine lv_topi (fun y1 ey1 => ?_)
  have h := h y1 ey1
  refine lv_istore_n (lv' := [(3, .int y1), (0, .ref (ga g f0)), (1, .int x1), (2, .int x2)]) hx hb d_Fn_add_4 rfl hl (by decide) rfl (fun ls hl => ?_)
  refine lv_aload_n hx hb d_Fn_add_5 rfl (lv_at hl 1 rfl) ?_
  refine gf_Fn_ops X hP hf0 q_30 d_Fn_add_6 ?_
  refine lv_iload_n hx hb d_Fn_add_9 rfl (lv_at hl 0 rfl) ?_
  refine lv_iload_n hx hb d_Fn_add_10 rfl (lv_at hl 2 rfl) ?_
  obtain ⟨hi2, h⟩ := h
  refine rw_iast X hP hS (isI_ops hf0) hi2 d_Fn_add_11 (fun V3 H locs eV3 hP hS => ?_)
  have h := h V3 eV3
  refine lv_aload_n hx hb d_Fn_add_12 rfl (lv_at hl 1 rfl) ?_
  refine gf_Fn_arguments X hP hf0 q_33 d_Fn_add_13 ?_
  refine lv_iload_n hx hb d_Fn_add_16 rfl (lv_at hl 0 rfl) ?_
  refine lv_iload_n hx hb d_Fn_add_17 rfl (lv_at hl 3 rfl) ?_
  obtain ⟨hi4, h⟩ := h
  refine rw_iast X hP hS (isI_args hf0) hi4 d_Fn_add_18 (fun V5 H locs eV5 hP hS => ?_)
  have h := h V5 eV5
  refine lv_aload_n hx hb d_Fn_add_19 rfl (lv_at hl 1 rfl) ?_
  refine lv_iload_n hx hb d_Fn_add_20 rfl (lv_at hl 0 rfl) ?_
  refine lv_iconst (v := 1) hx hb d_Fn_add_21 (by decide) ?_
  refine lv_iadd hx hb d_Fn_add_22 ?_
  refine pf_Fn_length X hP hS hf0 q_36 d_Fn_add_23 (fun V6 H locs eV6 hP hS => ?_)
  have h := h V6 eV6
  refine lv_iload_n hx hb d_Fn_add_26 rfl (lv_at hl 0 rfl) ?_
  exact rw_iret X hP hS h d_Fn_add_27
theorem yv_Fn_add : yV R_Fn y_Fn_add prog_5_method_2_code 4 (some .int) 2 := ⟨by decide +kernel, q_236, q_237, q_3, q_238⟩
/-! Fn.openingOf -/
theorem d_Fn_openingOf_0 : decode prog_5_method_4_code 0 = .ok (.iconst 0, 1) := by decide +kernel
theorem d_Fn_openingOf_1 : decode prog_5_method_4_code 1 = .ok (.istore_n 3, 1) := by decide +kernel
theorem d_Fn_openingOf_2 : decode prog_5_method_4_code 2 = .ok (.iload_n 2, 1) := by decide +kernel
theorem d_Fn_openingOf_3 : decode prog_5_method_4_code 3 = .ok (.istore 4, 2) := by decide +kernel
theorem d_Fn_openingOf_5 : decode prog_5_method_4_code 5 = .ok (.iload_n 1, 1) := by decide +kernel
theorem d_Fn_openingOf_6 : decode prog_5_method_4_code 6 = .ok (.iconst 1, 1) := by decide +kernel
theorem d_Fn_openingOf_7 : decode prog_5_method_4_code 7 = .ok (.isub, 1) := by decide +kernel
theorem d_Fn_openingOf_8 : decode prog_5_method_4_code 8 = .ok (.istore 5, 2) := by decide +kernel
theorem d_Fn_openingOf_10 : decode prog_5_method_4_code 10 = .ok (.iload 5, 2) := by decide +kernel
theorem d_Fn_openingOf_12 : decode prog_5_method_4_code 12 = .ok (.ifCond .lt 64, 3) := by decide +kernel
theorem d_Fn_openingOf_15 : decode prog_5_method_4_code 15 = .ok (.aload_n 0, 1) := by decide +kernel
theorem d_Fn_openingOf_16 : decode prog_5_method_4_code 16 = .ok (.getfield 9, 3) := by decide +kernel
theorem d_Fn_openingOf_19 : decode prog_5_method_4_code 19 = .ok (.iload 5, 2) := by decide +kernel
theorem d_Fn_openingOf_21 : decode prog_5_method_4_code 21 = .ok (.iaload, 1) := by decide +kernel
theorem d_Fn_openingOf_22 : decode prog_5_method_4_code 22 = .ok (.bipush 14, 2) := by decide +kernel
theorem d_Fn_openingOf_24 : decode prog_5_method_4_code 24 = .ok (.if_icmp .ne 9, 3) := by decide +kernel
theorem d_Fn_openingOf_27 : decode prog_5_method_4_code 27 = .ok (.iinc 3 1, 3) := by decide +kernel
theorem d_Fn_openingOf_30 : decode prog_5_method_4_code 30 = .ok (.goto 40, 3) := by decide +kernel
theorem d_Fn_openingOf_33 : decode prog_5_method_4_code 33 = .ok (.aload_n 0, 1) := by decide +kernel
theorem d_Fn_openingOf_34 : decode prog_5_method_4_code 34 = .ok (.getfield 9, 3) := by decide +kernel
theorem d_Fn_openingOf_37 : decode prog_5_method_4_code 37 = .ok (.iload 5, 2) := by decide +kernel
theorem d_Fn_openingOf_39 : decode prog_5_method_4_code 39 = .ok (.iaload, 1) := by decide +kernel
theorem d_Fn_openingOf_40 : decode prog_5_method_4_code 40 = .ok (.invokestatic 41, 3) := by decide +kernel
theorem d_Fn_openingOf_43 : decode prog_5_method_4_code 43 = .ok (.ifCond .eq 27, 3) := by decide +kernel
theorem d_Fn_openingOf_46 : decode prog_5_method_4_code 46 = .ok (.iload_n 3, 1) := by decide +kernel
theorem d_Fn_openingOf_47 : decode prog_5_method_4_code 47 = .ok (.ifCond .le 9, 3) := by decide +kernel
theorem d_Fn_openingOf_50 : decode prog_5_method_4_code 50 = .ok (.iinc 3 (-1), 3) := by decide +kernel
theorem d_Fn_openingOf_53 : decode prog_5_method_4_code 53 = .ok (.goto 17, 3) := by decide +kernel
theorem d_Fn_openingOf_56 : decode prog_5_method_4_code 56 = .ok (.iload 4, 2) := by decide +kernel
theorem d_Fn_openingOf_58 : decode prog_5_method_4_code 58 = .ok (.ifCond .le 9, 3) := by decide +kernel
theorem d_Fn_openingOf_61 : decode prog_5_method_4_code 61 = .ok (.iinc 4 (-1), 3) := by decide +kernel
theorem d_Fn_openingOf_64 : decode prog_5_method_4_code 64 = .ok (.goto 6, 3) := by decide +kernel
theorem d_Fn_openingOf_67 : decode prog_5_method_4_code 67 = .ok (.iload 5, 2) := by decide +kernel
theorem d_Fn_openingOf_69 : decode prog_5_method_4_code 69 = .ok (.ireturn, 1) := by decide +kernel
theorem d_Fn_openingOf_70 : decode prog_5_method_4_code 70 = .ok (.iinc 5 (-1), 3) := by decide +kernel
theorem d_Fn_openingOf_73 : decode prog_5_method_4_code 73 = .ok (.goto (-63), 3) := by decide +kernel
theorem d_Fn_openingOf_76 : decode prog_5_method_4_code 76 = .ok (.iconst (-1), 1) := by decide +kernel
theorem d_Fn_openingOf_77 : decode prog_5_method_4_code 77 = .ok (.ireturn, 1) := by decide +kernel
abbrev rm_Fn_openingOf : Room := { frames := 1, cells := 0, slots := 0, locals := 20 }
def p_Fn_openingOf_b70 (k : Int32 → vS → Prop) (hd : vS → Nat → Int32 → Int32 → Int32 → Prop) (V : vS) (f0 : Nat) (x3 : Int32) (x4 : Int32) (x5 : Int32) : Prop := ∀ y1 : Int32, y1 = x5 + (-1) → (hd V f0 x3 x4 y1)
set_option maxRecDepth 100000 in
set_option maxHeartbeats 4000000 in
theorem t_Fn_openingOf_b70 {k : Int32 → vS → Prop} (X : cx g p s m meth c args R_Fn prog_5_method_4_code 6 (some .int)) {hd : vS → Nat → Int32 → Int32 → Int32 → Prop} (ih : ∀ (V : vS) (f0 : Nat) (x3 : Int32) (x4 : Int32) (x5 : Int32) (hf0 : 3 ≤ f0 ∧ f0 < 7), hd V f0 x3 x4 x5 → ∀ (H : Heap) (locs : List Loc) (ls : Array Slot), va_P g.1 vcl (cw g V) H → va_S (gA g) s.heap H locs → lv_has ls 6 [(0, .ref (ga g f0)), (3, .int x3), (4, .int x4), (5, .int x5)] → W p l e rm_Fn_openingOf s m args below meth c H locs 0 0 (MQ below (va_Qi k (Bw g) (gA g)) args s 0 0 (gA g)) (F0 m 10 ls [])) {V : vS} {f0 : Nat} {x3 : Int32} {x4 : Int32} {x5 : Int32} (hf0 : 3 ≤ f0 ∧ f0 < 7) (h : p_Fn_openingOf_b70 k hd V f0 x3 x4 x5) (hP : va_P g.1 vcl (cw g V) H) (hS : va_S (gA g) s.heap H locs) (hl : lv_has ls 6 [(0, .ref (ga g f0)), (3, .int x3), (4, .int x4), (5, .int x5)]) : W p l e rm_Fn_openingOf s m args below meth c H locs 0 0 (MQ below (va_Qi k (Bw g) (gA g)) args s 0 0 (gA g)) (F0 m 70 ls []) := by
  obtain ⟨hx, hb, -, -, hown, hts, -, -, hz, hG⟩ := id X
  unfold p_Fn_openingOf_b70 at h
  obtain ⟨y1, ey1⟩ : ∃ z : Int32, z = x5 + (-1) := ⟨_, rfl⟩
  have h := h y1 ey1
  refine lv_iinc (v := y1) (lv' := [(5, .int y1), (0, .ref (ga g f0)), (3, .int x3), (4, .int x4)]) hx hb d_Fn_openingOf_70 hl (k := 3) rfl (by rw [ey1]; rfl) (by decide) rfl (fun ls hl => ?_)
  refine lv_goto (tgt := 10) hx hb d_Fn_openingOf_73 (by decide) ?_
  exact ih V f0 x3 x4 y1 hf0 h _ _ _ hP hS (lv_sub hl [1, 2, 3, 0] rfl)
def p_Fn_openingOf_b10 (k : Int32 → vS → Prop) : Nat → vS → Nat → Int32 → Int32 → Int32 → Prop
  | 0, _, _, _, _, _ => False
  | n + 1, V, f0, x3, x4, x5 => (x5 < 0 → (k (-1) V)) ∧ (¬ x5 < 0 → (vp_in x5 24 ∧ (((V.1 (f0 + 4) (nt x5)) = 14 → (∀ y13 : Int32, y13 = x3 + 1 → (p_Fn_openingOf_b70 k (p_Fn_openingOf_b10 k n) V f0 y13 x4 x5))) ∧ (¬ (V.1 (f0 + 4) (nt x5)) = 14 → (vp_in x5 24 ∧ (p_Op_opensPart (fun r6 V5 => (r6 = 0 → (p_Fn_openingOf_b70 k (p_Fn_openingOf_b10 k n) V5 f0 x3 x4 x5)) ∧ (¬ r6 = 0 → ((x3 ≤ 0 → ((x4 ≤ 0 → (k x5 V5)) ∧ (¬ x4 ≤ 0 → (∀ y11 : Int32, y11 = x4 + (-1) → (p_Fn_openingOf_b70 k (p_Fn_openingOf_b10 k n) V5 f0 x3 y11 x5))))) ∧ (¬ x3 ≤ 0 → (∀ y12 : Int32, y12 = x3 + (-1) → (p_Fn_openingOf_b70 k (p_Fn_openingOf_b10 k n) V5 f0 y12 x4 x5)))))) V (V.1 (f0 + 4) (nt x5))))))))
set_option maxRecDepth 100000 in
set_option maxHeartbeats 4000000 in
theorem t_Fn_openingOf_b10 {k : Int32 → vS → Prop} (X : cx g p s m meth c args R_Fn prog_5_method_4_code 6 (some .int)) : ∀ (n : Nat) (V : vS) (f0 : Nat) (x3 : Int32) (x4 : Int32) (x5 : Int32) (hf0 : 3 ≤ f0 ∧ f0 < 7), p_Fn_openingOf_b10 k n V f0 x3 x4 x5 → ∀ (H : Heap) (locs : List Loc) (ls : Array Slot), va_P g.1 vcl (cw g V) H → va_S (gA g) s.heap H locs → lv_has ls 6 [(0, .ref (ga g f0)), (3, .int x3), (4, .int x4), (5, .int x5)] → W p l e rm_Fn_openingOf s m args below meth c H locs 0 0 (MQ below (va_Qi k (Bw g) (gA g)) args s 0 0 (gA g)) (F0 m 10 ls []) := by
  obtain ⟨hx, hb, -, -, hown, hts, -, -, hz, hG⟩ := id X
  intro n
  induction n with
  | zero =>
    intro V f0 x3 x4 x5 hf0 h
    exact h.elim
  | succ n ih =>
    intro V f0 x3 x4 x5 hf0 h H locs ls hP hS hl
    unfold p_Fn_openingOf_b10 at h
    refine lv_iload hx hb d_Fn_openingOf_10 (lv_at hl 3 rfl) ?_
    refine lv_if_lt (tgt := 76) hx hb d_Fn_openingOf_12 (by decide) (fun c1 => ?_) (fun c1 => ?_)
    · have h := h.1 c1
      refine lv_iconst (v := (-1)) hx hb d_Fn_openingOf_76 (by decide) ?_
      exact rw_iret X hP hS h d_Fn_openingOf_77
    · have h := h.2 c1
      refine lv_aload_n hx hb d_Fn_openingOf_15 rfl (lv_at hl 0 rfl) ?_
      refine gf_Fn_ops X hP hf0 q_30 d_Fn_openingOf_16 ?_
      refine lv_iload hx hb d_Fn_openingOf_19 (lv_at hl 3 rfl) ?_
      obtain ⟨hi2, h⟩ := h
      refine rw_iald X hP (isI_ops hf0) hi2 d_Fn_openingOf_21 ?_
      refine lv_bipush (v := 14) hx hb d_Fn_openingOf_22 (by decide) ?_
      refine lv_icmp_ne (tgt := 33) hx hb d_Fn_openingOf_24 (by decide) (fun c3 => ?_) (fun c3 => ?_)
      · have h := h.2 c3
        refine lv_aload_n hx hb d_Fn_openingOf_33 rfl (lv_at hl 0 rfl) ?_
        refine gf_Fn_ops X hP hf0 q_30 d_Fn_openingOf_34 ?_
        refine lv_iload hx hb d_Fn_openingOf_37 (lv_at hl 3 rfl) ?_
        obtain ⟨hi4, h⟩ := h
        refine rw_iald X hP (isI_ops hf0) hi4 d_Fn_openingOf_39 ?_
        refine rw_cSi (rest := []) X hP hS ys_Op_opensPart (c_Op_opensPart hG h) q_381 ⟨rfl, rfl, by decide, by decide⟩ rfl rfl hl.1 (Nat.le_of_ble_eq_true rfl) ⟨Nat.zero_le _, Nat.zero_le _⟩ d_Fn_openingOf_40 (fun r6 V5 H locs h hP hS => ?_)
        refine lv_if_eq (tgt := 70) hx hb d_Fn_openingOf_43 (by decide) (fun c8 => ?_) (fun c8 => ?_)
        · have h := h.1 c8
          exact t_Fn_openingOf_b70 X (hd := p_Fn_openingOf_b10 k n) ih hf0 h hP hS (lv_sub hl [0, 1, 2, 3] rfl)
        · have h := h.2 c8
          refine lv_iload_n hx hb d_Fn_openingOf_46 rfl (lv_at hl 1 rfl) ?_
          refine lv_if_le (tgt := 56) hx hb d_Fn_openingOf_47 (by decide) (fun c9 => ?_) (fun c9 => ?_)
          · have h := h.1 c9
            refine lv_iload hx hb d_Fn_openingOf_56 (lv_at hl 2 rfl) ?_
            refine lv_if_le (tgt := 67) hx hb d_Fn_openingOf_58 (by decide) (fun c10 => ?_) (fun c10 => ?_)
            · have h := h.1 c10
              refine lv_iload hx hb d_Fn_openingOf_67 (lv_at hl 3 rfl) ?_
              exact rw_iret X hP hS h d_Fn_openingOf_69
            · have h := h.2 c10
              obtain ⟨y11, ey11⟩ : ∃ z : Int32, z = x4 + (-1) := ⟨_, rfl⟩
              have h := h y11 ey11
              refine lv_iinc (v := y11) (lv' := [(4, .int y11), (0, .ref (ga g f0)), (3, .int x3), (5, .int x5)]) hx hb d_Fn_openingOf_61 hl (k := 2) rfl (by rw [ey11]; rfl) (by decide) rfl (fun ls hl => ?_)
              refine lv_goto (tgt := 70) hx hb d_Fn_openingOf_64 (by decide) ?_
              exact t_Fn_openingOf_b70 X (hd := p_Fn_openingOf_b10 k n) ih hf0 h hP hS (lv_sub hl [1, 2, 0, 3] rfl)
          · have h := h.2 c9
            obtain ⟨y12, ey12⟩ : ∃ z : Int32, z = x3 + (-1) := ⟨_, rfl⟩
            have h := h y12 ey12
            refine lv_iinc (v := y12) (lv' := [(3, .int y12), (0, .ref (ga g f0)), (4, .int x4), (5, .int x5)]) hx hb d_Fn_openingOf_50 hl (k := 1) rfl (by rw [ey12]; rfl) (by decide) rfl (fun ls hl => ?_)
            refine lv_goto (tgt := 70) hx hb d_Fn_openingOf_53 (by decide) ?_
            exact t_Fn_openingOf_b70 X (hd := p_Fn_openingOf_b10 k n) ih hf0 h hP hS (lv_sub hl [1, 0, 2, 3] rfl)
      · have h := h.1 c3
        obtain ⟨y13, ey13⟩ : ∃ z : Int32, z = x3 + 1 := ⟨_, rfl⟩
        have h := h y13 ey13
        refine lv_iinc (v := y13) (lv' := [(3, .int y13), (0, .ref (ga g f0)), (4, .int x4), (5, .int x5)]) hx hb d_Fn_openingOf_27 hl (k := 1) rfl (by rw [ey13]; rfl) (by decide) rfl (fun ls hl => ?_)
        refine lv_goto (tgt := 70) hx hb d_Fn_openingOf_30 (by decide) ?_
        exact t_Fn_openingOf_b70 X (hd := p_Fn_openingOf_b10 k n) ih hf0 h hP hS (lv_sub hl [1, 0, 2, 3] rfl)
def p_Fn_openingOf (k : Int32 → vS → Prop) (V : vS) (f0 : Nat) (x1 : Int32) (x2 : Int32) : Prop := ∀ y1 : Int32, y1 = x1 - 1 → (∃ n, p_Fn_openingOf_b10 k n V f0 0 x2 y1)
set_option maxRecDepth 100000 in
set_option maxHeartbeats 4000000 in
theorem c_Fn_openingOf {l : Launch} {g : gT} (hG : gd g) {V : vS} {f0 : Nat} {x1 : Int32} {x2 : Int32} (hf0 : 3 ≤ f0 ∧ f0 < 7) {k : Int32 → vS → Prop} (h : p_Fn_openingOf k V f0 x1 x2) : Ci g l y_Fn_openingOf prog_5_method_4_code 6 (some .int) rm_Fn_openingOf [.ref (ga g f0), .int x1, .int x2] V k := by
  unfold Ci
  refine Met.ofW (cc := prog_5_method_4_code) (maxL := 6) (ret := some .int) (by decide) rfl ?_
  intro p e s m args below meth c s₁ B hml hv
  obtain ⟨rfl, hP, hK, hZ⟩ := hv
  have X : cx g p s m meth c [.ref (ga g f0), .int x1, .int x2].toArray R_Fn prog_5_method_4_code 6 (some .int) := ⟨B.exec, B.bytes, B.returns, hml, findClass_of_methodNamed B.named, fun w hw => atoms_spec (ws := Cond.code y_Fn_openingOf prog_5_method_4_code 6 (some .int) :: TBL) B.pre w (List.mem_cons_of_mem _ hw), B.notSynchronized, hK, hZ, hG⟩
  have hl := lv_entry [.ref (ga g f0), .int x1, .int x2] (n := 6) (Nat.le_of_ble_eq_true rfl)
  rw [lg_entry_eq]
  generalize (lg_sl [.ref (ga g f0), .int x1, .int x2] ++ List.replicate (6 - (lg_sl [.ref (ga g f0), .int x1, .int x2]).length) Slot.unset).toArray = ls at hl ⊢
  have hl : lv_has ls 6 [(0, .ref (ga g f0)), (1, .int x1), (2, .int x2)] := hl
  have hS : va_S (gA g) s.heap s.heap [] := va_S.rf
  obtain ⟨hx, hb, -, -, hown, hts, -, -, hz, -⟩ := id X
  show W p l e rm_Fn_openingOf s m _ below meth c s.heap [] 0 0 (MQ below (va_Qi k (Bw g) (gA g)) _ s 0 0 (gA g)) (F0 m 0 ls [])
  unfold p_Fn_openingOf at h
  refine lv_iconst (v := 0) hx hb d_Fn_openingOf_0 (by decide) ?_
  refine lv_istore_n (lv' := [(3, .int 0), (0, .ref (ga g f0)), (1, .int x1), (2, .int x2)]) hx hb d_Fn_openingOf_1 rfl hl (by decide) rfl (fun ls hl => ?_)
  refine lv_iload_n hx hb d_Fn_openingOf_2 rfl (lv_at hl 3 rfl) ?_
  refine lv_istore (lv' := [(4, .int x2), (3, .int 0), (0, .ref (ga g f0)), (1, .int x1), (2, .int x2)]) hx hb d_Fn_openingOf_3 hl (by decide) rfl (fun ls hl => ?_)
  refine lv_iload_n hx hb d_Fn_openingOf_5 rfl (lv_at hl 3 rfl) ?_
  refine lv_iconst (v := 1) hx hb d_Fn_openingOf_6 (by decide) ?_
  refine lv_isub hx hb d_Fn_openingOf_7 ?_
  refine lv_topi (fun y1 ey1 => ?_)
  have h := h y1 ey1
  refine lv_istore (lv' := [(5, .int y1), (4, .int x2), (3, .int 0), (0, .ref (ga g f0)), (1, .int x1), (2, .int x2)]) hx hb d_Fn_openingOf_8 hl (by decide) rfl (fun ls hl => ?_)
  obtain ⟨n, h⟩ := h
  exact t_Fn_openingOf_b10 X n V f0 0 x2 y1 hf0 h _ _ _ hP hS (lv_sub hl [3, 2, 1, 0] rfl)
theorem yv_Fn_openingOf : yV R_Fn y_Fn_openingOf prog_5_method_4_code 6 (some .int) 2 := ⟨by decide +kernel, q_379, qp_17, q_3, q_380⟩
/-! Fn.behindEndOf -/
theorem d_Fn_behindEndOf_0 : decode prog_5_method_5_code 0 = .ok (.iconst 0, 1) := by decide +kernel
theorem d_Fn_behindEndOf_1 : decode prog_5_method_5_code 1 = .ok (.istore_n 2, 1) := by decide +kernel
theorem d_Fn_behindEndOf_2 : decode prog_5_method_5_code 2 = .ok (.iload_n 1, 1) := by decide +kernel
theorem d_Fn_behindEndOf_3 : decode prog_5_method_5_code 3 = .ok (.iconst 1, 1) := by decide +kernel
theorem d_Fn_behindEndOf_4 : decode prog_5_method_5_code 4 = .ok (.iadd, 1) := by decide +kernel
theorem d_Fn_behindEndOf_5 : decode prog_5_method_5_code 5 = .ok (.istore_n 3, 1) := by decide +kernel
theorem d_Fn_behindEndOf_6 : decode prog_5_method_5_code 6 = .ok (.iload_n 3, 1) := by decide +kernel
theorem d_Fn_behindEndOf_7 : decode prog_5_method_5_code 7 = .ok (.aload_n 0, 1) := by decide +kernel
theorem d_Fn_behindEndOf_8 : decode prog_5_method_5_code 8 = .ok (.getfield 18, 3) := by decide +kernel
theorem d_Fn_behindEndOf_11 : decode prog_5_method_5_code 11 = .ok (.if_icmp .ge 49, 3) := by decide +kernel
theorem d_Fn_behindEndOf_14 : decode prog_5_method_5_code 14 = .ok (.aload_n 0, 1) := by decide +kernel
theorem d_Fn_behindEndOf_15 : decode prog_5_method_5_code 15 = .ok (.getfield 9, 3) := by decide +kernel
theorem d_Fn_behindEndOf_18 : decode prog_5_method_5_code 18 = .ok (.iload_n 3, 1) := by decide +kernel
theorem d_Fn_behindEndOf_19 : decode prog_5_method_5_code 19 = .ok (.iaload, 1) := by decide +kernel
theorem d_Fn_behindEndOf_20 : decode prog_5_method_5_code 20 = .ok (.invokestatic 41, 3) := by decide +kernel
theorem d_Fn_behindEndOf_23 : decode prog_5_method_5_code 23 = .ok (.ifCond .eq 9, 3) := by decide +kernel
theorem d_Fn_behindEndOf_26 : decode prog_5_method_5_code 26 = .ok (.iinc 2 1, 3) := by decide +kernel
theorem d_Fn_behindEndOf_29 : decode prog_5_method_5_code 29 = .ok (.goto 25, 3) := by decide +kernel
theorem d_Fn_behindEndOf_32 : decode prog_5_method_5_code 32 = .ok (.aload_n 0, 1) := by decide +kernel
theorem d_Fn_behindEndOf_33 : decode prog_5_method_5_code 33 = .ok (.getfield 9, 3) := by decide +kernel
theorem d_Fn_behindEndOf_36 : decode prog_5_method_5_code 36 = .ok (.iload_n 3, 1) := by decide +kernel
theorem d_Fn_behindEndOf_37 : decode prog_5_method_5_code 37 = .ok (.iaload, 1) := by decide +kernel
theorem d_Fn_behindEndOf_38 : decode prog_5_method_5_code 38 = .ok (.bipush 14, 2) := by decide +kernel
theorem d_Fn_behindEndOf_40 : decode prog_5_method_5_code 40 = .ok (.if_icmp .ne 14, 3) := by decide +kernel
theorem d_Fn_behindEndOf_43 : decode prog_5_method_5_code 43 = .ok (.iload_n 2, 1) := by decide +kernel
theorem d_Fn_behindEndOf_44 : decode prog_5_method_5_code 44 = .ok (.ifCond .ne 7, 3) := by decide +kernel
theorem d_Fn_behindEndOf_47 : decode prog_5_method_5_code 47 = .ok (.iload_n 3, 1) := by decide +kernel
theorem d_Fn_behindEndOf_48 : decode prog_5_method_5_code 48 = .ok (.iconst 1, 1) := by decide +kernel
theorem d_Fn_behindEndOf_49 : decode prog_5_method_5_code 49 = .ok (.iadd, 1) := by decide +kernel
theorem d_Fn_behindEndOf_50 : decode prog_5_method_5_code 50 = .ok (.ireturn, 1) := by decide +kernel
theorem d_Fn_behindEndOf_51 : decode prog_5_method_5_code 51 = .ok (.iinc 2 (-1), 3) := by decide +kernel
theorem d_Fn_behindEndOf_54 : decode prog_5_method_5_code 54 = .ok (.iinc 3 1, 3) := by decide +kernel
theorem d_Fn_behindEndOf_57 : decode prog_5_method_5_code 57 = .ok (.goto (-51), 3) := by decide +kernel
theorem d_Fn_behindEndOf_60 : decode prog_5_method_5_code 60 = .ok (.aload_n 0, 1) := by decide +kernel
theorem d_Fn_behindEndOf_61 : decode prog_5_method_5_code 61 = .ok (.getfield 18, 3) := by decide +kernel
theorem d_Fn_behindEndOf_64 : decode prog_5_method_5_code 64 = .ok (.ireturn, 1) := by decide +kernel
abbrev rm_Fn_behindEndOf : Room := { frames := 1, cells := 0, slots := 0, locals := 20 }
def p_Fn_behindEndOf_b54 (k : Int32 → vS → Prop) (hd : vS → Nat → Int32 → Int32 → Prop) (V : vS) (f0 : Nat) (x2 : Int32) (x3 : Int32) : Prop := ∀ y1 : Int32, y1 = x3 + 1 → (hd V f0 x2 y1)
set_option maxRecDepth 100000 in
set_option maxHeartbeats 4000000 in
theorem t_Fn_behindEndOf_b54 {k : Int32 → vS → Prop} (X : cx g p s m meth c args R_Fn prog_5_method_5_code 4 (some .int)) {hd : vS → Nat → Int32 → Int32 → Prop} (ih : ∀ (V : vS) (f0 : Nat) (x2 : Int32) (x3 : Int32) (hf0 : 3 ≤ f0 ∧ f0 < 7), hd V f0 x2 x3 → ∀ (H : Heap) (locs : List Loc) (ls : Array Slot), va_P g.1 vcl (cw g V) H → va_S (gA g) s.heap H locs → lv_has ls 4 [(0, .ref (ga g f0)), (2, .int x2), (3, .int x3)] → W p l e rm_Fn_behindEndOf s m args below meth c H locs 0 0 (MQ below (va_Qi k (Bw g) (gA g)) args s 0 0 (gA g)) (F0 m 6 ls [])) {V : vS} {f0 : Nat} {x2 : Int32} {x3 : Int32} (hf0 : 3 ≤ f0 ∧ f0 < 7) (h : p_Fn_behindEndOf_b54 k hd V f0 x2 x3) (hP : va_P g.1 vcl (cw g V) H) (hS : va_S (gA g) s.heap H locs) (hl : lv_has ls 4 [(0, .ref (ga g f0)), (2, .int x2), (3, .int x3)]) : W p l e rm_Fn_behindEndOf s m args below meth c H locs 0 0 (MQ below (va_Qi k (Bw g) (gA g)) args s 0 0 (gA g)) (F0 m 54 ls []) := by
  obtain ⟨hx, hb, -, -, hown, hts, -, -, hz, hG⟩ := id X
  unfold p_Fn_behindEndOf_b54 at h
  obtain ⟨y1, ey1⟩ : ∃ z : Int32, z = x3 + 1 := ⟨_, rfl⟩
  have h := h y1 ey1
  refine lv_iinc (v := y1) (lv' := [(3, .int y1), (0, .ref (ga g f0)), (2, .int x2)]) hx hb d_Fn_behindEndOf_54 hl (k := 2) rfl (by rw [ey1]; rfl) (by decide) rfl (fun ls hl => ?_)
  refine lv_goto (tgt := 6) hx hb d_Fn_behindEndOf_57 (by decide) ?_
  exact ih V f0 x2 y1 hf0 h _ _ _ hP hS (lv_sub hl [1, 2, 0] rfl)
def p_Fn_behindEndOf_b6 (k : Int32 → vS → Prop) : Nat → vS → Nat → Int32 → Int32 → Prop
  | 0, _, _, _, _ => False
  | n + 1, V, f0, x2, x3 => ((V.1 f0 2) ≤ x3 → (k (V.1 f0 2) V)) ∧ (¬ (V.1 f0 2) ≤ x3 → (vp_in x3 24 ∧ (p_Op_opensPart (fun r4 V3 => (r4 = 0 → (vp_in x3 24 ∧ (((V3.1 (f0 + 4) (nt x3)) = 14 → ((x2 = 0 → (k (x3 + 1) V3)) ∧ (¬ x2 = 0 → (∀ y10 : Int32, y10 = x2 + (-1) → (p_Fn_behindEndOf_b54 k (p_Fn_behindEndOf_b6 k n) V3 f0 y10 x3))))) ∧ (¬ (V3.1 (f0 + 4) (nt x3)) = 14 → (p_Fn_behindEndOf_b54 k (p_Fn_behindEndOf_b6 k n) V3 f0 x2 x3))))) ∧ (¬ r4 = 0 → (∀ y11 : Int32, y11 = x2 + 1 → (p_Fn_behindEndOf_b54 k (p_Fn_behindEndOf_b6 k n) V3 f0 y11 x3)))) V (V.1 (f0 + 4) (nt x3)))))
set_option maxRecDepth 100000 in
set_option maxHeartbeats 4000000 in
theorem t_Fn_behindEndOf_b6 {k : Int32 → vS → Prop} (X : cx g p s m meth c args R_Fn prog_5_method_5_code 4 (some .int)) : ∀ (n : Nat) (V : vS) (f0 : Nat) (x2 : Int32) (x3 : Int32) (hf0 : 3 ≤ f0 ∧ f0 < 7), p_Fn_behindEndOf_b6 k n V f0 x2 x3 → ∀ (H : Heap) (locs : List Loc) (ls : Array Slot), va_P g.1 vcl (cw g V) H → va_S (gA g) s.heap H locs → lv_has ls 4 [(0, .ref (ga g f0)), (2, .int x2), (3, .int x3)] → W p l e rm_Fn_behindEndOf s m args below meth c H locs 0 0 (MQ below (va_Qi k (Bw g) (gA g)) args s 0 0 (gA g)) (F0 m 6 ls []) := by
  obtain ⟨hx, hb, -, -, hown, hts, -, -, hz, hG⟩ := id X
  intro n
  induction n with
  | zero =>
    intro V f0 x2 x3 hf0 h
    exact h.elim
  | succ n ih =>
    intro V f0 x2 x3 hf0 h H locs ls hP hS hl
    unfold p_Fn_behindEndOf_b6 at h
    refine lv_iload_n hx hb d_Fn_behindEndOf_6 rfl (lv_at hl 2 rfl) ?_
    refine lv_aload_n hx hb d_Fn_behindEndOf_7 rfl (lv_at hl 0 rfl) ?_
    refine gf_Fn_length X hP hf0 q_36 d_Fn_behindEndOf_8 ?_
    refine lv_icmp_ge (tgt := 60) hx hb d_Fn_behindEndOf_11 (by decide) (fun c1 => ?_) (fun c1 => ?_)
    · have h := h.1 c1
      refine lv_aload_n hx hb d_Fn_behindEndOf_60 rfl (lv_at hl 0 rfl) ?_
      refine gf_Fn_length X hP hf0 q_36 d_Fn_behindEndOf_61 ?_
      exact rw_iret X hP hS h d_Fn_behindEndOf_64
    · have h := h.2 c1
      refine lv_aload_n hx hb d_Fn_behindEndOf_14 rfl (lv_at hl 0 rfl) ?_
      refine gf_Fn_ops X hP hf0 q_30 d_Fn_behindEndOf_15 ?_
      refine lv_iload_n hx hb d_Fn_behindEndOf_18 rfl (lv_at hl 2 rfl) ?_
      obtain ⟨hi2, h⟩ := h
      refine rw_iald X hP (isI_ops hf0) hi2 d_Fn_behindEndOf_19 ?_
      refine rw_cSi (rest := []) X hP hS ys_Op_opensPart (c_Op_opensPart hG h) q_381 ⟨rfl, rfl, by decide, by decide⟩ rfl rfl hl.1 (Nat.le_of_ble_eq_true rfl) ⟨Nat.zero_le _, Nat.zero_le _⟩ d_Fn_behindEndOf_20 (fun r4 V3 H locs h hP hS => ?_)
      refine lv_if_eq (tgt := 32) hx hb d_Fn_behindEndOf_23 (by decide) (fun c6 => ?_) (fun c6 => ?_)
      · have h := h.1 c6
        refine lv_aload_n hx hb d_Fn_behindEndOf_32 rfl (lv_at hl 0 rfl) ?_
        refine gf_Fn_ops X hP hf0 q_30 d_Fn_behindEndOf_33 ?_
        refine lv_iload_n hx hb d_Fn_behindEndOf_36 rfl (lv_at hl 2 rfl) ?_
        obtain ⟨hi7, h⟩ := h
        refine rw_iald X hP (isI_ops hf0) hi7 d_Fn_behindEndOf_37 ?_
        refine lv_bipush (v := 14) hx hb d_Fn_behindEndOf_38 (by decide) ?_
        refine lv_icmp_ne (tgt := 54) hx hb d_Fn_behindEndOf_40 (by decide) (fun c8 => ?_) (fun c8 => ?_)
        · have h := h.2 c8
          exact t_Fn_behindEndOf_b54 X (hd := p_Fn_behindEndOf_b6 k n) ih hf0 h hP hS (lv_sub hl [0, 1, 2] rfl)
        · have h := h.1 c8
          refine lv_iload_n hx hb d_Fn_behindEndOf_43 rfl (lv_at hl 1 rfl) ?_
          refine lv_if_ne (tgt := 51) hx hb d_Fn_behindEndOf_44 (by decide) (fun c9 => ?_) (fun c9 => ?_)
          · have h := h.2 c9
            obtain ⟨y10, ey10⟩ : ∃ z : Int32, z = x2 + (-1) := ⟨_, rfl⟩
            have h := h y10 ey10
            refine lv_iinc (v := y10) (lv' := [(2, .int y10), (0, .ref (ga g f0)), (3, .int x3)]) hx hb d_Fn_behindEndOf_51 hl (k := 1) rfl (by rw [ey10]; rfl) (by decide) rfl (fun ls hl => ?_)
            exact t_Fn_behindEndOf_b54 X (hd := p_Fn_behindEndOf_b6 k n) ih hf0 h hP hS (lv_sub hl [1, 0, 2] rfl)
          · have h := h.1 c9
            refine lv_iload_n hx hb d_Fn_behindEndOf_47 rfl (lv_at hl 2 rfl) ?_
            refine lv_iconst (v := 1) hx hb d_Fn_behindEndOf_48 (by decide) ?_
            refine lv_iadd hx hb d_Fn_behindEndOf_49 ?_
            exact rw_iret X hP hS h d_Fn_behindEndOf_50
      · have h := h.2 c6
        obtain ⟨y11, ey11⟩ : ∃ z : Int32, z = x2 + 1 := ⟨_, rfl⟩
        have h := h y11 ey11
        refine lv_iinc (v := y11) (lv' := [(2, .int y11), (0, .ref (ga g f0)), (3, .int x3)]) hx hb d_Fn_behindEndOf_26 hl (k := 1) rfl (by rw [ey11]; rfl) (by decide) rfl (fun ls hl => ?_)
        refine lv_goto (tgt := 54) hx hb d_Fn_behindEndOf_29 (by decide) ?_
        exact t_Fn_behindEndOf_b54 X (hd := p_Fn_behindEndOf_b6 k n) ih hf0 h hP hS (lv_sub hl [1, 0, 2] rfl)
def p_Fn_behindEndOf (k : Int32 → vS → Prop) (V : vS) (f0 : Nat) (x1 : Int32) : Prop := ∀ y1 : Int32, y1 = x1 + 1 → (∃ n, p_Fn_behindEndOf_b6 k n V f0 0 y1)
set_option maxRecDepth 100000 in
set_option maxHeartbeats 4000000 in
theorem c_Fn_behindEndOf {l : Launch} {g : gT} (hG : gd g) {V : vS} {f0 : Nat} {x1 : Int32} (hf0 : 3 ≤ f0 ∧ f0 < 7) {k : Int32 → vS → Prop} (h : p_Fn_behindEndOf k V f0 x1) : Ci g l y_Fn_behindEndOf prog_5_method_5_code 4 (some .int) rm_Fn_behindEndOf [.ref (ga g f0), .int x1] V k := by
  unfold Ci
  refine Met.ofW (cc := prog_5_method_5_code) (maxL := 4) (ret := some .int) (by decide) rfl ?_
  intro p e s m args below meth c s₁ B hml hv
  obtain ⟨rfl, hP, hK, hZ⟩ := hv
  have X : cx g p s m meth c [.ref (ga g f0), .int x1].toArray R_Fn prog_5_method_5_code 4 (some .int) := ⟨B.exec, B.bytes, B.returns, hml, findClass_of_methodNamed B.named, fun w hw => atoms_spec (ws := Cond.code y_Fn_behindEndOf prog_5_method_5_code 4 (some .int) :: TBL) B.pre w (List.mem_cons_of_mem _ hw), B.notSynchronized, hK, hZ, hG⟩
  have hl := lv_entry [.ref (ga g f0), .int x1] (n := 4) (Nat.le_of_ble_eq_true rfl)
  rw [lg_entry_eq]
  generalize (lg_sl [.ref (ga g f0), .int x1] ++ List.replicate (4 - (lg_sl [.ref (ga g f0), .int x1]).length) Slot.unset).toArray = ls at hl ⊢
  have hl : lv_has ls 4 [(0, .ref (ga g f0)), (1, .int x1)] := hl
  have hS : va_S (gA g) s.heap s.heap [] := va_S.rf
  obtain ⟨hx, hb, -, -, hown, hts, -, -, hz, -⟩ := id X
  show W p l e rm_Fn_behindEndOf s m _ below meth c s.heap [] 0 0 (MQ below (va_Qi k (Bw g) (gA g)) _ s 0 0 (gA g)) (F0 m 0 ls [])
  unfold p_Fn_behindEndOf at h
  refine lv_iconst (v := 0) hx hb d_Fn_behindEndOf_0 (by decide) ?_
  refine lv_istore_n (lv' := [(2, .int 0), (0, .ref (ga g f0)), (1, .int x1)]) hx hb d_Fn_behindEndOf_1 rfl hl (by decide) rfl (fun ls hl => ?_)
  refine lv_iload_n hx hb d_Fn_behindEndOf_2 rfl (lv_at hl 2 rfl) ?_
  refine lv_iconst (v := 1) hx hb d_Fn_behindEndOf_3 (by decide) ?_
  refine lv_iadd hx hb d_Fn_behindEndOf_4 ?_
  refine lv_topi (fun y1 ey1 => ?_)
  have h := h y1 ey1
  refine lv_istore_n (lv' := [(3, .int y1), (2, .int 0), (0, .ref (ga g f0)), (1, .int x1)]) hx hb d_Fn_behindEndOf_5 rfl hl (by decide) rfl (fun ls hl => ?_)
  obtain ⟨n, h⟩ := h
  exact t_Fn_behindEndOf_b6 X n V f0 0 y1 hf0 h _ _ _ hP hS (lv_sub hl [2, 1, 0] rfl)
theorem yv_Fn_behindEndOf : yV R_Fn y_Fn_behindEndOf prog_5_method_5_code 4 (some .int) 1 := ⟨by decide +kernel, q_384, qp_18, q_3, q_385⟩
/-! Fn.target -/
theorem d_Fn_target_0 : decode prog_5_method_3_code 0 = .ok (.aload_n 0, 1) := by decide +kernel
theorem d_Fn_target_1 : decode prog_5_method_3_code 1 = .ok (.iload_n 1, 1) := by decide +kernel
theorem d_Fn_target_2 : decode prog_5_method_3_code 2 = .ok (.iload_n 2, 1) := by decide +kernel
theorem d_Fn_target_3 : decode prog_5_method_3_code 3 = .ok (.invokevirtual 31, 3) := by decide +kernel
theorem d_Fn_target_6 : decode prog_5_method_3_code 6 = .ok (.istore_n 3, 1) := by decide +kernel
theorem d_Fn_target_7 : decode prog_5_method_3_code 7 = .ok (.iload_n 3, 1) := by decide +kernel
theorem d_Fn_target_8 : decode prog_5_method_3_code 8 = .ok (.ifCond .ge 8, 3) := by decide +kernel
theorem d_Fn_target_11 : decode prog_5_method_3_code 11 = .ok (.aload_n 0, 1) := by decide +kernel
theorem d_Fn_target_12 : decode prog_5_method_3_code 12 = .ok (.getfield 18, 3) := by decide +kernel
theorem d_Fn_target_15 : decode prog_5_method_3_code 15 = .ok (.ireturn, 1) := by decide +kernel
theorem d_Fn_target_16 : decode prog_5_method_3_code 16 = .ok (.aload_n 0, 1) := by decide +kernel
theorem d_Fn_target_17 : decode prog_5_method_3_code 17 = .ok (.getfield 9, 3) := by decide +kernel
theorem d_Fn_target_20 : decode prog_5_method_3_code 20 = .ok (.iload_n 3, 1) := by decide +kernel
theorem d_Fn_target_21 : decode prog_5_method_3_code 21 = .ok (.iaload, 1) := by decide +kernel
theorem d_Fn_target_22 : decode prog_5_method_3_code 22 = .ok (.bipush 13, 2) := by decide +kernel
theorem d_Fn_target_24 : decode prog_5_method_3_code 24 = .ok (.if_icmp .ne 9, 3) := by decide +kernel
theorem d_Fn_target_27 : decode prog_5_method_3_code 27 = .ok (.iload_n 3, 1) := by decide +kernel
theorem d_Fn_target_28 : decode prog_5_method_3_code 28 = .ok (.iconst 1, 1) := by decide +kernel
theorem d_Fn_target_29 : decode prog_5_method_3_code 29 = .ok (.iadd, 1) := by decide +kernel
theorem d_Fn_target_30 : decode prog_5_method_3_code 30 = .ok (.goto 8, 3) := by decide +kernel
theorem d_Fn_target_33 : decode prog_5_method_3_code 33 = .ok (.aload_n 0, 1) := by decide +kernel
theorem d_Fn_target_34 : decode prog_5_method_3_code 34 = .ok (.iload_n 3, 1) := by decide +kernel
theorem d_Fn_target_35 : decode prog_5_method_3_code 35 = .ok (.invokevirtual 37, 3) := by decide +kernel
theorem d_Fn_target_38 : decode prog_5_method_3_code 38 = .ok (.ireturn, 1) := by decide +kernel
abbrev rm_Fn_target : Room := { frames := 2, cells := 0, slots := 0, locals := 45 }
def p_Fn_target_b38 (k : Int32 → vS → Prop) (V : vS) (s0 : Int32) : Prop := k s0 V
set_option maxRecDepth 100000 in
set_option maxHeartbeats 4000000 in
theorem t_Fn_target_b38 {k : Int32 → vS → Prop} (X : cx g p s m meth c args R_Fn prog_5_method_3_code 4 (some .int)) {V : vS} {s0 : Int32} (h : p_Fn_target_b38 k V s0) (hP : va_P g.1 vcl (cw g V) H) (hS : va_S (gA g) s.heap H locs) (hl : lv_has ls 4 []) : W p l e rm_Fn_target s m args below meth c H locs 0 0 (MQ below (va_Qi k (Bw g) (gA g)) args s 0 0 (gA g)) (F0 m 38 ls [.int s0]) := by
  obtain ⟨hx, hb, -, -, hown, hts, -, -, hz, hG⟩ := id X
  unfold p_Fn_target_b38 at h
  exact rw_iret X hP hS h d_Fn_target_38
def p_Fn_target (k : Int32 → vS → Prop) (V : vS) (f0 : Nat) (x1 : Int32) (x2 : Int32) : Prop := p_Fn_openingOf (fun r2 V1 => (0 ≤ r2 → (vp_in r2 24 ∧ (((V1.1 (f0 + 4) (nt r2)) = 13 → (p_Fn_target_b38 k V1 (r2 + 1))) ∧ (¬ (V1.1 (f0 + 4) (nt r2)) = 13 → (p_Fn_behindEndOf (fun r8 V7 => p_Fn_target_b38 k V7 r8) V1 f0 r2))))) ∧ (¬ 0 ≤ r2 → (k (V1.1 f0 2) V1))) V f0 x1 x2
set_option maxRecDepth 100000 in
set_option maxHeartbeats 4000000 in
theorem c_Fn_target {l : Launch} {g : gT} (hG : gd g) {V : vS} {f0 : Nat} {x1 : Int32} {x2 : Int32} (hf0 : 3 ≤ f0 ∧ f0 < 7) {k : Int32 → vS → Prop} (h : p_Fn_target k V f0 x1 x2) : Ci g l y_Fn_target prog_5_method_3_code 4 (some .int) rm_Fn_target [.ref (ga g f0), .int x1, .int x2] V k := by
  unfold Ci
  refine Met.ofW (cc := prog_5_method_3_code) (maxL := 4) (ret := some .int) (by decide) rfl ?_
  intro p e s m args below meth c s₁ B hml hv
  obtain ⟨rfl, hP, hK, hZ⟩ := hv
  have X : cx g p s m meth c [.ref (ga g f0), .int x1, .int x2].toArray R_Fn prog_5_method_3_code 4 (some .int) := ⟨B.exec, B.bytes, B.returns, hml, findClass_of_methodNamed B.named, fun w hw => atoms_spec (ws := Cond.code y_Fn_target prog_5_method_3_code 4 (some .int) :: TBL) B.pre w (List.mem_cons_of_mem _ hw), B.notSynchronized, hK, hZ, hG⟩
  have hl := lv_entry [.ref (ga g f0), .int x1, .int x2] (n := 4) (Nat.le_of_ble_eq_true rfl)
  rw [lg_entry_eq]
  generalize (lg_sl [.ref (ga g f0), .int x1, .int x2] ++ List.replicate (4 - (lg_sl [.ref (ga g f0), .int x1, .int x2]).length) Slot.unset).toArray = ls at hl ⊢
  have hl : lv_has ls 4 [(0, .ref (ga g f0)), (1, .int x1), (2, .int x2)] := hl
  have hS : va_S (gA g) s.heap s.heap [] := va_S.rf
  obtain ⟨hx, hb, -, -, hown, hts, -, -, hz, -⟩ := id X
  show W p l e rm_Fn_target s m _ below meth c s.heap [] 0 0 (MQ below (va_Qi k (Bw g) (gA g)) _ s 0 0 (gA g)) (F0 m 0 ls [])
  unfold p_Fn_target at h
  refine lv_aload_n hx hb d_Fn_target_0 rfl (lv_at hl 0 rfl) ?_
  refine lv_iload_n hx hb d_Fn_target_1 rfl (lv_at hl 1 rfl) ?_
  refine lv_iload_n hx hb d_Fn_target_2 rfl (lv_at hl 2 rfl) ?_
  refine rw_cVi (rest := []) X hP hS yv_Fn_openingOf (isO_Fn hf0) (c_Fn_openingOf hG hf0 h) q_377 ⟨rfl, rfl, by decide, by decide⟩ rfl rfl hl.1 (Nat.le_of_ble_eq_true rfl) ⟨Nat.zero_le _, Nat.zero_le _⟩ d_Fn_target_3 (fun r2 V1 H locs h hP hS => ?_)
  refine lv_istore_n (lv' := [(3, .int r2), (0, .ref (ga g f0)), (1, .int x1), (2, .int x2)]) hx hb d_Fn_target_6 rfl hl (by decide) rfl (fun ls hl => ?_)
  refine lv_iload_n hx hb d_Fn_target_7 rfl (lv_at hl 0 rfl) ?_
  refine lv_if_ge (tgt := 16) hx hb d_Fn_target_8 (by decide) (fun c4 => ?_) (fun c4 => ?_)
  · have h := h.1 c4
    refine lv_aload_n hx hb d_Fn_target_16 rfl (lv_at hl 1 rfl) ?_
    refine gf_Fn_ops X hP hf0 q_30 d_Fn_target_17 ?_
    refine lv_iload_n hx hb d_Fn_target_20 rfl (lv_at hl 0 rfl) ?_
    obtain ⟨hi5, h⟩ := h
    refine rw_iald X hP (isI_ops hf0) hi5 d_Fn_target_21 ?_
    refine lv_bipush (v := 13) hx hb d_Fn_target_22 (by decide) ?_
    refine lv_icmp_ne (tgt := 33) hx hb d_Fn_target_24 (by decide) (fun c6 => ?_) (fun c6 => ?_)
    · have h := h.2 c6
      refine lv_aload_n hx hb d_Fn_target_33 rfl (lv_at hl 1 rfl) ?_
      refine lv_iload_n hx hb d_Fn_target_34 rfl (lv_at hl 0 rfl) ?_
      refine rw_cVi (rest := []) X hP hS yv_Fn_behindEndOf (isO_Fn hf0) (c_Fn_behindEndOf hG hf0 h) q_382 ⟨rfl, rfl, by decide, by decide⟩ rfl rfl hl.1 (Nat.le_of_ble_eq_true rfl) ⟨Nat.zero_le _, Nat.zero_le _⟩ d_Fn_target_35 (fun r8 V7 H locs h hP hS => ?_)
      exact t_Fn_target_b38 X h hP hS (lv_sub hl [] rfl)
    · have h := h.1 c6
      refine lv_iload_n hx hb d_Fn_target_27 rfl (lv_at hl 0 rfl) ?_
      refine lv_iconst (v := 1) hx hb d_Fn_target_28 (by decide) ?_
      refine lv_iadd hx hb d_Fn_target_29 ?_
      refine lv_goto (tgt := 38) hx hb d_Fn_target_30 (by decide) ?_
      exact t_Fn_target_b38 X h hP hS (lv_sub hl [] rfl)
  · have h := h.2 c4
    refine lv_aload_n hx hb d_Fn_target_11 rfl (lv_at hl 1 rfl) ?_
    refine gf_Fn_length X hP hf0 q_36 d_Fn_target_12 ?_
    exact rw_iret X hP hS h d_Fn_target_15
theorem yv_Fn_target : yV R_Fn y_Fn_target prog_5_method_3_code 4 (some .int) 2 := ⟨by decide +kernel, q_374, q_375, q_3, q_376⟩
end MM
