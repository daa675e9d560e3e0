section MM
variable {p : Program} {l : Launch} {e : Env} {s : State} {m : MethodId} {args : Array Value} {below : List Frame} {meth : Method} {c : Code} {H : Heap} {locs : List Loc}
variable {g : gT} {ls : Array Slot}
/-! Ck.isArgument -/
theorem d_Ck_isArgument_0 : decode prog_2_method_6_code 0 = .ok (.iload_n 2, 1) := by decide +kernel
theorem d_Ck_isArgument_1 : decode prog_2_method_6_code 1 = .ok (.tableswitch 134 1 18 #[87, 87, 134, 134, 134, 134, 134, 134, 134, 127, 127, 134, 134, 134, 103, 103, 112, 121], 87) := by decide +kernel
theorem d_Ck_isArgument_88 : decode prog_2_method_6_code 88 = .ok (.iload_n 3, 1) := by decide +kernel
theorem d_Ck_isArgument_89 : decode prog_2_method_6_code 89 = .ok (.aload_n 1, 1) := by decide +kernel
theorem d_Ck_isArgument_90 : decode prog_2_method_6_code 90 = .ok (.getfield 98, 3) := by decide +kernel
theorem d_Ck_isArgument_93 : decode prog_2_method_6_code 93 = .ok (.aload_n 1, 1) := by decide +kernel
theorem d_Ck_isArgument_94 : decode prog_2_method_6_code 94 = .ok (.getfield 101, 3) := by decide +kernel
theorem d_Ck_isArgument_97 : decode prog_2_method_6_code 97 = .ok (.iadd, 1) := by decide +kernel
theorem d_Ck_isArgument_98 : decode prog_2_method_6_code 98 = .ok (.iconst 1, 1) := by decide +kernel
theorem d_Ck_isArgument_99 : decode prog_2_method_6_code 99 = .ok (.isub, 1) := by decide +kernel
theorem d_Ck_isArgument_100 : decode prog_2_method_6_code 100 = .ok (.invokestatic 104, 3) := by decide +kernel
theorem d_Ck_isArgument_103 : decode prog_2_method_6_code 103 = .ok (.ireturn, 1) := by decide +kernel
theorem d_Ck_isArgument_104 : decode prog_2_method_6_code 104 = .ok (.iload_n 3, 1) := by decide +kernel
theorem d_Ck_isArgument_105 : decode prog_2_method_6_code 105 = .ok (.aload_n 0, 1) := by decide +kernel
theorem d_Ck_isArgument_106 : decode prog_2_method_6_code 106 = .ok (.getfield 15, 3) := by decide +kernel
theorem d_Ck_isArgument_109 : decode prog_2_method_6_code 109 = .ok (.invokestatic 104, 3) := by decide +kernel
theorem d_Ck_isArgument_112 : decode prog_2_method_6_code 112 = .ok (.ireturn, 1) := by decide +kernel
theorem d_Ck_isArgument_113 : decode prog_2_method_6_code 113 = .ok (.aload_n 0, 1) := by decide +kernel
theorem d_Ck_isArgument_114 : decode prog_2_method_6_code 114 = .ok (.getfield 37, 3) := by decide +kernel
theorem d_Ck_isArgument_117 : decode prog_2_method_6_code 117 = .ok (.iload_n 3, 1) := by decide +kernel
theorem d_Ck_isArgument_118 : decode prog_2_method_6_code 118 = .ok (.invokevirtual 108, 3) := by decide +kernel
theorem d_Ck_isArgument_121 : decode prog_2_method_6_code 121 = .ok (.ireturn, 1) := by decide +kernel
theorem d_Ck_isArgument_122 : decode prog_2_method_6_code 122 = .ok (.iload_n 3, 1) := by decide +kernel
theorem d_Ck_isArgument_123 : decode prog_2_method_6_code 123 = .ok (.iconst 3, 1) := by decide +kernel
theorem d_Ck_isArgument_124 : decode prog_2_method_6_code 124 = .ok (.invokestatic 104, 3) := by decide +kernel
theorem d_Ck_isArgument_127 : decode prog_2_method_6_code 127 = .ok (.ireturn, 1) := by decide +kernel
theorem d_Ck_isArgument_128 : decode prog_2_method_6_code 128 = .ok (.iload_n 3, 1) := by decide +kernel
theorem d_Ck_isArgument_129 : decode prog_2_method_6_code 129 = .ok (.bipush 31, 2) := by decide +kernel
theorem d_Ck_isArgument_131 : decode prog_2_method_6_code 131 = .ok (.invokestatic 104, 3) := by decide +kernel
theorem d_Ck_isArgument_134 : decode prog_2_method_6_code 134 = .ok (.ireturn, 1) := by decide +kernel
theorem d_Ck_isArgument_135 : decode prog_2_method_6_code 135 = .ok (.iconst 1, 1) := by decide +kernel
theorem d_Ck_isArgument_136 : decode prog_2_method_6_code 136 = .ok (.ireturn, 1) := by decide +kernel
abbrev rm_Ck_isArgument : Room := { frames := 1, cells := 0, slots := 0, locals := 21 }
def p_Ck_isArgument (k : Int32 → vS → Prop) (V : vS) (f1 : Nat) (x2 : Int32) (x3 : Int32) : Prop := (x2 = 1 → (p_PR_within (fun r3 V2 => (r3 = 0 ∨ r3 = 1) ∧ (k r3 V2)) V x3 (((V.1 f1 3) + (V.1 f1 5)) - 1))) ∧ (¬ x2 = 1 → ((x2 = 2 → (p_PR_within (fun r8 V7 => (r8 = 0 ∨ r8 = 1) ∧ (k r8 V7)) V x3 (((V.1 f1 3) + (V.1 f1 5)) - 1))) ∧ (¬ x2 = 2 → ((x2 = 3 → (k 1 V)) ∧ (¬ x2 = 3 → ((x2 = 4 → (k 1 V)) ∧ (¬ x2 = 4 → ((x2 = 5 → (k 1 V)) ∧ (¬ x2 = 5 → ((x2 = 6 → (k 1 V)) ∧ (¬ x2 = 6 → ((x2 = 7 → (k 1 V)) ∧ (¬ x2 = 7 → ((x2 = 8 → (k 1 V)) ∧ (¬ x2 = 8 → ((x2 = 9 → (k 1 V)) ∧ (¬ x2 = 9 → ((x2 = 10 → (p_PR_within (fun r20 V19 => (r20 = 0 ∨ r20 = 1) ∧ (k r20 V19)) V x3 31)) ∧ (¬ x2 = 10 → ((x2 = 11 → (p_PR_within (fun r25 V24 => (r25 = 0 ∨ r25 = 1) ∧ (k r25 V24)) V x3 31)) ∧ (¬ x2 = 11 → ((x2 = 12 → (k 1 V)) ∧ (¬ x2 = 12 → ((x2 = 13 → (k 1 V)) ∧ (¬ x2 = 13 → ((x2 = 14 → (k 1 V)) ∧ (¬ x2 = 14 → ((x2 = 15 → (p_PR_within (fun r33 V32 => (r33 = 0 ∨ r33 = 1) ∧ (k r33 V32)) V x3 (V.1 15 2))) ∧ (¬ x2 = 15 → ((x2 = 16 → (p_PR_within (fun r38 V37 => (r38 = 0 ∨ r38 = 1) ∧ (k r38 V37)) V x3 (V.1 15 2))) ∧ (¬ x2 = 16 → ((x2 = 17 → (p_Pg_has (fun r43 V42 => (r43 = 0 ∨ r43 = 1) ∧ (k r43 V42)) V x3)) ∧ (¬ x2 = 17 → ((x2 = 18 → (p_PR_within (fun r48 V47 => (r48 = 0 ∨ r48 = 1) ∧ (k r48 V47)) V x3 3)) ∧ (¬ x2 = 18 → (k 1 V))))))))))))))))))))))))))))))))))))
set_option maxRecDepth 100000 in
set_option maxHeartbeats 4000000 in
theorem c_Ck_isArgument {l : Launch} {g : gT} (hG : gd g) {V : vS} {f1 : Nat} {x2 : Int32} {x3 : Int32} (hf1 : 3 ≤ f1 ∧ f1 < 7) {k : Int32 → vS → Prop} (h : p_Ck_isArgument k V f1 x2 x3) : Ci g l y_Ck_isArgument prog_2_method_6_code 4 (some .boolean) rm_Ck_isArgument [.ref (ga g 15), .ref (ga g f1), .int x2, .int x3] V k := by
  unfold Ci
  refine Met.ofW (cc := prog_2_method_6_code) (maxL := 4) (ret := some .boolean) (by decide) rfl ?_
  intro p e s m args below meth c s₁ B hml hv
  obtain ⟨rfl, hP, hK, hZ⟩ := hv
  have X : cx g p s m meth c [.ref (ga g 15), .ref (ga g f1), .int x2, .int x3].toArray R_Ck prog_2_method_6_code 4 (some .boolean) := ⟨B.exec, B.bytes, B.returns, hml, findClass_of_methodNamed B.named, fun w hw => atoms_spec (ws := Cond.code y_Ck_isArgument prog_2_method_6_code 4 (some .boolean) :: TBL) B.pre w (List.mem_cons_of_mem _ hw), B.notSynchronized, hK, hZ, hG⟩
  have hl := lv_entry [.ref (ga g 15), .ref (ga g f1), .int x2, .int x3] (n := 4) (Nat.le_of_ble_eq_true rfl)
  rw [lg_entry_eq]
  generalize (lg_sl [.ref (ga g 15), .ref (ga g f1), .int x2, .int x3] ++ List.replicate (4 - (lg_sl [.ref (ga g 15), .ref (ga g f1), .int x2, .int x3]).length) Slot.unset).toArray = ls at hl ⊢
  have hl : lv_has ls 4 [(0, .ref (ga g 15)), (1, .ref (ga g f1)), (2, .int x2), (3, .int x3)] := hl
  have hS : va_S (gA g) s.heap s.heap [] := va_S.rf
  obtain ⟨hx, hb, -, -, hown, hts, -, -, hz, -⟩ := id X
  show W p l e rm_Ck_isArgument s m _ below meth c s.heap [] 0 0 (MQ below (va_Qi k (Bw g) (gA g)) _ s 0 0 (gA g)) (F0 m 0 ls [])
  unfold p_Ck_isArgument at h
  refine lv_iload_n hx hb d_Ck_isArgument_0 rfl (lv_at hl 2 rfl) ?_
  by_cases c1 : x2 = 1
  · have h := h.1 c1
    refine lv_tableIn (off := 87) (tgt := 88) hx hb d_Ck_isArgument_1 (by rw [c1]; decide) (by rw [c1]; decide) (by rw [c1]; rfl) (by decide) ?_
    refine lv_iload_n hx hb d_Ck_isArgument_88 rfl (lv_at hl 3 rfl) ?_
    refine lv_aload_n hx hb d_Ck_isArgument_89 rfl (lv_at hl 1 rfl) ?_
    refine gf_Fn_takes X hP hf1 q_43 d_Ck_isArgument_90 ?_
    refine lv_aload_n hx hb d_Ck_isArgument_93 rfl (lv_at hl 1 rfl) ?_
    refine gf_Fn_locals X hP hf1 q_50 d_Ck_isArgument_94 ?_
    refine lv_iadd hx hb d_Ck_isArgument_97 ?_
    refine lv_iconst (v := 1) hx hb d_Ck_isArgument_98 (by decide) ?_
    refine lv_isub hx hb d_Ck_isArgument_99 ?_
    refine rw_cNi (rest := []) X hP hS ys_PR_within (host := R_PR) (c_PR_within hG h) hz.2.2.2.2.1 ⟨rfl, rfl, by decide, by decide⟩ rfl rfl hl.1 (Nat.le_of_ble_eq_true rfl) ⟨Nat.zero_le _, Nat.zero_le _⟩ d_Ck_isArgument_100 (fun r3 V2 H locs h hP hS => ?_)
    obtain ⟨hb5, h⟩ := h
    exact rw_zret X hP hS hb5 h d_Ck_isArgument_103
  · have h := h.2 c1
    by_cases c6 : x2 = 2
    · have h := h.1 c6
      refine lv_tableIn (off := 87) (tgt := 88) hx hb d_Ck_isArgument_1 (by rw [c6]; decide) (by rw [c6]; decide) (by rw [c6]; rfl) (by decide) ?_
      refine lv_iload_n hx hb d_Ck_isArgument_88 rfl (lv_at hl 3 rfl) ?_
      refine lv_aload_n hx hb d_Ck_isArgument_89 rfl (lv_at hl 1 rfl) ?_
      refine gf_Fn_takes X hP hf1 q_43 d_Ck_isArgument_90 ?_
      refine lv_aload_n hx hb d_Ck_isArgument_93 rfl (lv_at hl 1 rfl) ?_
      refine gf_Fn_locals X hP hf1 q_50 d_Ck_isArgument_94 ?_
      refine lv_iadd hx hb d_Ck_isArgument_97 ?_
      refine lv_iconst (v := 1) hx hb d_Ck_isArgument_98 (by decide) ?_
      refine lv_isub hx hb d_Ck_isArgument_99 ?_
      refine rw_cNi (rest := []) X hP hS ys_PR_within (host := R_PR) (c_PR_within hG h) hz.2.2.2.2.1 ⟨rfl, rfl, by decide, by decide⟩ rfl rfl hl.1 (Nat.le_of_ble_eq_true rfl) ⟨Nat.zero_le _, Nat.zero_le _⟩ d_Ck_isArgument_100 (fun r8 V7 H locs h hP hS => ?_)
      obtain ⟨hb10, h⟩ := h
      exact rw_zret X hP hS hb10 h d_Ck_isArgument_103
    · have h := h.2 c6
      by_cases c11 : x2 = 3
      · have h := h.1 c11
        refine lv_tableIn (off := 134) (tgt := 135) hx hb d_Ck_isArgument_1 (by rw [c11]; decide) (by rw [c11]; decide) (by rw [c11]; rfl) (by decide) ?_
        refine lv_iconst (v := 1) hx hb d_Ck_isArgument_135 (by decide) ?_
        exact rw_zret X hP hS (by decide) h d_Ck_isArgument_136
      · have h := h.2 c11
        by_cases c12 : x2 = 4
        · have h := h.1 c12
          refine lv_tableIn (off := 134) (tgt := 135) hx hb d_Ck_isArgument_1 (by rw [c12]; decide) (by rw [c12]; decide) (by rw [c12]; rfl) (by decide) ?_
          refine lv_iconst (v := 1) hx hb d_Ck_isArgument_135 (by decide) ?_
          exact rw_zret X hP hS (by decide) h d_Ck_isArgument_136
        · have h := h.2 c12
          by_cases c13 : x2 = 5
          · have h := h.1 c13
            refine lv_tableIn (off := 134) (tgt := 135) hx hb d_Ck_isArgument_1 (by rw [c13]; decide) (by rw [c13]; decide) (by rw [c13]; rfl) (by decide) ?_
            refine lv_iconst (v := 1) hx hb d_Ck_isArgument_135 (by decide) ?_
            exact rw_zret X hP hS (by decide) h d_Ck_isArgument_136
          · have h := h.2 c13
            by_cases c14 : x2 = 6
            · have h := h.1 c14
              refine lv_tableIn (off := 134) (tgt := 135) hx hb d_Ck_isArgument_1 (by rw [c14]; decide) (by rw [c14]; decide) (by rw [c14]; rfl) (by decide) ?_
              refine lv_iconst (v := 1) hx hb d_Ck_isArgument_135 (by decide) ?_
              exact rw_zret X hP hS (by decide) h d_Ck_isArgument_136
            · have h := h.2 c14
              by_cases c15 : x2 = 7
              · have h := h.1 c15
                refine lv_tableIn (off := 134) (tgt := 135) hx hb d_Ck_isArgument_1 (by rw [c15]; decide) (by rw [c15]; decide) (by rw [c15]; rfl) (by decide) ?_
                refine lv_iconst (v := 1) hx hb d_Ck_isArgument_135 (by decide) ?_
                exact rw_zret X hP hS (by decide) h d_Ck_isArgument_136
              · have h := h.2 c15
                by_cases c16 : x2 = 8
                · have h := h.1 c16
                  refine lv_tableIn (off := 134) (tgt := 135) hx hb d_Ck_isArgument_1 (by rw [c16]; decide) (by rw [c16]; decide) (by rw [c16]; rfl) (by decide) ?_
                  refine lv_iconst (v := 1) hx hb d_Ck_isArgument_135 (by decide) ?_
                  exact rw_zret X hP hS (by decide) h d_Ck_isArgument_136
                · have h := h.2 c16
                  by_cases c17 : x2 = 9
                  · have h := h.1 c17
                    refine lv_tableIn (off := 134) (tgt := 135) hx hb d_Ck_isArgument_1 (by rw [c17]; decide) (by rw [c17]; decide) (by rw [c17]; rfl) (by decide) ?_
                    refine lv_iconst (v := 1) hx hb d_Ck_isArgument_135 (by decide) ?_
                    exact rw_zret X hP hS (by decide) h d_Ck_isArgument_136
                  · have h := h.2 c17
                    by_cases c18 : x2 = 10
                    · have h := h.1 c18
                      refine lv_tableIn (off := 127) (tgt := 128) hx hb d_Ck_isArgument_1 (by rw [c18]; decide) (by rw [c18]; decide) (by rw [c18]; rfl) (by decide) ?_
                      refine lv_iload_n hx hb d_Ck_isArgument_128 rfl (lv_at hl 3 rfl) ?_
                      refine lv_bipush (v := 31) hx hb d_Ck_isArgument_129 (by decide) ?_
                      refine rw_cNi (rest := []) X hP hS ys_PR_within (host := R_PR) (c_PR_within hG h) hz.2.2.2.2.1 ⟨rfl, rfl, by decide, by decide⟩ rfl rfl hl.1 (Nat.le_of_ble_eq_true rfl) ⟨Nat.zero_le _, Nat.zero_le _⟩ d_Ck_isArgument_131 (fun r20 V19 H locs h hP hS => ?_)
                      obtain ⟨hb22, h⟩ := h
                      exact rw_zret X hP hS hb22 h d_Ck_isArgument_134
                    · have h := h.2 c18
                      by_cases c23 : x2 = 11
                      · have h := h.1 c23
                        refine lv_tableIn (off := 127) (tgt := 128) hx hb d_Ck_isArgument_1 (by rw [c23]; decide) (by rw [c23]; decide) (by rw [c23]; rfl) (by decide) ?_
                        refine lv_iload_n hx hb d_Ck_isArgument_128 rfl (lv_at hl 3 rfl) ?_
                        refine lv_bipush (v := 31) hx hb d_Ck_isArgument_129 (by decide) ?_
                        refine rw_cNi (rest := []) X hP hS ys_PR_within (host := R_PR) (c_PR_within hG h) hz.2.2.2.2.1 ⟨rfl, rfl, by decide, by decide⟩ rfl rfl hl.1 (Nat.le_of_ble_eq_true rfl) ⟨Nat.zero_le _, Nat.zero_le _⟩ d_Ck_isArgument_131 (fun r25 V24 H locs h hP hS => ?_)
                        obtain ⟨hb27, h⟩ := h
                        exact rw_zret X hP hS hb27 h d_Ck_isArgument_134
                      · have h := h.2 c23
                        by_cases c28 : x2 = 12
                        · have h := h.1 c28
                          refine lv_tableIn (off := 134) (tgt := 135) hx hb d_Ck_isArgument_1 (by rw [c28]; decide) (by rw [c28]; decide) (by rw [c28]; rfl) (by decide) ?_
                          refine lv_iconst (v := 1) hx hb d_Ck_isArgument_135 (by decide) ?_
                          exact rw_zret X hP hS (by decide) h d_Ck_isArgument_136
                        · have h := h.2 c28
                          by_cases c29 : x2 = 13
                          · have h := h.1 c29
                            refine lv_tableIn (off := 134) (tgt := 135) hx hb d_Ck_isArgument_1 (by rw [c29]; decide) (by rw [c29]; decide) (by rw [c29]; rfl) (by decide) ?_
                            refine lv_iconst (v := 1) hx hb d_Ck_isArgument_135 (by decide) ?_
                            exact rw_zret X hP hS (by decide) h d_Ck_isArgument_136
                          · have h := h.2 c29
                            by_cases c30 : x2 = 14
                            · have h := h.1 c30
                              refine lv_tableIn (off := 134) (tgt := 135) hx hb d_Ck_isArgument_1 (by rw [c30]; decide) (by rw [c30]; decide) (by rw [c30]; rfl) (by decide) ?_
                              refine lv_iconst (v := 1) hx hb d_Ck_isArgument_135 (by decide) ?_
                              exact rw_zret X hP hS (by decide) h d_Ck_isArgument_136
                            · have h := h.2 c30
                              by_cases c31 : x2 = 15
                              · have h := h.1 c31
                                refine lv_tableIn (off := 103) (tgt := 104) hx hb d_Ck_isArgument_1 (by rw [c31]; decide) (by rw [c31]; decide) (by rw [c31]; rfl) (by decide) ?_
                                refine lv_iload_n hx hb d_Ck_isArgument_104 rfl (lv_at hl 3 rfl) ?_
                                refine lv_aload_n hx hb d_Ck_isArgument_105 rfl (lv_at hl 0 rfl) ?_
                                refine gf_Ck_open X hP q_85 d_Ck_isArgument_106 ?_
                                refine rw_cNi (rest := []) X hP hS ys_PR_within (host := R_PR) (c_PR_within hG h) hz.2.2.2.2.1 ⟨rfl, rfl, by decide, by decide⟩ rfl rfl hl.1 (Nat.le_of_ble_eq_true rfl) ⟨Nat.zero_le _, Nat.zero_le _⟩ d_Ck_isArgument_109 (fun r33 V32 H locs h hP hS => ?_)
                                obtain ⟨hb35, h⟩ := h
                                exact rw_zret X hP hS hb35 h d_Ck_isArgument_112
                              · have h := h.2 c31
                                by_cases c36 : x2 = 16
                                · have h := h.1 c36
                                  refine lv_tableIn (off := 103) (tgt := 104) hx hb d_Ck_isArgument_1 (by rw [c36]; decide) (by rw [c36]; decide) (by rw [c36]; rfl) (by decide) ?_
                                  refine lv_iload_n hx hb d_Ck_isArgument_104 rfl (lv_at hl 3 rfl) ?_
                                  refine lv_aload_n hx hb d_Ck_isArgument_105 rfl (lv_at hl 0 rfl) ?_
                                  refine gf_Ck_open X hP q_85 d_Ck_isArgument_106 ?_
                                  refine rw_cNi (rest := []) X hP hS ys_PR_within (host := R_PR) (c_PR_within hG h) hz.2.2.2.2.1 ⟨rfl, rfl, by decide, by decide⟩ rfl rfl hl.1 (Nat.le_of_ble_eq_true rfl) ⟨Nat.zero_le _, Nat.zero_le _⟩ d_Ck_isArgument_109 (fun r38 V37 H locs h hP hS => ?_)
                                  obtain ⟨hb40, h⟩ := h
                                  exact rw_zret X hP hS hb40 h d_Ck_isArgument_112
                                · have h := h.2 c36
                                  by_cases c41 : x2 = 17
                                  · have h := h.1 c41
                                    refine lv_tableIn (off := 112) (tgt := 113) hx hb d_Ck_isArgument_1 (by rw [c41]; decide) (by rw [c41]; decide) (by rw [c41]; rfl) (by decide) ?_
                                    refine lv_aload_n hx hb d_Ck_isArgument_113 rfl (lv_at hl 0 rfl) ?_
                                    refine gf_Ck_program X hP q_83 d_Ck_isArgument_114 ?_
                                    refine lv_iload_n hx hb d_Ck_isArgument_117 rfl (lv_at hl 3 rfl) ?_
                                    refine rw_cVi (rest := []) X hP hS yv_Pg_has isO_Pg (c_Pg_has hG h) q_264 ⟨rfl, rfl, by decide, by decide⟩ rfl rfl hl.1 (Nat.le_of_ble_eq_true rfl) ⟨Nat.zero_le _, Nat.zero_le _⟩ d_Ck_isArgument_118 (fun r43 V42 H locs h hP hS => ?_)
                                    obtain ⟨hb45, h⟩ := h
                                    exact rw_zret X hP hS hb45 h d_Ck_isArgument_121
                                  · have h := h.2 c41
                                    by_cases c46 : x2 = 18
                                    · have h := h.1 c46
                                      refine lv_tableIn (off := 121) (tgt := 122) hx hb d_Ck_isArgument_1 (by rw [c46]; decide) (by rw [c46]; decide) (by rw [c46]; rfl) (by decide) ?_
                                      refine lv_iload_n hx hb d_Ck_isArgument_122 rfl (lv_at hl 3 rfl) ?_
                                      refine lv_iconst (v := 3) hx hb d_Ck_isArgument_123 (by decide) ?_
                                      refine rw_cNi (rest := []) X hP hS ys_PR_within (host := R_PR) (c_PR_within hG h) hz.2.2.2.2.1 ⟨rfl, rfl, by decide, by decide⟩ rfl rfl hl.1 (Nat.le_of_ble_eq_true rfl) ⟨Nat.zero_le _, Nat.zero_le _⟩ d_Ck_isArgument_124 (fun r48 V47 H locs h hP hS => ?_)
                                      obtain ⟨hb50, h⟩ := h
                                      exact rw_zret X hP hS hb50 h d_Ck_isArgument_127
                                    · have h := h.2 c46
                                      have nc1 := lv_neT (a := 1) c1 rfl
                                      have nc6 := lv_neT (a := 2) c6 rfl
                                      have nc11 := lv_neT (a := 3) c11 rfl
                                      have nc12 := lv_neT (a := 4) c12 rfl
                                      have nc13 := lv_neT (a := 5) c13 rfl
                                      have nc14 := lv_neT (a := 6) c14 rfl
                                      have nc15 := lv_neT (a := 7) c15 rfl
                                      have nc16 := lv_neT (a := 8) c16 rfl
                                      have nc17 := lv_neT (a := 9) c17 rfl
                                      have nc18 := lv_neT (a := 10) c18 rfl
                                      have nc23 := lv_neT (a := 11) c23 rfl
                                      have nc28 := lv_neT (a := 12) c28 rfl
                                      have nc29 := lv_neT (a := 13) c29 rfl
                                      have nc30 := lv_neT (a := 14) c30 rfl
                                      have nc31 := lv_neT (a := 15) c31 rfl
                                      have nc36 := lv_neT (a := 16) c36 rfl
                                      have nc41 := lv_neT (a := 17) c41 rfl
                                      have nc46 := lv_neT (a := 18) c46 rfl
                                      refine lv_tableOut (tgt := 135) hx hb d_Ck_isArgument_1 (by omega) (by decide) ?_
                                      refine lv_iconst (v := 1) hx hb d_Ck_isArgument_135 (by decide) ?_
                                      exact rw_zret X hP hS (by decide) h d_Ck_isArgument_136
theorem yv_Ck_isArgument : yV R_Ck y_Ck_isArgument prog_2_method_6_code 4 (some .boolean) 3 := ⟨by decide +kernel, q_261, qp_4, q_4, q_262⟩
/-! Ck.closesWell -/
theorem d_Ck_closesWell_0 : decode prog_2_method_7_code 0 = .ok (.aload_n 0, 1) := by decide +kernel
theorem d_Ck_closesWell_1 : decode prog_2_method_7_code 1 = .ok (.getfield 15, 3) := by decide +kernel
theorem d_Ck_closesWell_4 : decode prog_2_method_7_code 4 = .ok (.ifCond .le 30, 3) := by decide +kernel
theorem d_Ck_closesWell_7 : decode prog_2_method_7_code 7 = .ok (.aload_n 0, 1) := by decide +kernel
theorem d_Ck_closesWell_8 : decode prog_2_method_7_code 8 = .ok (.getfield 22, 3) := by decide +kernel
theorem d_Ck_closesWell_11 : decode prog_2_method_7_code 11 = .ok (.ifCond .ne 19, 3) := by decide +kernel
theorem d_Ck_closesWell_14 : decode prog_2_method_7_code 14 = .ok (.aload_n 0, 1) := by decide +kernel
theorem d_Ck_closesWell_15 : decode prog_2_method_7_code 15 = .ok (.getfield 19, 3) := by decide +kernel
theorem d_Ck_closesWell_18 : decode prog_2_method_7_code 18 = .ok (.aload_n 0, 1) := by decide +kernel
theorem d_Ck_closesWell_19 : decode prog_2_method_7_code 19 = .ok (.getfield 9, 3) := by decide +kernel
theorem d_Ck_closesWell_22 : decode prog_2_method_7_code 22 = .ok (.aload_n 0, 1) := by decide +kernel
theorem d_Ck_closesWell_23 : decode prog_2_method_7_code 23 = .ok (.getfield 15, 3) := by decide +kernel
theorem d_Ck_closesWell_26 : decode prog_2_method_7_code 26 = .ok (.iaload, 1) := by decide +kernel
theorem d_Ck_closesWell_27 : decode prog_2_method_7_code 27 = .ok (.if_icmp .ne 7, 3) := by decide +kernel
theorem d_Ck_closesWell_30 : decode prog_2_method_7_code 30 = .ok (.iconst 1, 1) := by decide +kernel
theorem d_Ck_closesWell_31 : decode prog_2_method_7_code 31 = .ok (.goto 4, 3) := by decide +kernel
theorem d_Ck_closesWell_34 : decode prog_2_method_7_code 34 = .ok (.iconst 0, 1) := by decide +kernel
theorem d_Ck_closesWell_35 : decode prog_2_method_7_code 35 = .ok (.ireturn, 1) := by decide +kernel
abbrev rm_Ck_closesWell : Room := { frames := 0, cells := 0, slots := 0, locals := 0 }
def p_Ck_closesWell_b35 (k : Int32 → vS → Prop) (V : vS) (s0 : Int32) : Prop := (s0 = 0 ∨ s0 = 1) ∧ (k s0 V)
set_option maxRecDepth 100000 in
set_option maxHeartbeats 4000000 in
theorem t_Ck_closesWell_b35 {k : Int32 → vS → Prop} (X : cx g p s m meth c args R_Ck prog_2_method_7_code 1 (some .boolean)) {V : vS} {s0 : Int32} (h : p_Ck_closesWell_b35 k V s0) (hP : va_P g.1 vcl (cw g V) H) (hS : va_S (gA g) s.heap H locs) (hl : lv_has ls 1 []) : W p l e rm_Ck_closesWell s m args below meth c H locs 0 0 (MQ below (va_Qi k (Bw g) (gA g)) args s 0 0 (gA g)) (F0 m 35 ls [.int s0]) := by
  obtain ⟨hx, hb, -, -, hown, hts, -, -, hz, hG⟩ := id X
  unfold p_Ck_closesWell_b35 at h
  obtain ⟨hb1, h⟩ := h
  exact rw_zret X hP hS hb1 h d_Ck_closesWell_35
def p_Ck_closesWell_b30 (k : Int32 → vS → Prop) (V : vS) : Prop := p_Ck_closesWell_b35 k V 1
set_option maxRecDepth 100000 in
set_option maxHeartbeats 4000000 in
theorem t_Ck_closesWell_b30 {k : Int32 → vS → Prop} (X : cx g p s m meth c args R_Ck prog_2_method_7_code 1 (some .boolean)) {V : vS} (h : p_Ck_closesWell_b30 k V) (hP : va_P g.1 vcl (cw g V) H) (hS : va_S (gA g) s.heap H locs) (hl : lv_has ls 1 []) : W p l e rm_Ck_closesWell s m args below meth c H locs 0 0 (MQ below (va_Qi k (Bw g) (gA g)) args s 0 0 (gA g)) (F0 m 30 ls []) := by
  obtain ⟨hx, hb, -, -, hown, hts, -, -, hz, hG⟩ := id X
  unfold p_Ck_closesWell_b30 at h
  refine lv_iconst (v := 1) hx hb d_Ck_closesWell_30 (by decide) ?_
  refine lv_goto (tgt := 35) hx hb d_Ck_closesWell_31 (by decide) ?_
  exact t_Ck_closesWell_b35 X h hP hS (lv_sub hl [] rfl)
def p_Ck_closesWell_b34 (k : Int32 → vS → Prop) (V : vS) : Prop := p_Ck_closesWell_b35 k V 0
set_option maxRecDepth 100000 in
set_option maxHeartbeats 4000000 in
theorem t_Ck_closesWell_b34 {k : Int32 → vS → Prop} (X : cx g p s m meth c args R_Ck prog_2_method_7_code 1 (some .boolean)) {V : vS} (h : p_Ck_closesWell_b34 k V) (hP : va_P g.1 vcl (cw g V) H) (hS : va_S (gA g) s.heap H locs) (hl : lv_has ls 1 []) : W p l e rm_Ck_closesWell s m args below meth c H locs 0 0 (MQ below (va_Qi k (Bw g) (gA g)) args s 0 0 (gA g)) (F0 m 34 ls []) := by
  obtain ⟨hx, hb, -, -, hown, hts, -, -, hz, hG⟩ := id X
  unfold p_Ck_closesWell_b34 at h
  refine lv_iconst (v := 0) hx hb d_Ck_closesWell_34 (by decide) ?_
  exact t_Ck_closesWell_b35 X h hP hS (lv_sub hl [] rfl)
def p_Ck_closesWell (k : Int32 → vS → Prop) (V : vS) : Prop := ((V.1 15 2) ≤ 0 → (p_Ck_closesWell_b34 k V)) ∧ (¬ (V.1 15 2) ≤ 0 → (((V.1 15 4) = 0 → (vp_in (V.1 15 2) 25 ∧ (((V.1 15 3) = (V.1 16 (nt (V.1 15 2))) → (p_Ck_closesWell_b30 k V)) ∧ (¬ (V.1 15 3) = (V.1 16 (nt (V.1 15 2))) → (p_Ck_closesWell_b34 k V))))) ∧ (¬ (V.1 15 4) = 0 → (p_Ck_closesWell_b30 k V))))
set_option maxRecDepth 100000 in
set_option maxHeartbeats 4000000 in
theorem c_Ck_closesWell {l : Launch} {g : gT} (hG : gd g) {V : vS} {k : Int32 → vS → Prop} (h : p_Ck_closesWell k V) : Ci g l y_Ck_closesWell prog_2_method_7_code 1 (some .boolean) rm_Ck_closesWell [.ref (ga g 15)] V k := by
  unfold Ci
  refine Met.ofW (cc := prog_2_method_7_code) (maxL := 1) (ret := some .boolean) (by decide) rfl ?_
  intro p e s m args below meth c s₁ B hml hv
  obtain ⟨rfl, hP, hK, hZ⟩ := hv
  have X : cx g p s m meth c [.ref (ga g 15)].toArray R_Ck prog_2_method_7_code 1 (some .boolean) := ⟨B.exec, B.bytes, B.returns, hml, findClass_of_methodNamed B.named, fun w hw => atoms_spec (ws := Cond.code y_Ck_closesWell prog_2_method_7_code 1 (some .boolean) :: TBL) B.pre w (List.mem_cons_of_mem _ hw), B.notSynchronized, hK, hZ, hG⟩
  have hl := lv_entry [.ref (ga g 15)] (n := 1) (Nat.le_of_ble_eq_true rfl)
  rw [lg_entry_eq]
  generalize (lg_sl [.ref (ga g 15)] ++ List.replicate (1 - (lg_sl [.ref (ga g 15)]).length) Slot.unset).toArray = ls at hl ⊢
  have hl : lv_has ls 1 [(0, .ref (ga g 15))] := hl
  have hS : va_S (gA g) s.heap s.heap [] := va_S.rf
  obtain ⟨hx, hb, -, -, hown, hts, -, -, hz, -⟩ := id X
  show W p l e rm_Ck_closesWell s m _ below meth c s.heap [] 0 0 (MQ below (va_Qi k (Bw g) (gA g)) _ s 0 0 (gA g)) (F0 m 0 ls [])
  unfold p_Ck_closesWell at h
  refine lv_aload_n hx hb d_Ck_closesWell_0 rfl (lv_at hl 0 rfl) ?_
  refine gf_Ck_open X hP q_85 d_Ck_closesWell_1 ?_
  refine lv_if_le (tgt := 34) hx hb d_Ck_closesWell_4 (by decide) (fun c1 => ?_) (fun c1 => ?_)
  · have h := h.1 c1
    exact t_Ck_closesWell_b34 X h hP hS (lv_sub hl [] rfl)
  · have h := h.2 c1
    refine lv_aload_n hx hb d_Ck_closesWell_7 rfl (lv_at hl 0 rfl) ?_
    refine gf_Ck_behindLeaving X hP q_87 d_Ck_closesWell_8 ?_
    refine lv_if_ne (tgt := 30) hx hb d_Ck_closesWell_11 (by decide) (fun c2 => ?_) (fun c2 => ?_)
    · have h := h.2 c2
      exact t_Ck_closesWell_b30 X h hP hS (lv_sub hl [] rfl)
    · have h := h.1 c2
      refine lv_aload_n hx hb d_Ck_closesWell_14 rfl (lv_at hl 0 rfl) ?_
      refine gf_Ck_height X hP q_86 d_Ck_closesWell_15 ?_
      refine lv_aload_n hx hb d_Ck_closesWell_18 rfl (lv_at hl 0 rfl) ?_
      refine gf_Ck_bases X hP q_84 d_Ck_closesWell_19 ?_
      refine lv_aload_n hx hb d_Ck_closesWell_22 rfl (lv_at hl 0 rfl) ?_
      refine gf_Ck_open X hP q_85 d_Ck_closesWell_23 ?_
      obtain ⟨hi3, h⟩ := h
      refine rw_iald X hP isI_16 hi3 d_Ck_closesWell_26 ?_
      refine lv_icmp_ne (tgt := 34) hx hb d_Ck_closesWell_27 (by decide) (fun c4 => ?_) (fun c4 => ?_)
      · have h := h.2 c4
        exact t_Ck_closesWell_b34 X h hP hS (lv_sub hl [] rfl)
      · have h := h.1 c4
        exact t_Ck_closesWell_b30 X h hP hS (lv_sub hl [] rfl)
theorem yv_Ck_closesWell : yV R_Ck y_Ck_closesWell prog_2_method_7_code 1 (some .boolean) 0 := ⟨by decide +kernel, q_273, qp_5, q_4, q_274⟩
/-! Ck.leavesWell -/
theorem d_Ck_leavesWell_0 : decode prog_2_method_8_code 0 = .ok (.iload_n 2, 1) := by decide +kernel
theorem d_Ck_leavesWell_1 : decode prog_2_method_8_code 1 = .ok (.tableswitch 87 15 19 #[35, 35, 87, 87, 72], 35) := by decide +kernel
theorem d_Ck_leavesWell_36 : decode prog_2_method_8_code 36 = .ok (.iload 4, 2) := by decide +kernel
theorem d_Ck_leavesWell_38 : decode prog_2_method_8_code 38 = .ok (.iload_n 3, 1) := by decide +kernel
theorem d_Ck_leavesWell_39 : decode prog_2_method_8_code 39 = .ok (.aload_n 0, 1) := by decide +kernel
theorem d_Ck_leavesWell_40 : decode prog_2_method_8_code 40 = .ok (.getfield 15, 3) := by decide +kernel
theorem d_Ck_leavesWell_43 : decode prog_2_method_8_code 43 = .ok (.if_icmp .ge 17, 3) := by decide +kernel
theorem d_Ck_leavesWell_46 : decode prog_2_method_8_code 46 = .ok (.aload_n 0, 1) := by decide +kernel
theorem d_Ck_leavesWell_47 : decode prog_2_method_8_code 47 = .ok (.getfield 9, 3) := by decide +kernel
theorem d_Ck_leavesWell_50 : decode prog_2_method_8_code 50 = .ok (.aload_n 0, 1) := by decide +kernel
theorem d_Ck_leavesWell_51 : decode prog_2_method_8_code 51 = .ok (.getfield 15, 3) := by decide +kernel
theorem d_Ck_leavesWell_54 : decode prog_2_method_8_code 54 = .ok (.iload_n 3, 1) := by decide +kernel
theorem d_Ck_leavesWell_55 : decode prog_2_method_8_code 55 = .ok (.isub, 1) := by decide +kernel
theorem d_Ck_leavesWell_56 : decode prog_2_method_8_code 56 = .ok (.iaload, 1) := by decide +kernel
theorem d_Ck_leavesWell_57 : decode prog_2_method_8_code 57 = .ok (.goto 7, 3) := by decide +kernel
theorem d_Ck_leavesWell_60 : decode prog_2_method_8_code 60 = .ok (.aload_n 1, 1) := by decide +kernel
theorem d_Ck_leavesWell_61 : decode prog_2_method_8_code 61 = .ok (.getfield 95, 3) := by decide +kernel
theorem d_Ck_leavesWell_64 : decode prog_2_method_8_code 64 = .ok (.if_icmp .ne 7, 3) := by decide +kernel
theorem d_Ck_leavesWell_67 : decode prog_2_method_8_code 67 = .ok (.iconst 1, 1) := by decide +kernel
theorem d_Ck_leavesWell_68 : decode prog_2_method_8_code 68 = .ok (.goto 4, 3) := by decide +kernel
theorem d_Ck_leavesWell_71 : decode prog_2_method_8_code 71 = .ok (.iconst 0, 1) := by decide +kernel
theorem d_Ck_leavesWell_72 : decode prog_2_method_8_code 72 = .ok (.ireturn, 1) := by decide +kernel
theorem d_Ck_leavesWell_73 : decode prog_2_method_8_code 73 = .ok (.iload 4, 2) := by decide +kernel
theorem d_Ck_leavesWell_75 : decode prog_2_method_8_code 75 = .ok (.aload_n 1, 1) := by decide +kernel
theorem d_Ck_leavesWell_76 : decode prog_2_method_8_code 76 = .ok (.getfield 95, 3) := by decide +kernel
theorem d_Ck_leavesWell_79 : decode prog_2_method_8_code 79 = .ok (.if_icmp .ne 7, 3) := by decide +kernel
theorem d_Ck_leavesWell_82 : decode prog_2_method_8_code 82 = .ok (.iconst 1, 1) := by decide +kernel
theorem d_Ck_leavesWell_83 : decode prog_2_method_8_code 83 = .ok (.goto 4, 3) := by decide +kernel
theorem d_Ck_leavesWell_86 : decode prog_2_method_8_code 86 = .ok (.iconst 0, 1) := by decide +kernel
theorem d_Ck_leavesWell_87 : decode prog_2_method_8_code 87 = .ok (.ireturn, 1) := by decide +kernel
theorem d_Ck_leavesWell_88 : decode prog_2_method_8_code 88 = .ok (.iconst 1, 1) := by decide +kernel
theorem d_Ck_leavesWell_89 : decode prog_2_method_8_code 89 = .ok (.ireturn, 1) := by decide +kernel
abbrev rm_Ck_leavesWell : Room := { frames := 0, cells := 0, slots := 0, locals := 0 }
def p_Ck_leavesWell_b72 (k : Int32 → vS → Prop) (V : vS) (s0 : Int32) : Prop := (s0 = 0 ∨ s0 = 1) ∧ (k s0 V)
set_option maxRecDepth 100000 in
set_option maxHeartbeats 4000000 in
theorem t_Ck_leavesWell_b72 {k : Int32 → vS → Prop} (X : cx g p s m meth c args R_Ck prog_2_method_8_code 5 (some .boolean)) {V : vS} {s0 : Int32} (h : p_Ck_leavesWell_b72 k V s0) (hP : va_P g.1 vcl (cw g V) H) (hS : va_S (gA g) s.heap H locs) (hl : lv_has ls 5 []) : W p l e rm_Ck_leavesWell s m args below meth c H locs 0 0 (MQ below (va_Qi k (Bw g) (gA g)) args s 0 0 (gA g)) (F0 m 72 ls [.int s0]) := by
  obtain ⟨hx, hb, -, -, hown, hts, -, -, hz, hG⟩ := id X
  unfold p_Ck_leavesWell_b72 at h
  obtain ⟨hb1, h⟩ := h
  exact rw_zret X hP hS hb1 h d_Ck_leavesWell_72
def p_Ck_leavesWell_b64 (k : Int32 → vS → Prop) (V : vS) (s0 : Int32) (s1 : Int32) : Prop := (s0 = s1 → (p_Ck_leavesWell_b72 k V 1)) ∧ (¬ s0 = s1 → (p_Ck_leavesWell_b72 k V 0))
set_option maxRecDepth 100000 in
set_option maxHeartbeats 4000000 in
theorem t_Ck_leavesWell_b64 {k : Int32 → vS → Prop} (X : cx g p s m meth c args R_Ck prog_2_method_8_code 5 (some .boolean)) {V : vS} {s0 : Int32} {s1 : Int32} (h : p_Ck_leavesWell_b64 k V s0 s1) (hP : va_P g.1 vcl (cw g V) H) (hS : va_S (gA g) s.heap H locs) (hl : lv_has ls 5 []) : W p l e rm_Ck_leavesWell s m args below meth c H locs 0 0 (MQ below (va_Qi k (Bw g) (gA g)) args s 0 0 (gA g)) (F0 m 64 ls [.int s1, .int s0]) := by
  obtain ⟨hx, hb, -, -, hown, hts, -, -, hz, hG⟩ := id X
  unfold p_Ck_leavesWell_b64 at h
  refine lv_icmp_ne (tgt := 71) hx hb d_Ck_leavesWell_64 (by decide) (fun c1 => ?_) (fun c1 => ?_)
  · have h := h.2 c1
    refine lv_iconst (v := 0) hx hb d_Ck_leavesWell_71 (by decide) ?_
    exact t_Ck_leavesWell_b72 X h hP hS (lv_sub hl [] rfl)
  · have h := h.1 c1
    refine lv_iconst (v := 1) hx hb d_Ck_leavesWell_67 (by decide) ?_
    refine lv_goto (tgt := 72) hx hb d_Ck_leavesWell_68 (by decide) ?_
    exact t_Ck_leavesWell_b72 X h hP hS (lv_sub hl [] rfl)
def p_Ck_leavesWell_b87 (k : Int32 → vS → Prop) (V : vS) (s0 : Int32) : Prop := (s0 = 0 ∨ s0 = 1) ∧ (k s0 V)
set_option maxRecDepth 100000 in
set_option maxHeartbeats 4000000 in
theorem t_Ck_leavesWell_b87 {k : Int32 → vS → Prop} (X : cx g p s m meth c args R_Ck prog_2_method_8_code 5 (some .boolean)) {V : vS} {s0 : Int32} (h : p_Ck_leavesWell_b87 k V s0) (hP : va_P g.1 vcl (cw g V) H) (hS : va_S (gA g) s.heap H locs) (hl : lv_has ls 5 []) : W p l e rm_Ck_leavesWell s m args below meth c H locs 0 0 (MQ below (va_Qi k (Bw g) (gA g)) args s 0 0 (gA g)) (F0 m 87 ls [.int s0]) := by
  obtain ⟨hx, hb, -, -, hown, hts, -, -, hz, hG⟩ := id X
  unfold p_Ck_leavesWell_b87 at h
  obtain ⟨hb1, h⟩ := h
  exact rw_zret X hP hS hb1 h d_Ck_leavesWell_87
def p_Ck_leavesWell (k : Int32 → vS → Prop) (V : vS) (f1 : Nat) (x2 : Int32) (x3 : Int32) (x4 : Int32) : Prop := (x2 = 15 → (((V.1 15 2) ≤ x3 → (p_Ck_leavesWell_b64 k V x4 (V.1 f1 4))) ∧ (¬ (V.1 15 2) ≤ x3 → (vp_in ((V.1 15 2) - x3) 25 ∧ (p_Ck_leavesWell_b64 k V x4 (V.1 16 (nt ((V.1 15 2) - x3)))))))) ∧ (¬ x2 = 15 → ((x2 = 16 → (((V.1 15 2) ≤ x3 → (p_Ck_leavesWell_b64 k V x4 (V.1 f1 4))) ∧ (¬ (V.1 15 2) ≤ x3 → (vp_in ((V.1 15 2) - x3) 25 ∧ (p_Ck_leavesWell_b64 k V x4 (V.1 16 (nt ((V.1 15 2) - x3)))))))) ∧ (¬ x2 = 16 → ((x2 = 17 → (k 1 V)) ∧ (¬ x2 = 17 → ((x2 = 18 → (k 1 V)) ∧ (¬ x2 = 18 → ((x2 = 19 → ((x4 = (V.1 f1 4) → (p_Ck_leavesWell_b87 k V 1)) ∧ (¬ x4 = (V.1 f1 4) → (p_Ck_leavesWell_b87 k V 0)))) ∧ (¬ x2 = 19 → (k 1 V))))))))))
set_option maxRecDepth 100000 in
set_option maxHeartbeats 4000000 in
theorem c_Ck_leavesWell {l : Launch} {g : gT} (hG : gd g) {V : vS} {f1 : Nat} {x2 : Int32} {x3 : Int32} {x4 : Int32} (hf1 : 3 ≤ f1 ∧ f1 < 7) {k : Int32 → vS → Prop} (h : p_Ck_leavesWell k V f1 x2 x3 x4) : Ci g l y_Ck_leavesWell prog_2_method_8_code 5 (some .boolean) rm_Ck_leavesWell [.ref (ga g 15), .ref (ga g f1), .int x2, .int x3, .int x4] V k := by
  unfold Ci
  refine Met.ofW (cc := prog_2_method_8_code) (maxL := 5) (ret := some .boolean) (by decide) rfl ?_
  intro p e s m args below meth c s₁ B hml hv
  obtain ⟨rfl, hP, hK, hZ⟩ := hv
  have X : cx g p s m meth c [.ref (ga g 15), .ref (ga g f1), .int x2, .int x3, .int x4].toArray R_Ck prog_2_method_8_code 5 (some .boolean) := ⟨B.exec, B.bytes, B.returns, hml, findClass_of_methodNamed B.named, fun w hw => atoms_spec (ws := Cond.code y_Ck_leavesWell prog_2_method_8_code 5 (some .boolean) :: TBL) B.pre w (List.mem_cons_of_mem _ hw), B.notSynchronized, hK, hZ, hG⟩
  have hl := lv_entry [.ref (ga g 15), .ref (ga g f1), .int x2, .int x3, .int x4] (n := 5) (Nat.le_of_ble_eq_true rfl)
  rw [lg_entry_eq]
  generalize (lg_sl [.ref (ga g 15), .ref (ga g f1), .int x2, .int x3, .int x4] ++ List.replicate (5 - (lg_sl [.ref (ga g 15), .ref (ga g f1), .int x2, .int x3, .int x4]).length) Slot.unset).toArray = ls at hl ⊢
  have hl : lv_has ls 5 [(0, .ref (ga g 15)), (1, .ref (ga g f1)), (2, .int x2), (3, .int x3), (4, .int x4)] := hl
  have hS : va_S (gA g) s.heap s.heap [] := va_S.rf
  obtain ⟨hx, hb, -, -, hown, hts, -, -, hz, -⟩ := id X
  show W p l e rm_Ck_leavesWell s m _ below meth c s.heap [] 0 0 (MQ below (va_Qi k (Bw g) (gA g)) _ s 0 0 (gA g)) (F0 m 0 ls [])
  unfold p_Ck_leavesWell at h
  refine lv_iload_n hx hb d_Ck_leavesWell_0 rfl (lv_at hl 2 rfl) ?_
  by_cases c1 : x2 = 15
  · have h := h.1 c1
    refine lv_tableIn (off := 35) (tgt := 36) hx hb d_Ck_leavesWell_1 (by rw [c1]; decide) (by rw [c1]; decide) (by rw [c1]; rfl) (by decide) ?_
    refine lv_iload hx hb d_Ck_leavesWell_36 (lv_at hl 4 rfl) ?_
    refine lv_iload_n hx hb d_Ck_leavesWell_38 rfl (lv_at hl 3 rfl) ?_
    refine lv_aload_n hx hb d_Ck_leavesWell_39 rfl (lv_at hl 0 rfl) ?_
    refine gf_Ck_open X hP q_85 d_Ck_leavesWell_40 ?_
    refine lv_icmp_ge (tgt := 60) hx hb d_Ck_leavesWell_43 (by decide) (fun c2 => ?_) (fun c2 => ?_)
    · have h := h.1 c2
      refine lv_aload_n hx hb d_Ck_leavesWell_60 rfl (lv_at hl 1 rfl) ?_
      refine gf_Fn_gives X hP hf1 q_46 d_Ck_leavesWell_61 ?_
      exact t_Ck_leavesWell_b64 X h hP hS (lv_sub hl [] rfl)
    · have h := h.2 c2
      refine lv_aload_n hx hb d_Ck_leavesWell_46 rfl (lv_at hl 0 rfl) ?_
      refine gf_Ck_bases X hP q_84 d_Ck_leavesWell_47 ?_
      refine lv_aload_n hx hb d_Ck_leavesWell_50 rfl (lv_at hl 0 rfl) ?_
      refine gf_Ck_open X hP q_85 d_Ck_leavesWell_51 ?_
      refine lv_iload_n hx hb d_Ck_leavesWell_54 rfl (lv_at hl 3 rfl) ?_
      refine lv_isub hx hb d_Ck_leavesWell_55 ?_
      obtain ⟨hi3, h⟩ := h
      refine rw_iald X hP isI_16 hi3 d_Ck_leavesWell_56 ?_
      refine lv_goto (tgt := 64) hx hb d_Ck_leavesWell_57 (by decide) ?_
      exact t_Ck_leavesWell_b64 X h hP hS (lv_sub hl [] rfl)
  · have h := h.2 c1
    by_cases c4 : x2 = 16
    · have h := h.1 c4
      refine lv_tableIn (off := 35) (tgt := 36) hx hb d_Ck_leavesWell_1 (by rw [c4]; decide) (by rw [c4]; decide) (by rw [c4]; rfl) (by decide) ?_
      refine lv_iload hx hb d_Ck_leavesWell_36 (lv_at hl 4 rfl) ?_
      refine lv_iload_n hx hb d_Ck_leavesWell_38 rfl (lv_at hl 3 rfl) ?_
      refine lv_aload_n hx hb d_Ck_leavesWell_39 rfl (lv_at hl 0 rfl) ?_
      refine gf_Ck_open X hP q_85 d_Ck_leavesWell_40 ?_
      refine lv_icmp_ge (tgt := 60) hx hb d_Ck_leavesWell_43 (by decide) (fun c5 => ?_) (fun c5 => ?_)
      · have h := h.1 c5
        refine lv_aload_n hx hb d_Ck_leavesWell_60 rfl (lv_at hl 1 rfl) ?_
        refine gf_Fn_gives X hP hf1 q_46 d_Ck_leavesWell_61 ?_
        exact t_Ck_leavesWell_b64 X h hP hS (lv_sub hl [] rfl)
      · have h := h.2 c5
        refine lv_aload_n hx hb d_Ck_leavesWell_46 rfl (lv_at hl 0 rfl) ?_
        refine gf_Ck_bases X hP q_84 d_Ck_leavesWell_47 ?_
        refine lv_aload_n hx hb d_Ck_leavesWell_50 rfl (lv_at hl 0 rfl) ?_
        refine gf_Ck_open X hP q_85 d_Ck_leavesWell_51 ?_
        refine lv_iload_n hx hb d_Ck_leavesWell_54 rfl (lv_at hl 3 rfl) ?_
        refine lv_isub hx hb d_Ck_leavesWell_55 ?_
        obtain ⟨hi6, h⟩ := h
        refine rw_iald X hP isI_16 hi6 d_Ck_leavesWell_56 ?_
        refine lv_goto (tgt := 64) hx hb d_Ck_leavesWell_57 (by decide) ?_
        exact t_Ck_leavesWell_b64 X h hP hS (lv_sub hl [] rfl)
    · have h := h.2 c4
      by_cases c7 : x2 = 17
      · have h := h.1 c7
        refine lv_tableIn (off := 87) (tgt := 88) hx hb d_Ck_leavesWell_1 (by rw [c7]; decide) (by rw [c7]; decide) (by rw [c7]; rfl) (by decide) ?_
        refine lv_iconst (v := 1) hx hb d_Ck_leavesWell_88 (by decide) ?_
        exact rw_zret X hP hS (by decide) h d_Ck_leavesWell_89
      · have h := h.2 c7
        by_cases c8 : x2 = 18
        · have h := h.1 c8
          refine lv_tableIn (off := 87) (tgt := 88) hx hb d_Ck_leavesWell_1 (by rw [c8]; decide) (by rw [c8]; decide) (by rw [c8]; rfl) (by decide) ?_
          refine lv_iconst (v := 1) hx hb d_Ck_leavesWell_88 (by decide) ?_
          exact rw_zret X hP hS (by decide) h d_Ck_leavesWell_89
        · have h := h.2 c8
          by_cases c9 : x2 = 19
          · have h := h.1 c9
            refine lv_tableIn (off := 72) (tgt := 73) hx hb d_Ck_leavesWell_1 (by rw [c9]; decide) (by rw [c9]; decide) (by rw [c9]; rfl) (by decide) ?_
            refine lv_iload hx hb d_Ck_leavesWell_73 (lv_at hl 4 rfl) ?_
            refine lv_aload_n hx hb d_Ck_leavesWell_75 rfl (lv_at hl 1 rfl) ?_
            refine gf_Fn_gives X hP hf1 q_46 d_Ck_leavesWell_76 ?_
            refine lv_icmp_ne (tgt := 86) hx hb d_Ck_leavesWell_79 (by decide) (fun c10 => ?_) (fun c10 => ?_)
            · have h := h.2 c10
              refine lv_iconst (v := 0) hx hb d_Ck_leavesWell_86 (by decide) ?_
              exact t_Ck_leavesWell_b87 X h hP hS (lv_sub hl [] rfl)
            · have h := h.1 c10
              refine lv_iconst (v := 1) hx hb d_Ck_leavesWell_82 (by decide) ?_
              refine lv_goto (tgt := 87) hx hb d_Ck_leavesWell_83 (by decide) ?_
              exact t_Ck_leavesWell_b87 X h hP hS (lv_sub hl [] rfl)
          · have h := h.2 c9
            have nc1 := lv_neT (a := 15) c1 rfl
            have nc4 := lv_neT (a := 16) c4 rfl
            have nc7 := lv_neT (a := 17) c7 rfl
            have nc8 := lv_neT (a := 18) c8 rfl
            have nc9 := lv_neT (a := 19) c9 rfl
            refine lv_tableOut (tgt := 88) hx hb d_Ck_leavesWell_1 (by omega) (by decide) ?_
            refine lv_iconst (v := 1) hx hb d_Ck_leavesWell_88 (by decide) ?_
            exact rw_zret X hP hS (by decide) h d_Ck_leavesWell_89
theorem yv_Ck_leavesWell : yV R_Ck y_Ck_leavesWell prog_2_method_8_code 5 (some .boolean) 4 := ⟨by decide +kernel, q_277, qp_6, q_4, q_278⟩
/-! Ck.sortOf -/
theorem d_Ck_sortOf_0 : decode prog_2_method_4_code 0 = .ok (.aload_n 0, 1) := by decide +kernel
theorem d_Ck_sortOf_1 : decode prog_2_method_4_code 1 = .ok (.getfield 22, 3) := by decide +kernel
theorem d_Ck_sortOf_4 : decode prog_2_method_4_code 4 = .ok (.ifCond .eq 11, 3) := by decide +kernel
theorem d_Ck_sortOf_7 : decode prog_2_method_4_code 7 = .ok (.iload_n 2, 1) := by decide +kernel
theorem d_Ck_sortOf_8 : decode prog_2_method_4_code 8 = .ok (.bipush 14, 2) := by decide +kernel
theorem d_Ck_sortOf_10 : decode prog_2_method_4_code 10 = .ok (.if_icmp .eq 5, 3) := by decide +kernel
theorem d_Ck_sortOf_13 : decode prog_2_method_4_code 13 = .ok (.iconst 5, 1) := by decide +kernel
theorem d_Ck_sortOf_14 : decode prog_2_method_4_code 14 = .ok (.ireturn, 1) := by decide +kernel
theorem d_Ck_sortOf_15 : decode prog_2_method_4_code 15 = .ok (.aload_n 0, 1) := by decide +kernel
theorem d_Ck_sortOf_16 : decode prog_2_method_4_code 16 = .ok (.aload_n 1, 1) := by decide +kernel
theorem d_Ck_sortOf_17 : decode prog_2_method_4_code 17 = .ok (.iload_n 2, 1) := by decide +kernel
theorem d_Ck_sortOf_18 : decode prog_2_method_4_code 18 = .ok (.iload_n 3, 1) := by decide +kernel
theorem d_Ck_sortOf_19 : decode prog_2_method_4_code 19 = .ok (.invokevirtual 79, 3) := by decide +kernel
theorem d_Ck_sortOf_22 : decode prog_2_method_4_code 22 = .ok (.ifCond .ne 5, 3) := by decide +kernel
theorem d_Ck_sortOf_25 : decode prog_2_method_4_code 25 = .ok (.iconst 1, 1) := by decide +kernel
theorem d_Ck_sortOf_26 : decode prog_2_method_4_code 26 = .ok (.ireturn, 1) := by decide +kernel
theorem d_Ck_sortOf_27 : decode prog_2_method_4_code 27 = .ok (.aload_n 0, 1) := by decide +kernel
theorem d_Ck_sortOf_28 : decode prog_2_method_4_code 28 = .ok (.getfield 37, 3) := by decide +kernel
theorem d_Ck_sortOf_31 : decode prog_2_method_4_code 31 = .ok (.iload_n 2, 1) := by decide +kernel
theorem d_Ck_sortOf_32 : decode prog_2_method_4_code 32 = .ok (.iload_n 3, 1) := by decide +kernel
theorem d_Ck_sortOf_33 : decode prog_2_method_4_code 33 = .ok (.invokevirtual 83, 3) := by decide +kernel
theorem d_Ck_sortOf_36 : decode prog_2_method_4_code 36 = .ok (.istore 4, 2) := by decide +kernel
theorem d_Ck_sortOf_38 : decode prog_2_method_4_code 38 = .ok (.iload 4, 2) := by decide +kernel
theorem d_Ck_sortOf_40 : decode prog_2_method_4_code 40 = .ok (.aload_n 0, 1) := by decide +kernel
theorem d_Ck_sortOf_41 : decode prog_2_method_4_code 41 = .ok (.getfield 19, 3) := by decide +kernel
theorem d_Ck_sortOf_44 : decode prog_2_method_4_code 44 = .ok (.aload_n 0, 1) := by decide +kernel
theorem d_Ck_sortOf_45 : decode prog_2_method_4_code 45 = .ok (.getfield 9, 3) := by decide +kernel
theorem d_Ck_sortOf_48 : decode prog_2_method_4_code 48 = .ok (.aload_n 0, 1) := by decide +kernel
theorem d_Ck_sortOf_49 : decode prog_2_method_4_code 49 = .ok (.getfield 15, 3) := by decide +kernel
theorem d_Ck_sortOf_52 : decode prog_2_method_4_code 52 = .ok (.iaload, 1) := by decide +kernel
theorem d_Ck_sortOf_53 : decode prog_2_method_4_code 53 = .ok (.isub, 1) := by decide +kernel
theorem d_Ck_sortOf_54 : decode prog_2_method_4_code 54 = .ok (.if_icmp .le 5, 3) := by decide +kernel
theorem d_Ck_sortOf_57 : decode prog_2_method_4_code 57 = .ok (.iconst 2, 1) := by decide +kernel
theorem d_Ck_sortOf_58 : decode prog_2_method_4_code 58 = .ok (.ireturn, 1) := by decide +kernel
theorem d_Ck_sortOf_59 : decode prog_2_method_4_code 59 = .ok (.iload_n 2, 1) := by decide +kernel
theorem d_Ck_sortOf_60 : decode prog_2_method_4_code 60 = .ok (.bipush 14, 2) := by decide +kernel
theorem d_Ck_sortOf_62 : decode prog_2_method_4_code 62 = .ok (.if_icmp .ne 12, 3) := by decide +kernel
theorem d_Ck_sortOf_65 : decode prog_2_method_4_code 65 = .ok (.aload_n 0, 1) := by decide +kernel
theorem d_Ck_sortOf_66 : decode prog_2_method_4_code 66 = .ok (.invokevirtual 87, 3) := by decide +kernel
theorem d_Ck_sortOf_69 : decode prog_2_method_4_code 69 = .ok (.ifCond .ne 5, 3) := by decide +kernel
theorem d_Ck_sortOf_72 : decode prog_2_method_4_code 72 = .ok (.iconst 3, 1) := by decide +kernel
theorem d_Ck_sortOf_73 : decode prog_2_method_4_code 73 = .ok (.ireturn, 1) := by decide +kernel
theorem d_Ck_sortOf_74 : decode prog_2_method_4_code 74 = .ok (.aload_n 0, 1) := by decide +kernel
theorem d_Ck_sortOf_75 : decode prog_2_method_4_code 75 = .ok (.aload_n 1, 1) := by decide +kernel
theorem d_Ck_sortOf_76 : decode prog_2_method_4_code 76 = .ok (.iload_n 2, 1) := by decide +kernel
theorem d_Ck_sortOf_77 : decode prog_2_method_4_code 77 = .ok (.iload_n 3, 1) := by decide +kernel
theorem d_Ck_sortOf_78 : decode prog_2_method_4_code 78 = .ok (.aload_n 0, 1) := by decide +kernel
theorem d_Ck_sortOf_79 : decode prog_2_method_4_code 79 = .ok (.getfield 19, 3) := by decide +kernel
theorem d_Ck_sortOf_82 : decode prog_2_method_4_code 82 = .ok (.iload 4, 2) := by decide +kernel
theorem d_Ck_sortOf_84 : decode prog_2_method_4_code 84 = .ok (.isub, 1) := by decide +kernel
theorem d_Ck_sortOf_85 : decode prog_2_method_4_code 85 = .ok (.invokevirtual 91, 3) := by decide +kernel
theorem d_Ck_sortOf_88 : decode prog_2_method_4_code 88 = .ok (.ifCond .ne 5, 3) := by decide +kernel
theorem d_Ck_sortOf_91 : decode prog_2_method_4_code 91 = .ok (.iconst 4, 1) := by decide +kernel
theorem d_Ck_sortOf_92 : decode prog_2_method_4_code 92 = .ok (.ireturn, 1) := by decide +kernel
theorem d_Ck_sortOf_93 : decode prog_2_method_4_code 93 = .ok (.iconst 0, 1) := by decide +kernel
theorem d_Ck_sortOf_94 : decode prog_2_method_4_code 94 = .ok (.ireturn, 1) := by decide +kernel
abbrev rm_Ck_sortOf : Room := { frames := 2, cells := 0, slots := 0, locals := 44 }
def p_Ck_sortOf_b74 (k : Int32 → vS → Prop) (V : vS) (f1 : Nat) (x2 : Int32) (x3 : Int32) (x4 : Int32) : Prop := p_Ck_leavesWell (fun r2 V1 => (r2 = 0 → (k 4 V1)) ∧ (¬ r2 = 0 → (k 0 V1))) V f1 x2 x3 ((V.1 15 3) - x4)
set_option maxRecDepth 100000 in
set_option maxHeartbeats 4000000 in
theorem t_Ck_sortOf_b74 {k : Int32 → vS → Prop} (X : cx g p s m meth c args R_Ck prog_2_method_4_code 5 (some .int)) {V : vS} {f1 : Nat} {x2 : Int32} {x3 : Int32} {x4 : Int32} (hf1 : 3 ≤ f1 ∧ f1 < 7) (h : p_Ck_sortOf_b74 k V f1 x2 x3 x4) (hP : va_P g.1 vcl (cw g V) H) (hS : va_S (gA g) s.heap H locs) (hl : lv_has ls 5 [(0, .ref (ga g 15)), (1, .ref (ga g f1)), (2, .int x2), (3, .int x3), (4, .int x4)]) : W p l e rm_Ck_sortOf s m args below meth c H locs 0 0 (MQ below (va_Qi k (Bw g) (gA g)) args s 0 0 (gA g)) (F0 m 74 ls []) := by
  obtain ⟨hx, hb, -, -, hown, hts, -, -, hz, hG⟩ := id X
  unfold p_Ck_sortOf_b74 at h
  refine lv_aload_n hx hb d_Ck_sortOf_74 rfl (lv_at hl 0 rfl) ?_
  refine lv_aload_n hx hb d_Ck_sortOf_75 rfl (lv_at hl 1 rfl) ?_
  refine lv_iload_n hx hb d_Ck_sortOf_76 rfl (lv_at hl 2 rfl) ?_
  refine lv_iload_n hx hb d_Ck_sortOf_77 rfl (lv_at hl 3 rfl) ?_
  refine lv_aload_n hx hb d_Ck_sortOf_78 rfl (lv_at hl 0 rfl) ?_
  refine gf_Ck_height X hP q_86 d_Ck_sortOf_79 ?_
  refine lv_iload hx hb d_Ck_sortOf_82 (lv_at hl 4 rfl) ?_
  refine lv_isub hx hb d_Ck_sortOf_84 ?_
  refine rw_cVi (rest := []) X hP hS yv_Ck_leavesWell isO_Ck (c_Ck_leavesWell hG hf1 h) q_275 ⟨rfl, rfl, by decide, by decide⟩ rfl rfl hl.1 (Nat.le_of_ble_eq_true rfl) ⟨Nat.zero_le _, Nat.zero_le _⟩ d_Ck_sortOf_85 (fun r2 V1 H locs h hP hS => ?_)
  refine lv_if_ne (tgt := 93) hx hb d_Ck_sortOf_88 (by decide) (fun c4 => ?_) (fun c4 => ?_)
  · have h := h.2 c4
    refine lv_iconst (v := 0) hx hb d_Ck_sortOf_93 (by decide) ?_
    exact rw_iret X hP hS h d_Ck_sortOf_94
  · have h := h.1 c4
    refine lv_iconst (v := 4) hx hb d_Ck_sortOf_91 (by decide) ?_
    exact rw_iret X hP hS h d_Ck_sortOf_92
def p_Ck_sortOf_b15 (k : Int32 → vS → Prop) (V : vS) (f1 : Nat) (x2 : Int32) (x3 : Int32) : Prop := p_Ck_isArgument (fun r2 V1 => (r2 = 0 → (k 1 V1)) ∧ (¬ r2 = 0 → (p_Pg_taken (fun r6 V5 => vp_in (V5.1 15 2) 25 ∧ ((r6 ≤ ((V5.1 15 3) - (V5.1 16 (nt (V5.1 15 2)))) → ((x2 = 14 → (p_Ck_closesWell (fun r12 V11 => (r12 = 0 → (k 3 V11)) ∧ (¬ r12 = 0 → (p_Ck_sortOf_b74 k V11 f1 x2 x3 r6))) V5)) ∧ (¬ x2 = 14 → (p_Ck_sortOf_b74 k V5 f1 x2 x3 r6)))) ∧ (¬ r6 ≤ ((V5.1 15 3) - (V5.1 16 (nt (V5.1 15 2)))) → (k 2 V5)))) V1 x2 x3))) V f1 x2 x3
set_option maxRecDepth 100000 in
set_option maxHeartbeats 4000000 in
theorem t_Ck_sortOf_b15 {k : Int32 → vS → Prop} (X : cx g p s m meth c args R_Ck prog_2_method_4_code 5 (some .int)) {V : vS} {f1 : Nat} {x2 : Int32} {x3 : Int32} (hf1 : 3 ≤ f1 ∧ f1 < 7) (h : p_Ck_sortOf_b15 k V f1 x2 x3) (hP : va_P g.1 vcl (cw g V) H) (hS : va_S (gA g) s.heap H locs) (hl : lv_has ls 5 [(0, .ref (ga g 15)), (1, .ref (ga g f1)), (2, .int x2), (3, .int x3)]) : W p l e rm_Ck_sortOf s m args below meth c H locs 0 0 (MQ below (va_Qi k (Bw g) (gA g)) args s 0 0 (gA g)) (F0 m 15 ls []) := by
  obtain ⟨hx, hb, -, -, hown, hts, -, -, hz, hG⟩ := id X
  unfold p_Ck_sortOf_b15 at h
  refine lv_aload_n hx hb d_Ck_sortOf_15 rfl (lv_at hl 0 rfl) ?_
  refine lv_aload_n hx hb d_Ck_sortOf_16 rfl (lv_at hl 1 rfl) ?_
  refine lv_iload_n hx hb d_Ck_sortOf_17 rfl (lv_at hl 2 rfl) ?_
  refine lv_iload_n hx hb d_Ck_sortOf_18 rfl (lv_at hl 3 rfl) ?_
  refine rw_cVi (rest := []) X hP hS yv_Ck_isArgument isO_Ck (c_Ck_isArgument hG hf1 h) q_259 ⟨rfl, rfl, by decide, by decide⟩ rfl rfl hl.1 (Nat.le_of_ble_eq_true rfl) ⟨Nat.zero_le _, Nat.zero_le _⟩ d_Ck_sortOf_19 (fun r2 V1 H locs h hP hS => ?_)
  refine lv_if_ne (tgt := 27) hx hb d_Ck_sortOf_22 (by decide) (fun c4 => ?_) (fun c4 => ?_)
  · have h := h.2 c4
    refine lv_aload_n hx hb d_Ck_sortOf_27 rfl (lv_at hl 0 rfl) ?_
    refine gf_Ck_program X hP q_83 d_Ck_sortOf_28 ?_
    refine lv_iload_n hx hb d_Ck_sortOf_31 rfl (lv_at hl 2 rfl) ?_
    refine lv_iload_n hx hb d_Ck_sortOf_32 rfl (lv_at hl 3 rfl) ?_
    refine rw_cVi (rest := []) X hP hS yv_Pg_taken isO_Pg (c_Pg_taken hG h) q_265 ⟨rfl, rfl, by decide, by decide⟩ rfl rfl hl.1 (Nat.le_of_ble_eq_true rfl) ⟨Nat.zero_le _, Nat.zero_le _⟩ d_Ck_sortOf_33 (fun r6 V5 H locs h hP hS => ?_)
    refine lv_istore (lv' := [(4, .int r6), (0, .ref (ga g 15)), (1, .ref (ga g f1)), (2, .int x2), (3, .int x3)]) hx hb d_Ck_sortOf_36 hl (by decide) rfl (fun ls hl => ?_)
    refine lv_iload hx hb d_Ck_sortOf_38 (lv_at hl 0 rfl) ?_
    refine lv_aload_n hx hb d_Ck_sortOf_40 rfl (lv_at hl 1 rfl) ?_
    refine gf_Ck_height X hP q_86 d_Ck_sortOf_41 ?_
    refine lv_aload_n hx hb d_Ck_sortOf_44 rfl (lv_at hl 1 rfl) ?_
    refine gf_Ck_bases X hP q_84 d_Ck_sortOf_45 ?_
    refine lv_aload_n hx hb d_Ck_sortOf_48 rfl (lv_at hl 1 rfl) ?_
    refine gf_Ck_open X hP q_85 d_Ck_sortOf_49 ?_
    obtain ⟨hi8, h⟩ := h
    refine rw_iald X hP isI_16 hi8 d_Ck_sortOf_52 ?_
    refine lv_isub hx hb d_Ck_sortOf_53 ?_
    refine lv_icmp_le (tgt := 59) hx hb d_Ck_sortOf_54 (by decide) (fun c9 => ?_) (fun c9 => ?_)
    · have h := h.1 c9
      refine lv_iload_n hx hb d_Ck_sortOf_59 rfl (lv_at hl 3 rfl) ?_
      refine lv_bipush (v := 14) hx hb d_Ck_sortOf_60 (by decide) ?_
      refine lv_icmp_ne (tgt := 74) hx hb d_Ck_sortOf_62 (by decide) (fun c10 => ?_) (fun c10 => ?_)
      · have h := h.2 c10
        exact t_Ck_sortOf_b74 X hf1 h hP hS (lv_sub hl [1, 2, 3, 4, 0] rfl)
      · have h := h.1 c10
        refine lv_aload_n hx hb d_Ck_sortOf_65 rfl (lv_at hl 1 rfl) ?_
        refine rw_cVi (rest := []) X hP hS yv_Ck_closesWell isO_Ck (c_Ck_closesWell hG h) q_271 ⟨rfl, rfl, by decide, by decide⟩ rfl rfl hl.1 (Nat.le_of_ble_eq_true rfl) ⟨Nat.zero_le _, Nat.zero_le _⟩ d_Ck_sortOf_66 (fun r12 V11 H locs h hP hS => ?_)
        refine lv_if_ne (tgt := 74) hx hb d_Ck_sortOf_69 (by decide) (fun c14 => ?_) (fun c14 => ?_)
        · have h := h.2 c14
          exact t_Ck_sortOf_b74 X hf1 h hP hS (lv_sub hl [1, 2, 3, 4, 0] rfl)
        · have h := h.1 c14
          refine lv_iconst (v := 3) hx hb d_Ck_sortOf_72 (by decide) ?_
          exact rw_iret X hP hS h d_Ck_sortOf_73
    · have h := h.2 c9
      refine lv_iconst (v := 2) hx hb d_Ck_sortOf_57 (by decide) ?_
      exact rw_iret X hP hS h d_Ck_sortOf_58
  · have h := h.1 c4
    refine lv_iconst (v := 1) hx hb d_Ck_sortOf_25 (by decide) ?_
    exact rw_iret X hP hS h d_Ck_sortOf_26
def p_Ck_sortOf (k : Int32 → vS → Prop) (V : vS) (f1 : Nat) (x2 : Int32) (x3 : Int32) : Prop := ((V.1 15 4) = 0 → (p_Ck_sortOf_b15 k V f1 x2 x3)) ∧ (¬ (V.1 15 4) = 0 → ((x2 = 14 → (p_Ck_sortOf_b15 k V f1 x2 x3)) ∧ (¬ x2 = 14 → (k 5 V))))
set_option maxRecDepth 100000 in
set_option maxHeartbeats 4000000 in
theorem c_Ck_sortOf {l : Launch} {g : gT} (hG : gd g) {V : vS} {f1 : Nat} {x2 : Int32} {x3 : Int32} (hf1 : 3 ≤ f1 ∧ f1 < 7) {k : Int32 → vS → Prop} (h : p_Ck_sortOf k V f1 x2 x3) : Ci g l y_Ck_sortOf prog_2_method_4_code 5 (some .int) rm_Ck_sortOf [.ref (ga g 15), .ref (ga g f1), .int x2, .int x3] V k := by
  unfold Ci
  refine Met.ofW (cc := prog_2_method_4_code) (maxL := 5) (ret := some .int) (by decide) rfl ?_
  intro p e s m args below meth c s₁ B hml hv
  obtain ⟨rfl, hP, hK, hZ⟩ := hv
  have X : cx g p s m meth c [.ref (ga g 15), .ref (ga g f1), .int x2, .int x3].toArray R_Ck prog_2_method_4_code 5 (some .int) := ⟨B.exec, B.bytes, B.returns, hml, findClass_of_methodNamed B.named, fun w hw => atoms_spec (ws := Cond.code y_Ck_sortOf prog_2_method_4_code 5 (some .int) :: TBL) B.pre w (List.mem_cons_of_mem _ hw), B.notSynchronized, hK, hZ, hG⟩
  have hl := lv_entry [.ref (ga g 15), .ref (ga g f1), .int x2, .int x3] (n := 5) (Nat.le_of_ble_eq_true rfl)
  rw [lg_entry_eq]
  generalize (lg_sl [.ref (ga g 15), .ref (ga g f1), .int x2, .int x3] ++ List.replicate (5 - (lg_sl [.ref (ga g 15), .ref (ga g f1), .int x2, .int x3]).length) Slot.unset).toArray = ls at hl ⊢
  have hl : lv_has ls 5 [(0, .ref (ga g 15)), (1, .ref (ga g f1)), (2, .int x2), (3, .int x3)] := hl
  have hS : va_S (gA g) s.heap s.heap [] := va_S.rf
  obtain ⟨hx, hb, -, -, hown, hts, -, -, hz, -⟩ := id X
  show W p l e rm_Ck_sortOf s m _ below meth c s.heap [] 0 0 (MQ below (va_Qi k (Bw g) (gA g)) _ s 0 0 (gA g)) (F0 m 0 ls [])
  unfold p_Ck_sortOf at h
  refine lv_aload_n hx hb d_Ck_sortOf_0 rfl (lv_at hl 0 rfl) ?_
  refine gf_Ck_behindLeaving X hP q_87 d_Ck_sortOf_1 ?_
  refine lv_if_eq (tgt := 15) hx hb d_Ck_sortOf_4 (by decide) (fun c1 => ?_) (fun c1 => ?_)
  · have h := h.1 c1
    exact t_Ck_sortOf_b15 X hf1 h hP hS (lv_sub hl [0, 1, 2, 3] rfl)
  · have h := h.2 c1
    refine lv_iload_n hx hb d_Ck_sortOf_7 rfl (lv_at hl 2 rfl) ?_
    refine lv_bipush (v := 14) hx hb d_Ck_sortOf_8 (by decide) ?_
    refine lv_icmp_eq (tgt := 15) hx hb d_Ck_sortOf_10 (by decide) (fun c2 => ?_) (fun c2 => ?_)
    · have h := h.1 c2
      exact t_Ck_sortOf_b15 X hf1 h hP hS (lv_sub hl [0, 1, 2, 3] rfl)
    · have h := h.2 c2
      refine lv_iconst (v := 5) hx hb d_Ck_sortOf_13 (by decide) ?_
      exact rw_iret X hP hS h d_Ck_sortOf_14
theorem yv_Ck_sortOf : yV R_Ck y_Ck_sortOf prog_2_method_4_code 5 (some .int) 3 := ⟨by decide +kernel, q_257, qp_3, q_4, q_258⟩
/-! Ck.sortOfTheEnd -/
theorem d_Ck_sortOfTheEnd_0 : decode prog_2_method_5_code 0 = .ok (.aload_n 0, 1) := by decide +kernel
theorem d_Ck_sortOfTheEnd_1 : decode prog_2_method_5_code 1 = .ok (.getfield 15, 3) := by decide +kernel
theorem d_Ck_sortOfTheEnd_4 : decode prog_2_method_5_code 4 = .ok (.ifCond .le 5, 3) := by decide +kernel
theorem d_Ck_sortOfTheEnd_7 : decode prog_2_method_5_code 7 = .ok (.iconst 3, 1) := by decide +kernel
theorem d_Ck_sortOfTheEnd_8 : decode prog_2_method_5_code 8 = .ok (.ireturn, 1) := by decide +kernel
theorem d_Ck_sortOfTheEnd_9 : decode prog_2_method_5_code 9 = .ok (.aload_n 0, 1) := by decide +kernel
theorem d_Ck_sortOfTheEnd_10 : decode prog_2_method_5_code 10 = .ok (.getfield 22, 3) := by decide +kernel
theorem d_Ck_sortOfTheEnd_13 : decode prog_2_method_5_code 13 = .ok (.ifCond .ne 16, 3) := by decide +kernel
theorem d_Ck_sortOfTheEnd_16 : decode prog_2_method_5_code 16 = .ok (.aload_n 0, 1) := by decide +kernel
theorem d_Ck_sortOfTheEnd_17 : decode prog_2_method_5_code 17 = .ok (.getfield 19, 3) := by decide +kernel
theorem d_Ck_sortOfTheEnd_20 : decode prog_2_method_5_code 20 = .ok (.aload_n 1, 1) := by decide +kernel
theorem d_Ck_sortOfTheEnd_21 : decode prog_2_method_5_code 21 = .ok (.getfield 95, 3) := by decide +kernel
theorem d_Ck_sortOfTheEnd_24 : decode prog_2_method_5_code 24 = .ok (.if_icmp .eq 5, 3) := by decide +kernel
theorem d_Ck_sortOfTheEnd_27 : decode prog_2_method_5_code 27 = .ok (.iconst 4, 1) := by decide +kernel
theorem d_Ck_sortOfTheEnd_28 : decode prog_2_method_5_code 28 = .ok (.ireturn, 1) := by decide +kernel
theorem d_Ck_sortOfTheEnd_29 : decode prog_2_method_5_code 29 = .ok (.iconst 0, 1) := by decide +kernel
theorem d_Ck_sortOfTheEnd_30 : decode prog_2_method_5_code 30 = .ok (.ireturn, 1) := by decide +kernel
abbrev rm_Ck_sortOfTheEnd : Room := { frames := 0, cells := 0, slots := 0, locals := 0 }
def p_Ck_sortOfTheEnd_b29 (k : Int32 → vS → Prop) (V : vS) : Prop := k 0 V
set_option maxRecDepth 100000 in
set_option maxHeartbeats 4000000 in
theorem t_Ck_sortOfTheEnd_b29 {k : Int32 → vS → Prop} (X : cx g p s m meth c args R_Ck prog_2_method_5_code 2 (some .int)) {V : vS} (h : p_Ck_sortOfTheEnd_b29 k V) (hP : va_P g.1 vcl (cw g V) H) (hS : va_S (gA g) s.heap H locs) (hl : lv_has ls 2 []) : W p l e rm_Ck_sortOfTheEnd s m args below meth c H locs 0 0 (MQ below (va_Qi k (Bw g) (gA g)) args s 0 0 (gA g)) (F0 m 29 ls []) := by
  obtain ⟨hx, hb, -, -, hown, hts, -, -, hz, hG⟩ := id X
  unfold p_Ck_sortOfTheEnd_b29 at h
  refine lv_iconst (v := 0) hx hb d_Ck_sortOfTheEnd_29 (by decide) ?_
  exact rw_iret X hP hS h d_Ck_sortOfTheEnd_30
def p_Ck_sortOfTheEnd (k : Int32 → vS → Prop) (V : vS) (f1 : Nat) : Prop := ((V.1 15 2) ≤ 0 → (((V.1 15 4) = 0 → (((V.1 15 3) = (V.1 f1 4) → (p_Ck_sortOfTheEnd_b29 k V)) ∧ (¬ (V.1 15 3) = (V.1 f1 4) → (k 4 V)))) ∧ (¬ (V.1 15 4) = 0 → (p_Ck_sortOfTheEnd_b29 k V)))) ∧ (¬ (V.1 15 2) ≤ 0 → (k 3 V))
set_option maxRecDepth 100000 in
set_option maxHeartbeats 4000000 in
theorem c_Ck_sortOfTheEnd {l : Launch} {g : gT} (hG : gd g) {V : vS} {f1 : Nat} (hf1 : 3 ≤ f1 ∧ f1 < 7) {k : Int32 → vS → Prop} (h : p_Ck_sortOfTheEnd k V f1) : Ci g l y_Ck_sortOfTheEnd prog_2_method_5_code 2 (some .int) rm_Ck_sortOfTheEnd [.ref (ga g 15), .ref (ga g f1)] V k := by
  unfold Ci
  refine Met.ofW (cc := prog_2_method_5_code) (maxL := 2) (ret := some .int) (by decide) rfl ?_
  intro p e s m args below meth c s₁ B hml hv
  obtain ⟨rfl, hP, hK, hZ⟩ := hv
  have X : cx g p s m meth c [.ref (ga g 15), .ref (ga g f1)].toArray R_Ck prog_2_method_5_code 2 (some .int) := ⟨B.exec, B.bytes, B.returns, hml, findClass_of_methodNamed B.named, fun w hw => atoms_spec (ws := Cond.code y_Ck_sortOfTheEnd prog_2_method_5_code 2 (some .int) :: TBL) B.pre w (List.mem_cons_of_mem _ hw), B.notSynchronized, hK, hZ, hG⟩
  have hl := lv_entry [.ref (ga g 15), .ref (ga g f1)] (n := 2) (Nat.le_of_ble_eq_true rfl)
  rw [lg_entry_eq]
  generalize (lg_sl [.ref (ga g 15), .ref (ga g f1)] ++ List.replicate (2 - (lg_sl [.ref (ga g 15), .ref (ga g f1)]).length) Slot.unset).toArray = ls at hl ⊢
  have hl : lv_has ls 2 [(0, .ref (ga g 15)), (1, .ref (ga g f1))] := hl
  have hS : va_S (gA g) s.heap s.heap [] := va_S.rf
  obtain ⟨hx, hb, -, -, hown, hts, -, -, hz, -⟩ := id X
  show W p l e rm_Ck_sortOfTheEnd s m _ below meth c s.heap [] 0 0 (MQ below (va_Qi k (Bw g) (gA g)) _ s 0 0 (gA g)) (F0 m 0 ls [])
  unfold p_Ck_sortOfTheEnd at h
  refine lv_aload_n hx hb d_Ck_sortOfTheEnd_0 rfl (lv_at hl 0 rfl) ?_
  refine gf_Ck_open X hP q_85 d_Ck_sortOfTheEnd_1 ?_
  refine lv_if_le (tgt := 9) hx hb d_Ck_sortOfTheEnd_4 (by decide) (fun c1 => ?_) (fun c1 => ?_)
  · have h := h.1 c1
    refine lv_aload_n hx hb d_Ck_sortOfTheEnd_9 rfl (lv_at hl 0 rfl) ?_
    refine gf_Ck_behindLeaving X hP q_87 d_Ck_sortOfTheEnd_10 ?_
    refine lv_if_ne (tgt := 29) hx hb d_Ck_sortOfTheEnd_13 (by decide) (fun c2 => ?_) (fun c2 => ?_)
    · have h := h.2 c2
      exact t_Ck_sortOfTheEnd_b29 X h hP hS (lv_sub hl [] rfl)
    · have h := h.1 c2
      refine lv_aload_n hx hb d_Ck_sortOfTheEnd_16 rfl (lv_at hl 0 rfl) ?_
      refine gf_Ck_height X hP q_86 d_Ck_sortOfTheEnd_17 ?_
      refine lv_aload_n hx hb d_Ck_sortOfTheEnd_20 rfl (lv_at hl 1 rfl) ?_
      refine gf_Fn_gives X hP hf1 q_46 d_Ck_sortOfTheEnd_21 ?_
      refine lv_icmp_eq (tgt := 29) hx hb d_Ck_sortOfTheEnd_24 (by decide) (fun c3 => ?_) (fun c3 => ?_)
      · have h := h.1 c3
        exact t_Ck_sortOfTheEnd_b29 X h hP hS (lv_sub hl [] rfl)
      · have h := h.2 c3
        refine lv_iconst (v := 4) hx hb d_Ck_sortOfTheEnd_27 (by decide) ?_
        exact rw_iret X hP hS h d_Ck_sortOfTheEnd_28
  · have h := h.2 c1
    refine lv_iconst (v := 3) hx hb d_Ck_sortOfTheEnd_7 (by decide) ?_
    exact rw_iret X hP hS h d_Ck_sortOfTheEnd_8
theorem yv_Ck_sortOfTheEnd : yV R_Ck y_Ck_sortOfTheEnd prog_2_method_5_code 2 (some .int) 1 := ⟨by decide +kernel, q_297, qp_8, q_4, q_298⟩
/-! Ck.pass -/
theorem d_Ck_pass_0 : decode prog_2_method_9_code 0 = .ok (.aload_n 0, 1) := by decide +kernel
theorem d_Ck_pass_1 : decode prog_2_method_9_code 1 = .ok (.dup, 1) := by decide +kernel
theorem d_Ck_pass_2 : decode prog_2_method_9_code 2 = .ok (.getfield 19, 3) := by decide +kernel
theorem d_Ck_pass_5 : decode prog_2_method_9_code 5 = .ok (.aload_n 0, 1) := by decide +kernel
theorem d_Ck_pass_6 : decode prog_2_method_9_code 6 = .ok (.getfield 37, 3) := by decide +kernel
theorem d_Ck_pass_9 : decode prog_2_method_9_code 9 = .ok (.iload_n 1, 1) := by decide +kernel
theorem d_Ck_pass_10 : decode prog_2_method_9_code 10 = .ok (.iload_n 2, 1) := by decide +kernel
theorem d_Ck_pass_11 : decode prog_2_method_9_code 11 = .ok (.invokevirtual 112, 3) := by decide +kernel
theorem d_Ck_pass_14 : decode prog_2_method_9_code 14 = .ok (.aload_n 0, 1) := by decide +kernel
theorem d_Ck_pass_15 : decode prog_2_method_9_code 15 = .ok (.getfield 37, 3) := by decide +kernel
theorem d_Ck_pass_18 : decode prog_2_method_9_code 18 = .ok (.iload_n 1, 1) := by decide +kernel
theorem d_Ck_pass_19 : decode prog_2_method_9_code 19 = .ok (.iload_n 2, 1) := by decide +kernel
theorem d_Ck_pass_20 : decode prog_2_method_9_code 20 = .ok (.invokevirtual 83, 3) := by decide +kernel
theorem d_Ck_pass_23 : decode prog_2_method_9_code 23 = .ok (.isub, 1) := by decide +kernel
theorem d_Ck_pass_24 : decode prog_2_method_9_code 24 = .ok (.iadd, 1) := by decide +kernel
theorem d_Ck_pass_25 : decode prog_2_method_9_code 25 = .ok (.putfield 19, 3) := by decide +kernel
theorem d_Ck_pass_28 : decode prog_2_method_9_code 28 = .ok (.aload_n 0, 1) := by decide +kernel
theorem d_Ck_pass_29 : decode prog_2_method_9_code 29 = .ok (.iload_n 1, 1) := by decide +kernel
theorem d_Ck_pass_30 : decode prog_2_method_9_code 30 = .ok (.invokestatic 115, 3) := by decide +kernel
theorem d_Ck_pass_33 : decode prog_2_method_9_code 33 = .ok (.putfield 22, 3) := by decide +kernel
theorem d_Ck_pass_36 : decode prog_2_method_9_code 36 = .ok (.iload_n 1, 1) := by decide +kernel
theorem d_Ck_pass_37 : decode prog_2_method_9_code 37 = .ok (.invokestatic 118, 3) := by decide +kernel
theorem d_Ck_pass_40 : decode prog_2_method_9_code 40 = .ok (.ifCond .eq 29, 3) := by decide +kernel
theorem d_Ck_pass_43 : decode prog_2_method_9_code 43 = .ok (.aload_n 0, 1) := by decide +kernel
theorem d_Ck_pass_44 : decode prog_2_method_9_code 44 = .ok (.dup, 1) := by decide +kernel
theorem d_Ck_pass_45 : decode prog_2_method_9_code 45 = .ok (.getfield 15, 3) := by decide +kernel
theorem d_Ck_pass_48 : decode prog_2_method_9_code 48 = .ok (.iconst 1, 1) := by decide +kernel
theorem d_Ck_pass_49 : decode prog_2_method_9_code 49 = .ok (.iadd, 1) := by decide +kernel
theorem d_Ck_pass_50 : decode prog_2_method_9_code 50 = .ok (.putfield 15, 3) := by decide +kernel
theorem d_Ck_pass_53 : decode prog_2_method_9_code 53 = .ok (.aload_n 0, 1) := by decide +kernel
theorem d_Ck_pass_54 : decode prog_2_method_9_code 54 = .ok (.getfield 9, 3) := by decide +kernel
theorem d_Ck_pass_57 : decode prog_2_method_9_code 57 = .ok (.aload_n 0, 1) := by decide +kernel
theorem d_Ck_pass_58 : decode prog_2_method_9_code 58 = .ok (.getfield 15, 3) := by decide +kernel
theorem d_Ck_pass_61 : decode prog_2_method_9_code 61 = .ok (.aload_n 0, 1) := by decide +kernel
theorem d_Ck_pass_62 : decode prog_2_method_9_code 62 = .ok (.getfield 19, 3) := by decide +kernel
theorem d_Ck_pass_65 : decode prog_2_method_9_code 65 = .ok (.iastore, 1) := by decide +kernel
theorem d_Ck_pass_66 : decode prog_2_method_9_code 66 = .ok (.goto 32, 3) := by decide +kernel
theorem d_Ck_pass_69 : decode prog_2_method_9_code 69 = .ok (.iload_n 1, 1) := by decide +kernel
theorem d_Ck_pass_70 : decode prog_2_method_9_code 70 = .ok (.bipush 14, 2) := by decide +kernel
theorem d_Ck_pass_72 : decode prog_2_method_9_code 72 = .ok (.if_icmp .ne 26, 3) := by decide +kernel
theorem d_Ck_pass_75 : decode prog_2_method_9_code 75 = .ok (.aload_n 0, 1) := by decide +kernel
theorem d_Ck_pass_76 : decode prog_2_method_9_code 76 = .ok (.aload_n 0, 1) := by decide +kernel
theorem d_Ck_pass_77 : decode prog_2_method_9_code 77 = .ok (.getfield 9, 3) := by decide +kernel
theorem d_Ck_pass_80 : decode prog_2_method_9_code 80 = .ok (.aload_n 0, 1) := by decide +kernel
theorem d_Ck_pass_81 : decode prog_2_method_9_code 81 = .ok (.getfield 15, 3) := by decide +kernel
theorem d_Ck_pass_84 : decode prog_2_method_9_code 84 = .ok (.iaload, 1) := by decide +kernel
theorem d_Ck_pass_85 : decode prog_2_method_9_code 85 = .ok (.putfield 19, 3) := by decide +kernel
theorem d_Ck_pass_88 : decode prog_2_method_9_code 88 = .ok (.aload_n 0, 1) := by decide +kernel
theorem d_Ck_pass_89 : decode prog_2_method_9_code 89 = .ok (.dup, 1) := by decide +kernel
theorem d_Ck_pass_90 : decode prog_2_method_9_code 90 = .ok (.getfield 15, 3) := by decide +kernel
theorem d_Ck_pass_93 : decode prog_2_method_9_code 93 = .ok (.iconst 1, 1) := by decide +kernel
theorem d_Ck_pass_94 : decode prog_2_method_9_code 94 = .ok (.isub, 1) := by decide +kernel
theorem d_Ck_pass_95 : decode prog_2_method_9_code 95 = .ok (.putfield 15, 3) := by decide +kernel
theorem d_Ck_pass_98 : decode prog_2_method_9_code 98 = .ok (.return_, 1) := by decide +kernel
abbrev rm_Ck_pass : Room := { frames := 1, cells := 0, slots := 0, locals := 22 }
def p_Ck_pass_b98 (k : vS → Prop) (V : vS) : Prop := k V
set_option maxRecDepth 100000 in
set_option maxHeartbeats 4000000 in
theorem t_Ck_pass_b98 {k : vS → Prop} (X : cx g p s m meth c args R_Ck prog_2_method_9_code 3 (none)) {V : vS} (h : p_Ck_pass_b98 k V) (hP : va_P g.1 vcl (cw g V) H) (hS : va_S (gA g) s.heap H locs) (hl : lv_has ls 3 []) : W p l e rm_Ck_pass s m args below meth c H locs 0 0 (MQ below (va_Qv k (Bw g) (gA g)) args s 0 0 (gA g)) (F0 m 98 ls []) := by
  obtain ⟨hx, hb, -, -, hown, hts, -, -, hz, hG⟩ := id X
  unfold p_Ck_pass_b98 at h
  exact rw_vret X hP hS h d_Ck_pass_98
def p_Ck_pass (k : vS → Prop) (V : vS) (x1 : Int32) (x2 : Int32) : Prop := p_Pg_put (fun r2 V1 => p_Pg_taken (fun r5 V4 => ∀ V7 : vS, V7 = sv V4 15 3 ((V.1 15 3) + (r2 - r5)) → (p_Op_neverGoesOn (fun r9 V8 => (r9 = 0 ∨ r9 = 1) ∧ (∀ V11 : vS, V11 = sv V8 15 4 r9 → (p_Op_opensPart (fun r14 V13 => (r14 = 0 → ((x1 = 14 → (vp_in (V13.1 15 2) 25 ∧ (∀ V19 : vS, V19 = sv V13 15 3 (V13.1 16 (nt (V13.1 15 2))) → (∀ V20 : vS, V20 = sv V19 15 2 ((V19.1 15 2) - 1) → (p_Ck_pass_b98 k V20))))) ∧ (¬ x1 = 14 → (p_Ck_pass_b98 k V13)))) ∧ (¬ r14 = 0 → (∀ V21 : vS, V21 = sv V13 15 2 ((V13.1 15 2) + 1) → (vp_in (V21.1 15 2) 25 ∧ ∀ V23 : vS, V23 = sv V21 16 (nt (V21.1 15 2)) (V21.1 15 3) → (p_Ck_pass_b98 k V23))))) V11 x1))) V7 x1)) V1 x1 x2) V x1 x2
set_option maxRecDepth 100000 in
set_option maxHeartbeats 4000000 in
theorem c_Ck_pass {l : Launch} {g : gT} (hG : gd g) {V : vS} {x1 : Int32} {x2 : Int32} {k : vS → Prop} (h : p_Ck_pass k V x1 x2) : Cv g l y_Ck_pass prog_2_method_9_code 3 (none) rm_Ck_pass [.ref (ga g 15), .int x1, .int x2] V k := by
  unfold Cv
  refine Met.ofW (cc := prog_2_method_9_code) (maxL := 3) (ret := none) (by decide) rfl ?_
  intro p e s m args below meth c s₁ B hml hv
  obtain ⟨rfl, hP, hK, hZ⟩ := hv
  have X : cx g p s m meth c [.ref (ga g 15), .int x1, .int x2].toArray R_Ck prog_2_method_9_code 3 (none) := ⟨B.exec, B.bytes, B.returns, hml, findClass_of_methodNamed B.named, fun w hw => atoms_spec (ws := Cond.code y_Ck_pass prog_2_method_9_code 3 (none) :: TBL) B.pre w (List.mem_cons_of_mem _ hw), B.notSynchronized, hK, hZ, hG⟩
  have hl := lv_entry [.ref (ga g 15), .int x1, .int x2] (n := 3) (Nat.le_of_ble_eq_true rfl)
  rw [lg_entry_eq]
  generalize (lg_sl [.ref (ga g 15), .int x1, .int x2] ++ List.replicate (3 - (lg_sl [.ref (ga g 15), .int x1, .int x2]).length) Slot.unset).toArray = ls at hl ⊢
  have hl : lv_has ls 3 [(0, .ref (ga g 15)), (1, .int x1), (2, .int x2)] := hl
  have hS : va_S (gA g) s.heap s.heap [] := va_S.rf
  obtain ⟨hx, hb, -, -, hown, hts, -, -, hz, -⟩ := id X
  show W p l e rm_Ck_pass s m _ below meth c s.heap [] 0 0 (MQ below (va_Qv k (Bw g) (gA g)) _ s 0 0 (gA g)) (F0 m 0 ls [])
  unfold p_Ck_pass at h
  refine lv_aload_n hx hb d_Ck_pass_0 rfl (lv_at hl 0 rfl) ?_
  refine lv_dup hx hb d_Ck_pass_1 rfl ?_
  refine gf_Ck_height X hP q_86 d_Ck_pass_2 ?_
  refine lv_aload_n hx hb d_Ck_pass_5 rfl (lv_at hl 0 rfl) ?_
  refine gf_Ck_program X hP q_83 d_Ck_pass_6 ?_
  refine lv_iload_n hx hb d_Ck_pass_9 rfl (lv_at hl 1 rfl) ?_
  refine lv_iload_n hx hb d_Ck_pass_10 rfl (lv_at hl 2 rfl) ?_
  refine rw_cVi (rest := [.int (V.1 15 3), .ref (ga g 15)]) X hP hS yv_Pg_put isO_Pg (c_Pg_put hG h) q_283 ⟨rfl, rfl, by decide, by decide⟩ rfl rfl hl.1 (Nat.le_of_ble_eq_true rfl) ⟨Nat.zero_le _, Nat.zero_le _⟩ d_Ck_pass_11 (fun r2 V1 H locs h hP hS => ?_)
  refine lv_aload_n hx hb d_Ck_pass_14 rfl (lv_at hl 0 rfl) ?_
  refine gf_Ck_program X hP q_83 d_Ck_pass_15 ?_
  refine lv_iload_n hx hb d_Ck_pass_18 rfl (lv_at hl 1 rfl) ?_
  refine lv_iload_n hx hb d_Ck_pass_19 rfl (lv_at hl 2 rfl) ?_
  refine rw_cVi (rest := [.int r2, .int (V.1 15 3), .ref (ga g 15)]) X hP hS yv_Pg_taken isO_Pg (c_Pg_taken hG h) q_265 ⟨rfl, rfl, by decide, by decide⟩ rfl rfl hl.1 (Nat.le_of_ble_eq_true rfl) ⟨Nat.zero_le _, Nat.zero_le _⟩ d_Ck_pass_20 (fun r5 V4 H locs h hP hS => ?_)
  refine lv_isub hx hb d_Ck_pass_23 ?_
  refine lv_iadd hx hb d_Ck_pass_24 ?_
  refine pf_Ck_height X hP hS q_86 d_Ck_pass_25 (fun V7 H locs eV7 hP hS => ?_)
  have h := h V7 eV7
  refine lv_aload_n hx hb d_Ck_pass_28 rfl (lv_at hl 0 rfl) ?_
  refine lv_iload_n hx hb d_Ck_pass_29 rfl (lv_at hl 1 rfl) ?_
  refine rw_cSi (rest := [.ref (ga g 15)]) X hP hS ys_Op_neverGoesOn (c_Op_neverGoesOn hG h) q_289 ⟨rfl, rfl, by decide, by decide⟩ rfl rfl hl.1 (Nat.le_of_ble_eq_true rfl) ⟨Nat.zero_le _, Nat.zero_le _⟩ d_Ck_pass_30 (fun r9 V8 H locs h hP hS => ?_)
  obtain ⟨hb12, h⟩ := h
  refine pf_Ck_behindLeaving X hP hS q_87 hb12 d_Ck_pass_33 (fun V11 H locs eV11 hP hS => ?_)
  have h := h V11 eV11
  refine lv_iload_n hx hb d_Ck_pass_36 rfl (lv_at hl 1 rfl) ?_
  refine rw_cSi (rest := []) X hP hS ys_Op_opensPart (c_Op_opensPart hG h) q_292 ⟨rfl, rfl, by decide, by decide⟩ rfl rfl hl.1 (Nat.le_of_ble_eq_true rfl) ⟨Nat.zero_le _, Nat.zero_le _⟩ d_Ck_pass_37 (fun r14 V13 H locs h hP hS => ?_)
  refine lv_if_eq (tgt := 69) hx hb d_Ck_pass_40 (by decide) (fun c16 => ?_) (fun c16 => ?_)
  · have h := h.1 c16
    refine lv_iload_n hx hb d_Ck_pass_69 rfl (lv_at hl 1 rfl) ?_
    refine lv_bipush (v := 14) hx hb d_Ck_pass_70 (by decide) ?_
    refine lv_icmp_ne (tgt := 98) hx hb d_Ck_pass_72 (by decide) (fun c17 => ?_) (fun c17 => ?_)
    · have h := h.2 c17
      exact t_Ck_pass_b98 X h hP hS (lv_sub hl [] rfl)
    · have h := h.1 c17
      refine lv_aload_n hx hb d_Ck_pass_75 rfl (lv_at hl 0 rfl) ?_
      refine lv_aload_n hx hb d_Ck_pass_76 rfl (lv_at hl 0 rfl) ?_
      refine gf_Ck_bases X hP q_84 d_Ck_pass_77 ?_
      refine lv_aload_n hx hb d_Ck_pass_80 rfl (lv_at hl 0 rfl) ?_
      refine gf_Ck_open X hP q_85 d_Ck_pass_81 ?_
      obtain ⟨hi18, h⟩ := h
      refine rw_iald X hP isI_16 hi18 d_Ck_pass_84 ?_
      refine pf_Ck_height X hP hS q_86 d_Ck_pass_85 (fun V19 H locs eV19 hP hS => ?_)
      have h := h V19 eV19
      refine lv_aload_n hx hb d_Ck_pass_88 rfl (lv_at hl 0 rfl) ?_
      refine lv_dup hx hb d_Ck_pass_89 rfl ?_
      refine gf_Ck_open X hP q_85 d_Ck_pass_90 ?_
      refine lv_iconst (v := 1) hx hb d_Ck_pass_93 (by decide) ?_
      refine lv_isub hx hb d_Ck_pass_94 ?_
      refine pf_Ck_open X hP hS q_85 d_Ck_pass_95 (fun V20 H locs eV20 hP hS => ?_)
      have h := h V20 eV20
      exact t_Ck_pass_b98 X h hP hS (lv_sub hl [] rfl)
  · have h := h.2 c16
    refine lv_aload_n hx hb d_Ck_pass_43 rfl (lv_at hl 0 rfl) ?_
    refine lv_dup hx hb d_Ck_pass_44 rfl ?_
    refine gf_Ck_open X hP q_85 d_Ck_pass_45 ?_
    refine lv_iconst (v := 1) hx hb d_Ck_pass_48 (by decide) ?_
    refine lv_iadd hx hb d_Ck_pass_49 ?_
    refine pf_Ck_open X hP hS q_85 d_Ck_pass_50 (fun V21 H locs eV21 hP hS => ?_)
    have h := h V21 eV21
    refine lv_aload_n hx hb d_Ck_pass_53 rfl (lv_at hl 0 rfl) ?_
    refine gf_Ck_bases X hP q_84 d_Ck_pass_54 ?_
    refine lv_aload_n hx hb d_Ck_pass_57 rfl (lv_at hl 0 rfl) ?_
    refine gf_Ck_open X hP q_85 d_Ck_pass_58 ?_
    refine lv_aload_n hx hb d_Ck_pass_61 rfl (lv_at hl 0 rfl) ?_
    refine gf_Ck_height X hP q_86 d_Ck_pass_62 ?_
    obtain ⟨hi22, h⟩ := h
    refine rw_iast X hP hS isI_16 hi22 d_Ck_pass_65 (fun V23 H locs eV23 hP hS => ?_)
    have h := h V23 eV23
    refine lv_goto (tgt := 98) hx hb d_Ck_pass_66 (by decide) ?_
    exact t_Ck_pass_b98 X h hP hS (lv_sub hl [] rfl)
theorem yv_Ck_pass : yV R_Ck y_Ck_pass prog_2_method_9_code 3 (none) 2 := ⟨by decide +kernel, q_281, qp_7, q_4, q_282⟩
/-! Ck.goThrough -/
theorem d_Ck_goThrough_0 : decode prog_2_method_3_code 0 = .ok (.aload_n 0, 1) := by decide +kernel
theorem d_Ck_goThrough_1 : decode prog_2_method_3_code 1 = .ok (.iconst 0, 1) := by decide +kernel
theorem d_Ck_goThrough_2 : decode prog_2_method_3_code 2 = .ok (.putfield 15, 3) := by decide +kernel
theorem d_Ck_goThrough_5 : decode prog_2_method_3_code 5 = .ok (.aload_n 0, 1) := by decide +kernel
theorem d_Ck_goThrough_6 : decode prog_2_method_3_code 6 = .ok (.iconst 0, 1) := by decide +kernel
theorem d_Ck_goThrough_7 : decode prog_2_method_3_code 7 = .ok (.putfield 19, 3) := by decide +kernel
theorem d_Ck_goThrough_10 : decode prog_2_method_3_code 10 = .ok (.aload_n 0, 1) := by decide +kernel
theorem d_Ck_goThrough_11 : decode prog_2_method_3_code 11 = .ok (.iconst 0, 1) := by decide +kernel
theorem d_Ck_goThrough_12 : decode prog_2_method_3_code 12 = .ok (.putfield 22, 3) := by decide +kernel
theorem d_Ck_goThrough_15 : decode prog_2_method_3_code 15 = .ok (.iconst 0, 1) := by decide +kernel
theorem d_Ck_goThrough_16 : decode prog_2_method_3_code 16 = .ok (.istore_n 2, 1) := by decide +kernel
theorem d_Ck_goThrough_17 : decode prog_2_method_3_code 17 = .ok (.iload_n 2, 1) := by decide +kernel
theorem d_Ck_goThrough_18 : decode prog_2_method_3_code 18 = .ok (.aload_n 1, 1) := by decide +kernel
theorem d_Ck_goThrough_19 : decode prog_2_method_3_code 19 = .ok (.getfield 54, 3) := by decide +kernel
theorem d_Ck_goThrough_22 : decode prog_2_method_3_code 22 = .ok (.if_icmp .ge 56, 3) := by decide +kernel
theorem d_Ck_goThrough_25 : decode prog_2_method_3_code 25 = .ok (.aload_n 1, 1) := by decide +kernel
theorem d_Ck_goThrough_26 : decode prog_2_method_3_code 26 = .ok (.getfield 59, 3) := by decide +kernel
theorem d_Ck_goThrough_29 : decode prog_2_method_3_code 29 = .ok (.iload_n 2, 1) := by decide +kernel
theorem d_Ck_goThrough_30 : decode prog_2_method_3_code 30 = .ok (.iaload, 1) := by decide +kernel
theorem d_Ck_goThrough_31 : decode prog_2_method_3_code 31 = .ok (.istore_n 3, 1) := by decide +kernel
theorem d_Ck_goThrough_32 : decode prog_2_method_3_code 32 = .ok (.aload_n 1, 1) := by decide +kernel
theorem d_Ck_goThrough_33 : decode prog_2_method_3_code 33 = .ok (.getfield 62, 3) := by decide +kernel
theorem d_Ck_goThrough_36 : decode prog_2_method_3_code 36 = .ok (.iload_n 2, 1) := by decide +kernel
theorem d_Ck_goThrough_37 : decode prog_2_method_3_code 37 = .ok (.iaload, 1) := by decide +kernel
theorem d_Ck_goThrough_38 : decode prog_2_method_3_code 38 = .ok (.istore 4, 2) := by decide +kernel
theorem d_Ck_goThrough_40 : decode prog_2_method_3_code 40 = .ok (.aload_n 0, 1) := by decide +kernel
theorem d_Ck_goThrough_41 : decode prog_2_method_3_code 41 = .ok (.iload_n 2, 1) := by decide +kernel
theorem d_Ck_goThrough_42 : decode prog_2_method_3_code 42 = .ok (.putfield 34, 3) := by decide +kernel
theorem d_Ck_goThrough_45 : decode prog_2_method_3_code 45 = .ok (.aload_n 0, 1) := by decide +kernel
theorem d_Ck_goThrough_46 : decode prog_2_method_3_code 46 = .ok (.aload_n 0, 1) := by decide +kernel
theorem d_Ck_goThrough_47 : decode prog_2_method_3_code 47 = .ok (.aload_n 1, 1) := by decide +kernel
theorem d_Ck_goThrough_48 : decode prog_2_method_3_code 48 = .ok (.iload_n 3, 1) := by decide +kernel
theorem d_Ck_goThrough_49 : decode prog_2_method_3_code 49 = .ok (.iload 4, 2) := by decide +kernel
theorem d_Ck_goThrough_51 : decode prog_2_method_3_code 51 = .ok (.invokevirtual 65, 3) := by decide +kernel
theorem d_Ck_goThrough_54 : decode prog_2_method_3_code 54 = .ok (.putfield 28, 3) := by decide +kernel
theorem d_Ck_goThrough_57 : decode prog_2_method_3_code 57 = .ok (.aload_n 0, 1) := by decide +kernel
theorem d_Ck_goThrough_58 : decode prog_2_method_3_code 58 = .ok (.getfield 28, 3) := by decide +kernel
theorem d_Ck_goThrough_61 : decode prog_2_method_3_code 61 = .ok (.ifCond .eq 4, 3) := by decide +kernel
theorem d_Ck_goThrough_64 : decode prog_2_method_3_code 64 = .ok (.return_, 1) := by decide +kernel
theorem d_Ck_goThrough_65 : decode prog_2_method_3_code 65 = .ok (.aload_n 0, 1) := by decide +kernel
theorem d_Ck_goThrough_66 : decode prog_2_method_3_code 66 = .ok (.iload_n 3, 1) := by decide +kernel
theorem d_Ck_goThrough_67 : decode prog_2_method_3_code 67 = .ok (.iload 4, 2) := by decide +kernel
theorem d_Ck_goThrough_69 : decode prog_2_method_3_code 69 = .ok (.invokevirtual 69, 3) := by decide +kernel
theorem d_Ck_goThrough_72 : decode prog_2_method_3_code 72 = .ok (.iinc 2 1, 3) := by decide +kernel
theorem d_Ck_goThrough_75 : decode prog_2_method_3_code 75 = .ok (.goto (-58), 3) := by decide +kernel
theorem d_Ck_goThrough_78 : decode prog_2_method_3_code 78 = .ok (.aload_n 0, 1) := by decide +kernel
theorem d_Ck_goThrough_79 : decode prog_2_method_3_code 79 = .ok (.aload_n 1, 1) := by decide +kernel
theorem d_Ck_goThrough_80 : decode prog_2_method_3_code 80 = .ok (.getfield 54, 3) := by decide +kernel
theorem d_Ck_goThrough_83 : decode prog_2_method_3_code 83 = .ok (.putfield 34, 3) := by decide +kernel
theorem d_Ck_goThrough_86 : decode prog_2_method_3_code 86 = .ok (.aload_n 0, 1) := by decide +kernel
theorem d_Ck_goThrough_87 : decode prog_2_method_3_code 87 = .ok (.aload_n 0, 1) := by decide +kernel
theorem d_Ck_goThrough_88 : decode prog_2_method_3_code 88 = .ok (.aload_n 1, 1) := by decide +kernel
theorem d_Ck_goThrough_89 : decode prog_2_method_3_code 89 = .ok (.invokevirtual 73, 3) := by decide +kernel
theorem d_Ck_goThrough_92 : decode prog_2_method_3_code 92 = .ok (.putfield 28, 3) := by decide +kernel
theorem d_Ck_goThrough_95 : decode prog_2_method_3_code 95 = .ok (.return_, 1) := by decide +kernel
abbrev rm_Ck_goThrough : Room := { frames := 3, cells := 0, slots := 0, locals := 68 }
def p_Ck_goThrough_b17 (k : vS → Prop) : Nat → vS → Nat → Int32 → Prop
  | 0, _, _, _ => False
  | n + 1, V, f1, x2 => ((V.1 f1 2) ≤ x2 → (∀ V2 : vS, V2 = sv V 15 7 (V.1 f1 2) → (p_Ck_sortOfTheEnd (fun r4 V3 => ∀ V6 : vS, V6 = sv V3 15 5 r4 → (k V6)) V2 f1))) ∧ (¬ (V.1 f1 2) ≤ x2 → (vp_in x2 24 ∧ (∀ y8 : Int32, y8 = V.1 (f1 + 4) (nt x2) → (vp_in x2 24 ∧ (∀ y10 : Int32, y10 = V.1 (f1 + 8) (nt x2) → (∀ V11 : vS, V11 = sv V 15 7 x2 → (p_Ck_sortOf (fun r13 V12 => ∀ V15 : vS, V15 = sv V12 15 5 r13 → (((V15.1 15 5) = 0 → (p_Ck_pass (fun V17 => ∀ y19 : Int32, y19 = x2 + 1 → ((p_Ck_goThrough_b17 k n) V17 f1 y19)) V15 y8 y10)) ∧ (¬ (V15.1 15 5) = 0 → (k V15)))) V11 f1 y8 y10)))))))
set_option maxRecDepth 100000 in
set_option maxHeartbeats 4000000 in
theorem t_Ck_goThrough_b17 {k : vS → Prop} (X : cx g p s m meth c args R_Ck prog_2_method_3_code 5 (none)) : ∀ (n : Nat) (V : vS) (f1 : Nat) (x2 : Int32) (hf1 : 3 ≤ f1 ∧ f1 < 7), p_Ck_goThrough_b17 k n V f1 x2 → ∀ (H : Heap) (locs : List Loc) (ls : Array Slot), va_P g.1 vcl (cw g V) H → va_S (gA g) s.heap H locs → lv_has ls 5 [(0, .ref (ga g 15)), (1, .ref (ga g f1)), (2, .int x2)] → W p l e rm_Ck_goThrough s m args below meth c H locs 0 0 (MQ below (va_Qv k (Bw g) (gA g)) args s 0 0 (gA g)) (F0 m 17 ls []) := by
  obtain ⟨hx, hb, -, -, hown, hts, -, -, hz, hG⟩ := id X
  intro n
  induction n with
  | zero =>
    intro V f1 x2 hf1 h
    exact h.elim
  | succ n ih =>
    intro V f1 x2 hf1 h H locs ls hP hS hl
    unfold p_Ck_goThrough_b17 at h
    refine lv_iload_n hx hb d_Ck_goThrough_17 rfl (lv_at hl 2 rfl) ?_
    refine lv_aload_n hx hb d_Ck_goThrough_18 rfl (lv_at hl 1 rfl) ?_
    refine gf_Fn_length X hP hf1 q_37 d_Ck_goThrough_19 ?_
    refine lv_icmp_ge (tgt := 78) hx hb d_Ck_goThrough_22 (by decide) (fun c1 => ?_) (fun c1 => ?_)
    · have h := h.1 c1
      refine lv_aload_n hx hb d_Ck_goThrough_78 rfl (lv_at hl 0 rfl) ?_
      refine lv_aload_n hx hb d_Ck_goThrough_79 rfl (lv_at hl 1 rfl) ?_
      refine gf_Fn_length X hP hf1 q_37 d_Ck_goThrough_80 ?_
      refine pf_Ck_faultyInstruction X hP hS q_92 d_Ck_goThrough_83 (fun V2 H locs eV2 hP hS => ?_)
      have h := h V2 eV2
      refine lv_aload_n hx hb d_Ck_goThrough_86 rfl (lv_at hl 0 rfl) ?_
      refine lv_aload_n hx hb d_Ck_goThrough_87 rfl (lv_at hl 0 rfl) ?_
      refine lv_aload_n hx hb d_Ck_goThrough_88 rfl (lv_at hl 1 rfl) ?_
      refine rw_cVi (rest := [.ref (ga g 15)]) X hP hS yv_Ck_sortOfTheEnd isO_Ck (c_Ck_sortOfTheEnd hG hf1 h) q_295 ⟨rfl, rfl, by decide, by decide⟩ rfl rfl hl.1 (Nat.le_of_ble_eq_true rfl) ⟨Nat.zero_le _, Nat.zero_le _⟩ d_Ck_goThrough_89 (fun r4 V3 H locs h hP hS => ?_)
      refine pf_Ck_sort X hP hS q_88 d_Ck_goThrough_92 (fun V6 H locs eV6 hP hS => ?_)
      have h := h V6 eV6
      exact rw_vret X hP hS h d_Ck_goThrough_95
    · have h := h.2 c1
      refine lv_aload_n hx hb d_Ck_goThrough_25 rfl (lv_at hl 1 rfl) ?_
      refine gf_Fn_ops X hP hf1 q_31 d_Ck_goThrough_26 ?_
      refine lv_iload_n hx hb d_Ck_goThrough_29 rfl (lv_at hl 2 rfl) ?_
      obtain ⟨hi7, h⟩ := h
      refine rw_iald X hP (isI_ops hf1) hi7 d_Ck_goThrough_30 ?_
      refine lv_topi (fun y8 ey8 => ?_)
      have h := h y8 ey8
      refine lv_istore_n (lv' := [(3, .int y8), (0, .ref (ga g 15)), (1, .ref (ga g f1)), (2, .int x2)]) hx hb d_Ck_goThrough_31 rfl hl (by decide) rfl (fun ls hl => ?_)
      refine lv_aload_n hx hb d_Ck_goThrough_32 rfl (lv_at hl 2 rfl) ?_
      refine gf_Fn_arguments X hP hf1 q_34 d_Ck_goThrough_33 ?_
      refine lv_iload_n hx hb d_Ck_goThrough_36 rfl (lv_at hl 3 rfl) ?_
      obtain ⟨hi9, h⟩ := h
      refine rw_iald X hP (isI_args hf1) hi9 d_Ck_goThrough_37 ?_
      refine lv_topi (fun y10 ey10 => ?_)
      have h := h y10 ey10
      refine lv_istore (lv' := [(4, .int y10), (3, .int y8), (0, .ref (ga g 15)), (1, .ref (ga g f1)), (2, .int x2)]) hx hb d_Ck_goThrough_38 hl (by decide) rfl (fun ls hl => ?_)
      refine lv_aload_n hx hb d_Ck_goThrough_40 rfl (lv_at hl 2 rfl) ?_
      refine lv_iload_n hx hb d_Ck_goThrough_41 rfl (lv_at hl 4 rfl) ?_
      refine pf_Ck_faultyInstruction X hP hS q_92 d_Ck_goThrough_42 (fun V11 H locs eV11 hP hS => ?_)
      have h := h V11 eV11
      refine lv_aload_n hx hb d_Ck_goThrough_45 rfl (lv_at hl 2 rfl) ?_
      refine lv_aload_n hx hb d_Ck_goThrough_46 rfl (lv_at hl 2 rfl) ?_
      refine lv_aload_n hx hb d_Ck_goThrough_47 rfl (lv_at hl 3 rfl) ?_
      refine lv_iload_n hx hb d_Ck_goThrough_48 rfl (lv_at hl 1 rfl) ?_
      refine lv_iload hx hb d_Ck_goThrough_49 (lv_at hl 0 rfl) ?_
      refine rw_cVi (rest := [.ref (ga g 15)]) X hP hS yv_Ck_sortOf isO_Ck (c_Ck_sortOf hG hf1 h) q_255 ⟨rfl, rfl, by decide, by decide⟩ rfl rfl hl.1 (Nat.le_of_ble_eq_true rfl) ⟨Nat.zero_le _, Nat.zero_le _⟩ d_Ck_goThrough_51 (fun r13 V12 H locs h hP hS => ?_)
      refine pf_Ck_sort X hP hS q_88 d_Ck_goThrough_54 (fun V15 H locs eV15 hP hS => ?_)
      have h := h V15 eV15
      refine lv_aload_n hx hb d_Ck_goThrough_57 rfl (lv_at hl 2 rfl) ?_
      refine gf_Ck_sort X hP q_88 d_Ck_goThrough_58 ?_
      refine lv_if_eq (tgt := 65) hx hb d_Ck_goThrough_61 (by decide) (fun c16 => ?_) (fun c16 => ?_)
      · have h := h.1 c16
        refine lv_aload_n hx hb d_Ck_goThrough_65 rfl (lv_at hl 2 rfl) ?_
        refine lv_iload_n hx hb d_Ck_goThrough_66 rfl (lv_at hl 1 rfl) ?_
        refine lv_iload hx hb d_Ck_goThrough_67 (lv_at hl 0 rfl) ?_
        refine rw_cVv (rest := []) X hP hS yv_Ck_pass isO_Ck (c_Ck_pass hG h) q_279 ⟨rfl, rfl, by decide, by decide⟩ rfl rfl hl.1 (Nat.le_of_ble_eq_true rfl) ⟨Nat.zero_le _, Nat.zero_le _⟩ d_Ck_goThrough_69 (fun V17 H locs h hP hS => ?_)
        obtain ⟨y19, ey19⟩ : ∃ z : Int32, z = x2 + 1 := ⟨_, rfl⟩
        have h := h y19 ey19
        refine lv_iinc (v := y19) (lv' := [(2, .int y19), (4, .int y10), (3, .int y8), (0, .ref (ga g 15)), (1, .ref (ga g f1))]) hx hb d_Ck_goThrough_72 hl (k := 4) rfl (by rw [ey19]; rfl) (by decide) rfl (fun ls hl => ?_)
        refine lv_goto (tgt := 17) hx hb d_Ck_goThrough_75 (by decide) ?_
        exact ih V17 f1 y19 hf1 h _ _ _ hP hS (lv_sub hl [3, 4, 0] rfl)
      · have h := h.2 c16
        exact rw_vret X hP hS h d_Ck_goThrough_64
def p_Ck_goThrough (k : vS → Prop) (V : vS) (f1 : Nat) : Prop := ∀ V1 : vS, V1 = sv V 15 2 0 → (∀ V2 : vS, V2 = sv V1 15 3 0 → (∀ V3 : vS, V3 = sv V2 15 4 0 → (∃ n, p_Ck_goThrough_b17 k n V3 f1 0)))
set_option maxRecDepth 100000 in
set_option maxHeartbeats 4000000 in
theorem c_Ck_goThrough {l : Launch} {g : gT} (hG : gd g) {V : vS} {f1 : Nat} (hf1 : 3 ≤ f1 ∧ f1 < 7) {k : vS → Prop} (h : p_Ck_goThrough k V f1) : Cv g l y_Ck_goThrough prog_2_method_3_code 5 (none) rm_Ck_goThrough [.ref (ga g 15), .ref (ga g f1)] V k := by
  unfold Cv
  refine Met.ofW (cc := prog_2_method_3_code) (maxL := 5) (ret := none) (by decide) rfl ?_
  intro p e s m args below meth c s₁ B hml hv
  obtain ⟨rfl, hP, hK, hZ⟩ := hv
  have X : cx g p s m meth c [.ref (ga g 15), .ref (ga g f1)].toArray R_Ck prog_2_method_3_code 5 (none) := ⟨B.exec, B.bytes, B.returns, hml, findClass_of_methodNamed B.named, fun w hw => atoms_spec (ws := Cond.code y_Ck_goThrough prog_2_method_3_code 5 (none) :: TBL) B.pre w (List.mem_cons_of_mem _ hw), B.notSynchronized, hK, hZ, hG⟩
  have hl := lv_entry [.ref (ga g 15), .ref (ga g f1)] (n := 5) (Nat.le_of_ble_eq_true rfl)
  rw [lg_entry_eq]
  generalize (lg_sl [.ref (ga g 15), .ref (ga g f1)] ++ List.replicate (5 - (lg_sl [.ref (ga g 15), .ref (ga g f1)]).length) Slot.unset).toArray = ls at hl ⊢
  have hl : lv_has ls 5 [(0, .ref (ga g 15)), (1, .ref (ga g f1))] := hl
  have hS : va_S (gA g) s.heap s.heap [] := va_S.rf
  obtain ⟨hx, hb, -, -, hown, hts, -, -, hz, -⟩ := id X
  show W p l e rm_Ck_goThrough s m _ below meth c s.heap [] 0 0 (MQ below (va_Qv k (Bw g) (gA g)) _ s 0 0 (gA g)) (F0 m 0 ls [])
  unfold p_Ck_goThrough at h
  refine lv_aload_n hx hb d_Ck_goThrough_0 rfl (lv_at hl 0 rfl) ?_
  refine lv_iconst (v := 0) hx hb d_Ck_goThrough_1 (by decide) ?_
  refine pf_Ck_open X hP hS q_85 d_Ck_goThrough_2 (fun V1 H locs eV1 hP hS => ?_)
  have h := h V1 eV1
  refine lv_aload_n hx hb d_Ck_goThrough_5 rfl (lv_at hl 0 rfl) ?_
  refine lv_iconst (v := 0) hx hb d_Ck_goThrough_6 (by decide) ?_
  refine pf_Ck_height X hP hS q_86 d_Ck_goThrough_7 (fun V2 H locs eV2 hP hS => ?_)
  have h := h V2 eV2
  refine lv_aload_n hx hb d_Ck_goThrough_10 rfl (lv_at hl 0 rfl) ?_
  refine lv_iconst (v := 0) hx hb d_Ck_goThrough_11 (by decide) ?_
  refine pf_Ck_behindLeaving X hP hS q_87 (by decide) d_Ck_goThrough_12 (fun V3 H locs eV3 hP hS => ?_)
  have h := h V3 eV3
  refine lv_iconst (v := 0) hx hb d_Ck_goThrough_15 (by decide) ?_
  refine lv_istore_n (lv' := [(2, .int 0), (0, .ref (ga g 15)), (1, .ref (ga g f1))]) hx hb d_Ck_goThrough_16 rfl hl (by decide) rfl (fun ls hl => ?_)
  obtain ⟨n, h⟩ := h
  exact t_Ck_goThrough_b17 X n V3 f1 0 hf1 h _ _ _ hP hS (lv_sub hl [1, 2, 0] rfl)
theorem yv_Ck_goThrough : yV R_Ck y_Ck_goThrough prog_2_method_3_code 5 (none) 1 := ⟨by decide +kernel, q_253, qp_2, q_4, q_254⟩
/-! Ck.goThroughAll -/
theorem d_Ck_goThroughAll_0 : decode prog_2_method_2_code 0 = .ok (.aload_n 0, 1) := by decide +kernel
theorem d_Ck_goThroughAll_1 : decode prog_2_method_2_code 1 = .ok (.iconst 0, 1) := by decide +kernel
theorem d_Ck_goThroughAll_2 : decode prog_2_method_2_code 2 = .ok (.putfield 28, 3) := by decide +kernel
theorem d_Ck_goThroughAll_5 : decode prog_2_method_2_code 5 = .ok (.iconst 0, 1) := by decide +kernel
theorem d_Ck_goThroughAll_6 : decode prog_2_method_2_code 6 = .ok (.istore_n 1, 1) := by decide +kernel
theorem d_Ck_goThroughAll_7 : decode prog_2_method_2_code 7 = .ok (.iload_n 1, 1) := by decide +kernel
theorem d_Ck_goThroughAll_8 : decode prog_2_method_2_code 8 = .ok (.aload_n 0, 1) := by decide +kernel
theorem d_Ck_goThroughAll_9 : decode prog_2_method_2_code 9 = .ok (.getfield 37, 3) := by decide +kernel
theorem d_Ck_goThroughAll_12 : decode prog_2_method_2_code 12 = .ok (.getfield 41, 3) := by decide +kernel
theorem d_Ck_goThroughAll_15 : decode prog_2_method_2_code 15 = .ok (.if_icmp .ge 34, 3) := by decide +kernel
theorem d_Ck_goThroughAll_18 : decode prog_2_method_2_code 18 = .ok (.aload_n 0, 1) := by decide +kernel
theorem d_Ck_goThroughAll_19 : decode prog_2_method_2_code 19 = .ok (.getfield 28, 3) := by decide +kernel
theorem d_Ck_goThroughAll_22 : decode prog_2_method_2_code 22 = .ok (.ifCond .ne 27, 3) := by decide +kernel
theorem d_Ck_goThroughAll_25 : decode prog_2_method_2_code 25 = .ok (.aload_n 0, 1) := by decide +kernel
theorem d_Ck_goThroughAll_26 : decode prog_2_method_2_code 26 = .ok (.iload_n 1, 1) := by decide +kernel
theorem d_Ck_goThroughAll_27 : decode prog_2_method_2_code 27 = .ok (.putfield 31, 3) := by decide +kernel
theorem d_Ck_goThroughAll_30 : decode prog_2_method_2_code 30 = .ok (.aload_n 0, 1) := by decide +kernel
theorem d_Ck_goThroughAll_31 : decode prog_2_method_2_code 31 = .ok (.aload_n 0, 1) := by decide +kernel
theorem d_Ck_goThroughAll_32 : decode prog_2_method_2_code 32 = .ok (.getfield 37, 3) := by decide +kernel
theorem d_Ck_goThroughAll_35 : decode prog_2_method_2_code 35 = .ok (.getfield 46, 3) := by decide +kernel
theorem d_Ck_goThroughAll_38 : decode prog_2_method_2_code 38 = .ok (.iload_n 1, 1) := by decide +kernel
theorem d_Ck_goThroughAll_39 : decode prog_2_method_2_code 39 = .ok (.aaload, 1) := by decide +kernel
theorem d_Ck_goThroughAll_40 : decode prog_2_method_2_code 40 = .ok (.invokevirtual 50, 3) := by decide +kernel
theorem d_Ck_goThroughAll_43 : decode prog_2_method_2_code 43 = .ok (.iinc 1 1, 3) := by decide +kernel
theorem d_Ck_goThroughAll_46 : decode prog_2_method_2_code 46 = .ok (.goto (-39), 3) := by decide +kernel
theorem d_Ck_goThroughAll_49 : decode prog_2_method_2_code 49 = .ok (.return_, 1) := by decide +kernel
abbrev rm_Ck_goThroughAll : Room := { frames := 4, cells := 0, slots := 0, locals := 92 }
def p_Ck_goThroughAll_b49 (k : vS → Prop) (V : vS) : Prop := k V
set_option maxRecDepth 100000 in
set_option maxHeartbeats 4000000 in
theorem t_Ck_goThroughAll_b49 {k : vS → Prop} (X : cx g p s m meth c args R_Ck prog_2_method_2_code 2 (none)) {V : vS} (h : p_Ck_goThroughAll_b49 k V) (hP : va_P g.1 vcl (cw g V) H) (hS : va_S (gA g) s.heap H locs) (hl : lv_has ls 2 []) : W p l e rm_Ck_goThroughAll s m args below meth c H locs 0 0 (MQ below (va_Qv k (Bw g) (gA g)) args s 0 0 (gA g)) (F0 m 49 ls []) := by
  obtain ⟨hx, hb, -, -, hown, hts, -, -, hz, hG⟩ := id X
  unfold p_Ck_goThroughAll_b49 at h
  exact rw_vret X hP hS h d_Ck_goThroughAll_49
def p_Ck_goThroughAll_b7 (k : vS → Prop) : Nat → vS → Int32 → Prop
  | 0, _, _ => False
  | n + 1, V, x1 => ((V.1 1 1) ≤ x1 → (p_Ck_goThroughAll_b49 k V)) ∧ (¬ (V.1 1 1) ≤ x1 → (((V.1 15 5) = 0 → (∀ V3 : vS, V3 = sv V 15 6 x1 → (vp_in x1 4 ∧ (p_Ck_goThrough (fun V5 => ∀ y7 : Int32, y7 = x1 + 1 → ((p_Ck_goThroughAll_b7 k n) V5 y7)) V3 (3 + nt x1))))) ∧ (¬ (V.1 15 5) = 0 → (p_Ck_goThroughAll_b49 k V))))
set_option maxRecDepth 100000 in
set_option maxHeartbeats 4000000 in
theorem t_Ck_goThroughAll_b7 {k : vS → Prop} (X : cx g p s m meth c args R_Ck prog_2_method_2_code 2 (none)) : ∀ (n : Nat) (V : vS) (x1 : Int32), p_Ck_goThroughAll_b7 k n V x1 → ∀ (H : Heap) (locs : List Loc) (ls : Array Slot), va_P g.1 vcl (cw g V) H → va_S (gA g) s.heap H locs → lv_has ls 2 [(0, .ref (ga g 15)), (1, .int x1)] → W p l e rm_Ck_goThroughAll s m args below meth c H locs 0 0 (MQ below (va_Qv k (Bw g) (gA g)) args s 0 0 (gA g)) (F0 m 7 ls []) := by
  obtain ⟨hx, hb, -, -, hown, hts, -, -, hz, hG⟩ := id X
  intro n
  induction n with
  | zero =>
    intro V x1 h
    exact h.elim
  | succ n ih =>
    intro V x1 h H locs ls hP hS hl
    unfold p_Ck_goThroughAll_b7 at h
    refine lv_iload_n hx hb d_Ck_goThroughAll_7 rfl (lv_at hl 1 rfl) ?_
    refine lv_aload_n hx hb d_Ck_goThroughAll_8 rfl (lv_at hl 0 rfl) ?_
    refine gf_Ck_program X hP q_83 d_Ck_goThroughAll_9 ?_
    refine gf_Pg_size X hP q_70 d_Ck_goThroughAll_12 ?_
    refine lv_icmp_ge (tgt := 49) hx hb d_Ck_goThroughAll_15 (by decide) (fun c1 => ?_) (fun c1 => ?_)
    · have h := h.1 c1
      exact t_Ck_goThroughAll_b49 X h hP hS (lv_sub hl [] rfl)
    · have h := h.2 c1
      refine lv_aload_n hx hb d_Ck_goThroughAll_18 rfl (lv_at hl 0 rfl) ?_
      refine gf_Ck_sort X hP q_88 d_Ck_goThroughAll_19 ?_
      refine lv_if_ne (tgt := 49) hx hb d_Ck_goThroughAll_22 (by decide) (fun c2 => ?_) (fun c2 => ?_)
      · have h := h.2 c2
        exact t_Ck_goThroughAll_b49 X h hP hS (lv_sub hl [] rfl)
      · have h := h.1 c2
        refine lv_aload_n hx hb d_Ck_goThroughAll_25 rfl (lv_at hl 0 rfl) ?_
        refine lv_iload_n hx hb d_Ck_goThroughAll_26 rfl (lv_at hl 1 rfl) ?_
        refine pf_Ck_faultyFunction X hP hS q_90 d_Ck_goThroughAll_27 (fun V3 H locs eV3 hP hS => ?_)
        have h := h V3 eV3
        refine lv_aload_n hx hb d_Ck_goThroughAll_30 rfl (lv_at hl 0 rfl) ?_
        refine lv_aload_n hx hb d_Ck_goThroughAll_31 rfl (lv_at hl 0 rfl) ?_
        refine gf_Ck_program X hP q_83 d_Ck_goThroughAll_32 ?_
        refine gf_Pg_functions X hP q_66 d_Ck_goThroughAll_35 ?_
        refine lv_iload_n hx hb d_Ck_goThroughAll_38 rfl (lv_at hl 1 rfl) ?_
        obtain ⟨hi4, h⟩ := h
        refine rw_aaldF X hP hi4 d_Ck_goThroughAll_39 ?_
        refine rw_cVv (rest := []) X hP hS yv_Ck_goThrough isO_Ck (c_Ck_goThrough hG (fn_of hi4) h) q_251 ⟨rfl, rfl, by decide, by decide⟩ rfl rfl hl.1 (Nat.le_of_ble_eq_true rfl) ⟨Nat.zero_le _, Nat.zero_le _⟩ d_Ck_goThroughAll_40 (fun V5 H locs h hP hS => ?_)
        obtain ⟨y7, ey7⟩ : ∃ z : Int32, z = x1 + 1 := ⟨_, rfl⟩
        have h := h y7 ey7
        refine lv_iinc (v := y7) (lv' := [(1, .int y7), (0, .ref (ga g 15))]) hx hb d_Ck_goThroughAll_43 hl (k := 1) rfl (by rw [ey7]; rfl) (by decide) rfl (fun ls hl => ?_)
        refine lv_goto (tgt := 7) hx hb d_Ck_goThroughAll_46 (by decide) ?_
        exact ih V5 y7 h _ _ _ hP hS (lv_sub hl [1, 0] rfl)
def p_Ck_goThroughAll (k : vS → Prop) (V : vS) : Prop := ∀ V1 : vS, V1 = sv V 15 5 0 → (∃ n, p_Ck_goThroughAll_b7 k n V1 0)
set_option maxRecDepth 100000 in
set_option maxHeartbeats 4000000 in
theorem c_Ck_goThroughAll {l : Launch} {g : gT} (hG : gd g) {V : vS} {k : vS → Prop} (h : p_Ck_goThroughAll k V) : Cv g l y_Ck_goThroughAll prog_2_method_2_code 2 (none) rm_Ck_goThroughAll [.ref (ga g 15)] V k := by
  unfold Cv
  refine Met.ofW (cc := prog_2_method_2_code) (maxL := 2) (ret := none) (by decide) rfl ?_
  intro p e s m args below meth c s₁ B hml hv
  obtain ⟨rfl, hP, hK, hZ⟩ := hv
  have X : cx g p s m meth c [.ref (ga g 15)].toArray R_Ck prog_2_method_2_code 2 (none) := ⟨B.exec, B.bytes, B.returns, hml, findClass_of_methodNamed B.named, fun w hw => atoms_spec (ws := Cond.code y_Ck_goThroughAll prog_2_method_2_code 2 (none) :: TBL) B.pre w (List.mem_cons_of_mem _ hw), B.notSynchronized, hK, hZ, hG⟩
  have hl := lv_entry [.ref (ga g 15)] (n := 2) (Nat.le_of_ble_eq_true rfl)
  rw [lg_entry_eq]
  generalize (lg_sl [.ref (ga g 15)] ++ List.replicate (2 - (lg_sl [.ref (ga g 15)]).length) Slot.unset).toArray = ls at hl ⊢
  have hl : lv_has ls 2 [(0, .ref (ga g 15))] := hl
  have hS : va_S (gA g) s.heap s.heap [] := va_S.rf
  obtain ⟨hx, hb, -, -, hown, hts, -, -, hz, -⟩ := id X
  show W p l e rm_Ck_goThroughAll s m _ below meth c s.heap [] 0 0 (MQ below (va_Qv k (Bw g) (gA g)) _ s 0 0 (gA g)) (F0 m 0 ls [])
  unfold p_Ck_goThroughAll at h
  refine lv_aload_n hx hb d_Ck_goThroughAll_0 rfl (lv_at hl 0 rfl) ?_
  refine lv_iconst (v := 0) hx hb d_Ck_goThroughAll_1 (by decide) ?_
  refine pf_Ck_sort X hP hS q_88 d_Ck_goThroughAll_2 (fun V1 H locs eV1 hP hS => ?_)
  have h := h V1 eV1
  refine lv_iconst (v := 0) hx hb d_Ck_goThroughAll_5 (by decide) ?_
  refine lv_istore_n (lv' := [(1, .int 0), (0, .ref (ga g 15))]) hx hb d_Ck_goThroughAll_6 rfl hl (by decide) rfl (fun ls hl => ?_)
  obtain ⟨n, h⟩ := h
  exact t_Ck_goThroughAll_b7 X n V1 0 h _ _ _ hP hS (lv_sub hl [1, 0] rfl)
theorem yv_Ck_goThroughAll : yV R_Ck y_Ck_goThroughAll prog_2_method_2_code 2 (none) 0 := ⟨by decide +kernel, q_248, q_249, q_4, q_250⟩
end MM
