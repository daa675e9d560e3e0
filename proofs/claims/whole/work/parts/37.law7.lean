/-! PURE PART: the law's loop -/
theorem V0_z {c : Nat} (j : Nat) (h : c ≠ 17) (h2 : c ≠ 34) : V0.1 c j = 0 := by
  show (if c = 17 then (fun j => if j = 7 then -1 else 0) else if c = 34 then (fun j => if j = 20 then -1 else 0) else (fun _ => 0) : Nat → Int32) j = 0
  rw [if_neg h, if_neg h2]
theorem Inv_0 : Inv V0 := by
  refine ⟨V0, fun _ _ => rfl, ?_, ?_, rfl, ?_, Or.inl rfl, fun q => ?_, ?_, rfl, rfl⟩
  · refine Cwf.mk ⟨0, by omega, rfl⟩ (fun f hf => ⟨⟨0, by omega, V0_z _ (by omega) (by omega)⟩, ⟨0, by omega, V0_z _ (by omega) (by omega)⟩, ⟨0, by omega, V0_z _ (by omega) (by omega)⟩, ⟨0, by omega, V0_z _ (by omega) (by omega)⟩, fun i hi => ⟨0, by omega, V0_z _ (by omega) (by omega)⟩⟩)
  · refine ⟨rfl, fun f hf => ⟨?_, ?_, ?_, ?_, fun i hi => ⟨?_, ?_⟩⟩⟩
    · rw [V0_z _ (by omega) (by omega), V0_z _ (by omega) (by omega)]
    · rw [V0_z _ (by omega) (by omega), V0_z _ (by omega) (by omega)]
    · rw [V0_z _ (by omega) (by omega), V0_z _ (by omega) (by omega)]
    · rw [V0_z _ (by omega) (by omega), V0_z _ (by omega) (by omega)]
    · rw [V0_z _ (by omega) (by omega), V0_z _ (by omega) (by omega)]
    · rw [V0_z _ (by omega) (by omega), V0_z _ (by omega) (by omega)]
  · exact ⟨0, 0, 0, fun _ => 0, fun _ => 0, ⟨fun _ _ => rfl, rfl, by omega, rfl, by omega, fun d hd => by omega, fun d hd => by omega, fun d hd => by omega⟩, Or.inl ⟨rfl, rfl, rfl⟩⟩
  · rcases q with q | q
    · exact absurd rfl q
    · exact absurd rfl q
  · refine ⟨0, 0, rfl, by omega, rfl, by omega, ⟨rfl, rfl, fun d hd => by omega, fun i hi => by omega, ⟨fun i hi => ?_, fun i hi => ?_, rfl, rfl, rfl, rfl⟩⟩, rfl, fun q => absurd rfl q⟩
    · rw [V0_z _ (by omega) (by omega), V0_z _ (by omega) (by omega)]
    · rw [V0_z _ (by omega) (by omega), V0_z _ (by omega) (by omega)]
theorem law_end {L i : Nat} (hL : L ≤ 2048) (hi : i ≤ L + 4) : (Int32.ofNat L - 4 < nI i) ↔ L < i + 4 := by
  have e : (Int32.ofNat L - 4).toInt = (L : Int) - 4 := pk_sub_toInt (a := L) (b := 4) (by omega) (by omega)
  rw [Int32.lt_iff_toInt_lt, e, nI_toInt (by omega)]
  omega
theorem law_loop (xs : Nat → Int32) {L : Nat} (hL : L ≤ 2048) : ∀ (m i : Nat) (V : vS), i ≤ L + 4 → L < i + 4 * m → Inv V → p_Law_law_b18 xs L (m + 1) V (nI i) := by
  intro m
  induction m with
  | zero =>
    intro i V hi hm hI
    unfold p_Law_law_b18
    exact ⟨fun _ => trivial, fun q => absurd ((law_end hL hi).mpr (by omega)) q⟩
  | succ m ih =>
    intro i V hi hm hI
    unfold p_Law_law_b18
    refine ⟨fun _ => trivial, fun c => ?_⟩
    have hiL : i + 4 ≤ L := by
      rw [law_end hL hi] at c
      omega
    clear c
    have v0 : vp_in (nI i) L := vin (by omega)
    have v1 : vp_in (nI i + 1) L := by rw [nI_1]; exact vin (by omega)
    have v2 : vp_in (nI i + 2) L := by rw [k2, nI_add]; exact vin (by omega)
    have v3 : vp_in (nI i + 3) L := by rw [k3, nI_add]; exact vin (by omega)
    have nxt : ∀ W, Inv W → p_Law_law_b494 xs L (p_Law_law_b18 xs L (m + 1)) W (nI i) := by
      intro W hW
      unfold p_Law_law_b494
      rintro _ rfl
      rw [k4, nI_add]
      exact ih (i + 4) W (by omega) (by omega) hW
    have fin : ∀ (r : Int32) (W : vS), Inv W → (r = r → p_Law_law_b494 xs L (p_Law_law_b18 xs L (m + 1)) W (nI i)) ∧ (¬ r = r → False) := fun r W hW => ⟨fun _ => nxt W hW, fun q => q rfl⟩
    have finL : ∀ (r : Int64) (W : vS), Inv W → (lg_cmp r r = 0 → p_Law_law_b494 xs L (p_Law_law_b18 xs L (m + 1)) W (nI i)) ∧ (¬ lg_cmp r r = 0 → False) := fun r W hW => ⟨fun _ => nxt W hW, fun q => q ((lg_cmp_eq _ _).mpr rfl)⟩
    refine ⟨v0, fun _ => ⟨v1, v2, v3, q_function hI (fun r V1 hm => ⟨v1, v2, v3, hm _ (fin r)⟩)⟩, fun _ => ⟨fun _ => ⟨v1, v2, v3, q_emit hI (fun r V1 hm => ⟨v1, v2, v3, hm _ (fin r)⟩)⟩, fun _ => ⟨fun _ => ⟨v1, q_erase hI (fun r V1 hm => ⟨v1, hm _ (fin r)⟩)⟩, fun _ => ⟨fun _ => q_check hI (fun r V1 hm => hm _ (fin r)), fun _ => ⟨fun _ => q_fault hI (fun r V1 hm => hm _ (fin r)), fun _ => ⟨fun _ => ⟨v1, v2, v3, q_start hI (fun r V1 hm => ⟨v1, v2, v3, hm _ (fin r)⟩)⟩, fun _ => ⟨fun _ => ⟨v1, q_resume hI (fun r V1 hm => ⟨v1, hm _ (fin r)⟩)⟩, fun _ => ⟨fun _ => ⟨v1, q_reply hI (fun r V1 hm => ⟨v1, hm _ (fin r)⟩)⟩, fun _ => ⟨fun _ => ⟨v1, v2, ?_, ?_⟩, fun _ => ⟨fun _ => q_result hI (fun r V1 hm => hm _ (finL r)), fun _ => ⟨fun _ => ⟨v1, q_memory hI (fun r V1 hm => ⟨v1, hm _ (finL r)⟩)⟩, fun _ => ⟨fun _ => ⟨v1, v2, q_poke hI (fun r V1 hm => ⟨v1, v2, hm _ (fin r)⟩)⟩, fun _ => ⟨fun _ => ⟨v1, q_state hI (fun r V1 hm => ⟨v1, hm _ (fin r)⟩)⟩, fun _ => ⟨fun _ => ⟨v1, q_count hI (fun r V1 hm => ⟨v1, hm _ (fin r)⟩)⟩, fun _ => nxt V hI⟩⟩⟩⟩⟩⟩⟩⟩⟩⟩⟩⟩⟩⟩
    · intro c
      unfold p_Law_law_b347 p_Law_law_b369
      exact q_grant hI (fun r V1 hm => ⟨v1, v2, fun _ => hm _ (fin r), fun q => absurd c q⟩)
    · intro c
      unfold p_Law_law_b347 p_Law_law_b369
      exact q_grant hI (fun r V1 hm => ⟨v1, v2, fun q => absurd q c, fun _ => hm _ (fin r)⟩)
theorem law_pure (xs : Nat → Int32) {L : Nat} (hL : L ≤ 2048) : ∃ n, p_Law_law_b18 xs L n V0 0 := ⟨513 + 1, law_loop xs hL 513 0 V0 (by omega) (by omega) Inv_0⟩
