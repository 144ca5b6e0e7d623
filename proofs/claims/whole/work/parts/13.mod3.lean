abbrev rm_X6_cooksCode : Room := { frames := 3, cells := 0, slots := 0, locals := 74 }
theorem hd_X6_cooksCode : yX6_cooksCode.cls = RX6 ∧ yX6_cooksCode.cls ≠ "java/lang/invoke/MethodHandle" ∧ yX6_cooksCode.cls ≠ "java/lang/invoke/VarHandle" ∧ (parseMethodDescriptor yX6_cooksCode.desc).map (fun d => d.parameters.length) = some 3 := by decide +kernel
theorem inX6_cooksCode_6 : ∀ w ∈ wsX60, w ∈ wsX6_cooksCode := fun _ h => List.mem_cons_of_mem _ (List.mem_append_right _ h)
section S_X6_cooksCode
variable {p : Program} {l : Launch} {e : Env} {s : State} {m : MethodId} {args : Array Value} {below : List Frame} {meth : Method} {c : Code} {D : va_G} {cA : Nat → ClassId} {ad : Nat → Nat} {r : Int32 × St}
noncomputable def f_X6_cooksCode_14 (k54 : Int32 → St → Option (Int32 × St)) : Nat → Int32 → Int32 → Int32 → Int32 → Int32 → Int32 → St → Option (Int32 × St)
  | 0, _, _, _, _, _, _, _ => none
  | n + 1, v1, v2, v3, v4, v5, v6, σ => (if v2 ≤ v6 then k54 v4 σ else (if v4 = 0 then k54 v4 σ else nw (v5 / 8 : Int32) fun v104 => chk (nz v104) <| bnd (f_X6_cooks σ 6 ((v1 / v104) - (v1 / v104) / 8 * 8) v3) fun r6 => nw (r6.1 : Int32) fun v107 => nw (v6 + 1 : Int32) fun v108 => f_X6_cooksCode_14 k54 n v1 v2 v3 v107 v104 v108 r6.2))
set_option maxHeartbeats 4000000 in
set_option maxRecDepth 100000 in
theorem b_X6_cooksCode_14 {k54 : Int32 → St → Option (Int32 × St)} (X : Cx RX6 wsX6_cooksCode cX6_cooksCode 7 (some .boolean) D cA ad SM p s m args meth c) (h54 : ∀ (w0 : Int32) (σ : St) (H : Heap) (locs : List Loc) (ls : Array Slot), k54 w0 σ = some r → Rn D cA ad SM s.heap σ H locs → lv_has ls 7 [(4, .int w0)] → W p l e rm_X6_cooksCode s m args below meth c H locs 0 0 (MQ below (Qi D cA ad SM r) args s 0 0 (Aw ad SM)) (F0 m 54 ls [])) : ∀ (n : Nat) (v1 : Int32) (v2 : Int32) (v3 : Int32) (v4 : Int32) (v5 : Int32) (v6 : Int32) (σ : St) (H : Heap) (locs : List Loc) (ls : Array Slot), f_X6_cooksCode_14 k54 n v1 v2 v3 v4 v5 v6 σ = some r → Rn D cA ad SM s.heap σ H locs → lv_has ls 7 [(0, .ref (ad 0)), (1, .int v1), (2, .int v2), (3, .int v3), (4, .int v4), (5, .int v5), (6, .int v6)] → W p l e rm_X6_cooksCode s m args below meth c H locs 0 0 (MQ below (Qi D cA ad SM r) args s 0 0 (Aw ad SM)) (F0 m 14 ls []) := by
  obtain ⟨hx, hb, hml, hown, hts, hr, hlk, hK, hij⟩ := id X
  intro n
  induction n with
  | zero =>
    intro v1 v2 v3 v4 v5 v6 σ H locs ls hf
    exact nomatch (show (none : Option (Int32 × St)) = some r from hf)
  | succ n ih =>
    intro v1 v2 v3 v4 v5 v6 σ H locs ls hf hW hl
    rw [f_X6_cooksCode_14] at hf
    refine lv_iload hx hb dX6_cooksCode_14 (lv_at hl 6 rfl) ?_
    refine lv_iload_n hx hb dX6_cooksCode_16 rfl (lv_at hl 2 rfl) ?_
    refine lv_icmp_ge (tgt := 54) hx hb dX6_cooksCode_17 (by decide) (fun c2 => ?_) (fun c2 => ?_)
    · have hf := it_e hf c2
      exact h54 v4 σ _ _ _ hf hW (lv_sub hl [4] rfl)
    · have hf := ie_e hf c2
      refine lv_iload hx hb dX6_cooksCode_20 (lv_at hl 4 rfl) ?_
      refine lv_if_eq (tgt := 54) hx hb dX6_cooksCode_22 (by decide) (fun c3 => ?_) (fun c3 => ?_)
      · have hf := it_e hf c3
        exact h54 v4 σ _ _ _ hf hW (lv_sub hl [4] rfl)
      · have hf := ie_e hf c3
        refine lv_iload hx hb dX6_cooksCode_25 (lv_at hl 5 rfl) ?_
        refine lv_bipush (v := 8) hx hb dX6_cooksCode_27 (by decide) ?_
        refine lv_idiv hx hb dX6_cooksCode_29 (by decide) ?_
        obtain ⟨v104, e4, hf⟩ := nw_e hf
        refine tI _ e4 ?_
        refine lv_istore (lv' := [(5, .int v104), (0, .ref (ad 0)), (1, .int v1), (2, .int v2), (3, .int v3), (4, .int v4), (6, .int v6)]) hx hb dX6_cooksCode_30 hl (by decide) rfl (fun ls hl => ?_)
        refine lv_aload_n hx hb dX6_cooksCode_32 rfl (lv_at hl 1 rfl) ?_
        refine lv_bipush (v := 6) hx hb dX6_cooksCode_33 (by decide) ?_
        refine lv_iload_n hx hb dX6_cooksCode_35 rfl (lv_at hl 2 rfl) ?_
        refine lv_iload hx hb dX6_cooksCode_36 (lv_at hl 0 rfl) ?_
        obtain ⟨q5, hf⟩ := chk_e hf
        refine lv_idiv hx hb dX6_cooksCode_38 (nz_e q5) ?_
        refine lv_bipush (v := 8) hx hb dX6_cooksCode_39 (by decide) ?_
        refine lv_irem hx hb dX6_cooksCode_41 (by decide) ?_
        refine lv_iload_n hx hb dX6_cooksCode_42 rfl (lv_at hl 4 rfl) ?_
        obtain ⟨r6, z6, hf⟩ := bnd_e hf
        refine r_cVi X hW kM_0 iM_0 rfl (c_X6_cooks l D cA ad hij σ 6 ((v1 / v104) - (v1 / v104) / 8 * 8) v3 r6 z6) gX6_cooksCode_X6_cooks rfl ⟨rfl, rfl⟩ hd_X6_cooks ⟨Nat.le_of_ble_eq_true rfl, Nat.le_of_ble_eq_true rfl⟩ rfl (Nat.le_of_ble_eq_true rfl) hl.1 dX6_cooksCode_43 (fun H locs hW => ?_)
        obtain ⟨v107, e7, hf⟩ := nw_e hf
        refine tI _ e7 ?_
        refine lv_istore (lv' := [(4, .int v107), (5, .int v104), (0, .ref (ad 0)), (1, .int v1), (2, .int v2), (3, .int v3), (6, .int v6)]) hx hb dX6_cooksCode_46 hl (by decide) rfl (fun ls hl => ?_)
        obtain ⟨v108, e8, hf⟩ := nw_e hf
        refine lv_iinc (v := v108) (lv' := [(6, .int v108), (4, .int v107), (5, .int v104), (0, .ref (ad 0)), (1, .int v1), (2, .int v2), (3, .int v3)]) hx hb dX6_cooksCode_48 hl (k := 6) rfl (by rw [e8]; rfl) (by decide) rfl (fun ls hl => ?_)
        refine lv_goto (tgt := 14) hx hb dX6_cooksCode_51 (by decide) ?_
        exact ih v1 v2 v3 v107 v104 v108 r6.2 _ _ _ hf hW (lv_sub hl [3, 4, 5, 6, 1, 2, 0] rfl)
end S_X6_cooksCode
noncomputable def f_X6_cooksCode (σ : St) (a1 : Int32) (a2 : Int32) (a3 : Int32) : Option (Int32 × St) := bnd (f_X6_power 8 a2) fun r1 => f_X6_cooksCode_14 (fun (w9_0 : Int32) (σ10 : St) => chk (b01 w9_0) <| some (w9_0, σ10)) fu a1 a2 a3 1 r1 0 σ
set_option maxHeartbeats 4000000 in
set_option maxRecDepth 100000 in
theorem c_X6_cooksCode (l : Launch) (D : va_G) (cA : Nat → ClassId) (ad : Nat → Nat) (hij : Ij ad SM) (σ : St) (a1 : Int32) (a2 : Int32) (a3 : Int32) (r : Int32 × St) (hf : f_X6_cooksCode σ a1 a2 a3 = some r) : Met l yX6_cooksCode wsX6_cooksCode rm_X6_cooksCode (PC D cA ad SM [.ref (ad 0), .int a1, .int a2, .int a3] σ) (Qi D cA ad SM r) 0 0 (Aw ad SM) := by
  rw [f_X6_cooksCode] at hf
  refine k_head (own := RX6) (ws := wsX6_cooksCode) (cc := cX6_cooksCode) (nL := 7) (ret := (some .boolean)) pn_X6 rfl rfl hij (Nat.le_of_ble_eq_true rfl) (fun p e s m below meth c ls X hW hl => ?_)
  have hl : lv_has ls 7 [(0, .ref (ad 0)), (1, .int a1), (2, .int a2), (3, .int a3)] := hl
  obtain ⟨hx, hb, hml, hown, hts, hr, hlk, hK, hij⟩ := id X
  refine lv_iconst (v := 1) hx hb dX6_cooksCode_0 (by decide) ?_
  refine lv_istore (lv' := [(4, .int 1), (0, .ref (ad 0)), (1, .int a1), (2, .int a2), (3, .int a3)]) hx hb dX6_cooksCode_1 hl (by decide) rfl (fun ls hl => ?_)
  refine lv_bipush (v := 8) hx hb dX6_cooksCode_3 (by decide) ?_
  refine lv_iload_n hx hb dX6_cooksCode_5 rfl (lv_at hl 3 rfl) ?_
  obtain ⟨r1, z1, hf⟩ := bnd_e hf
  refine r_cSiR X hW (c_X6_power l D cA ad hij σ 8 a2 r1 z1) gX6_cooksCode_X6_power rfl ⟨rfl, rfl⟩ hd_X6_power ⟨Nat.le_of_ble_eq_true rfl, Nat.le_of_ble_eq_true rfl⟩ rfl (Nat.le_of_ble_eq_true rfl) hl.1 dX6_cooksCode_6 (fun H locs hW => ?_)
  refine lv_istore (lv' := [(5, .int r1), (4, .int 1), (0, .ref (ad 0)), (1, .int a1), (2, .int a2), (3, .int a3)]) hx hb dX6_cooksCode_9 hl (by decide) rfl (fun ls hl => ?_)
  refine lv_iconst (v := 0) hx hb dX6_cooksCode_11 (by decide) ?_
  refine lv_istore (lv' := [(6, .int 0), (5, .int r1), (4, .int 1), (0, .ref (ad 0)), (1, .int a1), (2, .int a2), (3, .int a3)]) hx hb dX6_cooksCode_12 hl (by decide) rfl (fun ls hl => ?_)
  refine b_X6_cooksCode_14 X (fun w9_0 σ10 H locs ls hf hW hl => ?_) fu a1 a2 a3 1 r1 0 σ _ _ _ hf hW (lv_sub hl [3, 4, 5, 6, 2, 1, 0] rfl)
  · refine lv_iload hx hb dX6_cooksCode_54 (lv_at hl 0 rfl) ?_
    obtain ⟨q11, hf⟩ := chk_e hf
    exact r_iret X hW rfl (b01_e q11).1 hf dX6_cooksCode_56

abbrev rm_X6_bring : Room := { frames := 4, cells := 0, slots := 0, locals := 100 }
theorem hd_X6_bring : yX6_bring.cls = RX6 ∧ yX6_bring.cls ≠ "java/lang/invoke/MethodHandle" ∧ yX6_bring.cls ≠ "java/lang/invoke/VarHandle" ∧ (parseMethodDescriptor yX6_bring.desc).map (fun d => d.parameters.length) = some 5 := by decide +kernel
theorem inX6_bring_6 : ∀ w ∈ wsX60, w ∈ wsX6_bring := fun _ h => List.mem_cons_of_mem _ (List.mem_append_right _ h)
section S_X6_bring
variable {p : Program} {l : Launch} {e : Env} {s : State} {m : MethodId} {args : Array Value} {below : List Frame} {meth : Method} {c : Code} {D : va_G} {cA : Nat → ClassId} {ad : Nat → Nat} {r : Int32 × St}
noncomputable def f_X6_bring_151 (k75 : Int32 → Int32 → Int32 → Int32 → Int32 → Int32 → Int32 → St → Option (Int32 × St)) (v1 : Int32) (v2 : Int32) (v3 : Int32) (v4 : Int32) (v5 : Int32) (v6 : Int32) (v7 : Int32) (σ : St) : Option (Int32 × St) := nw (v7 + 1 : Int32) fun v118 => k75 v1 v2 v3 v4 v5 v6 v118 σ
set_option maxHeartbeats 4000000 in
set_option maxRecDepth 100000 in
theorem b_X6_bring_151 {k75 : Int32 → Int32 → Int32 → Int32 → Int32 → Int32 → Int32 → St → Option (Int32 × St)} (X : Cx RX6 wsX6_bring cX6_bring 8 (some .int) D cA ad SM p s m args meth c) (h75 : ∀ (w0 : Int32) (w1 : Int32) (w2 : Int32) (w3 : Int32) (w4 : Int32) (w5 : Int32) (w6 : Int32) (σ : St) (H : Heap) (locs : List Loc) (ls : Array Slot), k75 w0 w1 w2 w3 w4 w5 w6 σ = some r → Rn D cA ad SM s.heap σ H locs → lv_has ls 8 [(0, .ref (ad 0)), (1, .int w0), (2, .int w1), (3, .int w2), (4, .int w3), (5, .int w4), (6, .int w5), (7, .int w6)] → W p l e rm_X6_bring s m args below meth c H locs 0 0 (MQ below (Qi D cA ad SM r) args s 0 0 (Aw ad SM)) (F0 m 75 ls [])) : ∀ (v1 : Int32) (v2 : Int32) (v3 : Int32) (v4 : Int32) (v5 : Int32) (v6 : Int32) (v7 : Int32) (σ : St) (H : Heap) (locs : List Loc) (ls : Array Slot), f_X6_bring_151 k75 v1 v2 v3 v4 v5 v6 v7 σ = some r → Rn D cA ad SM s.heap σ H locs → lv_has ls 8 [(0, .ref (ad 0)), (1, .int v1), (2, .int v2), (3, .int v3), (4, .int v4), (5, .int v5), (6, .int v6), (7, .int v7)] → W p l e rm_X6_bring s m args below meth c H locs 0 0 (MQ below (Qi D cA ad SM r) args s 0 0 (Aw ad SM)) (F0 m 151 ls []) := by
  obtain ⟨hx, hb, hml, hown, hts, hr, hlk, hK, hij⟩ := id X
  intro v1 v2 v3 v4 v5 v6 v7 σ H locs ls hf hW hl
  rw [f_X6_bring_151] at hf
  obtain ⟨v118, e18, hf⟩ := nw_e hf
  refine lv_iinc (v := v118) (lv' := [(7, .int v118), (0, .ref (ad 0)), (1, .int v1), (2, .int v2), (3, .int v3), (4, .int v4), (5, .int v5), (6, .int v6)]) hx hb dX6_bring_151 hl (k := 7) rfl (by rw [e18]; rfl) (by decide) rfl (fun ls hl => ?_)
  refine lv_goto (tgt := 75) hx hb dX6_bring_154 (by decide) ?_
  exact h75 v1 v2 v3 v4 v5 v6 v118 σ _ _ _ hf hW (lv_sub hl [1, 2, 3, 4, 5, 6, 7, 0] rfl)
noncomputable def f_X6_bring_75 (k118 : Int32 → Int32 → Int32 → St → Option (Int32 × St)) (k157 : Int32 → Int32 → Int32 → Int32 → Int32 → Int32 → St → Option (Int32 × St)) : Nat → Int32 → Int32 → Int32 → Int32 → Int32 → Int32 → Int32 → St → Option (Int32 × St)
  | 0, _, _, _, _, _, _, _, _ => none
  | n + 1, v1, v2, v3, v4, v5, v6, v7, σ => bnd (f_X6_power 8 v6) fun r13 => (if r13 ≤ v7 then k157 v1 v2 v3 v4 v5 v6 σ else bnd (f_X6_same σ v1 6) fun r15 => bnd (f_X6_cooksCode r15 v7 v6 v4) fun r16 => (if r16.1 = 0 then f_X6_bring_151 (fun (w19_0 : Int32) (w20_1 : Int32) (w21_2 : Int32) (w22_3 : Int32) (w23_4 : Int32) (w24_5 : Int32) (w25_6 : Int32) (σ26 : St) => f_X6_bring_75 k118 k157 n w19_0 w20_1 w21_2 w22_3 w23_4 w24_5 w25_6 σ26) v1 v2 v3 v4 v5 v6 v7 r16.2 else bnd (f_X6_isOver r16.2 6 v2 v3) fun r27 => (if r27 = 0 then f_X6_bring_151 (fun (w29_0 : Int32) (w30_1 : Int32) (w31_2 : Int32) (w32_3 : Int32) (w33_4 : Int32) (w34_5 : Int32) (w35_6 : Int32) (σ36 : St) => f_X6_bring_75 k118 k157 n w29_0 w30_1 w31_2 w32_3 w33_4 w34_5 w35_6 σ36) v1 v2 v3 v4 v5 v6 v7 r16.2 else k118 v5 v6 v7 r16.2)))
set_option maxHeartbeats 4000000 in
set_option maxRecDepth 100000 in
theorem b_X6_bring_75 {k118 : Int32 → Int32 → Int32 → St → Option (Int32 × St)} {k157 : Int32 → Int32 → Int32 → Int32 → Int32 → Int32 → St → Option (Int32 × St)} (X : Cx RX6 wsX6_bring cX6_bring 8 (some .int) D cA ad SM p s m args meth c) (h118 : ∀ (w0 : Int32) (w1 : Int32) (w2 : Int32) (σ : St) (H : Heap) (locs : List Loc) (ls : Array Slot), k118 w0 w1 w2 σ = some r → Rn D cA ad SM s.heap σ H locs → lv_has ls 8 [(5, .int w0), (6, .int w1), (7, .int w2)] → W p l e rm_X6_bring s m args below meth c H locs 0 0 (MQ below (Qi D cA ad SM r) args s 0 0 (Aw ad SM)) (F0 m 118 ls [])) (h157 : ∀ (w0 : Int32) (w1 : Int32) (w2 : Int32) (w3 : Int32) (w4 : Int32) (w5 : Int32) (σ : St) (H : Heap) (locs : List Loc) (ls : Array Slot), k157 w0 w1 w2 w3 w4 w5 σ = some r → Rn D cA ad SM s.heap σ H locs → lv_has ls 8 [(0, .ref (ad 0)), (1, .int w0), (2, .int w1), (3, .int w2), (4, .int w3), (5, .int w4), (6, .int w5)] → W p l e rm_X6_bring s m args below meth c H locs 0 0 (MQ below (Qi D cA ad SM r) args s 0 0 (Aw ad SM)) (F0 m 157 ls [])) : ∀ (n : Nat) (v1 : Int32) (v2 : Int32) (v3 : Int32) (v4 : Int32) (v5 : Int32) (v6 : Int32) (v7 : Int32) (σ : St) (H : Heap) (locs : List Loc) (ls : Array Slot), f_X6_bring_75 k118 k157 n v1 v2 v3 v4 v5 v6 v7 σ = some r → Rn D cA ad SM s.heap σ H locs → lv_has ls 8 [(0, .ref (ad 0)), (1, .int v1), (2, .int v2), (3, .int v3), (4, .int v4), (5, .int v5), (6, .int v6), (7, .int v7)] → W p l e rm_X6_bring s m args below meth c H locs 0 0 (MQ below (Qi D cA ad SM r) args s 0 0 (Aw ad SM)) (F0 m 75 ls []) := by
  obtain ⟨hx, hb, hml, hown, hts, hr, hlk, hK, hij⟩ := id X
  intro n
  induction n with
  | zero =>
    intro v1 v2 v3 v4 v5 v6 v7 σ H locs ls hf
    exact nomatch (show (none : Option (Int32 × St)) = some r from hf)
  | succ n ih =>
    intro v1 v2 v3 v4 v5 v6 v7 σ H locs ls hf hW hl
    rw [f_X6_bring_75] at hf
    refine lv_iload hx hb dX6_bring_75 (lv_at hl 7 rfl) ?_
    refine lv_bipush (v := 8) hx hb dX6_bring_77 (by decide) ?_
    refine lv_iload hx hb dX6_bring_79 (lv_at hl 6 rfl) ?_
    obtain ⟨r13, z13, hf⟩ := bnd_e hf
    refine r_cSiR X hW (c_X6_power l D cA ad hij σ 8 v6 r13 z13) gX6_bring_X6_power rfl ⟨rfl, rfl⟩ hd_X6_power ⟨Nat.le_of_ble_eq_true rfl, Nat.le_of_ble_eq_true rfl⟩ rfl (Nat.le_of_ble_eq_true rfl) hl.1 dX6_bring_81 (fun H locs hW => ?_)
    refine lv_icmp_ge (tgt := 157) hx hb dX6_bring_84 (by decide) (fun c14 => ?_) (fun c14 => ?_)
    · have hf := it_e hf c14
      exact h157 v1 v2 v3 v4 v5 v6 σ _ _ _ hf hW (lv_sub hl [0, 1, 2, 3, 4, 5, 6] rfl)
    · have hf := ie_e hf c14
      refine lv_aload_n hx hb dX6_bring_87 rfl (lv_at hl 0 rfl) ?_
      refine lv_iload_n hx hb dX6_bring_88 rfl (lv_at hl 1 rfl) ?_
      refine lv_bipush (v := 6) hx hb dX6_bring_89 (by decide) ?_
      obtain ⟨r15, z15, hf⟩ := bnd_e hf
      refine r_cVv X hW kM_0 iM_0 rfl (c_X6_same l D cA ad hij σ v1 6 r15 z15) gX6_bring_X6_same rfl ⟨rfl, rfl⟩ hd_X6_same ⟨Nat.le_of_ble_eq_true rfl, Nat.le_of_ble_eq_true rfl⟩ rfl (Nat.le_of_ble_eq_true rfl) hl.1 dX6_bring_91 (fun H locs hW => ?_)
      refine lv_aload_n hx hb dX6_bring_94 rfl (lv_at hl 0 rfl) ?_
      refine lv_iload hx hb dX6_bring_95 (lv_at hl 7 rfl) ?_
      refine lv_iload hx hb dX6_bring_97 (lv_at hl 6 rfl) ?_
      refine lv_iload hx hb dX6_bring_99 (lv_at hl 4 rfl) ?_
      obtain ⟨r16, z16, hf⟩ := bnd_e hf
      refine r_cVi X hW kM_0 iM_0 rfl (c_X6_cooksCode l D cA ad hij r15 v7 v6 v4 r16 z16) gX6_bring_X6_cooksCode rfl ⟨rfl, rfl⟩ hd_X6_cooksCode ⟨Nat.le_of_ble_eq_true rfl, Nat.le_of_ble_eq_true rfl⟩ rfl (Nat.le_of_ble_eq_true rfl) hl.1 dX6_bring_101 (fun H locs hW => ?_)
      refine lv_if_eq (tgt := 151) hx hb dX6_bring_104 (by decide) (fun c17 => ?_) (fun c17 => ?_)
      · have hf := it_e hf c17
        refine b_X6_bring_151 X (fun w19_0 w20_1 w21_2 w22_3 w23_4 w24_5 w25_6 σ26 H locs ls hf hW hl => ?_) v1 v2 v3 v4 v5 v6 v7 r16.2 _ _ _ hf hW (lv_sub hl [0, 1, 2, 3, 4, 5, 6, 7] rfl)
        · exact ih w19_0 w20_1 w21_2 w22_3 w23_4 w24_5 w25_6 σ26 _ _ _ hf hW (lv_sub hl [0, 1, 2, 3, 4, 5, 6, 7] rfl)
      · have hf := ie_e hf c17
        refine lv_aload_n hx hb dX6_bring_107 rfl (lv_at hl 0 rfl) ?_
        refine lv_bipush (v := 6) hx hb dX6_bring_108 (by decide) ?_
        refine lv_iload_n hx hb dX6_bring_110 rfl (lv_at hl 2 rfl) ?_
        refine lv_iload_n hx hb dX6_bring_111 rfl (lv_at hl 3 rfl) ?_
        obtain ⟨r27, z27, hf⟩ := bnd_e hf
        refine r_cViR X hW kM_0 iM_0 rfl (c_X6_isOver l D cA ad hij r16.2 6 v2 v3 r27 z27) gX6_bring_X6_isOver rfl ⟨rfl, rfl⟩ hd_X6_isOver ⟨Nat.le_of_ble_eq_true rfl, Nat.le_of_ble_eq_true rfl⟩ rfl (Nat.le_of_ble_eq_true rfl) hl.1 dX6_bring_112 (fun H locs hW => ?_)
        refine lv_if_eq (tgt := 151) hx hb dX6_bring_115 (by decide) (fun c28 => ?_) (fun c28 => ?_)
        · have hf := it_e hf c28
          refine b_X6_bring_151 X (fun w29_0 w30_1 w31_2 w32_3 w33_4 w34_5 w35_6 σ36 H locs ls hf hW hl => ?_) v1 v2 v3 v4 v5 v6 v7 r16.2 _ _ _ hf hW (lv_sub hl [0, 1, 2, 3, 4, 5, 6, 7] rfl)
          · exact ih w29_0 w30_1 w31_2 w32_3 w33_4 w34_5 w35_6 σ36 _ _ _ hf hW (lv_sub hl [0, 1, 2, 3, 4, 5, 6, 7] rfl)
        · have hf := ie_e hf c28
          exact h118 v5 v6 v7 r16.2 _ _ _ hf hW (lv_sub hl [5, 6, 7] rfl)
noncomputable def f_X6_bring_66 (k118 : Int32 → Int32 → Int32 → St → Option (Int32 × St)) (k163 : St → Option (Int32 × St)) : Nat → Int32 → Int32 → Int32 → Int32 → Int32 → Int32 → St → Option (Int32 × St)
  | 0, _, _, _, _, _, _, _ => none
  | n + 1, v1, v2, v3, v4, v5, v6, σ => (if 4 ≤ v6 then k163 σ else f_X6_bring_75 k118 (fun (w37_0 : Int32) (w38_1 : Int32) (w39_2 : Int32) (w40_3 : Int32) (w41_4 : Int32) (w42_5 : Int32) (σ43 : St) => nw (w42_5 + 1 : Int32) fun v144 => f_X6_bring_66 k118 k163 n w37_0 w38_1 w39_2 w40_3 w41_4 v144 σ43) fu v1 v2 v3 v4 v5 v6 0 σ)
set_option maxHeartbeats 4000000 in
set_option maxRecDepth 100000 in
theorem b_X6_bring_66 {k118 : Int32 → Int32 → Int32 → St → Option (Int32 × St)} {k163 : St → Option (Int32 × St)} (X : Cx RX6 wsX6_bring cX6_bring 8 (some .int) D cA ad SM p s m args meth c) (h118 : ∀ (w0 : Int32) (w1 : Int32) (w2 : Int32) (σ : St) (H : Heap) (locs : List Loc) (ls : Array Slot), k118 w0 w1 w2 σ = some r → Rn D cA ad SM s.heap σ H locs → lv_has ls 8 [(5, .int w0), (6, .int w1), (7, .int w2)] → W p l e rm_X6_bring s m args below meth c H locs 0 0 (MQ below (Qi D cA ad SM r) args s 0 0 (Aw ad SM)) (F0 m 118 ls [])) (h163 : ∀  (σ : St) (H : Heap) (locs : List Loc) (ls : Array Slot), k163 σ = some r → Rn D cA ad SM s.heap σ H locs → lv_has ls 8 [] → W p l e rm_X6_bring s m args below meth c H locs 0 0 (MQ below (Qi D cA ad SM r) args s 0 0 (Aw ad SM)) (F0 m 163 ls [])) : ∀ (n : Nat) (v1 : Int32) (v2 : Int32) (v3 : Int32) (v4 : Int32) (v5 : Int32) (v6 : Int32) (σ : St) (H : Heap) (locs : List Loc) (ls : Array Slot), f_X6_bring_66 k118 k163 n v1 v2 v3 v4 v5 v6 σ = some r → Rn D cA ad SM s.heap σ H locs → lv_has ls 8 [(0, .ref (ad 0)), (1, .int v1), (2, .int v2), (3, .int v3), (4, .int v4), (5, .int v5), (6, .int v6)] → W p l e rm_X6_bring s m args below meth c H locs 0 0 (MQ below (Qi D cA ad SM r) args s 0 0 (Aw ad SM)) (F0 m 66 ls []) := by
  obtain ⟨hx, hb, hml, hown, hts, hr, hlk, hK, hij⟩ := id X
  intro n
  induction n with
  | zero =>
    intro v1 v2 v3 v4 v5 v6 σ H locs ls hf
    exact nomatch (show (none : Option (Int32 × St)) = some r from hf)
  | succ n ih =>
    intro v1 v2 v3 v4 v5 v6 σ H locs ls hf hW hl
    rw [f_X6_bring_66] at hf
    refine lv_iload hx hb dX6_bring_66 (lv_at hl 6 rfl) ?_
    refine lv_iconst (v := 4) hx hb dX6_bring_68 (by decide) ?_
    refine lv_icmp_ge (tgt := 163) hx hb dX6_bring_69 (by decide) (fun c12 => ?_) (fun c12 => ?_)
    · have hf := it_e hf c12
      exact h163 σ _ _ _ hf hW (lv_sub hl [] rfl)
    · have hf := ie_e hf c12
      refine lv_iconst (v := 0) hx hb dX6_bring_72 (by decide) ?_
      refine lv_istore (lv' := [(7, .int 0), (0, .ref (ad 0)), (1, .int v1), (2, .int v2), (3, .int v3), (4, .int v4), (5, .int v5), (6, .int v6)]) hx hb dX6_bring_73 hl (by decide) rfl (fun ls hl => ?_)
      refine b_X6_bring_75 X h118 (fun w37_0 w38_1 w39_2 w40_3 w41_4 w42_5 σ43 H locs ls hf hW hl => ?_) fu v1 v2 v3 v4 v5 v6 0 σ _ _ _ hf hW (lv_sub hl [1, 2, 3, 4, 5, 6, 7, 0] rfl)
      · obtain ⟨v144, e44, hf⟩ := nw_e hf
        refine lv_iinc (v := v144) (lv' := [(6, .int v144), (0, .ref (ad 0)), (1, .int w37_0), (2, .int w38_1), (3, .int w39_2), (4, .int w40_3), (5, .int w41_4)]) hx hb dX6_bring_157 hl (k := 6) rfl (by rw [e44]; rfl) (by decide) rfl (fun ls hl => ?_)
        refine lv_goto (tgt := 66) hx hb dX6_bring_160 (by decide) ?_
        exact ih w37_0 w38_1 w39_2 w40_3 w41_4 v144 σ43 _ _ _ hf hW (lv_sub hl [1, 2, 3, 4, 5, 6, 0] rfl)
end S_X6_bring
noncomputable def f_X6_bring (σ : St) (a1 : Int32) (a2 : Int32) (a3 : Int32) (a4 : Int32) (a5 : Int32) : Option (Int32 × St) := nw (uI σ 0 5 0) fun σ1 => bnd (f_X6_isPot σ1 a1) fun r2 => (if r2 = 0 then some ((-1), σ1) else bnd (f_X6_in a2.toInt64 0 3) fun r4 => (if r4 = 0 then some ((-1), σ1) else bnd (f_X6_in a3.toInt64 0 100) fun r6 => (if r6 = 0 then some ((-1), σ1) else bnd (f_X6_in a4.toInt64 0 9) fun r8 => (if r8 = 0 then some ((-1), σ1) else bnd (f_X6_in a5.toInt64 0 1) fun r10 => (if r10 = 0 then some ((-1), σ1) else f_X6_bring_66 (fun (w45_0 : Int32) (w46_1 : Int32) (w47_2 : Int32) (σ48 : St) => (if w45_0 = 0 then some (w46_1, σ48) else (if w46_1 = 0 then some ((-4), σ48) else bnd (f_X6_power 8 (w46_1 - 1)) fun r51 => chk (nz r51) <| some (w47_2 / r51, σ48)))) (fun  (σ53 : St) => some ((-4), σ53)) fu a1 a2 a3 a4 a5 0 σ1)))))
set_option maxHeartbeats 4000000 in
set_option maxRecDepth 100000 in
theorem c_X6_bring (l : Launch) (D : va_G) (cA : Nat → ClassId) (ad : Nat → Nat) (hij : Ij ad SM) (σ : St) (a1 : Int32) (a2 : Int32) (a3 : Int32) (a4 : Int32) (a5 : Int32) (r : Int32 × St) (hf : f_X6_bring σ a1 a2 a3 a4 a5 = some r) : Met l yX6_bring wsX6_bring rm_X6_bring (PC D cA ad SM [.ref (ad 0), .int a1, .int a2, .int a3, .int a4, .int a5] σ) (Qi D cA ad SM r) 0 0 (Aw ad SM) := by
  rw [f_X6_bring] at hf
  refine k_head (own := RX6) (ws := wsX6_bring) (cc := cX6_bring) (nL := 8) (ret := (some .int)) pn_X6 rfl rfl hij (Nat.le_of_ble_eq_true rfl) (fun p e s m below meth c ls X hW hl => ?_)
  have hl : lv_has ls 8 [(0, .ref (ad 0)), (1, .int a1), (2, .int a2), (3, .int a3), (4, .int a4), (5, .int a5)] := hl
  obtain ⟨hx, hb, hml, hown, hts, hr, hlk, hK, hij⟩ := id X
  refine lv_aload_n hx hb dX6_bring_0 rfl (lv_at hl 0 rfl) ?_
  refine lv_iconst (v := 0) hx hb dX6_bring_1 (by decide) ?_
  obtain ⟨σ1, e1, hf⟩ := nw_e hf
  refine put_6_5 X hW kM_0 iM_0 inX6_bring_6 (List.mem_of_getElem? (i := 1) rfl) e1 dX6_bring_2 (fun H locs hW => ?_)
  refine lv_aload_n hx hb dX6_bring_5 rfl (lv_at hl 0 rfl) ?_
  refine lv_iload_n hx hb dX6_bring_6 rfl (lv_at hl 1 rfl) ?_
  obtain ⟨r2, z2, hf⟩ := bnd_e hf
  refine r_cViR X hW kM_0 iM_0 rfl (c_X6_isPot l D cA ad hij σ1 a1 r2 z2) gX6_bring_X6_isPot rfl ⟨rfl, rfl⟩ hd_X6_isPot ⟨Nat.le_of_ble_eq_true rfl, Nat.le_of_ble_eq_true rfl⟩ rfl (Nat.le_of_ble_eq_true rfl) hl.1 dX6_bring_7 (fun H locs hW => ?_)
  refine lv_if_eq (tgt := 61) hx hb dX6_bring_10 (by decide) (fun c3 => ?_) (fun c3 => ?_)
  · have hf := it_e hf c3
    refine lv_iconst (v := (-1)) hx hb dX6_bring_61 (by decide) ?_
    exact r_iret X hW rfl rfl hf dX6_bring_62
  · have hf := ie_e hf c3
    refine lv_iload_n hx hb dX6_bring_13 rfl (lv_at hl 2 rfl) ?_
    refine lv_i2l hx hb dX6_bring_14 rfl ?_
    refine lv_lconst (v := 0) hx hb dX6_bring_15 (by decide) ?_
    refine lv_ldc2 (v := 3) hx hb hown (hts _ (List.mem_of_getElem? (i := 2) rfl)) dX6_bring_16 ?_
    obtain ⟨r4, z4, hf⟩ := bnd_e hf
    refine r_cSiR X hW (c_X6_in l D cA ad hij σ1 a2.toInt64 0 3 r4 z4) gX6_bring_X6_in rfl ⟨rfl, rfl⟩ hd_X6_in ⟨Nat.le_of_ble_eq_true rfl, Nat.le_of_ble_eq_true rfl⟩ rfl (Nat.le_of_ble_eq_true rfl) hl.1 dX6_bring_19 (fun H locs hW => ?_)
    refine lv_if_eq (tgt := 61) hx hb dX6_bring_22 (by decide) (fun c5 => ?_) (fun c5 => ?_)
    · have hf := it_e hf c5
      refine lv_iconst (v := (-1)) hx hb dX6_bring_61 (by decide) ?_
      exact r_iret X hW rfl rfl hf dX6_bring_62
    · have hf := ie_e hf c5
      refine lv_iload_n hx hb dX6_bring_25 rfl (lv_at hl 3 rfl) ?_
      refine lv_i2l hx hb dX6_bring_26 rfl ?_
      refine lv_lconst (v := 0) hx hb dX6_bring_27 (by decide) ?_
      refine lv_ldc2 (v := 100) hx hb hown (hts _ (List.mem_of_getElem? (i := 3) rfl)) dX6_bring_28 ?_
      obtain ⟨r6, z6, hf⟩ := bnd_e hf
      refine r_cSiR X hW (c_X6_in l D cA ad hij σ1 a3.toInt64 0 100 r6 z6) gX6_bring_X6_in rfl ⟨rfl, rfl⟩ hd_X6_in ⟨Nat.le_of_ble_eq_true rfl, Nat.le_of_ble_eq_true rfl⟩ rfl (Nat.le_of_ble_eq_true rfl) hl.1 dX6_bring_31 (fun H locs hW => ?_)
      refine lv_if_eq (tgt := 61) hx hb dX6_bring_34 (by decide) (fun c7 => ?_) (fun c7 => ?_)
      · have hf := it_e hf c7
        refine lv_iconst (v := (-1)) hx hb dX6_bring_61 (by decide) ?_
        exact r_iret X hW rfl rfl hf dX6_bring_62
      · have hf := ie_e hf c7
        refine lv_iload hx hb dX6_bring_37 (lv_at hl 4 rfl) ?_
        refine lv_i2l hx hb dX6_bring_39 rfl ?_
        refine lv_lconst (v := 0) hx hb dX6_bring_40 (by decide) ?_
        refine lv_ldc2 (v := 9) hx hb hown (hts _ (List.mem_of_getElem? (i := 4) rfl)) dX6_bring_41 ?_
        obtain ⟨r8, z8, hf⟩ := bnd_e hf
        refine r_cSiR X hW (c_X6_in l D cA ad hij σ1 a4.toInt64 0 9 r8 z8) gX6_bring_X6_in rfl ⟨rfl, rfl⟩ hd_X6_in ⟨Nat.le_of_ble_eq_true rfl, Nat.le_of_ble_eq_true rfl⟩ rfl (Nat.le_of_ble_eq_true rfl) hl.1 dX6_bring_44 (fun H locs hW => ?_)
        refine lv_if_eq (tgt := 61) hx hb dX6_bring_47 (by decide) (fun c9 => ?_) (fun c9 => ?_)
        · have hf := it_e hf c9
          refine lv_iconst (v := (-1)) hx hb dX6_bring_61 (by decide) ?_
          exact r_iret X hW rfl rfl hf dX6_bring_62
        · have hf := ie_e hf c9
          refine lv_iload hx hb dX6_bring_50 (lv_at hl 5 rfl) ?_
          refine lv_i2l hx hb dX6_bring_52 rfl ?_
          refine lv_lconst (v := 0) hx hb dX6_bring_53 (by decide) ?_
          refine lv_lconst (v := 1) hx hb dX6_bring_54 (by decide) ?_
          obtain ⟨r10, z10, hf⟩ := bnd_e hf
          refine r_cSiR X hW (c_X6_in l D cA ad hij σ1 a5.toInt64 0 1 r10 z10) gX6_bring_X6_in rfl ⟨rfl, rfl⟩ hd_X6_in ⟨Nat.le_of_ble_eq_true rfl, Nat.le_of_ble_eq_true rfl⟩ rfl (Nat.le_of_ble_eq_true rfl) hl.1 dX6_bring_55 (fun H locs hW => ?_)
          refine lv_if_ne (tgt := 63) hx hb dX6_bring_58 (by decide) (fun c11 => ?_) (fun c11 => ?_)
          · have hf := ie_e hf c11
            refine lv_iconst (v := 0) hx hb dX6_bring_63 (by decide) ?_
            refine lv_istore (lv' := [(6, .int 0), (0, .ref (ad 0)), (1, .int a1), (2, .int a2), (3, .int a3), (4, .int a4), (5, .int a5)]) hx hb dX6_bring_64 hl (by decide) rfl (fun ls hl => ?_)
            refine b_X6_bring_66 X (fun w45_0 w46_1 w47_2 σ48 H locs ls hf hW hl => ?_) (fun σ53 H locs ls hf hW hl => ?_) fu a1 a2 a3 a4 a5 0 σ1 _ _ _ hf hW (lv_sub hl [1, 2, 3, 4, 5, 6, 0] rfl)
            · refine lv_iload hx hb dX6_bring_118 (lv_at hl 0 rfl) ?_
              refine lv_if_ne (tgt := 128) hx hb dX6_bring_120 (by decide) (fun c49 => ?_) (fun c49 => ?_)
              · have hf := ie_e hf c49
                refine lv_iload hx hb dX6_bring_128 (lv_at hl 1 rfl) ?_
                refine lv_if_ne (tgt := 138) hx hb dX6_bring_130 (by decide) (fun c50 => ?_) (fun c50 => ?_)
                · have hf := ie_e hf c50
                  refine lv_iload hx hb dX6_bring_138 (lv_at hl 2 rfl) ?_
                  refine lv_bipush (v := 8) hx hb dX6_bring_140 (by decide) ?_
                  refine lv_iload hx hb dX6_bring_142 (lv_at hl 1 rfl) ?_
                  refine lv_iconst (v := 1) hx hb dX6_bring_144 (by decide) ?_
                  refine lv_isub hx hb dX6_bring_145 ?_
                  obtain ⟨r51, z51, hf⟩ := bnd_e hf
                  refine r_cSiR X hW (c_X6_power l D cA ad hij σ48 8 (w46_1 - 1) r51 z51) gX6_bring_X6_power rfl ⟨rfl, rfl⟩ hd_X6_power ⟨Nat.le_of_ble_eq_true rfl, Nat.le_of_ble_eq_true rfl⟩ rfl (Nat.le_of_ble_eq_true rfl) hl.1 dX6_bring_146 (fun H locs hW => ?_)
                  obtain ⟨q52, hf⟩ := chk_e hf
                  refine lv_idiv hx hb dX6_bring_149 (nz_e q52) ?_
                  exact r_iret X hW rfl rfl hf dX6_bring_150
                · have hf := it_e hf c50
                  refine lv_bipush (v := (-4)) hx hb dX6_bring_133 (by decide) ?_
                  refine lv_goto (tgt := 150) hx hb dX6_bring_135 (by decide) ?_
                  exact r_iret X hW rfl rfl hf dX6_bring_150
              · have hf := it_e hf c49
                refine lv_iload hx hb dX6_bring_123 (lv_at hl 1 rfl) ?_
                refine lv_goto (tgt := 150) hx hb dX6_bring_125 (by decide) ?_
                exact r_iret X hW rfl rfl hf dX6_bring_150
            · refine lv_bipush (v := (-4)) hx hb dX6_bring_163 (by decide) ?_
              exact r_iret X hW rfl rfl hf dX6_bring_165
          · have hf := it_e hf c11
            refine lv_iconst (v := (-1)) hx hb dX6_bring_61 (by decide) ?_
            exact r_iret X hW rfl rfl hf dX6_bring_62

abbrev rm_X6_digitsOf : Room := { frames := 1, cells := 0, slots := 0, locals := 23 }
theorem hd_X6_digitsOf : yX6_digitsOf.cls = RX6 ∧ yX6_digitsOf.cls ≠ "java/lang/invoke/MethodHandle" ∧ yX6_digitsOf.cls ≠ "java/lang/invoke/VarHandle" ∧ (parseMethodDescriptor yX6_digitsOf.desc).map (fun d => d.parameters.length) = some 2 := by decide +kernel
section S_X6_digitsOf
variable {p : Program} {l : Launch} {e : Env} {s : State} {m : MethodId} {args : Array Value} {below : List Frame} {meth : Method} {c : Code} {D : va_G} {cA : Nat → ClassId} {ad : Nat → Nat} {r : Int32}
noncomputable def f_X6_digitsOf_12 (k41 : Int32 → Option (Int32)) : Nat → Int32 → Int32 → Int32 → Int32 → Int32 → Option (Int32)
  | 0, _, _, _, _, _ => none
  | n + 1, v0, v1, v2, v3, v4 => (if v1 ≤ v4 then k41 v2 else nw (v3 / 8 : Int32) fun v103 => chk (nz v103) <| nw ((10 * v2) + ((v0 / v103) - (v0 / v103) / 8 * 8) : Int32) fun v105 => nw (v4 + 1 : Int32) fun v106 => f_X6_digitsOf_12 k41 n v0 v1 v105 v103 v106)
set_option maxHeartbeats 4000000 in
set_option maxRecDepth 100000 in
theorem b_X6_digitsOf_12 {σ : St} {k41 : Int32 → Option (Int32)} (X : Cx RX6 wsX6_digitsOf cX6_digitsOf 5 (some .int) D cA ad SM p s m args meth c) (h41 : ∀ (w0 : Int32) (H : Heap) (locs : List Loc) (ls : Array Slot), k41 w0 = some r → Rn D cA ad SM s.heap σ H locs → lv_has ls 5 [(2, .int w0)] → W p l e rm_X6_digitsOf s m args below meth c H locs 0 0 (MQ below (Qi D cA ad SM (r, σ)) args s 0 0 (Aw ad SM)) (F0 m 41 ls [])) : ∀ (n : Nat) (v0 : Int32) (v1 : Int32) (v2 : Int32) (v3 : Int32) (v4 : Int32) (H : Heap) (locs : List Loc) (ls : Array Slot), f_X6_digitsOf_12 k41 n v0 v1 v2 v3 v4 = some r → Rn D cA ad SM s.heap σ H locs → lv_has ls 5 [(0, .int v0), (1, .int v1), (2, .int v2), (3, .int v3), (4, .int v4)] → W p l e rm_X6_digitsOf s m args below meth c H locs 0 0 (MQ below (Qi D cA ad SM (r, σ)) args s 0 0 (Aw ad SM)) (F0 m 12 ls []) := by
  obtain ⟨hx, hb, hml, hown, hts, hr, hlk, hK, hij⟩ := id X
  intro n
  induction n with
  | zero =>
    intro v0 v1 v2 v3 v4 H locs ls hf
    exact nomatch (show (none : Option (Int32)) = some r from hf)
  | succ n ih =>
    intro v0 v1 v2 v3 v4 H locs ls hf hW hl
    rw [f_X6_digitsOf_12] at hf
    refine lv_iload hx hb dX6_digitsOf_12 (lv_at hl 4 rfl) ?_
    refine lv_iload_n hx hb dX6_digitsOf_14 rfl (lv_at hl 1 rfl) ?_
    refine lv_icmp_ge (tgt := 41) hx hb dX6_digitsOf_15 (by decide) (fun c2 => ?_) (fun c2 => ?_)
    · have hf := it_e hf c2
      exact h41 v2 _ _ _ hf hW (lv_sub hl [2] rfl)
    · have hf := ie_e hf c2
      refine lv_iload_n hx hb dX6_digitsOf_18 rfl (lv_at hl 3 rfl) ?_
      refine lv_bipush (v := 8) hx hb dX6_digitsOf_19 (by decide) ?_
      refine lv_idiv hx hb dX6_digitsOf_21 (by decide) ?_
      obtain ⟨v103, e3, hf⟩ := nw_e hf
      refine tI _ e3 ?_
      refine lv_istore_n (lv' := [(3, .int v103), (0, .int v0), (1, .int v1), (2, .int v2), (4, .int v4)]) hx hb dX6_digitsOf_22 rfl hl (by decide) rfl (fun ls hl => ?_)
      refine lv_bipush (v := 10) hx hb dX6_digitsOf_23 (by decide) ?_
      refine lv_iload_n hx hb dX6_digitsOf_25 rfl (lv_at hl 3 rfl) ?_
      refine lv_imul hx hb dX6_digitsOf_26 ?_
      refine lv_iload_n hx hb dX6_digitsOf_27 rfl (lv_at hl 1 rfl) ?_
      refine lv_iload_n hx hb dX6_digitsOf_28 rfl (lv_at hl 0 rfl) ?_
      obtain ⟨q4, hf⟩ := chk_e hf
      refine lv_idiv hx hb dX6_digitsOf_29 (nz_e q4) ?_
      refine lv_bipush (v := 8) hx hb dX6_digitsOf_30 (by decide) ?_
      refine lv_irem hx hb dX6_digitsOf_32 (by decide) ?_
      refine lv_iadd hx hb dX6_digitsOf_33 ?_
      obtain ⟨v105, e5, hf⟩ := nw_e hf
      refine tI _ e5 ?_
      refine lv_istore_n (lv' := [(2, .int v105), (3, .int v103), (0, .int v0), (1, .int v1), (4, .int v4)]) hx hb dX6_digitsOf_34 rfl hl (by decide) rfl (fun ls hl => ?_)
      obtain ⟨v106, e6, hf⟩ := nw_e hf
      refine lv_iinc (v := v106) (lv' := [(4, .int v106), (2, .int v105), (3, .int v103), (0, .int v0), (1, .int v1)]) hx hb dX6_digitsOf_35 hl (k := 4) rfl (by rw [e6]; rfl) (by decide) rfl (fun ls hl => ?_)
      refine lv_goto (tgt := 12) hx hb dX6_digitsOf_38 (by decide) ?_
      exact ih v0 v1 v105 v103 v106 _ _ _ hf hW (lv_sub hl [3, 4, 1, 2, 0] rfl)
end S_X6_digitsOf
noncomputable def f_X6_digitsOf (a0 : Int32) (a1 : Int32) : Option (Int32) := bnd (f_X6_power 8 a1) fun r1 => f_X6_digitsOf_12 (fun (w7_0 : Int32) => some w7_0) fu a0 a1 0 r1 0
set_option maxHeartbeats 4000000 in
set_option maxRecDepth 100000 in
theorem c_X6_digitsOf (l : Launch) (D : va_G) (cA : Nat → ClassId) (ad : Nat → Nat) (hij : Ij ad SM) (σ : St) (a0 : Int32) (a1 : Int32) (r : Int32) (hf : f_X6_digitsOf a0 a1 = some r) : Met l yX6_digitsOf wsX6_digitsOf rm_X6_digitsOf (PC D cA ad SM [.int a0, .int a1] σ) (Qi D cA ad SM (r, σ)) 0 0 (Aw ad SM) := by
  rw [f_X6_digitsOf] at hf
  refine k_head (own := RX6) (ws := wsX6_digitsOf) (cc := cX6_digitsOf) (nL := 5) (ret := (some .int)) pn_X6 rfl rfl hij (Nat.le_of_ble_eq_true rfl) (fun p e s m below meth c ls X hW hl => ?_)
  have hl : lv_has ls 5 [(0, .int a0), (1, .int a1)] := hl
  obtain ⟨hx, hb, hml, hown, hts, hr, hlk, hK, hij⟩ := id X
  refine lv_iconst (v := 0) hx hb dX6_digitsOf_0 (by decide) ?_
  refine lv_istore_n (lv' := [(2, .int 0), (0, .int a0), (1, .int a1)]) hx hb dX6_digitsOf_1 rfl hl (by decide) rfl (fun ls hl => ?_)
  refine lv_bipush (v := 8) hx hb dX6_digitsOf_2 (by decide) ?_
  refine lv_iload_n hx hb dX6_digitsOf_4 rfl (lv_at hl 2 rfl) ?_
  obtain ⟨r1, z1, hf⟩ := bnd_e hf
  refine r_cSiR X hW (c_X6_power l D cA ad hij σ 8 a1 r1 z1) gX6_digitsOf_X6_power rfl ⟨rfl, rfl⟩ hd_X6_power ⟨Nat.le_of_ble_eq_true rfl, Nat.le_of_ble_eq_true rfl⟩ rfl (Nat.le_of_ble_eq_true rfl) hl.1 dX6_digitsOf_5 (fun H locs hW => ?_)
  refine lv_istore_n (lv' := [(3, .int r1), (2, .int 0), (0, .int a0), (1, .int a1)]) hx hb dX6_digitsOf_8 rfl hl (by decide) rfl (fun ls hl => ?_)
  refine lv_iconst (v := 0) hx hb dX6_digitsOf_9 (by decide) ?_
  refine lv_istore (lv' := [(4, .int 0), (3, .int r1), (2, .int 0), (0, .int a0), (1, .int a1)]) hx hb dX6_digitsOf_10 hl (by decide) rfl (fun ls hl => ?_)
  refine b_X6_digitsOf_12 X (fun w7_0 H locs ls hf hW hl => ?_) fu a0 a1 0 r1 0 _ _ _ hf hW (lv_sub hl [3, 4, 2, 1, 0] rfl)
  · refine lv_iload_n hx hb dX6_digitsOf_41 rfl (lv_at hl 0 rfl) ?_
    exact r_iretR X hW rfl rfl hf dX6_digitsOf_42

abbrev rm_X6_mayHave : Room := { frames := 4, cells := 0, slots := 0, locals := 100 }
theorem hd_X6_mayHave : yX6_mayHave.cls = RX6 ∧ yX6_mayHave.cls ≠ "java/lang/invoke/MethodHandle" ∧ yX6_mayHave.cls ≠ "java/lang/invoke/VarHandle" ∧ (parseMethodDescriptor yX6_mayHave.desc).map (fun d => d.parameters.length) = some 4 := by decide +kernel
theorem inX6_mayHave_6 : ∀ w ∈ wsX60, w ∈ wsX6_mayHave := fun _ h => List.mem_cons_of_mem _ (List.mem_append_right _ h)
section S_X6_mayHave
variable {p : Program} {l : Launch} {e : Env} {s : State} {m : MethodId} {args : Array Value} {below : List Frame} {meth : Method} {c : Code} {D : va_G} {cA : Nat → ClassId} {ad : Nat → Nat} {r : Int32 × St}
noncomputable def f_X6_mayHave_165 (k101 : Int32 → Int32 → Int32 → Int32 → Int32 → Int32 → Int32 → Int32 → Int32 → Int32 → St → Option (Int32 × St)) (v1 : Int32) (v2 : Int32) (v3 : Int32) (v4 : Int32) (v5 : Int32) (v6 : Int32) (v7 : Int32) (v9 : Int32) (v10 : Int32) (s0 : Int32) (σ : St) : Option (Int32 × St) := nw (v10 + 1 : Int32) fun v118 => k101 v1 v2 v3 v4 v5 v6 v7 s0 v9 v118 σ
set_option maxHeartbeats 4000000 in
set_option maxRecDepth 100000 in
theorem b_X6_mayHave_165 {k101 : Int32 → Int32 → Int32 → Int32 → Int32 → Int32 → Int32 → Int32 → Int32 → Int32 → St → Option (Int32 × St)} (X : Cx RX6 wsX6_mayHave cX6_mayHave 11 (some .int) D cA ad SM p s m args meth c) (h101 : ∀ (w0 : Int32) (w1 : Int32) (w2 : Int32) (w3 : Int32) (w4 : Int32) (w5 : Int32) (w6 : Int32) (w7 : Int32) (w8 : Int32) (w9 : Int32) (σ : St) (H : Heap) (locs : List Loc) (ls : Array Slot), k101 w0 w1 w2 w3 w4 w5 w6 w7 w8 w9 σ = some r → Rn D cA ad SM s.heap σ H locs → lv_has ls 11 [(0, .ref (ad 0)), (1, .int w0), (2, .int w1), (3, .int w2), (4, .int w3), (5, .int w4), (6, .int w5), (7, .int w6), (8, .int w7), (9, .int w8), (10, .int w9)] → W p l e rm_X6_mayHave s m args below meth c H locs 0 0 (MQ below (Qi D cA ad SM r) args s 0 0 (Aw ad SM)) (F0 m 101 ls [])) : ∀ (v1 : Int32) (v2 : Int32) (v3 : Int32) (v4 : Int32) (v5 : Int32) (v6 : Int32) (v7 : Int32) (v9 : Int32) (v10 : Int32) (s0 : Int32) (σ : St) (H : Heap) (locs : List Loc) (ls : Array Slot), f_X6_mayHave_165 k101 v1 v2 v3 v4 v5 v6 v7 v9 v10 s0 σ = some r → Rn D cA ad SM s.heap σ H locs → lv_has ls 11 [(0, .ref (ad 0)), (1, .int v1), (2, .int v2), (3, .int v3), (4, .int v4), (5, .int v5), (6, .int v6), (7, .int v7), (9, .int v9), (10, .int v10)] → W p l e rm_X6_mayHave s m args below meth c H locs 0 0 (MQ below (Qi D cA ad SM r) args s 0 0 (Aw ad SM)) (F0 m 165 ls [.int s0]) := by
  obtain ⟨hx, hb, hml, hown, hts, hr, hlk, hK, hij⟩ := id X
  intro v1 v2 v3 v4 v5 v6 v7 v9 v10 s0 σ H locs ls hf hW hl
  rw [f_X6_mayHave_165] at hf
  refine lv_istore (lv' := [(8, .int s0), (0, .ref (ad 0)), (1, .int v1), (2, .int v2), (3, .int v3), (4, .int v4), (5, .int v5), (6, .int v6), (7, .int v7), (9, .int v9), (10, .int v10)]) hx hb dX6_mayHave_165 hl (by decide) rfl (fun ls hl => ?_)
  obtain ⟨v118, e18, hf⟩ := nw_e hf
  refine lv_iinc (v := v118) (lv' := [(10, .int v118), (8, .int s0), (0, .ref (ad 0)), (1, .int v1), (2, .int v2), (3, .int v3), (4, .int v4), (5, .int v5), (6, .int v6), (7, .int v7), (9, .int v9)]) hx hb dX6_mayHave_167 hl (k := 10) rfl (by rw [e18]; rfl) (by decide) rfl (fun ls hl => ?_)
  refine lv_goto (tgt := 101) hx hb dX6_mayHave_170 (by decide) ?_
  exact h101 v1 v2 v3 v4 v5 v6 v7 s0 v9 v118 σ _ _ _ hf hW (lv_sub hl [2, 3, 4, 5, 6, 7, 8, 9, 1, 10, 0] rfl)
noncomputable def f_X6_mayHave_164 (k101 : Int32 → Int32 → Int32 → Int32 → Int32 → Int32 → Int32 → Int32 → Int32 → Int32 → St → Option (Int32 × St)) (v1 : Int32) (v2 : Int32) (v3 : Int32) (v4 : Int32) (v5 : Int32) (v6 : Int32) (v7 : Int32) (v9 : Int32) (v10 : Int32) (σ : St) : Option (Int32 × St) := f_X6_mayHave_165 k101 v1 v2 v3 v4 v5 v6 v7 v9 v10 0 σ
set_option maxHeartbeats 4000000 in
set_option maxRecDepth 100000 in
theorem b_X6_mayHave_164 {k101 : Int32 → Int32 → Int32 → Int32 → Int32 → Int32 → Int32 → Int32 → Int32 → Int32 → St → Option (Int32 × St)} (X : Cx RX6 wsX6_mayHave cX6_mayHave 11 (some .int) D cA ad SM p s m args meth c) (h101 : ∀ (w0 : Int32) (w1 : Int32) (w2 : Int32) (w3 : Int32) (w4 : Int32) (w5 : Int32) (w6 : Int32) (w7 : Int32) (w8 : Int32) (w9 : Int32) (σ : St) (H : Heap) (locs : List Loc) (ls : Array Slot), k101 w0 w1 w2 w3 w4 w5 w6 w7 w8 w9 σ = some r → Rn D cA ad SM s.heap σ H locs → lv_has ls 11 [(0, .ref (ad 0)), (1, .int w0), (2, .int w1), (3, .int w2), (4, .int w3), (5, .int w4), (6, .int w5), (7, .int w6), (8, .int w7), (9, .int w8), (10, .int w9)] → W p l e rm_X6_mayHave s m args below meth c H locs 0 0 (MQ below (Qi D cA ad SM r) args s 0 0 (Aw ad SM)) (F0 m 101 ls [])) : ∀ (v1 : Int32) (v2 : Int32) (v3 : Int32) (v4 : Int32) (v5 : Int32) (v6 : Int32) (v7 : Int32) (v9 : Int32) (v10 : Int32) (σ : St) (H : Heap) (locs : List Loc) (ls : Array Slot), f_X6_mayHave_164 k101 v1 v2 v3 v4 v5 v6 v7 v9 v10 σ = some r → Rn D cA ad SM s.heap σ H locs → lv_has ls 11 [(0, .ref (ad 0)), (1, .int v1), (2, .int v2), (3, .int v3), (4, .int v4), (5, .int v5), (6, .int v6), (7, .int v7), (9, .int v9), (10, .int v10)] → W p l e rm_X6_mayHave s m args below meth c H locs 0 0 (MQ below (Qi D cA ad SM r) args s 0 0 (Aw ad SM)) (F0 m 164 ls []) := by
  obtain ⟨hx, hb, hml, hown, hts, hr, hlk, hK, hij⟩ := id X
  intro v1 v2 v3 v4 v5 v6 v7 v9 v10 σ H locs ls hf hW hl
  rw [f_X6_mayHave_164] at hf
  refine lv_iconst (v := 0) hx hb dX6_mayHave_164 (by decide) ?_
  exact b_X6_mayHave_165 X h101 v1 v2 v3 v4 v5 v6 v7 v9 v10 0 σ _ _ _ hf hW (lv_sub hl [0, 1, 2, 3, 4, 5, 6, 7, 8, 9] rfl)
noncomputable def f_X6_mayHave_101 (k173 : Int32 → Int32 → Int32 → Int32 → Int32 → Int32 → Int32 → Int32 → Int32 → St → Option (Int32 × St)) : Nat → Int32 → Int32 → Int32 → Int32 → Int32 → Int32 → Int32 → Int32 → Int32 → Int32 → St → Option (Int32 × St)
  | 0, _, _, _, _, _, _, _, _, _, _, _ => none
  | n + 1, v1, v2, v3, v4, v5, v6, v7, v8, v9, v10, σ => (if 2 ≤ v10 then k173 v1 v2 v3 v4 v5 v6 v7 v8 v9 σ else (if v8 = 0 then f_X6_mayHave_164 (fun (w19_0 : Int32) (w20_1 : Int32) (w21_2 : Int32) (w22_3 : Int32) (w23_4 : Int32) (w24_5 : Int32) (w25_6 : Int32) (w26_7 : Int32) (w27_8 : Int32) (w28_9 : Int32) (σ29 : St) => f_X6_mayHave_101 k173 n w19_0 w20_1 w21_2 w22_3 w23_4 w24_5 w25_6 w26_7 w27_8 w28_9 σ29) v1 v2 v3 v4 v5 v6 v7 v9 v10 σ else chk (inb (24 + v9) 28) <| bnd (f_X6_nine v2) fun r31 => bnd (f_X6_least (σ.2 1 (24 + v9).toNatClampNeg) r31 v10) fun r32 => chk (inb ((4 * v1) + v9) 28) <| chk (inb v1 7) <| bnd (f_X6_nine (σ.1 2 v1.toNatClampNeg)) fun r35 => bnd (f_X6_least (σ.2 1 ((4 * v1) + v9).toNatClampNeg) r35 v10) fun r36 => (if (lg_cmp r32 r36) = 0 then f_X6_mayHave_165 (fun (w49_0 : Int32) (w50_1 : Int32) (w51_2 : Int32) (w52_3 : Int32) (w53_4 : Int32) (w54_5 : Int32) (w55_6 : Int32) (w56_7 : Int32) (w57_8 : Int32) (w58_9 : Int32) (σ59 : St) => f_X6_mayHave_101 k173 n w49_0 w50_1 w51_2 w52_3 w53_4 w54_5 w55_6 w56_7 w57_8 w58_9 σ59) v1 v2 v3 v4 v5 v6 v7 v9 v10 1 σ else f_X6_mayHave_164 (fun (w38_0 : Int32) (w39_1 : Int32) (w40_2 : Int32) (w41_3 : Int32) (w42_4 : Int32) (w43_5 : Int32) (w44_6 : Int32) (w45_7 : Int32) (w46_8 : Int32) (w47_9 : Int32) (σ48 : St) => f_X6_mayHave_101 k173 n w38_0 w39_1 w40_2 w41_3 w42_4 w43_5 w44_6 w45_7 w46_8 w47_9 σ48) v1 v2 v3 v4 v5 v6 v7 v9 v10 σ)))
set_option maxHeartbeats 4000000 in
set_option maxRecDepth 100000 in
theorem b_X6_mayHave_101 {k173 : Int32 → Int32 → Int32 → Int32 → Int32 → Int32 → Int32 → Int32 → Int32 → St → Option (Int32 × St)} (X : Cx RX6 wsX6_mayHave cX6_mayHave 11 (some .int) D cA ad SM p s m args meth c) (h173 : ∀ (w0 : Int32) (w1 : Int32) (w2 : Int32) (w3 : Int32) (w4 : Int32) (w5 : Int32) (w6 : Int32) (w7 : Int32) (w8 : Int32) (σ : St) (H : Heap) (locs : List Loc) (ls : Array Slot), k173 w0 w1 w2 w3 w4 w5 w6 w7 w8 σ = some r → Rn D cA ad SM s.heap σ H locs → lv_has ls 11 [(0, .ref (ad 0)), (1, .int w0), (2, .int w1), (3, .int w2), (4, .int w3), (5, .int w4), (6, .int w5), (7, .int w6), (8, .int w7), (9, .int w8)] → W p l e rm_X6_mayHave s m args below meth c H locs 0 0 (MQ below (Qi D cA ad SM r) args s 0 0 (Aw ad SM)) (F0 m 173 ls [])) : ∀ (n : Nat) (v1 : Int32) (v2 : Int32) (v3 : Int32) (v4 : Int32) (v5 : Int32) (v6 : Int32) (v7 : Int32) (v8 : Int32) (v9 : Int32) (v10 : Int32) (σ : St) (H : Heap) (locs : List Loc) (ls : Array Slot), f_X6_mayHave_101 k173 n v1 v2 v3 v4 v5 v6 v7 v8 v9 v10 σ = some r → Rn D cA ad SM s.heap σ H locs → lv_has ls 11 [(0, .ref (ad 0)), (1, .int v1), (2, .int v2), (3, .int v3), (4, .int v4), (5, .int v5), (6, .int v6), (7, .int v7), (8, .int v8), (9, .int v9), (10, .int v10)] → W p l e rm_X6_mayHave s m args below meth c H locs 0 0 (MQ below (Qi D cA ad SM r) args s 0 0 (Aw ad SM)) (F0 m 101 ls []) := by
  obtain ⟨hx, hb, hml, hown, hts, hr, hlk, hK, hij⟩ := id X
  intro n
  induction n with
  | zero =>
    intro v1 v2 v3 v4 v5 v6 v7 v8 v9 v10 σ H locs ls hf
    exact nomatch (show (none : Option (Int32 × St)) = some r from hf)
  | succ n ih =>
    intro v1 v2 v3 v4 v5 v6 v7 v8 v9 v10 σ H locs ls hf hW hl
    rw [f_X6_mayHave_101] at hf
    refine lv_iload hx hb dX6_mayHave_101 (lv_at hl 10 rfl) ?_
    refine lv_iconst (v := 2) hx hb dX6_mayHave_103 (by decide) ?_
    refine lv_icmp_ge (tgt := 173) hx hb dX6_mayHave_104 (by decide) (fun c16 => ?_) (fun c16 => ?_)
    · have hf := it_e hf c16
      exact h173 v1 v2 v3 v4 v5 v6 v7 v8 v9 σ _ _ _ hf hW (lv_sub hl [0, 1, 2, 3, 4, 5, 6, 7, 8, 9] rfl)
    · have hf := ie_e hf c16
      refine lv_iload hx hb dX6_mayHave_107 (lv_at hl 8 rfl) ?_
      refine lv_if_eq (tgt := 164) hx hb dX6_mayHave_109 (by decide) (fun c17 => ?_) (fun c17 => ?_)
      · have hf := it_e hf c17
        refine b_X6_mayHave_164 X (fun w19_0 w20_1 w21_2 w22_3 w23_4 w24_5 w25_6 w26_7 w27_8 w28_9 σ29 H locs ls hf hW hl => ?_) v1 v2 v3 v4 v5 v6 v7 v9 v10 σ _ _ _ hf hW (lv_sub hl [0, 1, 2, 3, 4, 5, 6, 7, 9, 10] rfl)
        · exact ih w19_0 w20_1 w21_2 w22_3 w23_4 w24_5 w25_6 w26_7 w27_8 w28_9 σ29 _ _ _ hf hW (lv_sub hl [0, 1, 2, 3, 4, 5, 6, 7, 8, 9, 10] rfl)
      · have hf := ie_e hf c17
        refine lv_aload_n hx hb dX6_mayHave_112 rfl (lv_at hl 0 rfl) ?_
        refine get_6_1 X hW kM_0 iM_0 inX6_mayHave_6 (List.mem_of_getElem? (i := 4) rfl) dX6_mayHave_113 ?_
        refine lv_bipush (v := 24) hx hb dX6_mayHave_116 (by decide) ?_
        refine lv_iload hx hb dX6_mayHave_118 (lv_at hl 9 rfl) ?_
        refine lv_iadd hx hb dX6_mayHave_120 ?_
        obtain ⟨x30, hf⟩ := chk_e hf
        refine r_lald X hW kM_1 iM_1 nM_1 x30 dX6_mayHave_121 ?_
        refine lv_iload_n hx hb dX6_mayHave_122 rfl (lv_at hl 2 rfl) ?_
        obtain ⟨r31, z31, hf⟩ := bnd_e hf
        refine r_cSlR X hW (c_X6_nine l D cA ad hij σ v2 r31 z31) gX6_mayHave_X6_nine rfl ⟨rfl, rfl⟩ hd_X6_nine ⟨Nat.le_of_ble_eq_true rfl, Nat.le_of_ble_eq_true rfl⟩ rfl (Nat.le_of_ble_eq_true rfl) hl.1 dX6_mayHave_123 (fun H locs hW => ?_)
        refine lv_iload hx hb dX6_mayHave_126 (lv_at hl 10 rfl) ?_
        obtain ⟨r32, z32, hf⟩ := bnd_e hf
        refine r_cSlR X hW (c_X6_least l D cA ad hij σ (σ.2 1 (24 + v9).toNatClampNeg) r31 v10 r32 z32) gX6_mayHave_X6_least rfl ⟨rfl, rfl⟩ hd_X6_least ⟨Nat.le_of_ble_eq_true rfl, Nat.le_of_ble_eq_true rfl⟩ rfl (Nat.le_of_ble_eq_true rfl) hl.1 dX6_mayHave_128 (fun H locs hW => ?_)
        refine lv_aload_n hx hb dX6_mayHave_131 rfl (lv_at hl 0 rfl) ?_
        refine get_6_1 X hW kM_0 iM_0 inX6_mayHave_6 (List.mem_of_getElem? (i := 4) rfl) dX6_mayHave_132 ?_
        refine lv_iconst (v := 4) hx hb dX6_mayHave_135 (by decide) ?_
        refine lv_iload_n hx hb dX6_mayHave_136 rfl (lv_at hl 1 rfl) ?_
        refine lv_imul hx hb dX6_mayHave_137 ?_
        refine lv_iload hx hb dX6_mayHave_138 (lv_at hl 9 rfl) ?_
        refine lv_iadd hx hb dX6_mayHave_140 ?_
        obtain ⟨x33, hf⟩ := chk_e hf
        refine r_lald X hW kM_1 iM_1 nM_1 x33 dX6_mayHave_141 ?_
        refine lv_aload_n hx hb dX6_mayHave_142 rfl (lv_at hl 0 rfl) ?_
        refine get_6_2 X hW kM_0 iM_0 inX6_mayHave_6 (List.mem_of_getElem? (i := 5) rfl) dX6_mayHave_143 ?_
        refine lv_iload_n hx hb dX6_mayHave_146 rfl (lv_at hl 1 rfl) ?_
        obtain ⟨x34, hf⟩ := chk_e hf
        refine r_iald X hW kM_2 iM_2 nM_2 x34 dX6_mayHave_147 ?_
        obtain ⟨r35, z35, hf⟩ := bnd_e hf
        refine r_cSlR X hW (c_X6_nine l D cA ad hij σ (σ.1 2 v1.toNatClampNeg) r35 z35) gX6_mayHave_X6_nine rfl ⟨rfl, rfl⟩ hd_X6_nine ⟨Nat.le_of_ble_eq_true rfl, Nat.le_of_ble_eq_true rfl⟩ rfl (Nat.le_of_ble_eq_true rfl) hl.1 dX6_mayHave_148 (fun H locs hW => ?_)
        refine lv_iload hx hb dX6_mayHave_151 (lv_at hl 10 rfl) ?_
        obtain ⟨r36, z36, hf⟩ := bnd_e hf
        refine r_cSlR X hW (c_X6_least l D cA ad hij σ (σ.2 1 ((4 * v1) + v9).toNatClampNeg) r35 v10 r36 z36) gX6_mayHave_X6_least rfl ⟨rfl, rfl⟩ hd_X6_least ⟨Nat.le_of_ble_eq_true rfl, Nat.le_of_ble_eq_true rfl⟩ rfl (Nat.le_of_ble_eq_true rfl) hl.1 dX6_mayHave_153 (fun H locs hW => ?_)
        refine W.lcmp hx hb dX6_mayHave_156 ?_
        refine lv_if_ne (tgt := 164) hx hb dX6_mayHave_157 (by decide) (fun c37 => ?_) (fun c37 => ?_)
        · have hf := ie_e hf c37
          refine b_X6_mayHave_164 X (fun w38_0 w39_1 w40_2 w41_3 w42_4 w43_5 w44_6 w45_7 w46_8 w47_9 σ48 H locs ls hf hW hl => ?_) v1 v2 v3 v4 v5 v6 v7 v9 v10 σ _ _ _ hf hW (lv_sub hl [0, 1, 2, 3, 4, 5, 6, 7, 9, 10] rfl)
          · exact ih w38_0 w39_1 w40_2 w41_3 w42_4 w43_5 w44_6 w45_7 w46_8 w47_9 σ48 _ _ _ hf hW (lv_sub hl [0, 1, 2, 3, 4, 5, 6, 7, 8, 9, 10] rfl)
        · have hf := it_e hf c37
          refine lv_iconst (v := 1) hx hb dX6_mayHave_160 (by decide) ?_
          refine lv_goto (tgt := 165) hx hb dX6_mayHave_161 (by decide) ?_
          refine b_X6_mayHave_165 X (fun w49_0 w50_1 w51_2 w52_3 w53_4 w54_5 w55_6 w56_7 w57_8 w58_9 σ59 H locs ls hf hW hl => ?_) v1 v2 v3 v4 v5 v6 v7 v9 v10 1 σ _ _ _ hf hW (lv_sub hl [0, 1, 2, 3, 4, 5, 6, 7, 9, 10] rfl)
          · exact ih w49_0 w50_1 w51_2 w52_3 w53_4 w54_5 w55_6 w56_7 w57_8 w58_9 σ59 _ _ _ hf hW (lv_sub hl [0, 1, 2, 3, 4, 5, 6, 7, 8, 9, 10] rfl)
noncomputable def f_X6_mayHave_92 (k179 : Int32 → Int32 → Int32 → Int32 → Int32 → Int32 → Int32 → Int32 → St → Option (Int32 × St)) : Nat → Int32 → Int32 → Int32 → Int32 → Int32 → Int32 → Int32 → Int32 → Int32 → St → Option (Int32 × St)
  | 0, _, _, _, _, _, _, _, _, _, _ => none
  | n + 1, v1, v2, v3, v4, v5, v6, v7, v8, v9, σ => (if 4 ≤ v9 then k179 v1 v2 v3 v4 v5 v6 v7 v8 σ else f_X6_mayHave_101 (fun (w60_0 : Int32) (w61_1 : Int32) (w62_2 : Int32) (w63_3 : Int32) (w64_4 : Int32) (w65_5 : Int32) (w66_6 : Int32) (w67_7 : Int32) (w68_8 : Int32) (σ69 : St) => nw (w68_8 + 1 : Int32) fun v170 => f_X6_mayHave_92 k179 n w60_0 w61_1 w62_2 w63_3 w64_4 w65_5 w66_6 w67_7 v170 σ69) fu v1 v2 v3 v4 v5 v6 v7 v8 v9 0 σ)
set_option maxHeartbeats 4000000 in
set_option maxRecDepth 100000 in
theorem b_X6_mayHave_92 {k179 : Int32 → Int32 → Int32 → Int32 → Int32 → Int32 → Int32 → Int32 → St → Option (Int32 × St)} (X : Cx RX6 wsX6_mayHave cX6_mayHave 11 (some .int) D cA ad SM p s m args meth c) (h179 : ∀ (w0 : Int32) (w1 : Int32) (w2 : Int32) (w3 : Int32) (w4 : Int32) (w5 : Int32) (w6 : Int32) (w7 : Int32) (σ : St) (H : Heap) (locs : List Loc) (ls : Array Slot), k179 w0 w1 w2 w3 w4 w5 w6 w7 σ = some r → Rn D cA ad SM s.heap σ H locs → lv_has ls 11 [(0, .ref (ad 0)), (1, .int w0), (2, .int w1), (3, .int w2), (4, .int w3), (5, .int w4), (6, .int w5), (7, .int w6), (8, .int w7)] → W p l e rm_X6_mayHave s m args below meth c H locs 0 0 (MQ below (Qi D cA ad SM r) args s 0 0 (Aw ad SM)) (F0 m 179 ls [])) : ∀ (n : Nat) (v1 : Int32) (v2 : Int32) (v3 : Int32) (v4 : Int32) (v5 : Int32) (v6 : Int32) (v7 : Int32) (v8 : Int32) (v9 : Int32) (σ : St) (H : Heap) (locs : List Loc) (ls : Array Slot), f_X6_mayHave_92 k179 n v1 v2 v3 v4 v5 v6 v7 v8 v9 σ = some r → Rn D cA ad SM s.heap σ H locs → lv_has ls 11 [(0, .ref (ad 0)), (1, .int v1), (2, .int v2), (3, .int v3), (4, .int v4), (5, .int v5), (6, .int v6), (7, .int v7), (8, .int v8), (9, .int v9)] → W p l e rm_X6_mayHave s m args below meth c H locs 0 0 (MQ below (Qi D cA ad SM r) args s 0 0 (Aw ad SM)) (F0 m 92 ls []) := by
  obtain ⟨hx, hb, hml, hown, hts, hr, hlk, hK, hij⟩ := id X
  intro n
  induction n with
  | zero =>
    intro v1 v2 v3 v4 v5 v6 v7 v8 v9 σ H locs ls hf
    exact nomatch (show (none : Option (Int32 × St)) = some r from hf)
  | succ n ih =>
    intro v1 v2 v3 v4 v5 v6 v7 v8 v9 σ H locs ls hf hW hl
    rw [f_X6_mayHave_92] at hf
    refine lv_iload hx hb dX6_mayHave_92 (lv_at hl 9 rfl) ?_
    refine lv_iconst (v := 4) hx hb dX6_mayHave_94 (by decide) ?_
    refine lv_icmp_ge (tgt := 179) hx hb dX6_mayHave_95 (by decide) (fun c15 => ?_) (fun c15 => ?_)
    · have hf := it_e hf c15
      exact h179 v1 v2 v3 v4 v5 v6 v7 v8 σ _ _ _ hf hW (lv_sub hl [0, 1, 2, 3, 4, 5, 6, 7, 8] rfl)
    · have hf := ie_e hf c15
      refine lv_iconst (v := 0) hx hb dX6_mayHave_98 (by decide) ?_
      refine lv_istore (lv' := [(10, .int 0), (0, .ref (ad 0)), (1, .int v1), (2, .int v2), (3, .int v3), (4, .int v4), (5, .int v5), (6, .int v6), (7, .int v7), (8, .int v8), (9, .int v9)]) hx hb dX6_mayHave_99 hl (by decide) rfl (fun ls hl => ?_)
      refine b_X6_mayHave_101 X (fun w60_0 w61_1 w62_2 w63_3 w64_4 w65_5 w66_6 w67_7 w68_8 σ69 H locs ls hf hW hl => ?_) fu v1 v2 v3 v4 v5 v6 v7 v8 v9 0 σ _ _ _ hf hW (lv_sub hl [1, 2, 3, 4, 5, 6, 7, 8, 9, 10, 0] rfl)
      · obtain ⟨v170, e70, hf⟩ := nw_e hf
        refine lv_iinc (v := v170) (lv' := [(9, .int v170), (0, .ref (ad 0)), (1, .int w60_0), (2, .int w61_1), (3, .int w62_2), (4, .int w63_3), (5, .int w64_4), (6, .int w65_5), (7, .int w66_6), (8, .int w67_7)]) hx hb dX6_mayHave_173 hl (k := 9) rfl (by rw [e70]; rfl) (by decide) rfl (fun ls hl => ?_)
        refine lv_goto (tgt := 92) hx hb dX6_mayHave_176 (by decide) ?_
        exact ih w60_0 w61_1 w62_2 w63_3 w64_4 w65_5 w66_6 w67_7 v170 σ69 _ _ _ hf hW (lv_sub hl [1, 2, 3, 4, 5, 6, 7, 8, 9, 0] rfl)
noncomputable def f_X6_mayHave_214 (k60 : Int32 → Int32 → Int32 → Int32 → Int32 → Int32 → Int32 → St → Option (Int32 × St)) (v1 : Int32) (v2 : Int32) (v3 : Int32) (v4 : Int32) (v6 : Int32) (v7 : Int32) (s0 : Int32) (s1 : Int32) (σ : St) : Option (Int32 × St) := nw (s0 + s1 : Int32) fun v182 => nw (v7 + 1 : Int32) fun v183 => k60 v1 v2 v3 v4 v182 v6 v183 σ
set_option maxHeartbeats 4000000 in
set_option maxRecDepth 100000 in
theorem b_X6_mayHave_214 {k60 : Int32 → Int32 → Int32 → Int32 → Int32 → Int32 → Int32 → St → Option (Int32 × St)} (X : Cx RX6 wsX6_mayHave cX6_mayHave 11 (some .int) D cA ad SM p s m args meth c) (h60 : ∀ (w0 : Int32) (w1 : Int32) (w2 : Int32) (w3 : Int32) (w4 : Int32) (w5 : Int32) (w6 : Int32) (σ : St) (H : Heap) (locs : List Loc) (ls : Array Slot), k60 w0 w1 w2 w3 w4 w5 w6 σ = some r → Rn D cA ad SM s.heap σ H locs → lv_has ls 11 [(0, .ref (ad 0)), (1, .int w0), (2, .int w1), (3, .int w2), (4, .int w3), (5, .int w4), (6, .int w5), (7, .int w6)] → W p l e rm_X6_mayHave s m args below meth c H locs 0 0 (MQ below (Qi D cA ad SM r) args s 0 0 (Aw ad SM)) (F0 m 60 ls [])) : ∀ (v1 : Int32) (v2 : Int32) (v3 : Int32) (v4 : Int32) (v6 : Int32) (v7 : Int32) (s0 : Int32) (s1 : Int32) (σ : St) (H : Heap) (locs : List Loc) (ls : Array Slot), f_X6_mayHave_214 k60 v1 v2 v3 v4 v6 v7 s0 s1 σ = some r → Rn D cA ad SM s.heap σ H locs → lv_has ls 11 [(0, .ref (ad 0)), (1, .int v1), (2, .int v2), (3, .int v3), (4, .int v4), (6, .int v6), (7, .int v7)] → W p l e rm_X6_mayHave s m args below meth c H locs 0 0 (MQ below (Qi D cA ad SM r) args s 0 0 (Aw ad SM)) (F0 m 214 ls [.int s1, .int s0]) := by
  obtain ⟨hx, hb, hml, hown, hts, hr, hlk, hK, hij⟩ := id X
  intro v1 v2 v3 v4 v6 v7 s0 s1 σ H locs ls hf hW hl
  rw [f_X6_mayHave_214] at hf
  refine lv_iadd hx hb dX6_mayHave_214 ?_
  obtain ⟨v182, e82, hf⟩ := nw_e hf
  refine tI _ e82 ?_
  refine lv_istore (lv' := [(5, .int v182), (0, .ref (ad 0)), (1, .int v1), (2, .int v2), (3, .int v3), (4, .int v4), (6, .int v6), (7, .int v7)]) hx hb dX6_mayHave_215 hl (by decide) rfl (fun ls hl => ?_)
  obtain ⟨v183, e83, hf⟩ := nw_e hf
  refine lv_iinc (v := v183) (lv' := [(7, .int v183), (5, .int v182), (0, .ref (ad 0)), (1, .int v1), (2, .int v2), (3, .int v3), (4, .int v4), (6, .int v6)]) hx hb dX6_mayHave_217 hl (k := 7) rfl (by rw [e83]; rfl) (by decide) rfl (fun ls hl => ?_)
  refine lv_goto (tgt := 60) hx hb dX6_mayHave_220 (by decide) ?_
  exact h60 v1 v2 v3 v4 v182 v6 v183 σ _ _ _ hf hW (lv_sub hl [2, 3, 4, 5, 6, 1, 7, 0] rfl)
noncomputable def f_X6_mayHave_200 (k60 : Int32 → Int32 → Int32 → Int32 → Int32 → Int32 → Int32 → St → Option (Int32 × St)) (v1 : Int32) (v2 : Int32) (v3 : Int32) (v4 : Int32) (v5 : Int32) (v7 : Int32) (v8 : Int32) (s0 : Int32) (σ : St) : Option (Int32 × St) := (if v8 = 0 then f_X6_mayHave_214 k60 v1 v2 v3 v4 s0 v7 v5 0 σ else f_X6_mayHave_214 k60 v1 v2 v3 v4 s0 v7 v5 1 σ)
set_option maxHeartbeats 4000000 in
set_option maxRecDepth 100000 in
theorem b_X6_mayHave_200 {k60 : Int32 → Int32 → Int32 → Int32 → Int32 → Int32 → Int32 → St → Option (Int32 × St)} (X : Cx RX6 wsX6_mayHave cX6_mayHave 11 (some .int) D cA ad SM p s m args meth c) (h60 : ∀ (w0 : Int32) (w1 : Int32) (w2 : Int32) (w3 : Int32) (w4 : Int32) (w5 : Int32) (w6 : Int32) (σ : St) (H : Heap) (locs : List Loc) (ls : Array Slot), k60 w0 w1 w2 w3 w4 w5 w6 σ = some r → Rn D cA ad SM s.heap σ H locs → lv_has ls 11 [(0, .ref (ad 0)), (1, .int w0), (2, .int w1), (3, .int w2), (4, .int w3), (5, .int w4), (6, .int w5), (7, .int w6)] → W p l e rm_X6_mayHave s m args below meth c H locs 0 0 (MQ below (Qi D cA ad SM r) args s 0 0 (Aw ad SM)) (F0 m 60 ls [])) : ∀ (v1 : Int32) (v2 : Int32) (v3 : Int32) (v4 : Int32) (v5 : Int32) (v7 : Int32) (v8 : Int32) (s0 : Int32) (σ : St) (H : Heap) (locs : List Loc) (ls : Array Slot), f_X6_mayHave_200 k60 v1 v2 v3 v4 v5 v7 v8 s0 σ = some r → Rn D cA ad SM s.heap σ H locs → lv_has ls 11 [(0, .ref (ad 0)), (1, .int v1), (2, .int v2), (3, .int v3), (4, .int v4), (5, .int v5), (7, .int v7), (8, .int v8)] → W p l e rm_X6_mayHave s m args below meth c H locs 0 0 (MQ below (Qi D cA ad SM r) args s 0 0 (Aw ad SM)) (F0 m 200 ls [.int s0]) := by
  obtain ⟨hx, hb, hml, hown, hts, hr, hlk, hK, hij⟩ := id X
  intro v1 v2 v3 v4 v5 v7 v8 s0 σ H locs ls hf hW hl
  rw [f_X6_mayHave_200] at hf
  refine lv_istore (lv' := [(6, .int s0), (0, .ref (ad 0)), (1, .int v1), (2, .int v2), (3, .int v3), (4, .int v4), (5, .int v5), (7, .int v7), (8, .int v8)]) hx hb dX6_mayHave_200 hl (by decide) rfl (fun ls hl => ?_)
  refine lv_iload hx hb dX6_mayHave_202 (lv_at hl 6 rfl) ?_
  refine lv_iload hx hb dX6_mayHave_204 (lv_at hl 8 rfl) ?_
  refine lv_if_eq (tgt := 213) hx hb dX6_mayHave_206 (by decide) (fun c81 => ?_) (fun c81 => ?_)
  · have hf := it_e hf c81
    refine lv_iconst (v := 0) hx hb dX6_mayHave_213 (by decide) ?_
    exact b_X6_mayHave_214 X h60 v1 v2 v3 v4 s0 v7 v5 0 σ _ _ _ hf hW (lv_sub hl [1, 2, 3, 4, 5, 0, 7] rfl)
  · have hf := ie_e hf c81
    refine lv_iconst (v := 1) hx hb dX6_mayHave_209 (by decide) ?_
    refine lv_goto (tgt := 214) hx hb dX6_mayHave_210 (by decide) ?_
    exact b_X6_mayHave_214 X h60 v1 v2 v3 v4 s0 v7 v5 1 σ _ _ _ hf hW (lv_sub hl [1, 2, 3, 4, 5, 0, 7] rfl)
noncomputable def f_X6_mayHave_198 (k60 : Int32 → Int32 → Int32 → Int32 → Int32 → Int32 → Int32 → St → Option (Int32 × St)) (v1 : Int32) (v2 : Int32) (v3 : Int32) (v4 : Int32) (v5 : Int32) (v6 : Int32) (v7 : Int32) (v8 : Int32) (σ : St) : Option (Int32 × St) := f_X6_mayHave_200 k60 v1 v2 v3 v4 v5 v7 v8 v6 σ
set_option maxHeartbeats 4000000 in
set_option maxRecDepth 100000 in
theorem b_X6_mayHave_198 {k60 : Int32 → Int32 → Int32 → Int32 → Int32 → Int32 → Int32 → St → Option (Int32 × St)} (X : Cx RX6 wsX6_mayHave cX6_mayHave 11 (some .int) D cA ad SM p s m args meth c) (h60 : ∀ (w0 : Int32) (w1 : Int32) (w2 : Int32) (w3 : Int32) (w4 : Int32) (w5 : Int32) (w6 : Int32) (σ : St) (H : Heap) (locs : List Loc) (ls : Array Slot), k60 w0 w1 w2 w3 w4 w5 w6 σ = some r → Rn D cA ad SM s.heap σ H locs → lv_has ls 11 [(0, .ref (ad 0)), (1, .int w0), (2, .int w1), (3, .int w2), (4, .int w3), (5, .int w4), (6, .int w5), (7, .int w6)] → W p l e rm_X6_mayHave s m args below meth c H locs 0 0 (MQ below (Qi D cA ad SM r) args s 0 0 (Aw ad SM)) (F0 m 60 ls [])) : ∀ (v1 : Int32) (v2 : Int32) (v3 : Int32) (v4 : Int32) (v5 : Int32) (v6 : Int32) (v7 : Int32) (v8 : Int32) (σ : St) (H : Heap) (locs : List Loc) (ls : Array Slot), f_X6_mayHave_198 k60 v1 v2 v3 v4 v5 v6 v7 v8 σ = some r → Rn D cA ad SM s.heap σ H locs → lv_has ls 11 [(0, .ref (ad 0)), (1, .int v1), (2, .int v2), (3, .int v3), (4, .int v4), (5, .int v5), (6, .int v6), (7, .int v7), (8, .int v8)] → W p l e rm_X6_mayHave s m args below meth c H locs 0 0 (MQ below (Qi D cA ad SM r) args s 0 0 (Aw ad SM)) (F0 m 198 ls []) := by
  obtain ⟨hx, hb, hml, hown, hts, hr, hlk, hK, hij⟩ := id X
  intro v1 v2 v3 v4 v5 v6 v7 v8 σ H locs ls hf hW hl
  rw [f_X6_mayHave_198] at hf
  refine lv_iload hx hb dX6_mayHave_198 (lv_at hl 6 rfl) ?_
  exact b_X6_mayHave_200 X h60 v1 v2 v3 v4 v5 v7 v8 v6 σ _ _ _ hf hW (lv_sub hl [0, 1, 2, 3, 4, 5, 7, 8] rfl)
noncomputable def f_X6_mayHave_60 (k223 : Int32 → Int32 → Int32 → St → Option (Int32 × St)) : Nat → Int32 → Int32 → Int32 → Int32 → Int32 → Int32 → Int32 → St → Option (Int32 × St)
  | 0, _, _, _, _, _, _, _, _ => none
  | n + 1, v1, v2, v3, v4, v5, v6, v7, σ => bnd (f_X6_power 8 v2) fun r11 => (if r11 ≤ v7 then k223 v4 v5 v6 σ else bnd (f_X6_empty σ 6) fun r13 => bnd (f_X6_cooksCode r13 v7 v2 v3) fun r14 => f_X6_mayHave_92 (fun (w71_0 : Int32) (w72_1 : Int32) (w73_2 : Int32) (w74_3 : Int32) (w75_4 : Int32) (w76_5 : Int32) (w77_6 : Int32) (w78_7 : Int32) (σ79 : St) => (if w78_7 = 0 then f_X6_mayHave_198 (fun (w84_0 : Int32) (w85_1 : Int32) (w86_2 : Int32) (w87_3 : Int32) (w88_4 : Int32) (w89_5 : Int32) (w90_6 : Int32) (σ91 : St) => f_X6_mayHave_60 k223 n w84_0 w85_1 w86_2 w87_3 w88_4 w89_5 w90_6 σ91) w71_0 w72_1 w73_2 w74_3 w75_4 w76_5 w77_6 w78_7 σ79 else (if w75_4 = 0 then bnd (f_X6_digitsOf w77_6 w72_1) fun r101 => f_X6_mayHave_200 (fun (w102_0 : Int32) (w103_1 : Int32) (w104_2 : Int32) (w105_3 : Int32) (w106_4 : Int32) (w107_5 : Int32) (w108_6 : Int32) (σ109 : St) => f_X6_mayHave_60 k223 n w102_0 w103_1 w104_2 w105_3 w106_4 w107_5 w108_6 σ109) w71_0 w72_1 w73_2 w74_3 w75_4 w77_6 w78_7 r101 σ79 else f_X6_mayHave_198 (fun (w93_0 : Int32) (w94_1 : Int32) (w95_2 : Int32) (w96_3 : Int32) (w97_4 : Int32) (w98_5 : Int32) (w99_6 : Int32) (σ100 : St) => f_X6_mayHave_60 k223 n w93_0 w94_1 w95_2 w96_3 w97_4 w98_5 w99_6 σ100) w71_0 w72_1 w73_2 w74_3 w75_4 w76_5 w77_6 w78_7 σ79))) fu v1 v2 v3 v4 v5 v6 v7 1 0 r14.2)
set_option maxHeartbeats 4000000 in
set_option maxRecDepth 100000 in
theorem b_X6_mayHave_60 {k223 : Int32 → Int32 → Int32 → St → Option (Int32 × St)} (X : Cx RX6 wsX6_mayHave cX6_mayHave 11 (some .int) D cA ad SM p s m args meth c) (h223 : ∀ (w0 : Int32) (w1 : Int32) (w2 : Int32) (σ : St) (H : Heap) (locs : List Loc) (ls : Array Slot), k223 w0 w1 w2 σ = some r → Rn D cA ad SM s.heap σ H locs → lv_has ls 11 [(4, .int w0), (5, .int w1), (6, .int w2)] → W p l e rm_X6_mayHave s m args below meth c H locs 0 0 (MQ below (Qi D cA ad SM r) args s 0 0 (Aw ad SM)) (F0 m 223 ls [])) : ∀ (n : Nat) (v1 : Int32) (v2 : Int32) (v3 : Int32) (v4 : Int32) (v5 : Int32) (v6 : Int32) (v7 : Int32) (σ : St) (H : Heap) (locs : List Loc) (ls : Array Slot), f_X6_mayHave_60 k223 n v1 v2 v3 v4 v5 v6 v7 σ = some r → Rn D cA ad SM s.heap σ H locs → lv_has ls 11 [(0, .ref (ad 0)), (1, .int v1), (2, .int v2), (3, .int v3), (4, .int v4), (5, .int v5), (6, .int v6), (7, .int v7)] → W p l e rm_X6_mayHave s m args below meth c H locs 0 0 (MQ below (Qi D cA ad SM r) args s 0 0 (Aw ad SM)) (F0 m 60 ls []) := by
  obtain ⟨hx, hb, hml, hown, hts, hr, hlk, hK, hij⟩ := id X
  intro n
  induction n with
  | zero =>
    intro v1 v2 v3 v4 v5 v6 v7 σ H locs ls hf
    exact nomatch (show (none : Option (Int32 × St)) = some r from hf)
  | succ n ih =>
    intro v1 v2 v3 v4 v5 v6 v7 σ H locs ls hf hW hl
    rw [f_X6_mayHave_60] at hf
    refine lv_iload hx hb dX6_mayHave_60 (lv_at hl 7 rfl) ?_
    refine lv_bipush (v := 8) hx hb dX6_mayHave_62 (by decide) ?_
    refine lv_iload_n hx hb dX6_mayHave_64 rfl (lv_at hl 2 rfl) ?_
    obtain ⟨r11, z11, hf⟩ := bnd_e hf
    refine r_cSiR X hW (c_X6_power l D cA ad hij σ 8 v2 r11 z11) gX6_mayHave_X6_power rfl ⟨rfl, rfl⟩ hd_X6_power ⟨Nat.le_of_ble_eq_true rfl, Nat.le_of_ble_eq_true rfl⟩ rfl (Nat.le_of_ble_eq_true rfl) hl.1 dX6_mayHave_65 (fun H locs hW => ?_)
    refine lv_icmp_ge (tgt := 223) hx hb dX6_mayHave_68 (by decide) (fun c12 => ?_) (fun c12 => ?_)
    · have hf := it_e hf c12
      exact h223 v4 v5 v6 σ _ _ _ hf hW (lv_sub hl [4, 5, 6] rfl)
    · have hf := ie_e hf c12
      refine lv_aload_n hx hb dX6_mayHave_71 rfl (lv_at hl 0 rfl) ?_
      refine lv_bipush (v := 6) hx hb dX6_mayHave_72 (by decide) ?_
      obtain ⟨r13, z13, hf⟩ := bnd_e hf
      refine r_cVv X hW kM_0 iM_0 rfl (c_X6_empty l D cA ad hij σ 6 r13 z13) gX6_mayHave_X6_empty rfl ⟨rfl, rfl⟩ hd_X6_empty ⟨Nat.le_of_ble_eq_true rfl, Nat.le_of_ble_eq_true rfl⟩ rfl (Nat.le_of_ble_eq_true rfl) hl.1 dX6_mayHave_74 (fun H locs hW => ?_)
      refine lv_aload_n hx hb dX6_mayHave_77 rfl (lv_at hl 0 rfl) ?_
      refine lv_iload hx hb dX6_mayHave_78 (lv_at hl 7 rfl) ?_
      refine lv_iload_n hx hb dX6_mayHave_80 rfl (lv_at hl 2 rfl) ?_
      refine lv_iload_n hx hb dX6_mayHave_81 rfl (lv_at hl 3 rfl) ?_
      obtain ⟨r14, z14, hf⟩ := bnd_e hf
      refine r_cVi X hW kM_0 iM_0 rfl (c_X6_cooksCode l D cA ad hij r13 v7 v2 v3 r14 z14) gX6_mayHave_X6_cooksCode rfl ⟨rfl, rfl⟩ hd_X6_cooksCode ⟨Nat.le_of_ble_eq_true rfl, Nat.le_of_ble_eq_true rfl⟩ rfl (Nat.le_of_ble_eq_true rfl) hl.1 dX6_mayHave_82 (fun H locs hW => ?_)
      refine lv_pop hx hb dX6_mayHave_85 rfl ?_
      refine lv_iconst (v := 1) hx hb dX6_mayHave_86 (by decide) ?_
      refine lv_istore (lv' := [(8, .int 1), (0, .ref (ad 0)), (1, .int v1), (2, .int v2), (3, .int v3), (4, .int v4), (5, .int v5), (6, .int v6), (7, .int v7)]) hx hb dX6_mayHave_87 hl (by decide) rfl (fun ls hl => ?_)
      refine lv_iconst (v := 0) hx hb dX6_mayHave_89 (by decide) ?_
      refine lv_istore (lv' := [(9, .int 0), (8, .int 1), (0, .ref (ad 0)), (1, .int v1), (2, .int v2), (3, .int v3), (4, .int v4), (5, .int v5), (6, .int v6), (7, .int v7)]) hx hb dX6_mayHave_90 hl (by decide) rfl (fun ls hl => ?_)
      refine b_X6_mayHave_92 X (fun w71_0 w72_1 w73_2 w74_3 w75_4 w76_5 w77_6 w78_7 σ79 H locs ls hf hW hl => ?_) fu v1 v2 v3 v4 v5 v6 v7 1 0 r14.2 _ _ _ hf hW (lv_sub hl [2, 3, 4, 5, 6, 7, 8, 9, 1, 0] rfl)
      · refine lv_iload hx hb dX6_mayHave_179 (lv_at hl 8 rfl) ?_
        refine lv_if_eq (tgt := 198) hx hb dX6_mayHave_181 (by decide) (fun c80 => ?_) (fun c80 => ?_)
        · have hf := it_e hf c80
          refine b_X6_mayHave_198 X (fun w84_0 w85_1 w86_2 w87_3 w88_4 w89_5 w90_6 σ91 H locs ls hf hW hl => ?_) w71_0 w72_1 w73_2 w74_3 w75_4 w76_5 w77_6 w78_7 σ79 _ _ _ hf hW (lv_sub hl [0, 1, 2, 3, 4, 5, 6, 7, 8] rfl)
          · exact ih w84_0 w85_1 w86_2 w87_3 w88_4 w89_5 w90_6 σ91 _ _ _ hf hW (lv_sub hl [0, 1, 2, 3, 4, 5, 6, 7] rfl)
        · have hf := ie_e hf c80
          refine lv_iload hx hb dX6_mayHave_184 (lv_at hl 5 rfl) ?_
          refine lv_if_ne (tgt := 198) hx hb dX6_mayHave_186 (by decide) (fun c92 => ?_) (fun c92 => ?_)
          · have hf := ie_e hf c92
            refine b_X6_mayHave_198 X (fun w93_0 w94_1 w95_2 w96_3 w97_4 w98_5 w99_6 σ100 H locs ls hf hW hl => ?_) w71_0 w72_1 w73_2 w74_3 w75_4 w76_5 w77_6 w78_7 σ79 _ _ _ hf hW (lv_sub hl [0, 1, 2, 3, 4, 5, 6, 7, 8] rfl)
            · exact ih w93_0 w94_1 w95_2 w96_3 w97_4 w98_5 w99_6 σ100 _ _ _ hf hW (lv_sub hl [0, 1, 2, 3, 4, 5, 6, 7] rfl)
          · have hf := it_e hf c92
            refine lv_iload hx hb dX6_mayHave_189 (lv_at hl 7 rfl) ?_
            refine lv_iload_n hx hb dX6_mayHave_191 rfl (lv_at hl 2 rfl) ?_
            obtain ⟨r101, z101, hf⟩ := bnd_e hf
            refine r_cSiR X hW (c_X6_digitsOf l D cA ad hij σ79 w77_6 w72_1 r101 z101) gX6_mayHave_X6_digitsOf rfl ⟨rfl, rfl⟩ hd_X6_digitsOf ⟨Nat.le_of_ble_eq_true rfl, Nat.le_of_ble_eq_true rfl⟩ rfl (Nat.le_of_ble_eq_true rfl) hl.1 dX6_mayHave_192 (fun H locs hW => ?_)
            refine lv_goto (tgt := 200) hx hb dX6_mayHave_195 (by decide) ?_
            refine b_X6_mayHave_200 X (fun w102_0 w103_1 w104_2 w105_3 w106_4 w107_5 w108_6 σ109 H locs ls hf hW hl => ?_) w71_0 w72_1 w73_2 w74_3 w75_4 w77_6 w78_7 r101 σ79 _ _ _ hf hW (lv_sub hl [0, 1, 2, 3, 4, 5, 7, 8] rfl)
            · exact ih w102_0 w103_1 w104_2 w105_3 w106_4 w107_5 w108_6 σ109 _ _ _ hf hW (lv_sub hl [0, 1, 2, 3, 4, 5, 6, 7] rfl)
end S_X6_mayHave
noncomputable def f_X6_mayHave (σ : St) (a1 : Int32) (a2 : Int32) (a3 : Int32) (a4 : Int32) : Option (Int32 × St) := nw (uI σ 0 5 0) fun σ1 => bnd (f_X6_isPot σ1 a1) fun r2 => (if r2 = 0 then some ((-1), σ1) else bnd (f_X6_in a2.toInt64 1 3) fun r4 => (if r4 = 0 then some ((-1), σ1) else bnd (f_X6_in a3.toInt64 0 9) fun r6 => (if r6 = 0 then some ((-1), σ1) else bnd (f_X6_in a4.toInt64 0 1) fun r8 => (if r8 = 0 then some ((-1), σ1) else nw ((-4) : Int32) fun v110 => f_X6_mayHave_60 (fun (w110_0 : Int32) (w111_1 : Int32) (w112_2 : Int32) (σ113 : St) => (if w110_0 = 0 then some (w111_1, σ113) else some (w112_2, σ113))) fu a1 a2 a3 a4 0 v110 0 σ1))))
set_option maxHeartbeats 4000000 in
set_option maxRecDepth 100000 in
theorem c_X6_mayHave (l : Launch) (D : va_G) (cA : Nat → ClassId) (ad : Nat → Nat) (hij : Ij ad SM) (σ : St) (a1 : Int32) (a2 : Int32) (a3 : Int32) (a4 : Int32) (r : Int32 × St) (hf : f_X6_mayHave σ a1 a2 a3 a4 = some r) : Met l yX6_mayHave wsX6_mayHave rm_X6_mayHave (PC D cA ad SM [.ref (ad 0), .int a1, .int a2, .int a3, .int a4] σ) (Qi D cA ad SM r) 0 0 (Aw ad SM) := by
  rw [f_X6_mayHave] at hf
  refine k_head (own := RX6) (ws := wsX6_mayHave) (cc := cX6_mayHave) (nL := 11) (ret := (some .int)) pn_X6 rfl rfl hij (Nat.le_of_ble_eq_true rfl) (fun p e s m below meth c ls X hW hl => ?_)
  have hl : lv_has ls 11 [(0, .ref (ad 0)), (1, .int a1), (2, .int a2), (3, .int a3), (4, .int a4)] := hl
  obtain ⟨hx, hb, hml, hown, hts, hr, hlk, hK, hij⟩ := id X
  refine lv_aload_n hx hb dX6_mayHave_0 rfl (lv_at hl 0 rfl) ?_
  refine lv_iconst (v := 0) hx hb dX6_mayHave_1 (by decide) ?_
  obtain ⟨σ1, e1, hf⟩ := nw_e hf
  refine put_6_5 X hW kM_0 iM_0 inX6_mayHave_6 (List.mem_of_getElem? (i := 1) rfl) e1 dX6_mayHave_2 (fun H locs hW => ?_)
  refine lv_aload_n hx hb dX6_mayHave_5 rfl (lv_at hl 0 rfl) ?_
  refine lv_iload_n hx hb dX6_mayHave_6 rfl (lv_at hl 1 rfl) ?_
  obtain ⟨r2, z2, hf⟩ := bnd_e hf
  refine r_cViR X hW kM_0 iM_0 rfl (c_X6_isPot l D cA ad hij σ1 a1 r2 z2) gX6_mayHave_X6_isPot rfl ⟨rfl, rfl⟩ hd_X6_isPot ⟨Nat.le_of_ble_eq_true rfl, Nat.le_of_ble_eq_true rfl⟩ rfl (Nat.le_of_ble_eq_true rfl) hl.1 dX6_mayHave_7 (fun H locs hW => ?_)
  refine lv_if_eq (tgt := 48) hx hb dX6_mayHave_10 (by decide) (fun c3 => ?_) (fun c3 => ?_)
  · have hf := it_e hf c3
    refine lv_iconst (v := (-1)) hx hb dX6_mayHave_48 (by decide) ?_
    exact r_iret X hW rfl rfl hf dX6_mayHave_49
  · have hf := ie_e hf c3
    refine lv_iload_n hx hb dX6_mayHave_13 rfl (lv_at hl 2 rfl) ?_
    refine lv_i2l hx hb dX6_mayHave_14 rfl ?_
    refine lv_lconst (v := 1) hx hb dX6_mayHave_15 (by decide) ?_
    refine lv_ldc2 (v := 3) hx hb hown (hts _ (List.mem_of_getElem? (i := 2) rfl)) dX6_mayHave_16 ?_
    obtain ⟨r4, z4, hf⟩ := bnd_e hf
    refine r_cSiR X hW (c_X6_in l D cA ad hij σ1 a2.toInt64 1 3 r4 z4) gX6_mayHave_X6_in rfl ⟨rfl, rfl⟩ hd_X6_in ⟨Nat.le_of_ble_eq_true rfl, Nat.le_of_ble_eq_true rfl⟩ rfl (Nat.le_of_ble_eq_true rfl) hl.1 dX6_mayHave_19 (fun H locs hW => ?_)
    refine lv_if_eq (tgt := 48) hx hb dX6_mayHave_22 (by decide) (fun c5 => ?_) (fun c5 => ?_)
    · have hf := it_e hf c5
      refine lv_iconst (v := (-1)) hx hb dX6_mayHave_48 (by decide) ?_
      exact r_iret X hW rfl rfl hf dX6_mayHave_49
    · have hf := ie_e hf c5
      refine lv_iload_n hx hb dX6_mayHave_25 rfl (lv_at hl 3 rfl) ?_
      refine lv_i2l hx hb dX6_mayHave_26 rfl ?_
      refine lv_lconst (v := 0) hx hb dX6_mayHave_27 (by decide) ?_
      refine lv_ldc2 (v := 9) hx hb hown (hts _ (List.mem_of_getElem? (i := 3) rfl)) dX6_mayHave_28 ?_
      obtain ⟨r6, z6, hf⟩ := bnd_e hf
      refine r_cSiR X hW (c_X6_in l D cA ad hij σ1 a3.toInt64 0 9 r6 z6) gX6_mayHave_X6_in rfl ⟨rfl, rfl⟩ hd_X6_in ⟨Nat.le_of_ble_eq_true rfl, Nat.le_of_ble_eq_true rfl⟩ rfl (Nat.le_of_ble_eq_true rfl) hl.1 dX6_mayHave_31 (fun H locs hW => ?_)
      refine lv_if_eq (tgt := 48) hx hb dX6_mayHave_34 (by decide) (fun c7 => ?_) (fun c7 => ?_)
      · have hf := it_e hf c7
        refine lv_iconst (v := (-1)) hx hb dX6_mayHave_48 (by decide) ?_
        exact r_iret X hW rfl rfl hf dX6_mayHave_49
      · have hf := ie_e hf c7
        refine lv_iload hx hb dX6_mayHave_37 (lv_at hl 4 rfl) ?_
        refine lv_i2l hx hb dX6_mayHave_39 rfl ?_
        refine lv_lconst (v := 0) hx hb dX6_mayHave_40 (by decide) ?_
        refine lv_lconst (v := 1) hx hb dX6_mayHave_41 (by decide) ?_
        obtain ⟨r8, z8, hf⟩ := bnd_e hf
        refine r_cSiR X hW (c_X6_in l D cA ad hij σ1 a4.toInt64 0 1 r8 z8) gX6_mayHave_X6_in rfl ⟨rfl, rfl⟩ hd_X6_in ⟨Nat.le_of_ble_eq_true rfl, Nat.le_of_ble_eq_true rfl⟩ rfl (Nat.le_of_ble_eq_true rfl) hl.1 dX6_mayHave_42 (fun H locs hW => ?_)
        refine lv_if_ne (tgt := 50) hx hb dX6_mayHave_45 (by decide) (fun c9 => ?_) (fun c9 => ?_)
        · have hf := ie_e hf c9
          refine lv_iconst (v := 0) hx hb dX6_mayHave_50 (by decide) ?_
          refine lv_istore (lv' := [(5, .int 0), (0, .ref (ad 0)), (1, .int a1), (2, .int a2), (3, .int a3), (4, .int a4)]) hx hb dX6_mayHave_51 hl (by decide) rfl (fun ls hl => ?_)
          refine lv_bipush (v := (-4)) hx hb dX6_mayHave_53 (by decide) ?_
          obtain ⟨v110, e10, hf⟩ := nw_e hf
          refine tI _ e10 ?_
          refine lv_istore (lv' := [(6, .int v110), (5, .int 0), (0, .ref (ad 0)), (1, .int a1), (2, .int a2), (3, .int a3), (4, .int a4)]) hx hb dX6_mayHave_55 hl (by decide) rfl (fun ls hl => ?_)
          refine lv_iconst (v := 0) hx hb dX6_mayHave_57 (by decide) ?_
          refine lv_istore (lv' := [(7, .int 0), (6, .int v110), (5, .int 0), (0, .ref (ad 0)), (1, .int a1), (2, .int a2), (3, .int a3), (4, .int a4)]) hx hb dX6_mayHave_58 hl (by decide) rfl (fun ls hl => ?_)
          refine b_X6_mayHave_60 X (fun w110_0 w111_1 w112_2 σ113 H locs ls hf hW hl => ?_) fu a1 a2 a3 a4 0 v110 0 σ1 _ _ _ hf hW (lv_sub hl [3, 4, 5, 6, 7, 2, 1, 0] rfl)
          · refine lv_iload hx hb dX6_mayHave_223 (lv_at hl 0 rfl) ?_
            refine lv_if_ne (tgt := 233) hx hb dX6_mayHave_225 (by decide) (fun c114 => ?_) (fun c114 => ?_)
            · have hf := ie_e hf c114
              refine lv_iload hx hb dX6_mayHave_233 (lv_at hl 2 rfl) ?_
              exact r_iret X hW rfl rfl hf dX6_mayHave_235
            · have hf := it_e hf c114
              refine lv_iload hx hb dX6_mayHave_228 (lv_at hl 1 rfl) ?_
              refine lv_goto (tgt := 235) hx hb dX6_mayHave_230 (by decide) ?_
              exact r_iret X hW rfl rfl hf dX6_mayHave_235
        · have hf := it_e hf c9
          refine lv_iconst (v := (-1)) hx hb dX6_mayHave_48 (by decide) ?_
          exact r_iret X hW rfl rfl hf dX6_mayHave_49

abbrev rm_X6_alikeIn : Room := { frames := 2, cells := 0, slots := 0, locals := 48 }
theorem hd_X6_alikeIn : yX6_alikeIn.cls = RX6 ∧ yX6_alikeIn.cls ≠ "java/lang/invoke/MethodHandle" ∧ yX6_alikeIn.cls ≠ "java/lang/invoke/VarHandle" ∧ (parseMethodDescriptor yX6_alikeIn.desc).map (fun d => d.parameters.length) = some 1 := by decide +kernel
theorem inX6_alikeIn_6 : ∀ w ∈ wsX60, w ∈ wsX6_alikeIn := fun _ h => List.mem_cons_of_mem _ (List.mem_append_right _ h)
section S_X6_alikeIn
variable {p : Program} {l : Launch} {e : Env} {s : State} {m : MethodId} {args : Array Value} {below : List Frame} {meth : Method} {c : Code} {D : va_G} {cA : Nat → ClassId} {ad : Nat → Nat} {r : Int32}
noncomputable def f_X6_alikeIn_50 (σ : St) (k18 : Int32 → Int32 → Int32 → Int32 → Int32 → Option (Int32)) (v1 : Int32) (v2 : Int32) (v3 : Int32) (v5 : Int32) (s0 : Int32) (s1 : Int32) : Option (Int32) := nw (s0 + s1 : Int32) fun v106 => nw (v5 + 1 : Int32) fun v107 => k18 v1 v2 v3 v106 v107
set_option maxHeartbeats 4000000 in
set_option maxRecDepth 100000 in
theorem b_X6_alikeIn_50 {σ : St} {k18 : Int32 → Int32 → Int32 → Int32 → Int32 → Option (Int32)} (X : Cx RX6 wsX6_alikeIn cX6_alikeIn 6 (some .int) D cA ad SM p s m args meth c) (h18 : ∀ (w0 : Int32) (w1 : Int32) (w2 : Int32) (w3 : Int32) (w4 : Int32) (H : Heap) (locs : List Loc) (ls : Array Slot), k18 w0 w1 w2 w3 w4 = some r → Rn D cA ad SM s.heap σ H locs → lv_has ls 6 [(0, .ref (ad 0)), (1, .int w0), (2, .int w1), (3, .int w2), (4, .int w3), (5, .int w4)] → W p l e rm_X6_alikeIn s m args below meth c H locs 0 0 (MQ below (Qi D cA ad SM (r, σ)) args s 0 0 (Aw ad SM)) (F0 m 18 ls [])) : ∀ (v1 : Int32) (v2 : Int32) (v3 : Int32) (v5 : Int32) (s0 : Int32) (s1 : Int32) (H : Heap) (locs : List Loc) (ls : Array Slot), f_X6_alikeIn_50 σ k18 v1 v2 v3 v5 s0 s1 = some r → Rn D cA ad SM s.heap σ H locs → lv_has ls 6 [(0, .ref (ad 0)), (1, .int v1), (2, .int v2), (3, .int v3), (5, .int v5)] → W p l e rm_X6_alikeIn s m args below meth c H locs 0 0 (MQ below (Qi D cA ad SM (r, σ)) args s 0 0 (Aw ad SM)) (F0 m 50 ls [.int s1, .int s0]) := by
  obtain ⟨hx, hb, hml, hown, hts, hr, hlk, hK, hij⟩ := id X
  intro v1 v2 v3 v5 s0 s1 H locs ls hf hW hl
  rw [f_X6_alikeIn_50] at hf
  refine lv_iadd hx hb dX6_alikeIn_50 ?_
  obtain ⟨v106, e6, hf⟩ := nw_e hf
  refine tI _ e6 ?_
  refine lv_istore (lv' := [(4, .int v106), (0, .ref (ad 0)), (1, .int v1), (2, .int v2), (3, .int v3), (5, .int v5)]) hx hb dX6_alikeIn_51 hl (by decide) rfl (fun ls hl => ?_)
  obtain ⟨v107, e7, hf⟩ := nw_e hf
  refine lv_iinc (v := v107) (lv' := [(5, .int v107), (4, .int v106), (0, .ref (ad 0)), (1, .int v1), (2, .int v2), (3, .int v3)]) hx hb dX6_alikeIn_53 hl (k := 5) rfl (by rw [e7]; rfl) (by decide) rfl (fun ls hl => ?_)
  refine lv_goto (tgt := 18) hx hb dX6_alikeIn_56 (by decide) ?_
  exact h18 v1 v2 v3 v106 v107 _ _ _ hf hW (lv_sub hl [2, 3, 4, 5, 1, 0] rfl)
noncomputable def f_X6_alikeIn_18 (σ : St) (k59 : Int32 → Int32 → Int32 → Int32 → Option (Int32)) : Nat → Int32 → Int32 → Int32 → Int32 → Int32 → Option (Int32)
  | 0, _, _, _, _, _ => none
  | n + 1, v1, v2, v3, v4, v5 => (if (σ.1 0 0) ≤ v5 then k59 v1 v2 v3 v4 else bnd (f_X6_portionOf σ v3 v1) fun r3 => bnd (f_X6_portionOf σ v5 v1) fun r4 => (if r3 = r4 then f_X6_alikeIn_50 σ (fun (w13_0 : Int32) (w14_1 : Int32) (w15_2 : Int32) (w16_3 : Int32) (w17_4 : Int32) => f_X6_alikeIn_18 σ k59 n w13_0 w14_1 w15_2 w16_3 w17_4) v1 v2 v3 v5 v4 1 else f_X6_alikeIn_50 σ (fun (w8_0 : Int32) (w9_1 : Int32) (w10_2 : Int32) (w11_3 : Int32) (w12_4 : Int32) => f_X6_alikeIn_18 σ k59 n w8_0 w9_1 w10_2 w11_3 w12_4) v1 v2 v3 v5 v4 0))
set_option maxHeartbeats 4000000 in
set_option maxRecDepth 100000 in
theorem b_X6_alikeIn_18 {σ : St} {k59 : Int32 → Int32 → Int32 → Int32 → Option (Int32)} (X : Cx RX6 wsX6_alikeIn cX6_alikeIn 6 (some .int) D cA ad SM p s m args meth c) (h59 : ∀ (w0 : Int32) (w1 : Int32) (w2 : Int32) (w3 : Int32) (H : Heap) (locs : List Loc) (ls : Array Slot), k59 w0 w1 w2 w3 = some r → Rn D cA ad SM s.heap σ H locs → lv_has ls 6 [(0, .ref (ad 0)), (1, .int w0), (2, .int w1), (3, .int w2), (4, .int w3)] → W p l e rm_X6_alikeIn s m args below meth c H locs 0 0 (MQ below (Qi D cA ad SM (r, σ)) args s 0 0 (Aw ad SM)) (F0 m 59 ls [])) : ∀ (n : Nat) (v1 : Int32) (v2 : Int32) (v3 : Int32) (v4 : Int32) (v5 : Int32) (H : Heap) (locs : List Loc) (ls : Array Slot), f_X6_alikeIn_18 σ k59 n v1 v2 v3 v4 v5 = some r → Rn D cA ad SM s.heap σ H locs → lv_has ls 6 [(0, .ref (ad 0)), (1, .int v1), (2, .int v2), (3, .int v3), (4, .int v4), (5, .int v5)] → W p l e rm_X6_alikeIn s m args below meth c H locs 0 0 (MQ below (Qi D cA ad SM (r, σ)) args s 0 0 (Aw ad SM)) (F0 m 18 ls []) := by
  obtain ⟨hx, hb, hml, hown, hts, hr, hlk, hK, hij⟩ := id X
  intro n
  induction n with
  | zero =>
    intro v1 v2 v3 v4 v5 H locs ls hf
    exact nomatch (show (none : Option (Int32)) = some r from hf)
  | succ n ih =>
    intro v1 v2 v3 v4 v5 H locs ls hf hW hl
    rw [f_X6_alikeIn_18] at hf
    refine lv_iload hx hb dX6_alikeIn_18 (lv_at hl 5 rfl) ?_
    refine lv_aload_n hx hb dX6_alikeIn_20 rfl (lv_at hl 0 rfl) ?_
    refine get_6_0 X hW kM_0 iM_0 inX6_alikeIn_6 (List.mem_of_getElem? (i := 1) rfl) dX6_alikeIn_21 ?_
    refine lv_icmp_ge (tgt := 59) hx hb dX6_alikeIn_24 (by decide) (fun c2 => ?_) (fun c2 => ?_)
    · have hf := it_e hf c2
      exact h59 v1 v2 v3 v4 _ _ _ hf hW (lv_sub hl [0, 1, 2, 3, 4] rfl)
    · have hf := ie_e hf c2
      refine lv_iload hx hb dX6_alikeIn_27 (lv_at hl 4 rfl) ?_
      refine lv_aload_n hx hb dX6_alikeIn_29 rfl (lv_at hl 0 rfl) ?_
      refine lv_iload_n hx hb dX6_alikeIn_30 rfl (lv_at hl 3 rfl) ?_
      refine lv_iload_n hx hb dX6_alikeIn_31 rfl (lv_at hl 1 rfl) ?_
      obtain ⟨r3, z3, hf⟩ := bnd_e hf
      refine r_cViR X hW kM_0 iM_0 rfl (c_X6_portionOf l D cA ad hij σ v3 v1 r3 z3) gX6_alikeIn_X6_portionOf rfl ⟨rfl, rfl⟩ hd_X6_portionOf ⟨Nat.le_of_ble_eq_true rfl, Nat.le_of_ble_eq_true rfl⟩ rfl (Nat.le_of_ble_eq_true rfl) hl.1 dX6_alikeIn_32 (fun H locs hW => ?_)
      refine lv_aload_n hx hb dX6_alikeIn_35 rfl (lv_at hl 0 rfl) ?_
      refine lv_iload hx hb dX6_alikeIn_36 (lv_at hl 5 rfl) ?_
      refine lv_iload_n hx hb dX6_alikeIn_38 rfl (lv_at hl 1 rfl) ?_
      obtain ⟨r4, z4, hf⟩ := bnd_e hf
      refine r_cViR X hW kM_0 iM_0 rfl (c_X6_portionOf l D cA ad hij σ v5 v1 r4 z4) gX6_alikeIn_X6_portionOf rfl ⟨rfl, rfl⟩ hd_X6_portionOf ⟨Nat.le_of_ble_eq_true rfl, Nat.le_of_ble_eq_true rfl⟩ rfl (Nat.le_of_ble_eq_true rfl) hl.1 dX6_alikeIn_39 (fun H locs hW => ?_)
      refine lv_icmp_ne (tgt := 49) hx hb dX6_alikeIn_42 (by decide) (fun c5 => ?_) (fun c5 => ?_)
      · have hf := ie_e hf c5
        refine lv_iconst (v := 0) hx hb dX6_alikeIn_49 (by decide) ?_
        refine b_X6_alikeIn_50 X (fun w8_0 w9_1 w10_2 w11_3 w12_4 H locs ls hf hW hl => ?_) v1 v2 v3 v5 v4 0 _ _ _ hf hW (lv_sub hl [0, 1, 2, 3, 5] rfl)
        · exact ih w8_0 w9_1 w10_2 w11_3 w12_4 _ _ _ hf hW (lv_sub hl [0, 1, 2, 3, 4, 5] rfl)
      · have hf := it_e hf c5
        refine lv_iconst (v := 1) hx hb dX6_alikeIn_45 (by decide) ?_
        refine lv_goto (tgt := 50) hx hb dX6_alikeIn_46 (by decide) ?_
        refine b_X6_alikeIn_50 X (fun w13_0 w14_1 w15_2 w16_3 w17_4 H locs ls hf hW hl => ?_) v1 v2 v3 v5 v4 1 _ _ _ hf hW (lv_sub hl [0, 1, 2, 3, 5] rfl)
        · exact ih w13_0 w14_1 w15_2 w16_3 w17_4 _ _ _ hf hW (lv_sub hl [0, 1, 2, 3, 4, 5] rfl)
noncomputable def f_X6_alikeIn_71 (σ : St) (k4 : Int32 → Int32 → Int32 → Option (Int32)) (v1 : Int32) (v3 : Int32) (s0 : Int32) : Option (Int32) := nw (v3 + 1 : Int32) fun v123 => k4 v1 s0 v123
set_option maxHeartbeats 4000000 in
set_option maxRecDepth 100000 in
theorem b_X6_alikeIn_71 {σ : St} {k4 : Int32 → Int32 → Int32 → Option (Int32)} (X : Cx RX6 wsX6_alikeIn cX6_alikeIn 6 (some .int) D cA ad SM p s m args meth c) (h4 : ∀ (w0 : Int32) (w1 : Int32) (w2 : Int32) (H : Heap) (locs : List Loc) (ls : Array Slot), k4 w0 w1 w2 = some r → Rn D cA ad SM s.heap σ H locs → lv_has ls 6 [(0, .ref (ad 0)), (1, .int w0), (2, .int w1), (3, .int w2)] → W p l e rm_X6_alikeIn s m args below meth c H locs 0 0 (MQ below (Qi D cA ad SM (r, σ)) args s 0 0 (Aw ad SM)) (F0 m 4 ls [])) : ∀ (v1 : Int32) (v3 : Int32) (s0 : Int32) (H : Heap) (locs : List Loc) (ls : Array Slot), f_X6_alikeIn_71 σ k4 v1 v3 s0 = some r → Rn D cA ad SM s.heap σ H locs → lv_has ls 6 [(0, .ref (ad 0)), (1, .int v1), (3, .int v3)] → W p l e rm_X6_alikeIn s m args below meth c H locs 0 0 (MQ below (Qi D cA ad SM (r, σ)) args s 0 0 (Aw ad SM)) (F0 m 71 ls [.int s0]) := by
  obtain ⟨hx, hb, hml, hown, hts, hr, hlk, hK, hij⟩ := id X
  intro v1 v3 s0 H locs ls hf hW hl
  rw [f_X6_alikeIn_71] at hf
  refine lv_istore_n (lv' := [(2, .int s0), (0, .ref (ad 0)), (1, .int v1), (3, .int v3)]) hx hb dX6_alikeIn_71 rfl hl (by decide) rfl (fun ls hl => ?_)
  obtain ⟨v123, e23, hf⟩ := nw_e hf
  refine lv_iinc (v := v123) (lv' := [(3, .int v123), (2, .int s0), (0, .ref (ad 0)), (1, .int v1)]) hx hb dX6_alikeIn_72 hl (k := 3) rfl (by rw [e23]; rfl) (by decide) rfl (fun ls hl => ?_)
  refine lv_goto (tgt := 4) hx hb dX6_alikeIn_75 (by decide) ?_
  exact h4 v1 s0 v123 _ _ _ hf hW (lv_sub hl [2, 3, 1, 0] rfl)
noncomputable def f_X6_alikeIn_4 (σ : St) (k78 : Int32 → Option (Int32)) : Nat → Int32 → Int32 → Int32 → Option (Int32)
  | 0, _, _, _ => none
  | n + 1, v1, v2, v3 => (if (σ.1 0 0) ≤ v3 then k78 v2 else f_X6_alikeIn_18 σ (fun (w18_0 : Int32) (w19_1 : Int32) (w20_2 : Int32) (w21_3 : Int32) => (if w21_3 ≤ w19_1 then f_X6_alikeIn_71 σ (fun (w24_0 : Int32) (w25_1 : Int32) (w26_2 : Int32) => f_X6_alikeIn_4 σ k78 n w24_0 w25_1 w26_2) w18_0 w20_2 w19_1 else f_X6_alikeIn_71 σ (fun (w27_0 : Int32) (w28_1 : Int32) (w29_2 : Int32) => f_X6_alikeIn_4 σ k78 n w27_0 w28_1 w29_2) w18_0 w20_2 w21_3)) fu v1 v2 v3 0 0)
set_option maxHeartbeats 4000000 in
set_option maxRecDepth 100000 in
theorem b_X6_alikeIn_4 {σ : St} {k78 : Int32 → Option (Int32)} (X : Cx RX6 wsX6_alikeIn cX6_alikeIn 6 (some .int) D cA ad SM p s m args meth c) (h78 : ∀ (w0 : Int32) (H : Heap) (locs : List Loc) (ls : Array Slot), k78 w0 = some r → Rn D cA ad SM s.heap σ H locs → lv_has ls 6 [(2, .int w0)] → W p l e rm_X6_alikeIn s m args below meth c H locs 0 0 (MQ below (Qi D cA ad SM (r, σ)) args s 0 0 (Aw ad SM)) (F0 m 78 ls [])) : ∀ (n : Nat) (v1 : Int32) (v2 : Int32) (v3 : Int32) (H : Heap) (locs : List Loc) (ls : Array Slot), f_X6_alikeIn_4 σ k78 n v1 v2 v3 = some r → Rn D cA ad SM s.heap σ H locs → lv_has ls 6 [(0, .ref (ad 0)), (1, .int v1), (2, .int v2), (3, .int v3)] → W p l e rm_X6_alikeIn s m args below meth c H locs 0 0 (MQ below (Qi D cA ad SM (r, σ)) args s 0 0 (Aw ad SM)) (F0 m 4 ls []) := by
  obtain ⟨hx, hb, hml, hown, hts, hr, hlk, hK, hij⟩ := id X
  intro n
  induction n with
  | zero =>
    intro v1 v2 v3 H locs ls hf
    exact nomatch (show (none : Option (Int32)) = some r from hf)
  | succ n ih =>
    intro v1 v2 v3 H locs ls hf hW hl
    rw [f_X6_alikeIn_4] at hf
    refine lv_iload_n hx hb dX6_alikeIn_4 rfl (lv_at hl 3 rfl) ?_
    refine lv_aload_n hx hb dX6_alikeIn_5 rfl (lv_at hl 0 rfl) ?_
    refine get_6_0 X hW kM_0 iM_0 inX6_alikeIn_6 (List.mem_of_getElem? (i := 1) rfl) dX6_alikeIn_6 ?_
    refine lv_icmp_ge (tgt := 78) hx hb dX6_alikeIn_9 (by decide) (fun c1 => ?_) (fun c1 => ?_)
    · have hf := it_e hf c1
      exact h78 v2 _ _ _ hf hW (lv_sub hl [2] rfl)
    · have hf := ie_e hf c1
      refine lv_iconst (v := 0) hx hb dX6_alikeIn_12 (by decide) ?_
      refine lv_istore (lv' := [(4, .int 0), (0, .ref (ad 0)), (1, .int v1), (2, .int v2), (3, .int v3)]) hx hb dX6_alikeIn_13 hl (by decide) rfl (fun ls hl => ?_)
      refine lv_iconst (v := 0) hx hb dX6_alikeIn_15 (by decide) ?_
      refine lv_istore (lv' := [(5, .int 0), (4, .int 0), (0, .ref (ad 0)), (1, .int v1), (2, .int v2), (3, .int v3)]) hx hb dX6_alikeIn_16 hl (by decide) rfl (fun ls hl => ?_)
      refine b_X6_alikeIn_18 X (fun w18_0 w19_1 w20_2 w21_3 H locs ls hf hW hl => ?_) fu v1 v2 v3 0 0 _ _ _ hf hW (lv_sub hl [2, 3, 4, 5, 1, 0] rfl)
      · refine lv_iload hx hb dX6_alikeIn_59 (lv_at hl 4 rfl) ?_
        refine lv_iload_n hx hb dX6_alikeIn_61 rfl (lv_at hl 2 rfl) ?_
        refine lv_icmp_le (tgt := 70) hx hb dX6_alikeIn_62 (by decide) (fun c22 => ?_) (fun c22 => ?_)
        · have hf := it_e hf c22
          refine lv_iload_n hx hb dX6_alikeIn_70 rfl (lv_at hl 2 rfl) ?_
          refine b_X6_alikeIn_71 X (fun w24_0 w25_1 w26_2 H locs ls hf hW hl => ?_) w18_0 w20_2 w19_1 _ _ _ hf hW (lv_sub hl [0, 1, 3] rfl)
          · exact ih w24_0 w25_1 w26_2 _ _ _ hf hW (lv_sub hl [0, 1, 2, 3] rfl)
        · have hf := ie_e hf c22
          refine lv_iload hx hb dX6_alikeIn_65 (lv_at hl 4 rfl) ?_
          refine lv_goto (tgt := 71) hx hb dX6_alikeIn_67 (by decide) ?_
          refine b_X6_alikeIn_71 X (fun w27_0 w28_1 w29_2 H locs ls hf hW hl => ?_) w18_0 w20_2 w21_3 _ _ _ hf hW (lv_sub hl [0, 1, 3] rfl)
          · exact ih w27_0 w28_1 w29_2 _ _ _ hf hW (lv_sub hl [0, 1, 2, 3] rfl)
end S_X6_alikeIn
noncomputable def f_X6_alikeIn (σ : St) (a1 : Int32) : Option (Int32) := f_X6_alikeIn_4 σ (fun (w30_0 : Int32) => some w30_0) fu a1 0 0
set_option maxHeartbeats 4000000 in
set_option maxRecDepth 100000 in
theorem c_X6_alikeIn (l : Launch) (D : va_G) (cA : Nat → ClassId) (ad : Nat → Nat) (hij : Ij ad SM) (σ : St) (a1 : Int32) (r : Int32) (hf : f_X6_alikeIn σ a1 = some r) : Met l yX6_alikeIn wsX6_alikeIn rm_X6_alikeIn (PC D cA ad SM [.ref (ad 0), .int a1] σ) (Qi D cA ad SM (r, σ)) 0 0 (Aw ad SM) := by
  rw [f_X6_alikeIn] at hf
  refine k_head (own := RX6) (ws := wsX6_alikeIn) (cc := cX6_alikeIn) (nL := 6) (ret := (some .int)) pn_X6 rfl rfl hij (Nat.le_of_ble_eq_true rfl) (fun p e s m below meth c ls X hW hl => ?_)
  have hl : lv_has ls 6 [(0, .ref (ad 0)), (1, .int a1)] := hl
  obtain ⟨hx, hb, hml, hown, hts, hr, hlk, hK, hij⟩ := id X
  refine lv_iconst (v := 0) hx hb dX6_alikeIn_0 (by decide) ?_
  refine lv_istore_n (lv' := [(2, .int 0), (0, .ref (ad 0)), (1, .int a1)]) hx hb dX6_alikeIn_1 rfl hl (by decide) rfl (fun ls hl => ?_)
  refine lv_iconst (v := 0) hx hb dX6_alikeIn_2 (by decide) ?_
  refine lv_istore_n (lv' := [(3, .int 0), (2, .int 0), (0, .ref (ad 0)), (1, .int a1)]) hx hb dX6_alikeIn_3 rfl hl (by decide) rfl (fun ls hl => ?_)
  refine b_X6_alikeIn_4 X (fun w30_0 H locs ls hf hW hl => ?_) fu a1 0 0 _ _ _ hf hW (lv_sub hl [2, 3, 1, 0] rfl)
  · refine lv_iload_n hx hb dX6_alikeIn_78 rfl (lv_at hl 0 rfl) ?_
    exact r_iretR X hW rfl rfl hf dX6_alikeIn_79

abbrev rm_X6_tells : Room := { frames := 3, cells := 0, slots := 0, locals := 73 }
theorem hd_X6_tells : yX6_tells.cls = RX6 ∧ yX6_tells.cls ≠ "java/lang/invoke/MethodHandle" ∧ yX6_tells.cls ≠ "java/lang/invoke/VarHandle" ∧ (parseMethodDescriptor yX6_tells.desc).map (fun d => d.parameters.length) = some 1 := by decide +kernel
theorem inX6_tells_6 : ∀ w ∈ wsX60, w ∈ wsX6_tells := fun _ h => List.mem_cons_of_mem _ (List.mem_append_right _ h)
section S_X6_tells
variable {p : Program} {l : Launch} {e : Env} {s : State} {m : MethodId} {args : Array Value} {below : List Frame} {meth : Method} {c : Code} {D : va_G} {cA : Nat → ClassId} {ad : Nat → Nat} {r : Int32 × St}
noncomputable def f_X6_tells_54 (k31 : Int32 → Int32 → Int32 → St → Option (Int32 × St)) (v1 : Int32) (v3 : Int32) (s0 : Int32) (σ : St) : Option (Int32 × St) := nw (v3 + 1 : Int32) fun v109 => k31 v1 s0 v109 σ
set_option maxHeartbeats 4000000 in
set_option maxRecDepth 100000 in
theorem b_X6_tells_54 {k31 : Int32 → Int32 → Int32 → St → Option (Int32 × St)} (X : Cx RX6 wsX6_tells cX6_tells 4 (some .int) D cA ad SM p s m args meth c) (h31 : ∀ (w0 : Int32) (w1 : Int32) (w2 : Int32) (σ : St) (H : Heap) (locs : List Loc) (ls : Array Slot), k31 w0 w1 w2 σ = some r → Rn D cA ad SM s.heap σ H locs → lv_has ls 4 [(0, .ref (ad 0)), (1, .int w0), (2, .int w1), (3, .int w2)] → W p l e rm_X6_tells s m args below meth c H locs 0 0 (MQ below (Qi D cA ad SM r) args s 0 0 (Aw ad SM)) (F0 m 31 ls [])) : ∀ (v1 : Int32) (v3 : Int32) (s0 : Int32) (σ : St) (H : Heap) (locs : List Loc) (ls : Array Slot), f_X6_tells_54 k31 v1 v3 s0 σ = some r → Rn D cA ad SM s.heap σ H locs → lv_has ls 4 [(0, .ref (ad 0)), (1, .int v1), (3, .int v3)] → W p l e rm_X6_tells s m args below meth c H locs 0 0 (MQ below (Qi D cA ad SM r) args s 0 0 (Aw ad SM)) (F0 m 54 ls [.int s0]) := by
  obtain ⟨hx, hb, hml, hown, hts, hr, hlk, hK, hij⟩ := id X
  intro v1 v3 s0 σ H locs ls hf hW hl
  rw [f_X6_tells_54] at hf
  refine lv_istore_n (lv' := [(2, .int s0), (0, .ref (ad 0)), (1, .int v1), (3, .int v3)]) hx hb dX6_tells_54 rfl hl (by decide) rfl (fun ls hl => ?_)
  obtain ⟨v109, e9, hf⟩ := nw_e hf
  refine lv_iinc (v := v109) (lv' := [(3, .int v109), (2, .int s0), (0, .ref (ad 0)), (1, .int v1)]) hx hb dX6_tells_55 hl (k := 3) rfl (by rw [e9]; rfl) (by decide) rfl (fun ls hl => ?_)
  refine lv_goto (tgt := 31) hx hb dX6_tells_58 (by decide) ?_
  exact h31 v1 s0 v109 σ _ _ _ hf hW (lv_sub hl [2, 3, 1, 0] rfl)
noncomputable def f_X6_tells_31 (k61 : Int32 → Int32 → St → Option (Int32 × St)) : Nat → Int32 → Int32 → Int32 → St → Option (Int32 × St)
  | 0, _, _, _, _ => none
  | n + 1, v1, v2, v3, σ => (if 4 ≤ v3 then k61 v1 v2 σ else bnd (f_X6_alikeIn σ v3) fun r6 => bnd (f_X6_alikeIn σ v2) fun r7 => (if r7 ≤ r6 then f_X6_tells_54 (fun (w10_0 : Int32) (w11_1 : Int32) (w12_2 : Int32) (σ13 : St) => f_X6_tells_31 k61 n w10_0 w11_1 w12_2 σ13) v1 v3 v2 σ else f_X6_tells_54 (fun (w14_0 : Int32) (w15_1 : Int32) (w16_2 : Int32) (σ17 : St) => f_X6_tells_31 k61 n w14_0 w15_1 w16_2 σ17) v1 v3 v3 σ))
set_option maxHeartbeats 4000000 in
set_option maxRecDepth 100000 in
theorem b_X6_tells_31 {k61 : Int32 → Int32 → St → Option (Int32 × St)} (X : Cx RX6 wsX6_tells cX6_tells 4 (some .int) D cA ad SM p s m args meth c) (h61 : ∀ (w0 : Int32) (w1 : Int32) (σ : St) (H : Heap) (locs : List Loc) (ls : Array Slot), k61 w0 w1 σ = some r → Rn D cA ad SM s.heap σ H locs → lv_has ls 4 [(0, .ref (ad 0)), (1, .int w0), (2, .int w1)] → W p l e rm_X6_tells s m args below meth c H locs 0 0 (MQ below (Qi D cA ad SM r) args s 0 0 (Aw ad SM)) (F0 m 61 ls [])) : ∀ (n : Nat) (v1 : Int32) (v2 : Int32) (v3 : Int32) (σ : St) (H : Heap) (locs : List Loc) (ls : Array Slot), f_X6_tells_31 k61 n v1 v2 v3 σ = some r → Rn D cA ad SM s.heap σ H locs → lv_has ls 4 [(0, .ref (ad 0)), (1, .int v1), (2, .int v2), (3, .int v3)] → W p l e rm_X6_tells s m args below meth c H locs 0 0 (MQ below (Qi D cA ad SM r) args s 0 0 (Aw ad SM)) (F0 m 31 ls []) := by
  obtain ⟨hx, hb, hml, hown, hts, hr, hlk, hK, hij⟩ := id X
  intro n
  induction n with
  | zero =>
    intro v1 v2 v3 σ H locs ls hf
    exact nomatch (show (none : Option (Int32 × St)) = some r from hf)
  | succ n ih =>
    intro v1 v2 v3 σ H locs ls hf hW hl
    rw [f_X6_tells_31] at hf
    refine lv_iload_n hx hb dX6_tells_31 rfl (lv_at hl 3 rfl) ?_
    refine lv_iconst (v := 4) hx hb dX6_tells_32 (by decide) ?_
    refine lv_icmp_ge (tgt := 61) hx hb dX6_tells_33 (by decide) (fun c5 => ?_) (fun c5 => ?_)
    · have hf := it_e hf c5
      exact h61 v1 v2 σ _ _ _ hf hW (lv_sub hl [0, 1, 2] rfl)
    · have hf := ie_e hf c5
      refine lv_aload_n hx hb dX6_tells_36 rfl (lv_at hl 0 rfl) ?_
      refine lv_iload_n hx hb dX6_tells_37 rfl (lv_at hl 3 rfl) ?_
      obtain ⟨r6, z6, hf⟩ := bnd_e hf
      refine r_cViR X hW kM_0 iM_0 rfl (c_X6_alikeIn l D cA ad hij σ v3 r6 z6) gX6_tells_X6_alikeIn rfl ⟨rfl, rfl⟩ hd_X6_alikeIn ⟨Nat.le_of_ble_eq_true rfl, Nat.le_of_ble_eq_true rfl⟩ rfl (Nat.le_of_ble_eq_true rfl) hl.1 dX6_tells_38 (fun H locs hW => ?_)
      refine lv_aload_n hx hb dX6_tells_41 rfl (lv_at hl 0 rfl) ?_
      refine lv_iload_n hx hb dX6_tells_42 rfl (lv_at hl 2 rfl) ?_
      obtain ⟨r7, z7, hf⟩ := bnd_e hf
      refine r_cViR X hW kM_0 iM_0 rfl (c_X6_alikeIn l D cA ad hij σ v2 r7 z7) gX6_tells_X6_alikeIn rfl ⟨rfl, rfl⟩ hd_X6_alikeIn ⟨Nat.le_of_ble_eq_true rfl, Nat.le_of_ble_eq_true rfl⟩ rfl (Nat.le_of_ble_eq_true rfl) hl.1 dX6_tells_43 (fun H locs hW => ?_)
      refine lv_icmp_ge (tgt := 53) hx hb dX6_tells_46 (by decide) (fun c8 => ?_) (fun c8 => ?_)
      · have hf := it_e hf c8
        refine lv_iload_n hx hb dX6_tells_53 rfl (lv_at hl 2 rfl) ?_
        refine b_X6_tells_54 X (fun w10_0 w11_1 w12_2 σ13 H locs ls hf hW hl => ?_) v1 v3 v2 σ _ _ _ hf hW (lv_sub hl [0, 1, 3] rfl)
        · exact ih w10_0 w11_1 w12_2 σ13 _ _ _ hf hW (lv_sub hl [0, 1, 2, 3] rfl)
      · have hf := ie_e hf c8
        refine lv_iload_n hx hb dX6_tells_49 rfl (lv_at hl 3 rfl) ?_
        refine lv_goto (tgt := 54) hx hb dX6_tells_50 (by decide) ?_
        refine b_X6_tells_54 X (fun w14_0 w15_1 w16_2 σ17 H locs ls hf hW hl => ?_) v1 v3 v3 σ _ _ _ hf hW (lv_sub hl [0, 1, 3] rfl)
        · exact ih w14_0 w15_1 w16_2 σ17 _ _ _ hf hW (lv_sub hl [0, 1, 2, 3] rfl)
end S_X6_tells
noncomputable def f_X6_tells (σ : St) (a1 : Int32) : Option (Int32 × St) := nw (uI σ 0 5 0) fun σ1 => bnd (f_X6_in a1.toInt64 0 1) fun r2 => (if r2 = 0 then some ((-1), σ1) else (if (σ1.1 0 0) = 0 then some ((-4), σ1) else f_X6_tells_31 (fun (w18_0 : Int32) (w19_1 : Int32) (σ20 : St) => (if w18_0 = 0 then some (w19_1, σ20) else bnd (f_X6_alikeIn σ20 w19_1) fun r22 => some (r22, σ20))) fu a1 0 1 σ1))
set_option maxHeartbeats 4000000 in
set_option maxRecDepth 100000 in
theorem c_X6_tells (l : Launch) (D : va_G) (cA : Nat → ClassId) (ad : Nat → Nat) (hij : Ij ad SM) (σ : St) (a1 : Int32) (r : Int32 × St) (hf : f_X6_tells σ a1 = some r) : Met l yX6_tells wsX6_tells rm_X6_tells (PC D cA ad SM [.ref (ad 0), .int a1] σ) (Qi D cA ad SM r) 0 0 (Aw ad SM) := by
  rw [f_X6_tells] at hf
  refine k_head (own := RX6) (ws := wsX6_tells) (cc := cX6_tells) (nL := 4) (ret := (some .int)) pn_X6 rfl rfl hij (Nat.le_of_ble_eq_true rfl) (fun p e s m below meth c ls X hW hl => ?_)
  have hl : lv_has ls 4 [(0, .ref (ad 0)), (1, .int a1)] := hl
  obtain ⟨hx, hb, hml, hown, hts, hr, hlk, hK, hij⟩ := id X
  refine lv_aload_n hx hb dX6_tells_0 rfl (lv_at hl 0 rfl) ?_
  refine lv_iconst (v := 0) hx hb dX6_tells_1 (by decide) ?_
  obtain ⟨σ1, e1, hf⟩ := nw_e hf
  refine put_6_5 X hW kM_0 iM_0 inX6_tells_6 (List.mem_of_getElem? (i := 1) rfl) e1 dX6_tells_2 (fun H locs hW => ?_)
  refine lv_iload_n hx hb dX6_tells_5 rfl (lv_at hl 1 rfl) ?_
  refine lv_i2l hx hb dX6_tells_6 rfl ?_
  refine lv_lconst (v := 0) hx hb dX6_tells_7 (by decide) ?_
  refine lv_lconst (v := 1) hx hb dX6_tells_8 (by decide) ?_
  obtain ⟨r2, z2, hf⟩ := bnd_e hf
  refine r_cSiR X hW (c_X6_in l D cA ad hij σ1 a1.toInt64 0 1 r2 z2) gX6_tells_X6_in rfl ⟨rfl, rfl⟩ hd_X6_in ⟨Nat.le_of_ble_eq_true rfl, Nat.le_of_ble_eq_true rfl⟩ rfl (Nat.le_of_ble_eq_true rfl) hl.1 dX6_tells_9 (fun H locs hW => ?_)
  refine lv_if_ne (tgt := 17) hx hb dX6_tells_12 (by decide) (fun c3 => ?_) (fun c3 => ?_)
  · have hf := ie_e hf c3
    refine lv_aload_n hx hb dX6_tells_17 rfl (lv_at hl 0 rfl) ?_
    refine get_6_0 X hW kM_0 iM_0 inX6_tells_6 (List.mem_of_getElem? (i := 2) rfl) dX6_tells_18 ?_
    refine lv_if_ne (tgt := 27) hx hb dX6_tells_21 (by decide) (fun c4 => ?_) (fun c4 => ?_)
    · have hf := ie_e hf c4
      refine lv_iconst (v := 0) hx hb dX6_tells_27 (by decide) ?_
      refine lv_istore_n (lv' := [(2, .int 0), (0, .ref (ad 0)), (1, .int a1)]) hx hb dX6_tells_28 rfl hl (by decide) rfl (fun ls hl => ?_)
      refine lv_iconst (v := 1) hx hb dX6_tells_29 (by decide) ?_
      refine lv_istore_n (lv' := [(3, .int 1), (2, .int 0), (0, .ref (ad 0)), (1, .int a1)]) hx hb dX6_tells_30 rfl hl (by decide) rfl (fun ls hl => ?_)
      refine b_X6_tells_31 X (fun w18_0 w19_1 σ20 H locs ls hf hW hl => ?_) fu a1 0 1 σ1 _ _ _ hf hW (lv_sub hl [2, 3, 1, 0] rfl)
      · refine lv_iload_n hx hb dX6_tells_61 rfl (lv_at hl 1 rfl) ?_
        refine lv_if_ne (tgt := 69) hx hb dX6_tells_62 (by decide) (fun c21 => ?_) (fun c21 => ?_)
        · have hf := ie_e hf c21
          refine lv_aload_n hx hb dX6_tells_69 rfl (lv_at hl 0 rfl) ?_
          refine lv_iload_n hx hb dX6_tells_70 rfl (lv_at hl 2 rfl) ?_
          obtain ⟨r22, z22, hf⟩ := bnd_e hf
          refine r_cViR X hW kM_0 iM_0 rfl (c_X6_alikeIn l D cA ad hij σ20 w19_1 r22 z22) gX6_tells_X6_alikeIn rfl ⟨rfl, rfl⟩ hd_X6_alikeIn ⟨Nat.le_of_ble_eq_true rfl, Nat.le_of_ble_eq_true rfl⟩ rfl (Nat.le_of_ble_eq_true rfl) hl.1 dX6_tells_71 (fun H locs hW => ?_)
          exact r_iret X hW rfl rfl hf dX6_tells_74
        · have hf := it_e hf c21
          refine lv_iload_n hx hb dX6_tells_65 rfl (lv_at hl 2 rfl) ?_
          refine lv_goto (tgt := 74) hx hb dX6_tells_66 (by decide) ?_
          exact r_iret X hW rfl rfl hf dX6_tells_74
    · have hf := it_e hf c4
      refine lv_bipush (v := (-4)) hx hb dX6_tells_24 (by decide) ?_
      exact r_iret X hW rfl rfl hf dX6_tells_26
  · have hf := it_e hf c3
    refine lv_iconst (v := (-1)) hx hb dX6_tells_15 (by decide) ?_
    exact r_iret X hW rfl rfl hf dX6_tells_16

abbrev rm_X6_lent : Room := { frames := 2, cells := 0, slots := 0, locals := 50 }
theorem hd_X6_lent : yX6_lent.cls = RX6 ∧ yX6_lent.cls ≠ "java/lang/invoke/MethodHandle" ∧ yX6_lent.cls ≠ "java/lang/invoke/VarHandle" ∧ (parseMethodDescriptor yX6_lent.desc).map (fun d => d.parameters.length) = some 2 := by decide +kernel
theorem inX6_lent_6 : ∀ w ∈ wsX60, w ∈ wsX6_lent := fun _ h => List.mem_cons_of_mem _ (List.mem_append_right _ h)
section S_X6_lent
variable {p : Program} {l : Launch} {e : Env} {s : State} {m : MethodId} {args : Array Value} {below : List Frame} {meth : Method} {c : Code} {D : va_G} {cA : Nat → ClassId} {ad : Nat → Nat} {r : Int32 × St}
noncomputable def f_X6_lent_22 (v1 : Int32) (v2 : Int32) (s0 : Int32) (σ : St) : Option (Int32 × St) := (if 0 ≤ s0 then chk (inb v1 8) <| nw ((σ.1 18 v1.toNatClampNeg) - (σ.1 18 v1.toNatClampNeg) / 4 * 4 : Int32) fun v106 => bnd (f_X6_same σ v2 6) fun r7 => bnd (f_X6_becomes r7 6 (r7.1 17 v1.toNatClampNeg) (r7.1 18 v1.toNatClampNeg)) fun r8 => bnd (f_X6_portionOf r8 6 v106) fun r9 => bnd (f_X6_empty r8 6) fun r10 => bnd (f_X6_becomes r10 6 (r10.1 17 v1.toNatClampNeg) (r10.1 18 v1.toNatClampNeg)) fun r11 => bnd (f_X6_portionOf r11 6 v106) fun r12 => some (r9 - r12, r11) else some (s0 - 1000000000, σ))
set_option maxHeartbeats 4000000 in
set_option maxRecDepth 100000 in
theorem b_X6_lent_22 (X : Cx RX6 wsX6_lent cX6_lent 6 (some .int) D cA ad SM p s m args meth c) : ∀ (v1 : Int32) (v2 : Int32) (s0 : Int32) (σ : St) (H : Heap) (locs : List Loc) (ls : Array Slot), f_X6_lent_22 v1 v2 s0 σ = some r → Rn D cA ad SM s.heap σ H locs → lv_has ls 6 [(0, .ref (ad 0)), (1, .int v1), (2, .int v2)] → W p l e rm_X6_lent s m args below meth c H locs 0 0 (MQ below (Qi D cA ad SM r) args s 0 0 (Aw ad SM)) (F0 m 22 ls [.int s0]) := by
  obtain ⟨hx, hb, hml, hown, hts, hr, hlk, hK, hij⟩ := id X
  intro v1 v2 s0 σ H locs ls hf hW hl
  rw [f_X6_lent_22] at hf
  refine lv_istore_n (lv' := [(3, .int s0), (0, .ref (ad 0)), (1, .int v1), (2, .int v2)]) hx hb dX6_lent_22 rfl hl (by decide) rfl (fun ls hl => ?_)
  refine lv_iload_n hx hb dX6_lent_23 rfl (lv_at hl 0 rfl) ?_
  refine lv_if_ge (tgt := 32) hx hb dX6_lent_24 (by decide) (fun c4 => ?_) (fun c4 => ?_)
  · have hf := it_e hf c4
    refine lv_aload_n hx hb dX6_lent_32 rfl (lv_at hl 1 rfl) ?_
    refine get_6_28 X hW kM_0 iM_0 inX6_lent_6 (List.mem_of_getElem? (i := 3) rfl) dX6_lent_33 ?_
    refine lv_iload_n hx hb dX6_lent_36 rfl (lv_at hl 2 rfl) ?_
    obtain ⟨x5, hf⟩ := chk_e hf
    refine r_iald X hW kM_18 iM_18 nM_18 x5 dX6_lent_37 ?_
    refine lv_iconst (v := 4) hx hb dX6_lent_38 (by decide) ?_
    refine lv_irem hx hb dX6_lent_39 (by decide) ?_
    obtain ⟨v106, e6, hf⟩ := nw_e hf
    refine tI _ e6 ?_
    refine lv_istore (lv' := [(4, .int v106), (3, .int s0), (0, .ref (ad 0)), (1, .int v1), (2, .int v2)]) hx hb dX6_lent_40 hl (by decide) rfl (fun ls hl => ?_)
    refine lv_aload_n hx hb dX6_lent_42 rfl (lv_at hl 2 rfl) ?_
    refine lv_iload_n hx hb dX6_lent_43 rfl (lv_at hl 4 rfl) ?_
    refine lv_bipush (v := 6) hx hb dX6_lent_44 (by decide) ?_
    obtain ⟨r7, z7, hf⟩ := bnd_e hf
    refine r_cVv X hW kM_0 iM_0 rfl (c_X6_same l D cA ad hij σ v2 6 r7 z7) gX6_lent_X6_same rfl ⟨rfl, rfl⟩ hd_X6_same ⟨Nat.le_of_ble_eq_true rfl, Nat.le_of_ble_eq_true rfl⟩ rfl (Nat.le_of_ble_eq_true rfl) hl.1 dX6_lent_46 (fun H locs hW => ?_)
    refine lv_aload_n hx hb dX6_lent_49 rfl (lv_at hl 2 rfl) ?_
    refine lv_bipush (v := 6) hx hb dX6_lent_50 (by decide) ?_
    refine lv_aload_n hx hb dX6_lent_52 rfl (lv_at hl 2 rfl) ?_
    refine get_6_27 X hW kM_0 iM_0 inX6_lent_6 (List.mem_of_getElem? (i := 4) rfl) dX6_lent_53 ?_
    refine lv_iload_n hx hb dX6_lent_56 rfl (lv_at hl 3 rfl) ?_
    refine r_iald X hW kM_17 iM_17 nM_17 x5 dX6_lent_57 ?_
    refine lv_aload_n hx hb dX6_lent_58 rfl (lv_at hl 2 rfl) ?_
    refine get_6_28 X hW kM_0 iM_0 inX6_lent_6 (List.mem_of_getElem? (i := 3) rfl) dX6_lent_59 ?_
    refine lv_iload_n hx hb dX6_lent_62 rfl (lv_at hl 3 rfl) ?_
    refine r_iald X hW kM_18 iM_18 nM_18 x5 dX6_lent_63 ?_
    obtain ⟨r8, z8, hf⟩ := bnd_e hf
    refine r_cVv X hW kM_0 iM_0 rfl (c_X6_becomes l D cA ad hij r7 6 (r7.1 17 v1.toNatClampNeg) (r7.1 18 v1.toNatClampNeg) r8 z8) gX6_lent_X6_becomes rfl ⟨rfl, rfl⟩ hd_X6_becomes ⟨Nat.le_of_ble_eq_true rfl, Nat.le_of_ble_eq_true rfl⟩ rfl (Nat.le_of_ble_eq_true rfl) hl.1 dX6_lent_64 (fun H locs hW => ?_)
    refine lv_aload_n hx hb dX6_lent_67 rfl (lv_at hl 2 rfl) ?_
    refine lv_bipush (v := 6) hx hb dX6_lent_68 (by decide) ?_
    refine lv_iload hx hb dX6_lent_70 (lv_at hl 0 rfl) ?_
    obtain ⟨r9, z9, hf⟩ := bnd_e hf
    refine r_cViR X hW kM_0 iM_0 rfl (c_X6_portionOf l D cA ad hij r8 6 v106 r9 z9) gX6_lent_X6_portionOf rfl ⟨rfl, rfl⟩ hd_X6_portionOf ⟨Nat.le_of_ble_eq_true rfl, Nat.le_of_ble_eq_true rfl⟩ rfl (Nat.le_of_ble_eq_true rfl) hl.1 dX6_lent_72 (fun H locs hW => ?_)
    refine lv_istore (lv' := [(5, .int r9), (4, .int v106), (3, .int s0), (0, .ref (ad 0)), (1, .int v1), (2, .int v2)]) hx hb dX6_lent_75 hl (by decide) rfl (fun ls hl => ?_)
    refine lv_aload_n hx hb dX6_lent_77 rfl (lv_at hl 3 rfl) ?_
    refine lv_bipush (v := 6) hx hb dX6_lent_78 (by decide) ?_
    obtain ⟨r10, z10, hf⟩ := bnd_e hf
    refine r_cVv X hW kM_0 iM_0 rfl (c_X6_empty l D cA ad hij r8 6 r10 z10) gX6_lent_X6_empty rfl ⟨rfl, rfl⟩ hd_X6_empty ⟨Nat.le_of_ble_eq_true rfl, Nat.le_of_ble_eq_true rfl⟩ rfl (Nat.le_of_ble_eq_true rfl) hl.1 dX6_lent_80 (fun H locs hW => ?_)
    refine lv_aload_n hx hb dX6_lent_83 rfl (lv_at hl 3 rfl) ?_
    refine lv_bipush (v := 6) hx hb dX6_lent_84 (by decide) ?_
    refine lv_aload_n hx hb dX6_lent_86 rfl (lv_at hl 3 rfl) ?_
    refine get_6_27 X hW kM_0 iM_0 inX6_lent_6 (List.mem_of_getElem? (i := 4) rfl) dX6_lent_87 ?_
    refine lv_iload_n hx hb dX6_lent_90 rfl (lv_at hl 4 rfl) ?_
    refine r_iald X hW kM_17 iM_17 nM_17 x5 dX6_lent_91 ?_
    refine lv_aload_n hx hb dX6_lent_92 rfl (lv_at hl 3 rfl) ?_
    refine get_6_28 X hW kM_0 iM_0 inX6_lent_6 (List.mem_of_getElem? (i := 3) rfl) dX6_lent_93 ?_
    refine lv_iload_n hx hb dX6_lent_96 rfl (lv_at hl 4 rfl) ?_
    refine r_iald X hW kM_18 iM_18 nM_18 x5 dX6_lent_97 ?_
    obtain ⟨r11, z11, hf⟩ := bnd_e hf
    refine r_cVv X hW kM_0 iM_0 rfl (c_X6_becomes l D cA ad hij r10 6 (r10.1 17 v1.toNatClampNeg) (r10.1 18 v1.toNatClampNeg) r11 z11) gX6_lent_X6_becomes rfl ⟨rfl, rfl⟩ hd_X6_becomes ⟨Nat.le_of_ble_eq_true rfl, Nat.le_of_ble_eq_true rfl⟩ rfl (Nat.le_of_ble_eq_true rfl) hl.1 dX6_lent_98 (fun H locs hW => ?_)
    refine lv_iload hx hb dX6_lent_101 (lv_at hl 0 rfl) ?_
    refine lv_aload_n hx hb dX6_lent_103 rfl (lv_at hl 3 rfl) ?_
    refine lv_bipush (v := 6) hx hb dX6_lent_104 (by decide) ?_
    refine lv_iload hx hb dX6_lent_106 (lv_at hl 1 rfl) ?_
    obtain ⟨r12, z12, hf⟩ := bnd_e hf
    refine r_cViR X hW kM_0 iM_0 rfl (c_X6_portionOf l D cA ad hij r11 6 v106 r12 z12) gX6_lent_X6_portionOf rfl ⟨rfl, rfl⟩ hd_X6_portionOf ⟨Nat.le_of_ble_eq_true rfl, Nat.le_of_ble_eq_true rfl⟩ rfl (Nat.le_of_ble_eq_true rfl) hl.1 dX6_lent_108 (fun H locs hW => ?_)
    refine lv_isub hx hb dX6_lent_111 ?_
    exact r_iret X hW rfl rfl hf dX6_lent_112
  · have hf := ie_e hf c4
    refine lv_iload_n hx hb dX6_lent_27 rfl (lv_at hl 0 rfl) ?_
    refine lv_ldc (v := 1000000000) hx hb hown (hts _ (List.mem_of_getElem? (i := 2) rfl)) dX6_lent_28 ?_
    refine lv_isub hx hb dX6_lent_30 ?_
    exact r_iret X hW rfl rfl hf dX6_lent_31
end S_X6_lent
noncomputable def f_X6_lent (σ : St) (a1 : Int32) (a2 : Int32) : Option (Int32 × St) := nw (uI σ 0 5 0) fun σ1 => bnd (f_X6_isPot σ1 a2) fun r2 => (if r2 = 0 then f_X6_lent_22 a1 a2 ((-1)) σ1 else bnd (f_X6_wrongDish σ1 a1) fun r13 => f_X6_lent_22 a1 a2 r13 σ1)
set_option maxHeartbeats 4000000 in
set_option maxRecDepth 100000 in
theorem c_X6_lent (l : Launch) (D : va_G) (cA : Nat → ClassId) (ad : Nat → Nat) (hij : Ij ad SM) (σ : St) (a1 : Int32) (a2 : Int32) (r : Int32 × St) (hf : f_X6_lent σ a1 a2 = some r) : Met l yX6_lent wsX6_lent rm_X6_lent (PC D cA ad SM [.ref (ad 0), .int a1, .int a2] σ) (Qi D cA ad SM r) 0 0 (Aw ad SM) := by
  rw [f_X6_lent] at hf
  refine k_head (own := RX6) (ws := wsX6_lent) (cc := cX6_lent) (nL := 6) (ret := (some .int)) pn_X6 rfl rfl hij (Nat.le_of_ble_eq_true rfl) (fun p e s m below meth c ls X hW hl => ?_)
  have hl : lv_has ls 6 [(0, .ref (ad 0)), (1, .int a1), (2, .int a2)] := hl
  obtain ⟨hx, hb, hml, hown, hts, hr, hlk, hK, hij⟩ := id X
  refine lv_aload_n hx hb dX6_lent_0 rfl (lv_at hl 0 rfl) ?_
  refine lv_iconst (v := 0) hx hb dX6_lent_1 (by decide) ?_
  obtain ⟨σ1, e1, hf⟩ := nw_e hf
  refine put_6_5 X hW kM_0 iM_0 inX6_lent_6 (List.mem_of_getElem? (i := 1) rfl) e1 dX6_lent_2 (fun H locs hW => ?_)
  refine lv_aload_n hx hb dX6_lent_5 rfl (lv_at hl 0 rfl) ?_
  refine lv_iload_n hx hb dX6_lent_6 rfl (lv_at hl 2 rfl) ?_
  obtain ⟨r2, z2, hf⟩ := bnd_e hf
  refine r_cViR X hW kM_0 iM_0 rfl (c_X6_isPot l D cA ad hij σ1 a2 r2 z2) gX6_lent_X6_isPot rfl ⟨rfl, rfl⟩ hd_X6_isPot ⟨Nat.le_of_ble_eq_true rfl, Nat.le_of_ble_eq_true rfl⟩ rfl (Nat.le_of_ble_eq_true rfl) hl.1 dX6_lent_7 (fun H locs hW => ?_)
  refine lv_if_eq (tgt := 21) hx hb dX6_lent_10 (by decide) (fun c3 => ?_) (fun c3 => ?_)
  · have hf := it_e hf c3
    refine lv_iconst (v := (-1)) hx hb dX6_lent_21 (by decide) ?_
    exact b_X6_lent_22 X a1 a2 ((-1)) σ1 _ _ _ hf hW (lv_sub hl [0, 1, 2] rfl)
  · have hf := ie_e hf c3
    refine lv_aload_n hx hb dX6_lent_13 rfl (lv_at hl 0 rfl) ?_
    refine lv_iload_n hx hb dX6_lent_14 rfl (lv_at hl 1 rfl) ?_
    obtain ⟨r13, z13, hf⟩ := bnd_e hf
    refine r_cViR X hW kM_0 iM_0 rfl (c_X6_wrongDish l D cA ad hij σ1 a1 r13 z13) gX6_lent_X6_wrongDish rfl ⟨rfl, rfl⟩ hd_X6_wrongDish ⟨Nat.le_of_ble_eq_true rfl, Nat.le_of_ble_eq_true rfl⟩ rfl (Nat.le_of_ble_eq_true rfl) hl.1 dX6_lent_15 (fun H locs hW => ?_)
    refine lv_goto (tgt := 22) hx hb dX6_lent_18 (by decide) ?_
    exact b_X6_lent_22 X a1 a2 r13 σ1 _ _ _ hf hW (lv_sub hl [0, 1, 2] rfl)

abbrev rm_X6_gone : Room := { frames := 1, cells := 0, slots := 0, locals := 25 }
theorem hd_X6_gone : yX6_gone.cls = RX6 ∧ yX6_gone.cls ≠ "java/lang/invoke/MethodHandle" ∧ yX6_gone.cls ≠ "java/lang/invoke/VarHandle" ∧ (parseMethodDescriptor yX6_gone.desc).map (fun d => d.parameters.length) = some 3 := by decide +kernel
theorem inX6_gone_6 : ∀ w ∈ wsX60, w ∈ wsX6_gone := fun _ h => List.mem_cons_of_mem _ (List.mem_append_right _ h)
section S_X6_gone
variable {p : Program} {l : Launch} {e : Env} {s : State} {m : MethodId} {args : Array Value} {below : List Frame} {meth : Method} {c : Code} {D : va_G} {cA : Nat → ClassId} {ad : Nat → Nat} {r : Int32 × St}
noncomputable def f_X6_gone_55 (k87 : Int32 → St → Option (Int32 × St)) : Nat → Int32 → Int64 → Int64 → Int32 → St → Option (Int32 × St)
  | 0, _, _, _, _, _ => none
  | n + 1, v1, v4, v6, v8, σ => (if (lg_cmp v4 v6) < 0 then k87 v8 σ else bnd (f_X6_keepsOf v1) fun r10 => nw (v4 * r10.toInt64 : Int64) fun v111 => nw (v6 * 9 : Int64) fun v112 => nw (v8 + 1 : Int32) fun v113 => f_X6_gone_55 k87 n v1 v111 v112 v113 σ)
set_option maxHeartbeats 4000000 in
set_option maxRecDepth 100000 in
theorem b_X6_gone_55 {k87 : Int32 → St → Option (Int32 × St)} (X : Cx RX6 wsX6_gone cX6_gone 9 (some .int) D cA ad SM p s m args meth c) (h87 : ∀ (w0 : Int32) (σ : St) (H : Heap) (locs : List Loc) (ls : Array Slot), k87 w0 σ = some r → Rn D cA ad SM s.heap σ H locs → lv_has ls 9 [(8, .int w0)] → W p l e rm_X6_gone s m args below meth c H locs 0 0 (MQ below (Qi D cA ad SM r) args s 0 0 (Aw ad SM)) (F0 m 87 ls [])) : ∀ (n : Nat) (v1 : Int32) (v4 : Int64) (v6 : Int64) (v8 : Int32) (σ : St) (H : Heap) (locs : List Loc) (ls : Array Slot), f_X6_gone_55 k87 n v1 v4 v6 v8 σ = some r → Rn D cA ad SM s.heap σ H locs → lv_has ls 9 [(1, .int v1), (4, .long v4), (6, .long v6), (8, .int v8)] → W p l e rm_X6_gone s m args below meth c H locs 0 0 (MQ below (Qi D cA ad SM r) args s 0 0 (Aw ad SM)) (F0 m 55 ls []) := by
  obtain ⟨hx, hb, hml, hown, hts, hr, hlk, hK, hij⟩ := id X
  intro n
  induction n with
  | zero =>
    intro v1 v4 v6 v8 σ H locs ls hf
    exact nomatch (show (none : Option (Int32 × St)) = some r from hf)
  | succ n ih =>
    intro v1 v4 v6 v8 σ H locs ls hf hW hl
    rw [f_X6_gone_55] at hf
    refine lv_lload hx hb dX6_gone_55 (lv_at hl 1 rfl) ?_
    refine lv_lload hx hb dX6_gone_57 (lv_at hl 2 rfl) ?_
    refine W.lcmp hx hb dX6_gone_59 ?_
    refine lv_if_lt (tgt := 87) hx hb dX6_gone_60 (by decide) (fun c9 => ?_) (fun c9 => ?_)
    · have hf := it_e hf c9
      exact h87 v8 σ _ _ _ hf hW (lv_sub hl [3] rfl)
    · have hf := ie_e hf c9
      refine lv_lload hx hb dX6_gone_63 (lv_at hl 1 rfl) ?_
      refine lv_iload_n hx hb dX6_gone_65 rfl (lv_at hl 0 rfl) ?_
      obtain ⟨r10, z10, hf⟩ := bnd_e hf
      refine r_cSiR X hW (c_X6_keepsOf l D cA ad hij σ v1 r10 z10) gX6_gone_X6_keepsOf rfl ⟨rfl, rfl⟩ hd_X6_keepsOf ⟨Nat.le_of_ble_eq_true rfl, Nat.le_of_ble_eq_true rfl⟩ rfl (Nat.le_of_ble_eq_true rfl) hl.1 dX6_gone_66 (fun H locs hW => ?_)
      refine lv_i2l hx hb dX6_gone_69 rfl ?_
      refine lv_lmul hx hb dX6_gone_70 ?_
      obtain ⟨v111, e11, hf⟩ := nw_e hf
      refine tL _ e11 ?_
      refine lv_lstore (lv' := [(4, .long v111), (1, .int v1), (6, .long v6), (8, .int v8)]) hx hb dX6_gone_71 hl (by decide) rfl (fun ls hl => ?_)
      refine lv_lload hx hb dX6_gone_73 (lv_at hl 2 rfl) ?_
      refine lv_ldc2 (v := 9) hx hb hown (hts _ (List.mem_of_getElem? (i := 3) rfl)) dX6_gone_75 ?_
      refine lv_lmul hx hb dX6_gone_78 ?_
      obtain ⟨v112, e12, hf⟩ := nw_e hf
      refine tL _ e12 ?_
      refine lv_lstore (lv' := [(6, .long v112), (4, .long v111), (1, .int v1), (8, .int v8)]) hx hb dX6_gone_79 hl (by decide) rfl (fun ls hl => ?_)
      obtain ⟨v113, e13, hf⟩ := nw_e hf
      refine lv_iinc (v := v113) (lv' := [(8, .int v113), (6, .long v112), (4, .long v111), (1, .int v1)]) hx hb dX6_gone_81 hl (k := 3) rfl (by rw [e13]; rfl) (by decide) rfl (fun ls hl => ?_)
      refine lv_goto (tgt := 55) hx hb dX6_gone_84 (by decide) ?_
      exact ih v1 v111 v112 v113 σ _ _ _ hf hW (lv_sub hl [3, 2, 1, 0] rfl)
end S_X6_gone
noncomputable def f_X6_gone (σ : St) (a1 : Int32) (a2 : Int32) (a3 : Int32) : Option (Int32 × St) := nw (uI σ 0 5 0) fun σ1 => bnd (f_X6_in a1.toInt64 0 7) fun r2 => (if r2 = 0 then some ((-1), σ1) else bnd (f_X6_in a2.toInt64 0 9) fun r4 => (if r4 = 0 then some ((-1), σ1) else bnd (f_X6_in a3.toInt64 1 100) fun r6 => (if r6 = 0 then some ((-1), σ1) else nw (a3.toInt64 : Int64) fun v108 => f_X6_gone_55 (fun (w14_0 : Int32) (σ15 : St) => some (w14_0, σ15)) fu a1 100 v108 0 σ1)))
set_option maxHeartbeats 4000000 in
set_option maxRecDepth 100000 in
theorem c_X6_gone (l : Launch) (D : va_G) (cA : Nat → ClassId) (ad : Nat → Nat) (hij : Ij ad SM) (σ : St) (a1 : Int32) (a2 : Int32) (a3 : Int32) (r : Int32 × St) (hf : f_X6_gone σ a1 a2 a3 = some r) : Met l yX6_gone wsX6_gone rm_X6_gone (PC D cA ad SM [.ref (ad 0), .int a1, .int a2, .int a3] σ) (Qi D cA ad SM r) 0 0 (Aw ad SM) := by
  rw [f_X6_gone] at hf
  refine k_head (own := RX6) (ws := wsX6_gone) (cc := cX6_gone) (nL := 9) (ret := (some .int)) pn_X6 rfl rfl hij (Nat.le_of_ble_eq_true rfl) (fun p e s m below meth c ls X hW hl => ?_)
  have hl : lv_has ls 9 [(0, .ref (ad 0)), (1, .int a1), (2, .int a2), (3, .int a3)] := hl
  obtain ⟨hx, hb, hml, hown, hts, hr, hlk, hK, hij⟩ := id X
  refine lv_aload_n hx hb dX6_gone_0 rfl (lv_at hl 0 rfl) ?_
  refine lv_iconst (v := 0) hx hb dX6_gone_1 (by decide) ?_
  obtain ⟨σ1, e1, hf⟩ := nw_e hf
  refine put_6_5 X hW kM_0 iM_0 inX6_gone_6 (List.mem_of_getElem? (i := 1) rfl) e1 dX6_gone_2 (fun H locs hW => ?_)
  refine lv_iload_n hx hb dX6_gone_5 rfl (lv_at hl 1 rfl) ?_
  refine lv_i2l hx hb dX6_gone_6 rfl ?_
  refine lv_lconst (v := 0) hx hb dX6_gone_7 (by decide) ?_
  refine lv_ldc2 (v := 7) hx hb hown (hts _ (List.mem_of_getElem? (i := 2) rfl)) dX6_gone_8 ?_
  obtain ⟨r2, z2, hf⟩ := bnd_e hf
  refine r_cSiR X hW (c_X6_in l D cA ad hij σ1 a1.toInt64 0 7 r2 z2) gX6_gone_X6_in rfl ⟨rfl, rfl⟩ hd_X6_in ⟨Nat.le_of_ble_eq_true rfl, Nat.le_of_ble_eq_true rfl⟩ rfl (Nat.le_of_ble_eq_true rfl) hl.1 dX6_gone_11 (fun H locs hW => ?_)
  refine lv_if_eq (tgt := 41) hx hb dX6_gone_14 (by decide) (fun c3 => ?_) (fun c3 => ?_)
  · have hf := it_e hf c3
    refine lv_iconst (v := (-1)) hx hb dX6_gone_41 (by decide) ?_
    exact r_iret X hW rfl rfl hf dX6_gone_42
  · have hf := ie_e hf c3
    refine lv_iload_n hx hb dX6_gone_17 rfl (lv_at hl 2 rfl) ?_
    refine lv_i2l hx hb dX6_gone_18 rfl ?_
    refine lv_lconst (v := 0) hx hb dX6_gone_19 (by decide) ?_
    refine lv_ldc2 (v := 9) hx hb hown (hts _ (List.mem_of_getElem? (i := 3) rfl)) dX6_gone_20 ?_
    obtain ⟨r4, z4, hf⟩ := bnd_e hf
    refine r_cSiR X hW (c_X6_in l D cA ad hij σ1 a2.toInt64 0 9 r4 z4) gX6_gone_X6_in rfl ⟨rfl, rfl⟩ hd_X6_in ⟨Nat.le_of_ble_eq_true rfl, Nat.le_of_ble_eq_true rfl⟩ rfl (Nat.le_of_ble_eq_true rfl) hl.1 dX6_gone_23 (fun H locs hW => ?_)
    refine lv_if_eq (tgt := 41) hx hb dX6_gone_26 (by decide) (fun c5 => ?_) (fun c5 => ?_)
    · have hf := it_e hf c5
      refine lv_iconst (v := (-1)) hx hb dX6_gone_41 (by decide) ?_
      exact r_iret X hW rfl rfl hf dX6_gone_42
    · have hf := ie_e hf c5
      refine lv_iload_n hx hb dX6_gone_29 rfl (lv_at hl 3 rfl) ?_
      refine lv_i2l hx hb dX6_gone_30 rfl ?_
      refine lv_lconst (v := 1) hx hb dX6_gone_31 (by decide) ?_
      refine lv_ldc2 (v := 100) hx hb hown (hts _ (List.mem_of_getElem? (i := 4) rfl)) dX6_gone_32 ?_
      obtain ⟨r6, z6, hf⟩ := bnd_e hf
      refine r_cSiR X hW (c_X6_in l D cA ad hij σ1 a3.toInt64 1 100 r6 z6) gX6_gone_X6_in rfl ⟨rfl, rfl⟩ hd_X6_in ⟨Nat.le_of_ble_eq_true rfl, Nat.le_of_ble_eq_true rfl⟩ rfl (Nat.le_of_ble_eq_true rfl) hl.1 dX6_gone_35 (fun H locs hW => ?_)
      refine lv_if_ne (tgt := 43) hx hb dX6_gone_38 (by decide) (fun c7 => ?_) (fun c7 => ?_)
      · have hf := ie_e hf c7
        refine lv_ldc2 (v := 100) hx hb hown (hts _ (List.mem_of_getElem? (i := 4) rfl)) dX6_gone_43 ?_
        refine lv_lstore (lv' := [(4, .long 100), (0, .ref (ad 0)), (1, .int a1), (2, .int a2), (3, .int a3)]) hx hb dX6_gone_46 hl (by decide) rfl (fun ls hl => ?_)
        refine lv_iload_n hx hb dX6_gone_48 rfl (lv_at hl 4 rfl) ?_
        refine lv_i2l hx hb dX6_gone_49 rfl ?_
        obtain ⟨v108, e8, hf⟩ := nw_e hf
        refine tL _ e8 ?_
        refine lv_lstore (lv' := [(6, .long v108), (4, .long 100), (0, .ref (ad 0)), (1, .int a1), (2, .int a2), (3, .int a3)]) hx hb dX6_gone_50 hl (by decide) rfl (fun ls hl => ?_)
        refine lv_iconst (v := 0) hx hb dX6_gone_52 (by decide) ?_
        refine lv_istore (lv' := [(8, .int 0), (6, .long v108), (4, .long 100), (0, .ref (ad 0)), (1, .int a1), (2, .int a2), (3, .int a3)]) hx hb dX6_gone_53 hl (by decide) rfl (fun ls hl => ?_)
        refine b_X6_gone_55 X (fun w14_0 σ15 H locs ls hf hW hl => ?_) fu a1 100 v108 0 σ1 _ _ _ hf hW (lv_sub hl [4, 2, 1, 0] rfl)
        · refine lv_iload hx hb dX6_gone_87 (lv_at hl 0 rfl) ?_
          exact r_iret X hW rfl rfl hf dX6_gone_89
      · have hf := it_e hf c7
        refine lv_iconst (v := (-1)) hx hb dX6_gone_41 (by decide) ?_
        exact r_iret X hW rfl rfl hf dX6_gone_42

abbrev rm_X6_draw : Room := { frames := 0, cells := 0, slots := 0, locals := 0 }
theorem hd_X6_draw : yX6_draw.cls = RX6 ∧ yX6_draw.cls ≠ "java/lang/invoke/MethodHandle" ∧ yX6_draw.cls ≠ "java/lang/invoke/VarHandle" ∧ (parseMethodDescriptor yX6_draw.desc).map (fun d => d.parameters.length) = some 1 := by decide +kernel
theorem inX6_draw_6 : ∀ w ∈ wsX60, w ∈ wsX6_draw := fun _ h => List.mem_cons_of_mem _ (List.mem_append_right _ h)
section S_X6_draw
variable {p : Program} {l : Launch} {e : Env} {s : State} {m : MethodId} {args : Array Value} {below : List Frame} {meth : Method} {c : Code} {D : va_G} {cA : Nat → ClassId} {ad : Nat → Nat} {r : Int32 × St}
end S_X6_draw
noncomputable def f_X6_draw (σ : St) (a1 : Int32) : Option (Int32 × St) := nw (uI σ 0 25 (((σ.1 0 25) * 1103515245) + 12345)) fun σ1 => chk (nz a1) <| some ((((σ1.1 0 25) &&& 2147483647) / 65536) - (((σ1.1 0 25) &&& 2147483647) / 65536) / a1 * a1, σ1)
set_option maxHeartbeats 4000000 in
set_option maxRecDepth 100000 in
theorem c_X6_draw (l : Launch) (D : va_G) (cA : Nat → ClassId) (ad : Nat → Nat) (hij : Ij ad SM) (σ : St) (a1 : Int32) (r : Int32 × St) (hf : f_X6_draw σ a1 = some r) : Met l yX6_draw wsX6_draw rm_X6_draw (PC D cA ad SM [.ref (ad 0), .int a1] σ) (Qi D cA ad SM r) 0 0 (Aw ad SM) := by
  rw [f_X6_draw] at hf
  refine k_head (own := RX6) (ws := wsX6_draw) (cc := cX6_draw) (nL := 2) (ret := (some .int)) pn_X6 rfl rfl hij (Nat.le_of_ble_eq_true rfl) (fun p e s m below meth c ls X hW hl => ?_)
  have hl : lv_has ls 2 [(0, .ref (ad 0)), (1, .int a1)] := hl
  obtain ⟨hx, hb, hml, hown, hts, hr, hlk, hK, hij⟩ := id X
  refine lv_aload_n hx hb dX6_draw_0 rfl (lv_at hl 0 rfl) ?_
  refine lv_aload_n hx hb dX6_draw_1 rfl (lv_at hl 0 rfl) ?_
  refine get_6_25 X hW kM_0 iM_0 inX6_draw_6 (List.mem_of_getElem? (i := 1) rfl) dX6_draw_2 ?_
  refine lv_ldc (v := 1103515245) hx hb hown (hts _ (List.mem_of_getElem? (i := 2) rfl)) dX6_draw_5 ?_
  refine lv_imul hx hb dX6_draw_7 ?_
  refine lv_sipush (v := 12345) hx hb dX6_draw_8 (by decide) ?_
  refine lv_iadd hx hb dX6_draw_11 ?_
  obtain ⟨σ1, e1, hf⟩ := nw_e hf
  refine put_6_25 X hW kM_0 iM_0 inX6_draw_6 (List.mem_of_getElem? (i := 1) rfl) e1 dX6_draw_12 (fun H locs hW => ?_)
  refine lv_aload_n hx hb dX6_draw_15 rfl (lv_at hl 0 rfl) ?_
  refine get_6_25 X hW kM_0 iM_0 inX6_draw_6 (List.mem_of_getElem? (i := 1) rfl) dX6_draw_16 ?_
  refine lv_ldc (v := 2147483647) hx hb hown (hts _ (List.mem_of_getElem? (i := 3) rfl)) dX6_draw_19 ?_
  refine lv_iand hx hb dX6_draw_21 ?_
  refine lv_ldc (v := 65536) hx hb hown (hts _ (List.mem_of_getElem? (i := 4) rfl)) dX6_draw_22 ?_
  refine lv_idiv hx hb dX6_draw_24 (by decide) ?_
  refine lv_iload_n hx hb dX6_draw_25 rfl (lv_at hl 1 rfl) ?_
  obtain ⟨q2, hf⟩ := chk_e hf
  refine lv_irem hx hb dX6_draw_26 (nz_e q2) ?_
  exact r_iret X hW rfl rfl hf dX6_draw_27

abbrev rm_X6_seeded : Room := { frames := 3, cells := 0, slots := 0, locals := 74 }
theorem hd_X6_seeded : yX6_seeded.cls = RX6 ∧ yX6_seeded.cls ≠ "java/lang/invoke/MethodHandle" ∧ yX6_seeded.cls ≠ "java/lang/invoke/VarHandle" ∧ (parseMethodDescriptor yX6_seeded.desc).map (fun d => d.parameters.length) = some 3 := by decide +kernel
theorem inX6_seeded_6 : ∀ w ∈ wsX60, w ∈ wsX6_seeded := fun _ h => List.mem_cons_of_mem _ (List.mem_append_right _ h)
section S_X6_seeded
variable {p : Program} {l : Launch} {e : Env} {s : State} {m : MethodId} {args : Array Value} {below : List Frame} {meth : Method} {c : Code} {D : va_G} {cA : Nat → ClassId} {ad : Nat → Nat} {r : Int32 × St}
noncomputable def f_X6_seeded_45 (k80 : Int32 → St → Option (Int32 × St)) : Nat → Int32 → Int32 → Int32 → St → Option (Int32 × St)
  | 0, _, _, _, _ => none
  | n + 1, v1, v3, v4, σ => (if v1 ≤ v4 then k80 v3 σ else bnd (f_X6_draw σ 8) fun r9 => nw (r9.1 : Int32) fun v110 => bnd (f_X6_draw r9.2 10) fun r11 => bnd (f_X6_cooks r11.2 6 v110 r11.1) fun r12 => nw (v4 + 1 : Int32) fun v113 => f_X6_seeded_45 k80 n v1 v3 v113 r12.2)
set_option maxHeartbeats 4000000 in
set_option maxRecDepth 100000 in
theorem b_X6_seeded_45 {k80 : Int32 → St → Option (Int32 × St)} (X : Cx RX6 wsX6_seeded cX6_seeded 6 (some .int) D cA ad SM p s m args meth c) (h80 : ∀ (w0 : Int32) (σ : St) (H : Heap) (locs : List Loc) (ls : Array Slot), k80 w0 σ = some r → Rn D cA ad SM s.heap σ H locs → lv_has ls 6 [(0, .ref (ad 0)), (3, .int w0)] → W p l e rm_X6_seeded s m args below meth c H locs 0 0 (MQ below (Qi D cA ad SM r) args s 0 0 (Aw ad SM)) (F0 m 80 ls [])) : ∀ (n : Nat) (v1 : Int32) (v3 : Int32) (v4 : Int32) (σ : St) (H : Heap) (locs : List Loc) (ls : Array Slot), f_X6_seeded_45 k80 n v1 v3 v4 σ = some r → Rn D cA ad SM s.heap σ H locs → lv_has ls 6 [(0, .ref (ad 0)), (1, .int v1), (3, .int v3), (4, .int v4)] → W p l e rm_X6_seeded s m args below meth c H locs 0 0 (MQ below (Qi D cA ad SM r) args s 0 0 (Aw ad SM)) (F0 m 45 ls []) := by
  obtain ⟨hx, hb, hml, hown, hts, hr, hlk, hK, hij⟩ := id X
  intro n
  induction n with
  | zero =>
    intro v1 v3 v4 σ H locs ls hf
    exact nomatch (show (none : Option (Int32 × St)) = some r from hf)
  | succ n ih =>
    intro v1 v3 v4 σ H locs ls hf hW hl
    rw [f_X6_seeded_45] at hf
    refine lv_iload hx hb dX6_seeded_45 (lv_at hl 3 rfl) ?_
    refine lv_iload_n hx hb dX6_seeded_47 rfl (lv_at hl 1 rfl) ?_
    refine lv_icmp_ge (tgt := 80) hx hb dX6_seeded_48 (by decide) (fun c8 => ?_) (fun c8 => ?_)
    · have hf := it_e hf c8
      exact h80 v3 σ _ _ _ hf hW (lv_sub hl [0, 2] rfl)
    · have hf := ie_e hf c8
      refine lv_aload_n hx hb dX6_seeded_51 rfl (lv_at hl 0 rfl) ?_
      refine lv_bipush (v := 8) hx hb dX6_seeded_52 (by decide) ?_
      obtain ⟨r9, z9, hf⟩ := bnd_e hf
      refine r_cVi X hW kM_0 iM_0 rfl (c_X6_draw l D cA ad hij σ 8 r9 z9) gX6_seeded_X6_draw rfl ⟨rfl, rfl⟩ hd_X6_draw ⟨Nat.le_of_ble_eq_true rfl, Nat.le_of_ble_eq_true rfl⟩ rfl (Nat.le_of_ble_eq_true rfl) hl.1 dX6_seeded_54 (fun H locs hW => ?_)
      obtain ⟨v110, e10, hf⟩ := nw_e hf
      refine tI _ e10 ?_
      refine lv_istore (lv' := [(5, .int v110), (0, .ref (ad 0)), (1, .int v1), (3, .int v3), (4, .int v4)]) hx hb dX6_seeded_57 hl (by decide) rfl (fun ls hl => ?_)
      refine lv_aload_n hx hb dX6_seeded_59 rfl (lv_at hl 1 rfl) ?_
      refine lv_bipush (v := 6) hx hb dX6_seeded_60 (by decide) ?_
      refine lv_iload hx hb dX6_seeded_62 (lv_at hl 0 rfl) ?_
      refine lv_aload_n hx hb dX6_seeded_64 rfl (lv_at hl 1 rfl) ?_
      refine lv_bipush (v := 10) hx hb dX6_seeded_65 (by decide) ?_
      obtain ⟨r11, z11, hf⟩ := bnd_e hf
      refine r_cVi X hW kM_0 iM_0 rfl (c_X6_draw l D cA ad hij r9.2 10 r11 z11) gX6_seeded_X6_draw rfl ⟨rfl, rfl⟩ hd_X6_draw ⟨Nat.le_of_ble_eq_true rfl, Nat.le_of_ble_eq_true rfl⟩ rfl (Nat.le_of_ble_eq_true rfl) hl.1 dX6_seeded_67 (fun H locs hW => ?_)
      obtain ⟨r12, z12, hf⟩ := bnd_e hf
      refine r_cVi X hW kM_0 iM_0 rfl (c_X6_cooks l D cA ad hij r11.2 6 v110 r11.1 r12 z12) gX6_seeded_X6_cooks rfl ⟨rfl, rfl⟩ hd_X6_cooks ⟨Nat.le_of_ble_eq_true rfl, Nat.le_of_ble_eq_true rfl⟩ rfl (Nat.le_of_ble_eq_true rfl) hl.1 dX6_seeded_70 (fun H locs hW => ?_)
      refine lv_pop hx hb dX6_seeded_73 rfl ?_
      obtain ⟨v113, e13, hf⟩ := nw_e hf
      refine lv_iinc (v := v113) (lv' := [(4, .int v113), (5, .int v110), (0, .ref (ad 0)), (1, .int v1), (3, .int v3)]) hx hb dX6_seeded_74 hl (k := 4) rfl (by rw [e13]; rfl) (by decide) rfl (fun ls hl => ?_)
      refine lv_goto (tgt := 45) hx hb dX6_seeded_77 (by decide) ?_
      exact ih v1 v3 v113 r12.2 _ _ _ hf hW (lv_sub hl [2, 3, 4, 0] rfl)
end S_X6_seeded
noncomputable def f_X6_seeded (σ : St) (a1 : Int32) (a2 : Int32) (a3 : Int32) : Option (Int32 × St) := nw (uI σ 0 5 0) fun σ1 => bnd (f_X6_in a1.toInt64 1 12) fun r2 => (if r2 = 0 then some ((-1), σ1) else bnd (f_X6_in a3.toInt64 0 3) fun r4 => (if r4 = 0 then some ((-1), σ1) else nw (uI σ1 0 25 a2) fun σ6 => bnd (f_X6_empty σ6 6) fun r7 => f_X6_seeded_45 (fun (w14_0 : Int32) (σ15 : St) => bnd (f_X6_portionOf σ15 6 w14_0) fun r16 => some (r16, σ15)) fu a1 a3 0 r7))
set_option maxHeartbeats 4000000 in
set_option maxRecDepth 100000 in
theorem c_X6_seeded (l : Launch) (D : va_G) (cA : Nat → ClassId) (ad : Nat → Nat) (hij : Ij ad SM) (σ : St) (a1 : Int32) (a2 : Int32) (a3 : Int32) (r : Int32 × St) (hf : f_X6_seeded σ a1 a2 a3 = some r) : Met l yX6_seeded wsX6_seeded rm_X6_seeded (PC D cA ad SM [.ref (ad 0), .int a1, .int a2, .int a3] σ) (Qi D cA ad SM r) 0 0 (Aw ad SM) := by
  rw [f_X6_seeded] at hf
  refine k_head (own := RX6) (ws := wsX6_seeded) (cc := cX6_seeded) (nL := 6) (ret := (some .int)) pn_X6 rfl rfl hij (Nat.le_of_ble_eq_true rfl) (fun p e s m below meth c ls X hW hl => ?_)
  have hl : lv_has ls 6 [(0, .ref (ad 0)), (1, .int a1), (2, .int a2), (3, .int a3)] := hl
  obtain ⟨hx, hb, hml, hown, hts, hr, hlk, hK, hij⟩ := id X
  refine lv_aload_n hx hb dX6_seeded_0 rfl (lv_at hl 0 rfl) ?_
  refine lv_iconst (v := 0) hx hb dX6_seeded_1 (by decide) ?_
  obtain ⟨σ1, e1, hf⟩ := nw_e hf
  refine put_6_5 X hW kM_0 iM_0 inX6_seeded_6 (List.mem_of_getElem? (i := 1) rfl) e1 dX6_seeded_2 (fun H locs hW => ?_)
  refine lv_iload_n hx hb dX6_seeded_5 rfl (lv_at hl 1 rfl) ?_
  refine lv_i2l hx hb dX6_seeded_6 rfl ?_
  refine lv_lconst (v := 1) hx hb dX6_seeded_7 (by decide) ?_
  refine lv_ldc2 (v := 12) hx hb hown (hts _ (List.mem_of_getElem? (i := 2) rfl)) dX6_seeded_8 ?_
  obtain ⟨r2, z2, hf⟩ := bnd_e hf
  refine r_cSiR X hW (c_X6_in l D cA ad hij σ1 a1.toInt64 1 12 r2 z2) gX6_seeded_X6_in rfl ⟨rfl, rfl⟩ hd_X6_in ⟨Nat.le_of_ble_eq_true rfl, Nat.le_of_ble_eq_true rfl⟩ rfl (Nat.le_of_ble_eq_true rfl) hl.1 dX6_seeded_11 (fun H locs hW => ?_)
  refine lv_if_eq (tgt := 29) hx hb dX6_seeded_14 (by decide) (fun c3 => ?_) (fun c3 => ?_)
  · have hf := it_e hf c3
    refine lv_iconst (v := (-1)) hx hb dX6_seeded_29 (by decide) ?_
    exact r_iret X hW rfl rfl hf dX6_seeded_30
  · have hf := ie_e hf c3
    refine lv_iload_n hx hb dX6_seeded_17 rfl (lv_at hl 3 rfl) ?_
    refine lv_i2l hx hb dX6_seeded_18 rfl ?_
    refine lv_lconst (v := 0) hx hb dX6_seeded_19 (by decide) ?_
    refine lv_ldc2 (v := 3) hx hb hown (hts _ (List.mem_of_getElem? (i := 3) rfl)) dX6_seeded_20 ?_
    obtain ⟨r4, z4, hf⟩ := bnd_e hf
    refine r_cSiR X hW (c_X6_in l D cA ad hij σ1 a3.toInt64 0 3 r4 z4) gX6_seeded_X6_in rfl ⟨rfl, rfl⟩ hd_X6_in ⟨Nat.le_of_ble_eq_true rfl, Nat.le_of_ble_eq_true rfl⟩ rfl (Nat.le_of_ble_eq_true rfl) hl.1 dX6_seeded_23 (fun H locs hW => ?_)
    refine lv_if_ne (tgt := 31) hx hb dX6_seeded_26 (by decide) (fun c5 => ?_) (fun c5 => ?_)
    · have hf := ie_e hf c5
      refine lv_aload_n hx hb dX6_seeded_31 rfl (lv_at hl 0 rfl) ?_
      refine lv_iload_n hx hb dX6_seeded_32 rfl (lv_at hl 2 rfl) ?_
      obtain ⟨σ6, e6, hf⟩ := nw_e hf
      refine put_6_25 X hW kM_0 iM_0 inX6_seeded_6 (List.mem_of_getElem? (i := 4) rfl) e6 dX6_seeded_33 (fun H locs hW => ?_)
      refine lv_aload_n hx hb dX6_seeded_36 rfl (lv_at hl 0 rfl) ?_
      refine lv_bipush (v := 6) hx hb dX6_seeded_37 (by decide) ?_
      obtain ⟨r7, z7, hf⟩ := bnd_e hf
      refine r_cVv X hW kM_0 iM_0 rfl (c_X6_empty l D cA ad hij σ6 6 r7 z7) gX6_seeded_X6_empty rfl ⟨rfl, rfl⟩ hd_X6_empty ⟨Nat.le_of_ble_eq_true rfl, Nat.le_of_ble_eq_true rfl⟩ rfl (Nat.le_of_ble_eq_true rfl) hl.1 dX6_seeded_39 (fun H locs hW => ?_)
      refine lv_iconst (v := 0) hx hb dX6_seeded_42 (by decide) ?_
      refine lv_istore (lv' := [(4, .int 0), (0, .ref (ad 0)), (1, .int a1), (2, .int a2), (3, .int a3)]) hx hb dX6_seeded_43 hl (by decide) rfl (fun ls hl => ?_)
      refine b_X6_seeded_45 X (fun w14_0 σ15 H locs ls hf hW hl => ?_) fu a1 a3 0 r7 _ _ _ hf hW (lv_sub hl [1, 2, 4, 0] rfl)
      · refine lv_aload_n hx hb dX6_seeded_80 rfl (lv_at hl 0 rfl) ?_
        refine lv_bipush (v := 6) hx hb dX6_seeded_81 (by decide) ?_
        refine lv_iload_n hx hb dX6_seeded_83 rfl (lv_at hl 1 rfl) ?_
        obtain ⟨r16, z16, hf⟩ := bnd_e hf
        refine r_cViR X hW kM_0 iM_0 rfl (c_X6_portionOf l D cA ad hij σ15 6 w14_0 r16 z16) gX6_seeded_X6_portionOf rfl ⟨rfl, rfl⟩ hd_X6_portionOf ⟨Nat.le_of_ble_eq_true rfl, Nat.le_of_ble_eq_true rfl⟩ rfl (Nat.le_of_ble_eq_true rfl) hl.1 dX6_seeded_84 (fun H locs hW => ?_)
        exact r_iret X hW rfl rfl hf dX6_seeded_87
    · have hf := it_e hf c5
      refine lv_iconst (v := (-1)) hx hb dX6_seeded_29 (by decide) ?_
      exact r_iret X hW rfl rfl hf dX6_seeded_30

abbrev rm_X6_skippedIn : Room := { frames := 0, cells := 0, slots := 0, locals := 0 }
theorem hd_X6_skippedIn : yX6_skippedIn.cls = RX6 ∧ yX6_skippedIn.cls ≠ "java/lang/invoke/MethodHandle" ∧ yX6_skippedIn.cls ≠ "java/lang/invoke/VarHandle" ∧ (parseMethodDescriptor yX6_skippedIn.desc).map (fun d => d.parameters.length) = some 1 := by decide +kernel
theorem inX6_skippedIn_6 : ∀ w ∈ wsX60, w ∈ wsX6_skippedIn := fun _ h => List.mem_cons_of_mem _ (List.mem_append_right _ h)
section S_X6_skippedIn
variable {p : Program} {l : Launch} {e : Env} {s : State} {m : MethodId} {args : Array Value} {below : List Frame} {meth : Method} {c : Code} {D : va_G} {cA : Nat → ClassId} {ad : Nat → Nat} {r : Int64}
end S_X6_skippedIn
noncomputable def f_X6_skippedIn (σ : St) (a1 : Int32) : Option (Int64) := chk (inb a1 8) <| (if (σ.1 19 a1.toNatClampNeg) = 0 then some ((-128)) else (if (σ.1 19 a1.toNatClampNeg) = 1 then some ((-32768)) else some ((-2147483648))))
set_option maxHeartbeats 4000000 in
set_option maxRecDepth 100000 in
theorem c_X6_skippedIn (l : Launch) (D : va_G) (cA : Nat → ClassId) (ad : Nat → Nat) (hij : Ij ad SM) (σ : St) (a1 : Int32) (r : Int64) (hf : f_X6_skippedIn σ a1 = some r) : Met l yX6_skippedIn wsX6_skippedIn rm_X6_skippedIn (PC D cA ad SM [.ref (ad 0), .int a1] σ) (Ql D cA ad SM (r, σ)) 0 0 (Aw ad SM) := by
  rw [f_X6_skippedIn] at hf
  refine k_head (own := RX6) (ws := wsX6_skippedIn) (cc := cX6_skippedIn) (nL := 2) (ret := (some .long)) pn_X6 rfl rfl hij (Nat.le_of_ble_eq_true rfl) (fun p e s m below meth c ls X hW hl => ?_)
  have hl : lv_has ls 2 [(0, .ref (ad 0)), (1, .int a1)] := hl
  obtain ⟨hx, hb, hml, hown, hts, hr, hlk, hK, hij⟩ := id X
  refine lv_aload_n hx hb dX6_skippedIn_0 rfl (lv_at hl 0 rfl) ?_
  refine get_6_29 X hW kM_0 iM_0 inX6_skippedIn_6 (List.mem_of_getElem? (i := 1) rfl) dX6_skippedIn_1 ?_
  refine lv_iload_n hx hb dX6_skippedIn_4 rfl (lv_at hl 1 rfl) ?_
  obtain ⟨x1, hf⟩ := chk_e hf
  refine r_iald X hW kM_19 iM_19 nM_19 x1 dX6_skippedIn_5 ?_
  refine lv_if_ne (tgt := 15) hx hb dX6_skippedIn_6 (by decide) (fun c2 => ?_) (fun c2 => ?_)
  · have hf := ie_e hf c2
    refine lv_aload_n hx hb dX6_skippedIn_15 rfl (lv_at hl 0 rfl) ?_
    refine get_6_29 X hW kM_0 iM_0 inX6_skippedIn_6 (List.mem_of_getElem? (i := 1) rfl) dX6_skippedIn_16 ?_
    refine lv_iload_n hx hb dX6_skippedIn_19 rfl (lv_at hl 1 rfl) ?_
    refine r_iald X hW kM_19 iM_19 nM_19 x1 dX6_skippedIn_20 ?_
    refine lv_iconst (v := 1) hx hb dX6_skippedIn_21 (by decide) ?_
    refine lv_icmp_ne (tgt := 31) hx hb dX6_skippedIn_22 (by decide) (fun c3 => ?_) (fun c3 => ?_)
    · have hf := ie_e hf c3
      refine lv_ldc2 (v := (-2147483648)) hx hb hown (hts _ (List.mem_of_getElem? (i := 4) rfl)) dX6_skippedIn_31 ?_
      exact r_lretR X hW rfl hf dX6_skippedIn_34
    · have hf := it_e hf c3
      refine lv_ldc2 (v := (-32768)) hx hb hown (hts _ (List.mem_of_getElem? (i := 3) rfl)) dX6_skippedIn_25 ?_
      refine lv_goto (tgt := 34) hx hb dX6_skippedIn_28 (by decide) ?_
      exact r_lretR X hW rfl hf dX6_skippedIn_34
  · have hf := it_e hf c2
    refine lv_ldc2 (v := (-128)) hx hb hown (hts _ (List.mem_of_getElem? (i := 2) rfl)) dX6_skippedIn_9 ?_
    refine lv_goto (tgt := 34) hx hb dX6_skippedIn_12 (by decide) ?_
    exact r_lretR X hW rfl hf dX6_skippedIn_34

abbrev rm_X6_judge : Room := { frames := 2, cells := 0, slots := 0, locals := 48 }
theorem hd_X6_judge : yX6_judge.cls = RX6 ∧ yX6_judge.cls ≠ "java/lang/invoke/MethodHandle" ∧ yX6_judge.cls ≠ "java/lang/invoke/VarHandle" ∧ (parseMethodDescriptor yX6_judge.desc).map (fun d => d.parameters.length) = some 1 := by decide +kernel
theorem inX6_judge_6 : ∀ w ∈ wsX60, w ∈ wsX6_judge := fun _ h => List.mem_cons_of_mem _ (List.mem_append_right _ h)
section S_X6_judge
variable {p : Program} {l : Launch} {e : Env} {s : State} {m : MethodId} {args : Array Value} {below : List Frame} {meth : Method} {c : Code} {D : va_G} {cA : Nat → ClassId} {ad : Nat → Nat} {r : Int32 × St}
noncomputable def f_X6_judge_82 (k19 : Int32 → Int32 → St → Option (Int32 × St)) (v1 : Int32) (v3 : Int32) (σ : St) : Option (Int32 × St) := nw (v3 + 1 : Int32) fun v111 => k19 v1 v111 σ
set_option maxHeartbeats 4000000 in
set_option maxRecDepth 100000 in
theorem b_X6_judge_82 {k19 : Int32 → Int32 → St → Option (Int32 × St)} (X : Cx RX6 wsX6_judge cX6_judge 6 (some .int) D cA ad SM p s m args meth c) (h19 : ∀ (w0 : Int32) (w1 : Int32) (σ : St) (H : Heap) (locs : List Loc) (ls : Array Slot), k19 w0 w1 σ = some r → Rn D cA ad SM s.heap σ H locs → lv_has ls 6 [(0, .ref (ad 0)), (1, .int w0), (3, .int w1)] → W p l e rm_X6_judge s m args below meth c H locs 0 0 (MQ below (Qi D cA ad SM r) args s 0 0 (Aw ad SM)) (F0 m 19 ls [])) : ∀ (v1 : Int32) (v3 : Int32) (σ : St) (H : Heap) (locs : List Loc) (ls : Array Slot), f_X6_judge_82 k19 v1 v3 σ = some r → Rn D cA ad SM s.heap σ H locs → lv_has ls 6 [(0, .ref (ad 0)), (1, .int v1), (3, .int v3)] → W p l e rm_X6_judge s m args below meth c H locs 0 0 (MQ below (Qi D cA ad SM r) args s 0 0 (Aw ad SM)) (F0 m 82 ls []) := by
  obtain ⟨hx, hb, hml, hown, hts, hr, hlk, hK, hij⟩ := id X
  intro v1 v3 σ H locs ls hf hW hl
  rw [f_X6_judge_82] at hf
  obtain ⟨v111, e11, hf⟩ := nw_e hf
  refine lv_iinc (v := v111) (lv' := [(3, .int v111), (0, .ref (ad 0)), (1, .int v1)]) hx hb dX6_judge_82 hl (k := 2) rfl (by rw [e11]; rfl) (by decide) rfl (fun ls hl => ?_)
  refine lv_goto (tgt := 19) hx hb dX6_judge_85 (by decide) ?_
  exact h19 v1 v111 σ _ _ _ hf hW (lv_sub hl [1, 2, 0] rfl)
noncomputable def f_X6_judge_19 (k80 : Int32 → St → Option (Int32 × St)) (k88 : Int32 → St → Option (Int32 × St)) : Nat → Int32 → Int32 → St → Option (Int32 × St)
  | 0, _, _, _ => none
  | n + 1, v1, v3, σ => (if (4 * (σ.1 0 0)) ≤ v3 then k88 v1 σ else chk (inb v1 8) <| (if (σ.1 20 v1.toNatClampNeg) ≤ v3 then k88 v1 σ else chk (inb ((100 * v1) + v3) 800) <| nw (σ.2 21 ((100 * v1) + v3).toNatClampNeg : Int64) fun v108 => bnd (f_X6_skippedIn σ v1) fun r9 => (if (lg_cmp v108 r9) = 0 then f_X6_judge_82 (fun (w12_0 : Int32) (w13_1 : Int32) (σ14 : St) => f_X6_judge_19 k80 k88 n w12_0 w13_1 σ14) v1 v3 σ else bnd (f_X6_portionOf σ (v3 / 4) (v3 - v3 / 4 * 4)) fun r15 => (if (lg_cmp v108 r15.toInt64) = 0 then f_X6_judge_82 (fun (w17_0 : Int32) (w18_1 : Int32) (σ19 : St) => f_X6_judge_19 k80 k88 n w17_0 w18_1 σ19) v1 v3 σ else k80 v3 σ))))
set_option maxHeartbeats 4000000 in
set_option maxRecDepth 100000 in
theorem b_X6_judge_19 {k80 : Int32 → St → Option (Int32 × St)} {k88 : Int32 → St → Option (Int32 × St)} (X : Cx RX6 wsX6_judge cX6_judge 6 (some .int) D cA ad SM p s m args meth c) (h80 : ∀ (w0 : Int32) (σ : St) (H : Heap) (locs : List Loc) (ls : Array Slot), k80 w0 σ = some r → Rn D cA ad SM s.heap σ H locs → lv_has ls 6 [(3, .int w0)] → W p l e rm_X6_judge s m args below meth c H locs 0 0 (MQ below (Qi D cA ad SM r) args s 0 0 (Aw ad SM)) (F0 m 80 ls [])) (h88 : ∀ (w0 : Int32) (σ : St) (H : Heap) (locs : List Loc) (ls : Array Slot), k88 w0 σ = some r → Rn D cA ad SM s.heap σ H locs → lv_has ls 6 [(0, .ref (ad 0)), (1, .int w0)] → W p l e rm_X6_judge s m args below meth c H locs 0 0 (MQ below (Qi D cA ad SM r) args s 0 0 (Aw ad SM)) (F0 m 88 ls [])) : ∀ (n : Nat) (v1 : Int32) (v3 : Int32) (σ : St) (H : Heap) (locs : List Loc) (ls : Array Slot), f_X6_judge_19 k80 k88 n v1 v3 σ = some r → Rn D cA ad SM s.heap σ H locs → lv_has ls 6 [(0, .ref (ad 0)), (1, .int v1), (3, .int v3)] → W p l e rm_X6_judge s m args below meth c H locs 0 0 (MQ below (Qi D cA ad SM r) args s 0 0 (Aw ad SM)) (F0 m 19 ls []) := by
  obtain ⟨hx, hb, hml, hown, hts, hr, hlk, hK, hij⟩ := id X
  intro n
  induction n with
  | zero =>
    intro v1 v3 σ H locs ls hf
    exact nomatch (show (none : Option (Int32 × St)) = some r from hf)
  | succ n ih =>
    intro v1 v3 σ H locs ls hf hW hl
    rw [f_X6_judge_19] at hf
    refine lv_iload_n hx hb dX6_judge_19 rfl (lv_at hl 2 rfl) ?_
    refine lv_iconst (v := 4) hx hb dX6_judge_20 (by decide) ?_
    refine lv_aload_n hx hb dX6_judge_21 rfl (lv_at hl 0 rfl) ?_
    refine get_6_0 X hW kM_0 iM_0 inX6_judge_6 (List.mem_of_getElem? (i := 2) rfl) dX6_judge_22 ?_
    refine lv_imul hx hb dX6_judge_25 ?_
    refine lv_icmp_ge (tgt := 88) hx hb dX6_judge_26 (by decide) (fun c4 => ?_) (fun c4 => ?_)
    · have hf := it_e hf c4
      exact h88 v1 σ _ _ _ hf hW (lv_sub hl [0, 1] rfl)
    · have hf := ie_e hf c4
      refine lv_iload_n hx hb dX6_judge_29 rfl (lv_at hl 2 rfl) ?_
      refine lv_aload_n hx hb dX6_judge_30 rfl (lv_at hl 0 rfl) ?_
      refine get_6_30 X hW kM_0 iM_0 inX6_judge_6 (List.mem_of_getElem? (i := 3) rfl) dX6_judge_31 ?_
      refine lv_iload_n hx hb dX6_judge_34 rfl (lv_at hl 1 rfl) ?_
      obtain ⟨x5, hf⟩ := chk_e hf
      refine r_iald X hW kM_20 iM_20 nM_20 x5 dX6_judge_35 ?_
      refine lv_icmp_ge (tgt := 88) hx hb dX6_judge_36 (by decide) (fun c6 => ?_) (fun c6 => ?_)
      · have hf := it_e hf c6
        exact h88 v1 σ _ _ _ hf hW (lv_sub hl [0, 1] rfl)
      · have hf := ie_e hf c6
        refine lv_aload_n hx hb dX6_judge_39 rfl (lv_at hl 0 rfl) ?_
        refine get_6_31 X hW kM_0 iM_0 inX6_judge_6 (List.mem_of_getElem? (i := 4) rfl) dX6_judge_40 ?_
        refine lv_bipush (v := 100) hx hb dX6_judge_43 (by decide) ?_
        refine lv_iload_n hx hb dX6_judge_45 rfl (lv_at hl 1 rfl) ?_
        refine lv_imul hx hb dX6_judge_46 ?_
        refine lv_iload_n hx hb dX6_judge_47 rfl (lv_at hl 2 rfl) ?_
        refine lv_iadd hx hb dX6_judge_48 ?_
        obtain ⟨x7, hf⟩ := chk_e hf
        refine r_lald X hW kM_21 iM_21 nM_21 x7 dX6_judge_49 ?_
        obtain ⟨v108, e8, hf⟩ := nw_e hf
        refine tL _ e8 ?_
        refine lv_lstore (lv' := [(4, .long v108), (0, .ref (ad 0)), (1, .int v1), (3, .int v3)]) hx hb dX6_judge_50 hl (by decide) rfl (fun ls hl => ?_)
        refine lv_lload hx hb dX6_judge_52 (lv_at hl 0 rfl) ?_
        refine lv_aload_n hx hb dX6_judge_54 rfl (lv_at hl 1 rfl) ?_
        refine lv_iload_n hx hb dX6_judge_55 rfl (lv_at hl 2 rfl) ?_
        obtain ⟨r9, z9, hf⟩ := bnd_e hf
        refine r_cVlR X hW kM_0 iM_0 rfl (c_X6_skippedIn l D cA ad hij σ v1 r9 z9) gX6_judge_X6_skippedIn rfl ⟨rfl, rfl⟩ hd_X6_skippedIn ⟨Nat.le_of_ble_eq_true rfl, Nat.le_of_ble_eq_true rfl⟩ rfl (Nat.le_of_ble_eq_true rfl) hl.1 dX6_judge_56 (fun H locs hW => ?_)
        refine W.lcmp hx hb dX6_judge_59 ?_
        refine lv_if_eq (tgt := 82) hx hb dX6_judge_60 (by decide) (fun c10 => ?_) (fun c10 => ?_)
        · have hf := it_e hf c10
          refine b_X6_judge_82 X (fun w12_0 w13_1 σ14 H locs ls hf hW hl => ?_) v1 v3 σ _ _ _ hf hW (lv_sub hl [1, 2, 3] rfl)
          · exact ih w12_0 w13_1 σ14 _ _ _ hf hW (lv_sub hl [0, 1, 2] rfl)
        · have hf := ie_e hf c10
          refine lv_lload hx hb dX6_judge_63 (lv_at hl 0 rfl) ?_
          refine lv_aload_n hx hb dX6_judge_65 rfl (lv_at hl 1 rfl) ?_
          refine lv_iload_n hx hb dX6_judge_66 rfl (lv_at hl 3 rfl) ?_
          refine lv_iconst (v := 4) hx hb dX6_judge_67 (by decide) ?_
          refine lv_idiv hx hb dX6_judge_68 (by decide) ?_
          refine lv_iload_n hx hb dX6_judge_69 rfl (lv_at hl 3 rfl) ?_
          refine lv_iconst (v := 4) hx hb dX6_judge_70 (by decide) ?_
          refine lv_irem hx hb dX6_judge_71 (by decide) ?_
          obtain ⟨r15, z15, hf⟩ := bnd_e hf
          refine r_cViR X hW kM_0 iM_0 rfl (c_X6_portionOf l D cA ad hij σ (v3 / 4) (v3 - v3 / 4 * 4) r15 z15) gX6_judge_X6_portionOf rfl ⟨rfl, rfl⟩ hd_X6_portionOf ⟨Nat.le_of_ble_eq_true rfl, Nat.le_of_ble_eq_true rfl⟩ rfl (Nat.le_of_ble_eq_true rfl) hl.1 dX6_judge_72 (fun H locs hW => ?_)
          refine lv_i2l hx hb dX6_judge_75 rfl ?_
          refine W.lcmp hx hb dX6_judge_76 ?_
          refine lv_if_eq (tgt := 82) hx hb dX6_judge_77 (by decide) (fun c16 => ?_) (fun c16 => ?_)
          · have hf := it_e hf c16
            refine b_X6_judge_82 X (fun w17_0 w18_1 σ19 H locs ls hf hW hl => ?_) v1 v3 σ _ _ _ hf hW (lv_sub hl [1, 2, 3] rfl)
            · exact ih w17_0 w18_1 σ19 _ _ _ hf hW (lv_sub hl [0, 1, 2] rfl)
          · have hf := ie_e hf c16
            exact h80 v3 σ _ _ _ hf hW (lv_sub hl [3] rfl)
noncomputable def f_X6_judge_88 (v1 : Int32) (σ : St) : Option (Int32 × St) := chk (inb v1 8) <| (if (4 * (σ.1 0 0)) ≤ (σ.1 20 v1.toNatClampNeg) then (if (σ.1 20 v1.toNatClampNeg) ≤ (4 * (σ.1 0 0)) then some ((-4), σ) else some (4 * (σ.1 0 0), σ)) else some (σ.1 20 v1.toNatClampNeg, σ))
set_option maxHeartbeats 4000000 in
set_option maxRecDepth 100000 in
theorem b_X6_judge_88 (X : Cx RX6 wsX6_judge cX6_judge 6 (some .int) D cA ad SM p s m args meth c) : ∀ (v1 : Int32) (σ : St) (H : Heap) (locs : List Loc) (ls : Array Slot), f_X6_judge_88 v1 σ = some r → Rn D cA ad SM s.heap σ H locs → lv_has ls 6 [(0, .ref (ad 0)), (1, .int v1)] → W p l e rm_X6_judge s m args below meth c H locs 0 0 (MQ below (Qi D cA ad SM r) args s 0 0 (Aw ad SM)) (F0 m 88 ls []) := by
  obtain ⟨hx, hb, hml, hown, hts, hr, hlk, hK, hij⟩ := id X
  intro v1 σ H locs ls hf hW hl
  rw [f_X6_judge_88] at hf
  refine lv_aload_n hx hb dX6_judge_88 rfl (lv_at hl 0 rfl) ?_
  refine get_6_30 X hW kM_0 iM_0 inX6_judge_6 (List.mem_of_getElem? (i := 3) rfl) dX6_judge_89 ?_
  refine lv_iload_n hx hb dX6_judge_92 rfl (lv_at hl 1 rfl) ?_
  obtain ⟨x24, hf⟩ := chk_e hf
  refine r_iald X hW kM_20 iM_20 nM_20 x24 dX6_judge_93 ?_
  refine lv_iconst (v := 4) hx hb dX6_judge_94 (by decide) ?_
  refine lv_aload_n hx hb dX6_judge_95 rfl (lv_at hl 0 rfl) ?_
  refine get_6_0 X hW kM_0 iM_0 inX6_judge_6 (List.mem_of_getElem? (i := 2) rfl) dX6_judge_96 ?_
  refine lv_imul hx hb dX6_judge_99 ?_
  refine lv_icmp_ge (tgt := 112) hx hb dX6_judge_100 (by decide) (fun c25 => ?_) (fun c25 => ?_)
  · have hf := it_e hf c25
    refine lv_aload_n hx hb dX6_judge_112 rfl (lv_at hl 0 rfl) ?_
    refine get_6_30 X hW kM_0 iM_0 inX6_judge_6 (List.mem_of_getElem? (i := 3) rfl) dX6_judge_113 ?_
    refine lv_iload_n hx hb dX6_judge_116 rfl (lv_at hl 1 rfl) ?_
    refine r_iald X hW kM_20 iM_20 nM_20 x24 dX6_judge_117 ?_
    refine lv_iconst (v := 4) hx hb dX6_judge_118 (by decide) ?_
    refine lv_aload_n hx hb dX6_judge_119 rfl (lv_at hl 0 rfl) ?_
    refine get_6_0 X hW kM_0 iM_0 inX6_judge_6 (List.mem_of_getElem? (i := 2) rfl) dX6_judge_120 ?_
    refine lv_imul hx hb dX6_judge_123 ?_
    refine lv_icmp_le (tgt := 136) hx hb dX6_judge_124 (by decide) (fun c26 => ?_) (fun c26 => ?_)
    · have hf := it_e hf c26
      refine lv_bipush (v := (-4)) hx hb dX6_judge_136 (by decide) ?_
      exact r_iret X hW rfl rfl hf dX6_judge_138
    · have hf := ie_e hf c26
      refine lv_iconst (v := 4) hx hb dX6_judge_127 (by decide) ?_
      refine lv_aload_n hx hb dX6_judge_128 rfl (lv_at hl 0 rfl) ?_
      refine get_6_0 X hW kM_0 iM_0 inX6_judge_6 (List.mem_of_getElem? (i := 2) rfl) dX6_judge_129 ?_
      refine lv_imul hx hb dX6_judge_132 ?_
      refine lv_goto (tgt := 138) hx hb dX6_judge_133 (by decide) ?_
      exact r_iret X hW rfl rfl hf dX6_judge_138
  · have hf := ie_e hf c25
    refine lv_aload_n hx hb dX6_judge_103 rfl (lv_at hl 0 rfl) ?_
    refine get_6_30 X hW kM_0 iM_0 inX6_judge_6 (List.mem_of_getElem? (i := 3) rfl) dX6_judge_104 ?_
    refine lv_iload_n hx hb dX6_judge_107 rfl (lv_at hl 1 rfl) ?_
    refine r_iald X hW kM_20 iM_20 nM_20 x24 dX6_judge_108 ?_
    refine lv_goto (tgt := 138) hx hb dX6_judge_109 (by decide) ?_
    exact r_iret X hW rfl rfl hf dX6_judge_138
end S_X6_judge
noncomputable def f_X6_judge (σ : St) (a1 : Int32) : Option (Int32 × St) := nw (uI σ 0 5 0) fun σ1 => bnd (f_X6_wrongRow σ1 a1) fun r2 => (if 0 ≤ r2 then f_X6_judge_19 (fun (w20_0 : Int32) (σ21 : St) => some (w20_0, σ21)) (fun (w22_0 : Int32) (σ23 : St) => f_X6_judge_88 w22_0 σ23) fu a1 0 σ1 else some (r2, σ1))
set_option maxHeartbeats 4000000 in
set_option maxRecDepth 100000 in
theorem c_X6_judge (l : Launch) (D : va_G) (cA : Nat → ClassId) (ad : Nat → Nat) (hij : Ij ad SM) (σ : St) (a1 : Int32) (r : Int32 × St) (hf : f_X6_judge σ a1 = some r) : Met l yX6_judge wsX6_judge rm_X6_judge (PC D cA ad SM [.ref (ad 0), .int a1] σ) (Qi D cA ad SM r) 0 0 (Aw ad SM) := by
  rw [f_X6_judge] at hf
  refine k_head (own := RX6) (ws := wsX6_judge) (cc := cX6_judge) (nL := 6) (ret := (some .int)) pn_X6 rfl rfl hij (Nat.le_of_ble_eq_true rfl) (fun p e s m below meth c ls X hW hl => ?_)
  have hl : lv_has ls 6 [(0, .ref (ad 0)), (1, .int a1)] := hl
  obtain ⟨hx, hb, hml, hown, hts, hr, hlk, hK, hij⟩ := id X
  refine lv_aload_n hx hb dX6_judge_0 rfl (lv_at hl 0 rfl) ?_
  refine lv_iconst (v := 0) hx hb dX6_judge_1 (by decide) ?_
  obtain ⟨σ1, e1, hf⟩ := nw_e hf
  refine put_6_5 X hW kM_0 iM_0 inX6_judge_6 (List.mem_of_getElem? (i := 1) rfl) e1 dX6_judge_2 (fun H locs hW => ?_)
  refine lv_aload_n hx hb dX6_judge_5 rfl (lv_at hl 0 rfl) ?_
  refine lv_iload_n hx hb dX6_judge_6 rfl (lv_at hl 1 rfl) ?_
  obtain ⟨r2, z2, hf⟩ := bnd_e hf
  refine r_cViR X hW kM_0 iM_0 rfl (c_X6_wrongRow l D cA ad hij σ1 a1 r2 z2) gX6_judge_X6_wrongRow rfl ⟨rfl, rfl⟩ hd_X6_wrongRow ⟨Nat.le_of_ble_eq_true rfl, Nat.le_of_ble_eq_true rfl⟩ rfl (Nat.le_of_ble_eq_true rfl) hl.1 dX6_judge_7 (fun H locs hW => ?_)
  refine lv_istore_n (lv' := [(2, .int r2), (0, .ref (ad 0)), (1, .int a1)]) hx hb dX6_judge_10 rfl hl (by decide) rfl (fun ls hl => ?_)
  refine lv_iload_n hx hb dX6_judge_11 rfl (lv_at hl 0 rfl) ?_
  refine lv_if_ge (tgt := 17) hx hb dX6_judge_12 (by decide) (fun c3 => ?_) (fun c3 => ?_)
  · have hf := it_e hf c3
    refine lv_iconst (v := 0) hx hb dX6_judge_17 (by decide) ?_
    refine lv_istore_n (lv' := [(3, .int 0), (2, .int r2), (0, .ref (ad 0)), (1, .int a1)]) hx hb dX6_judge_18 rfl hl (by decide) rfl (fun ls hl => ?_)
    refine b_X6_judge_19 X (fun w20_0 σ21 H locs ls hf hW hl => ?_) (fun w22_0 σ23 H locs ls hf hW hl => ?_) fu a1 0 σ1 _ _ _ hf hW (lv_sub hl [2, 3, 0] rfl)
    · refine lv_iload_n hx hb dX6_judge_80 rfl (lv_at hl 0 rfl) ?_
      exact r_iret X hW rfl rfl hf dX6_judge_81
    · exact b_X6_judge_88 X w22_0 σ23 _ _ _ hf hW (lv_sub hl [0, 1] rfl)
  · have hf := ie_e hf c3
    refine lv_iload_n hx hb dX6_judge_15 rfl (lv_at hl 0 rfl) ?_
    exact r_iret X hW rfl rfl hf dX6_judge_16
