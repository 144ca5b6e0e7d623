abbrev rm_X0_clear : Room := { frames := 0, cells := 0, slots := 0, locals := 0 }
theorem hd_X0_clear : yX0_clear.cls = RX0 ∧ yX0_clear.cls ≠ "java/lang/invoke/MethodHandle" ∧ yX0_clear.cls ≠ "java/lang/invoke/VarHandle" ∧ (parseMethodDescriptor yX0_clear.desc).map (fun d => d.parameters.length) = some 0 := by decide +kernel
theorem inX0_clear_0 : ∀ w ∈ wsX00, w ∈ wsX0_clear := fun _ h => List.mem_cons_of_mem _ (List.mem_append_right _ h)
section S_X0_clear
variable {p : Program} {l : Launch} {e : Env} {s : State} {m : MethodId} {args : Array Value} {below : List Frame} {meth : Method} {c : Code} {D : va_G} {cA : Nat → ClassId} {ad : Nat → Nat} {r : St}
noncomputable def f_X0_clear_2 (k20 : Nat → St → Option (St)) : Nat → Nat → Int32 → St → Option (St)
  | 0, _, _, _ => none
  | n + 1, v0, v1, σ => (if 4 ≤ v1 then k20 v0 σ else chk (kOK SC v0 0) <| chk (aOK SC (v0 + 1) 21 4) <| chk (inb v1 4) <| nw (uL σ (v0 + 1) v1.toNatClampNeg 0) fun σ5 => nw (v1 + 1 : Int32) fun v106 => f_X0_clear_2 k20 n v0 v106 σ5)
set_option maxHeartbeats 4000000 in
set_option maxRecDepth 100000 in
theorem b_X0_clear_2 {k20 : Nat → St → Option (St)} (X : Cx RX0 wsX0_clear cX0_clear 2 none D cA ad SC p s m args meth c) (h20 : ∀ (w0 : Nat) (σ : St) (H : Heap) (locs : List Loc) (ls : Array Slot), k20 w0 σ = some r → Rn D cA ad SC s.heap σ H locs → lv_has ls 2 [(0, .ref (ad w0))] → W p l e rm_X0_clear s m args below meth c H locs 0 0 (MQ below (Qv D cA ad SC r) args s 0 0 (Aw ad SC)) (F0 m 20 ls [])) : ∀ (n : Nat) (v0 : Nat) (v1 : Int32) (σ : St) (H : Heap) (locs : List Loc) (ls : Array Slot), f_X0_clear_2 k20 n v0 v1 σ = some r → Rn D cA ad SC s.heap σ H locs → lv_has ls 2 [(0, .ref (ad v0)), (1, .int v1)] → W p l e rm_X0_clear s m args below meth c H locs 0 0 (MQ below (Qv D cA ad SC r) args s 0 0 (Aw ad SC)) (F0 m 2 ls []) := by
  obtain ⟨hx, hb, hml, hown, hts, hr, hlk, hK, hij⟩ := id X
  intro n
  induction n with
  | zero =>
    intro v0 v1 σ H locs ls hf
    exact nomatch (show (none : Option (St)) = some r from hf)
  | succ n ih =>
    intro v0 v1 σ H locs ls hf hW hl
    rw [f_X0_clear_2] at hf
    refine lv_iload_n hx hb dX0_clear_2 rfl (lv_at hl 1 rfl) ?_
    refine lv_iconst (v := 4) hx hb dX0_clear_3 (by decide) ?_
    refine lv_icmp_ge (tgt := 20) hx hb dX0_clear_4 (by decide) (fun c1 => ?_) (fun c1 => ?_)
    · have hf := it_e hf c1
      exact h20 v0 σ _ _ _ hf hW (lv_sub hl [0] rfl)
    · have hf := ie_e hf c1
      refine lv_aload_n hx hb dX0_clear_7 rfl (lv_at hl 0 rfl) ?_
      obtain ⟨q2, hf⟩ := chk_e hf
      obtain ⟨i2, k2⟩ := kOK_e q2
      refine get_0_0 X hW k2 i2 inX0_clear_0 (List.mem_of_getElem? (i := 1) rfl) dX0_clear_8 ?_
      refine lv_iload_n hx hb dX0_clear_11 rfl (lv_at hl 1 rfl) ?_
      refine lv_lconst (v := 0) hx hb dX0_clear_12 (by decide) ?_
      obtain ⟨q3, hf⟩ := chk_e hf
      obtain ⟨i3, k3, n3⟩ := aOK_e q3
      obtain ⟨x4, hf⟩ := chk_e hf
      obtain ⟨σ5, e5, hf⟩ := nw_e hf
      refine r_last X hW k3 i3 n3 x4 e5 dX0_clear_13 (fun H locs hW => ?_)
      obtain ⟨v106, e6, hf⟩ := nw_e hf
      refine lv_iinc (v := v106) (lv' := [(1, .int v106), (0, .ref (ad v0))]) hx hb dX0_clear_14 hl (k := 1) rfl (by rw [e6]; rfl) (by decide) rfl (fun ls hl => ?_)
      refine lv_goto (tgt := 2) hx hb dX0_clear_17 (by decide) ?_
      exact ih v0 v106 σ5 _ _ _ hf hW (lv_sub hl [1, 0] rfl)
end S_X0_clear
noncomputable def f_X0_clear (σ : St) (a0 : Nat) : Option (St) := f_X0_clear_2 (fun (w7_0 : Nat) (σ8 : St) => chk (kOK SC w7_0 0) <| nw (uL σ8 w7_0 1 1) fun σ10 => nw (uI σ10 w7_0 2 0) fun σ11 => some σ11) fu a0 0 σ
set_option maxHeartbeats 4000000 in
set_option maxRecDepth 100000 in
theorem c_X0_clear (l : Launch) (D : va_G) (cA : Nat → ClassId) (ad : Nat → Nat) (hij : Ij ad SC) (σ : St) (a0 : Nat) (r : St) (hf : f_X0_clear σ a0 = some r) : Met l yX0_clear wsX0_clear rm_X0_clear (PC D cA ad SC [.ref (ad a0)] σ) (Qv D cA ad SC r) 0 0 (Aw ad SC) := by
  rw [f_X0_clear] at hf
  refine k_head (own := RX0) (ws := wsX0_clear) (cc := cX0_clear) (nL := 2) (ret := none) pn_X0 rfl rfl hij (Nat.le_of_ble_eq_true rfl) (fun p e s m below meth c ls X hW hl => ?_)
  have hl : lv_has ls 2 [(0, .ref (ad a0))] := hl
  obtain ⟨hx, hb, hml, hown, hts, hr, hlk, hK, hij⟩ := id X
  refine lv_iconst (v := 0) hx hb dX0_clear_0 (by decide) ?_
  refine lv_istore_n (lv' := [(1, .int 0), (0, .ref (ad a0))]) hx hb dX0_clear_1 rfl hl (by decide) rfl (fun ls hl => ?_)
  refine b_X0_clear_2 X (fun w7_0 σ8 H locs ls hf hW hl => ?_) fu a0 0 σ _ _ _ hf hW (lv_sub hl [1, 0] rfl)
  · refine lv_aload_n hx hb dX0_clear_20 rfl (lv_at hl 0 rfl) ?_
    refine lv_lconst (v := 1) hx hb dX0_clear_21 (by decide) ?_
    obtain ⟨q9, hf⟩ := chk_e hf
    obtain ⟨i9, k9⟩ := kOK_e q9
    obtain ⟨σ10, e10, hf⟩ := nw_e hf
    refine put_0_1 X hW k9 i9 inX0_clear_0 (List.mem_of_getElem? (i := 2) rfl) e10 dX0_clear_22 (fun H locs hW => ?_)
    refine lv_aload_n hx hb dX0_clear_25 rfl (lv_at hl 0 rfl) ?_
    refine lv_iconst (v := 0) hx hb dX0_clear_26 (by decide) ?_
    obtain ⟨σ11, e11, hf⟩ := nw_e hf
    refine put_0_2 X hW k9 i9 inX0_clear_0 (List.mem_of_getElem? (i := 3) rfl) e11 dX0_clear_27 (fun H locs hW => ?_)
    exact r_vret X hW rfl hf dX0_clear_30

abbrev rm_X0_become : Room := { frames := 0, cells := 0, slots := 0, locals := 0 }
theorem hd_X0_become : yX0_become.cls = RX0 ∧ yX0_become.cls ≠ "java/lang/invoke/MethodHandle" ∧ yX0_become.cls ≠ "java/lang/invoke/VarHandle" ∧ (parseMethodDescriptor yX0_become.desc).map (fun d => d.parameters.length) = some 1 := by decide +kernel
theorem inX0_become_0 : ∀ w ∈ wsX00, w ∈ wsX0_become := fun _ h => List.mem_cons_of_mem _ (List.mem_append_right _ h)
section S_X0_become
variable {p : Program} {l : Launch} {e : Env} {s : State} {m : MethodId} {args : Array Value} {below : List Frame} {meth : Method} {c : Code} {D : va_G} {cA : Nat → ClassId} {ad : Nat → Nat} {r : St}
noncomputable def f_X0_become_2 (k25 : Nat → Nat → St → Option (St)) : Nat → Nat → Nat → Int32 → St → Option (St)
  | 0, _, _, _, _ => none
  | n + 1, v0, v1, v2, σ => (if 4 ≤ v2 then k25 v0 v1 σ else chk (kOK SC v0 0) <| chk (kOK SC v1 0) <| chk (aOK SC (v1 + 1) 21 4) <| chk (inb v2 4) <| chk (aOK SC (v0 + 1) 21 4) <| nw (uL σ (v0 + 1) v2.toNatClampNeg (σ.2 (v1 + 1) v2.toNatClampNeg)) fun σ7 => nw (v2 + 1 : Int32) fun v108 => f_X0_become_2 k25 n v0 v1 v108 σ7)
set_option maxHeartbeats 4000000 in
set_option maxRecDepth 100000 in
theorem b_X0_become_2 {k25 : Nat → Nat → St → Option (St)} (X : Cx RX0 wsX0_become cX0_become 3 none D cA ad SC p s m args meth c) (h25 : ∀ (w0 : Nat) (w1 : Nat) (σ : St) (H : Heap) (locs : List Loc) (ls : Array Slot), k25 w0 w1 σ = some r → Rn D cA ad SC s.heap σ H locs → lv_has ls 3 [(0, .ref (ad w0)), (1, .ref (ad w1))] → W p l e rm_X0_become s m args below meth c H locs 0 0 (MQ below (Qv D cA ad SC r) args s 0 0 (Aw ad SC)) (F0 m 25 ls [])) : ∀ (n : Nat) (v0 : Nat) (v1 : Nat) (v2 : Int32) (σ : St) (H : Heap) (locs : List Loc) (ls : Array Slot), f_X0_become_2 k25 n v0 v1 v2 σ = some r → Rn D cA ad SC s.heap σ H locs → lv_has ls 3 [(0, .ref (ad v0)), (1, .ref (ad v1)), (2, .int v2)] → W p l e rm_X0_become s m args below meth c H locs 0 0 (MQ below (Qv D cA ad SC r) args s 0 0 (Aw ad SC)) (F0 m 2 ls []) := by
  obtain ⟨hx, hb, hml, hown, hts, hr, hlk, hK, hij⟩ := id X
  intro n
  induction n with
  | zero =>
    intro v0 v1 v2 σ H locs ls hf
    exact nomatch (show (none : Option (St)) = some r from hf)
  | succ n ih =>
    intro v0 v1 v2 σ H locs ls hf hW hl
    rw [f_X0_become_2] at hf
    refine lv_iload_n hx hb dX0_become_2 rfl (lv_at hl 2 rfl) ?_
    refine lv_iconst (v := 4) hx hb dX0_become_3 (by decide) ?_
    refine lv_icmp_ge (tgt := 25) hx hb dX0_become_4 (by decide) (fun c1 => ?_) (fun c1 => ?_)
    · have hf := it_e hf c1
      exact h25 v0 v1 σ _ _ _ hf hW (lv_sub hl [0, 1] rfl)
    · have hf := ie_e hf c1
      refine lv_aload_n hx hb dX0_become_7 rfl (lv_at hl 0 rfl) ?_
      obtain ⟨q2, hf⟩ := chk_e hf
      obtain ⟨i2, k2⟩ := kOK_e q2
      refine get_0_0 X hW k2 i2 inX0_become_0 (List.mem_of_getElem? (i := 1) rfl) dX0_become_8 ?_
      refine lv_iload_n hx hb dX0_become_11 rfl (lv_at hl 2 rfl) ?_
      refine lv_aload_n hx hb dX0_become_12 rfl (lv_at hl 1 rfl) ?_
      obtain ⟨q3, hf⟩ := chk_e hf
      obtain ⟨i3, k3⟩ := kOK_e q3
      refine get_0_0 X hW k3 i3 inX0_become_0 (List.mem_of_getElem? (i := 1) rfl) dX0_become_13 ?_
      refine lv_iload_n hx hb dX0_become_16 rfl (lv_at hl 2 rfl) ?_
      obtain ⟨q4, hf⟩ := chk_e hf
      obtain ⟨i4, k4, n4⟩ := aOK_e q4
      obtain ⟨x5, hf⟩ := chk_e hf
      refine r_lald X hW k4 i4 n4 x5 dX0_become_17 ?_
      obtain ⟨q6, hf⟩ := chk_e hf
      obtain ⟨i6, k6, n6⟩ := aOK_e q6
      obtain ⟨σ7, e7, hf⟩ := nw_e hf
      refine r_last X hW k6 i6 n6 x5 e7 dX0_become_18 (fun H locs hW => ?_)
      obtain ⟨v108, e8, hf⟩ := nw_e hf
      refine lv_iinc (v := v108) (lv' := [(2, .int v108), (0, .ref (ad v0)), (1, .ref (ad v1))]) hx hb dX0_become_19 hl (k := 2) rfl (by rw [e8]; rfl) (by decide) rfl (fun ls hl => ?_)
      refine lv_goto (tgt := 2) hx hb dX0_become_22 (by decide) ?_
      exact ih v0 v1 v108 σ7 _ _ _ hf hW (lv_sub hl [1, 2, 0] rfl)
end S_X0_become
noncomputable def f_X0_become (σ : St) (a0 : Nat) (a1 : Nat) : Option (St) := f_X0_become_2 (fun (w9_0 : Nat) (w10_1 : Nat) (σ11 : St) => chk (kOK SC w10_1 0) <| chk (kOK SC w9_0 0) <| nw (uL σ11 w9_0 1 (σ11.2 w10_1 1)) fun σ14 => nw (uI σ14 w9_0 2 (σ14.1 w10_1 2)) fun σ15 => some σ15) fu a0 a1 0 σ
set_option maxHeartbeats 4000000 in
set_option maxRecDepth 100000 in
theorem c_X0_become (l : Launch) (D : va_G) (cA : Nat → ClassId) (ad : Nat → Nat) (hij : Ij ad SC) (σ : St) (a0 : Nat) (a1 : Nat) (r : St) (hf : f_X0_become σ a0 a1 = some r) : Met l yX0_become wsX0_become rm_X0_become (PC D cA ad SC [.ref (ad a0), .ref (ad a1)] σ) (Qv D cA ad SC r) 0 0 (Aw ad SC) := by
  rw [f_X0_become] at hf
  refine k_head (own := RX0) (ws := wsX0_become) (cc := cX0_become) (nL := 3) (ret := none) pn_X0 rfl rfl hij (Nat.le_of_ble_eq_true rfl) (fun p e s m below meth c ls X hW hl => ?_)
  have hl : lv_has ls 3 [(0, .ref (ad a0)), (1, .ref (ad a1))] := hl
  obtain ⟨hx, hb, hml, hown, hts, hr, hlk, hK, hij⟩ := id X
  refine lv_iconst (v := 0) hx hb dX0_become_0 (by decide) ?_
  refine lv_istore_n (lv' := [(2, .int 0), (0, .ref (ad a0)), (1, .ref (ad a1))]) hx hb dX0_become_1 rfl hl (by decide) rfl (fun ls hl => ?_)
  refine b_X0_become_2 X (fun w9_0 w10_1 σ11 H locs ls hf hW hl => ?_) fu a0 a1 0 σ _ _ _ hf hW (lv_sub hl [1, 2, 0] rfl)
  · refine lv_aload_n hx hb dX0_become_25 rfl (lv_at hl 0 rfl) ?_
    refine lv_aload_n hx hb dX0_become_26 rfl (lv_at hl 1 rfl) ?_
    obtain ⟨q12, hf⟩ := chk_e hf
    obtain ⟨i12, k12⟩ := kOK_e q12
    refine get_0_1 X hW k12 i12 inX0_become_0 (List.mem_of_getElem? (i := 2) rfl) dX0_become_27 ?_
    obtain ⟨q13, hf⟩ := chk_e hf
    obtain ⟨i13, k13⟩ := kOK_e q13
    obtain ⟨σ14, e14, hf⟩ := nw_e hf
    refine put_0_1 X hW k13 i13 inX0_become_0 (List.mem_of_getElem? (i := 2) rfl) e14 dX0_become_30 (fun H locs hW => ?_)
    refine lv_aload_n hx hb dX0_become_33 rfl (lv_at hl 0 rfl) ?_
    refine lv_aload_n hx hb dX0_become_34 rfl (lv_at hl 1 rfl) ?_
    refine get_0_2 X hW k12 i12 inX0_become_0 (List.mem_of_getElem? (i := 3) rfl) dX0_become_35 ?_
    obtain ⟨σ15, e15, hf⟩ := nw_e hf
    refine put_0_2 X hW k13 i13 inX0_become_0 (List.mem_of_getElem? (i := 3) rfl) e15 dX0_become_38 (fun H locs hW => ?_)
    exact r_vret X hW rfl hf dX0_become_41

abbrev rm_X0_hasRoom : Room := { frames := 0, cells := 0, slots := 0, locals := 0 }
theorem hd_X0_hasRoom : yX0_hasRoom.cls = RX0 ∧ yX0_hasRoom.cls ≠ "java/lang/invoke/MethodHandle" ∧ yX0_hasRoom.cls ≠ "java/lang/invoke/VarHandle" ∧ (parseMethodDescriptor yX0_hasRoom.desc).map (fun d => d.parameters.length) = some 0 := by decide +kernel
theorem inX0_hasRoom_0 : ∀ w ∈ wsX00, w ∈ wsX0_hasRoom := fun _ h => List.mem_cons_of_mem _ (List.mem_append_right _ h)
section S_X0_hasRoom
variable {p : Program} {l : Launch} {e : Env} {s : State} {m : MethodId} {args : Array Value} {below : List Frame} {meth : Method} {c : Code} {D : va_G} {cA : Nat → ClassId} {ad : Nat → Nat} {r : Int32}
end S_X0_hasRoom
noncomputable def f_X0_hasRoom (σ : St) (a0 : Nat) : Option (Int32) := chk (kOK SC a0 0) <| (if 12 ≤ (σ.1 a0 2) then some 0 else some 1)
set_option maxHeartbeats 4000000 in
set_option maxRecDepth 100000 in
theorem c_X0_hasRoom (l : Launch) (D : va_G) (cA : Nat → ClassId) (ad : Nat → Nat) (hij : Ij ad SC) (σ : St) (a0 : Nat) (r : Int32) (hf : f_X0_hasRoom σ a0 = some r) : Met l yX0_hasRoom wsX0_hasRoom rm_X0_hasRoom (PC D cA ad SC [.ref (ad a0)] σ) (Qi D cA ad SC (r, σ)) 0 0 (Aw ad SC) := by
  rw [f_X0_hasRoom] at hf
  refine k_head (own := RX0) (ws := wsX0_hasRoom) (cc := cX0_hasRoom) (nL := 1) (ret := (some .boolean)) pn_X0 rfl rfl hij (Nat.le_of_ble_eq_true rfl) (fun p e s m below meth c ls X hW hl => ?_)
  have hl : lv_has ls 1 [(0, .ref (ad a0))] := hl
  obtain ⟨hx, hb, hml, hown, hts, hr, hlk, hK, hij⟩ := id X
  refine lv_aload_n hx hb dX0_hasRoom_0 rfl (lv_at hl 0 rfl) ?_
  obtain ⟨q1, hf⟩ := chk_e hf
  obtain ⟨i1, k1⟩ := kOK_e q1
  refine get_0_2 X hW k1 i1 inX0_hasRoom_0 (List.mem_of_getElem? (i := 1) rfl) dX0_hasRoom_1 ?_
  refine lv_bipush (v := 12) hx hb dX0_hasRoom_4 (by decide) ?_
  refine lv_icmp_ge (tgt := 13) hx hb dX0_hasRoom_6 (by decide) (fun c2 => ?_) (fun c2 => ?_)
  · have hf := it_e hf c2
    refine lv_iconst (v := 0) hx hb dX0_hasRoom_13 (by decide) ?_
    exact r_iretR X hW rfl rfl hf dX0_hasRoom_14
  · have hf := ie_e hf c2
    refine lv_iconst (v := 1) hx hb dX0_hasRoom_9 (by decide) ?_
    refine lv_goto (tgt := 14) hx hb dX0_hasRoom_10 (by decide) ?_
    exact r_iretR X hW rfl rfl hf dX0_hasRoom_14

abbrev rm_X0_takeIn : Room := { frames := 1, cells := 0, slots := 0, locals := 25 }
theorem hd_X0_takeIn : yX0_takeIn.cls = RX0 ∧ yX0_takeIn.cls ≠ "java/lang/invoke/MethodHandle" ∧ yX0_takeIn.cls ≠ "java/lang/invoke/VarHandle" ∧ (parseMethodDescriptor yX0_takeIn.desc).map (fun d => d.parameters.length) = some 2 := by decide +kernel
theorem inX0_takeIn_0 : ∀ w ∈ wsX00, w ∈ wsX0_takeIn := fun _ h => List.mem_cons_of_mem _ (List.mem_append_right _ h)
section S_X0_takeIn
variable {p : Program} {l : Launch} {e : Env} {s : State} {m : MethodId} {args : Array Value} {below : List Frame} {meth : Method} {c : Code} {D : va_G} {cA : Nat → ClassId} {ad : Nat → Nat} {r : St}
noncomputable def f_X0_takeIn_20 (k63 : Nat → St → Option (St)) : Nat → Nat → Int32 → Int32 → Int32 → Int32 → St → Option (St)
  | 0, _, _, _, _, _, _ => none
  | n + 1, v0, v1, v2, v3, v4, σ => (if 4 ≤ v4 then k63 v0 σ else chk (kOK SC v0 0) <| bnd (f_X5_ownOf v1 v2 v4) fun r6 => chk (aOK SC (v0 + 1) 21 4) <| chk (inb v4 4) <| nw (uL σ (v0 + 1) v4.toNatClampNeg ((r6.toInt64 * (σ.2 v0 1)) + (v3.toInt64 * (σ.2 (v0 + 1) v4.toNatClampNeg)))) fun σ9 => nw (v4 + 1 : Int32) fun v110 => f_X0_takeIn_20 k63 n v0 v1 v2 v3 v110 σ9)
set_option maxHeartbeats 4000000 in
set_option maxRecDepth 100000 in
theorem b_X0_takeIn_20 {k63 : Nat → St → Option (St)} (X : Cx RX0 wsX0_takeIn cX0_takeIn 5 none D cA ad SC p s m args meth c) (h63 : ∀ (w0 : Nat) (σ : St) (H : Heap) (locs : List Loc) (ls : Array Slot), k63 w0 σ = some r → Rn D cA ad SC s.heap σ H locs → lv_has ls 5 [(0, .ref (ad w0))] → W p l e rm_X0_takeIn s m args below meth c H locs 0 0 (MQ below (Qv D cA ad SC r) args s 0 0 (Aw ad SC)) (F0 m 63 ls [])) : ∀ (n : Nat) (v0 : Nat) (v1 : Int32) (v2 : Int32) (v3 : Int32) (v4 : Int32) (σ : St) (H : Heap) (locs : List Loc) (ls : Array Slot), f_X0_takeIn_20 k63 n v0 v1 v2 v3 v4 σ = some r → Rn D cA ad SC s.heap σ H locs → lv_has ls 5 [(0, .ref (ad v0)), (1, .int v1), (2, .int v2), (3, .int v3), (4, .int v4)] → W p l e rm_X0_takeIn s m args below meth c H locs 0 0 (MQ below (Qv D cA ad SC r) args s 0 0 (Aw ad SC)) (F0 m 20 ls []) := by
  obtain ⟨hx, hb, hml, hown, hts, hr, hlk, hK, hij⟩ := id X
  intro n
  induction n with
  | zero =>
    intro v0 v1 v2 v3 v4 σ H locs ls hf
    exact nomatch (show (none : Option (St)) = some r from hf)
  | succ n ih =>
    intro v0 v1 v2 v3 v4 σ H locs ls hf hW hl
    rw [f_X0_takeIn_20] at hf
    refine lv_iload hx hb dX0_takeIn_20 (lv_at hl 4 rfl) ?_
    refine lv_iconst (v := 4) hx hb dX0_takeIn_22 (by decide) ?_
    refine lv_icmp_ge (tgt := 63) hx hb dX0_takeIn_23 (by decide) (fun c4 => ?_) (fun c4 => ?_)
    · have hf := it_e hf c4
      exact h63 v0 σ _ _ _ hf hW (lv_sub hl [0] rfl)
    · have hf := ie_e hf c4
      refine lv_aload_n hx hb dX0_takeIn_26 rfl (lv_at hl 0 rfl) ?_
      obtain ⟨q5, hf⟩ := chk_e hf
      obtain ⟨i5, k5⟩ := kOK_e q5
      refine get_0_0 X hW k5 i5 inX0_takeIn_0 (List.mem_of_getElem? (i := 3) rfl) dX0_takeIn_27 ?_
      refine lv_iload hx hb dX0_takeIn_30 (lv_at hl 4 rfl) ?_
      refine lv_iload_n hx hb dX0_takeIn_32 rfl (lv_at hl 1 rfl) ?_
      refine lv_iload_n hx hb dX0_takeIn_33 rfl (lv_at hl 2 rfl) ?_
      refine lv_iload hx hb dX0_takeIn_34 (lv_at hl 4 rfl) ?_
      obtain ⟨r6, z6, hf⟩ := bnd_e hf
      refine r_cNiR (host := "ThirdOfTheLast") X hW (c_X5_ownOf l D cA ad hij σ v1 v2 v4 r6 z6) gX0_takeIn_X5_ownOf_n29 rfl ⟨rfl, rfl⟩ (by decide +kernel) (List.mem_of_getElem? (i := 6) rfl) (List.mem_of_getElem? (i := 8) rfl) hd_X5_ownOf ⟨Nat.le_of_ble_eq_true rfl, Nat.le_of_ble_eq_true rfl⟩ rfl (Nat.le_of_ble_eq_true rfl) hl.1 dX0_takeIn_36 (fun H locs hW => ?_)
      refine lv_i2l hx hb dX0_takeIn_39 rfl ?_
      refine lv_aload_n hx hb dX0_takeIn_40 rfl (lv_at hl 0 rfl) ?_
      refine get_0_1 X hW k5 i5 inX0_takeIn_0 (List.mem_of_getElem? (i := 1) rfl) dX0_takeIn_41 ?_
      refine lv_lmul hx hb dX0_takeIn_44 ?_
      refine lv_iload_n hx hb dX0_takeIn_45 rfl (lv_at hl 3 rfl) ?_
      refine lv_i2l hx hb dX0_takeIn_46 rfl ?_
      refine lv_aload_n hx hb dX0_takeIn_47 rfl (lv_at hl 0 rfl) ?_
      refine get_0_0 X hW k5 i5 inX0_takeIn_0 (List.mem_of_getElem? (i := 3) rfl) dX0_takeIn_48 ?_
      refine lv_iload hx hb dX0_takeIn_51 (lv_at hl 4 rfl) ?_
      obtain ⟨q7, hf⟩ := chk_e hf
      obtain ⟨i7, k7, n7⟩ := aOK_e q7
      obtain ⟨x8, hf⟩ := chk_e hf
      refine r_lald X hW k7 i7 n7 x8 dX0_takeIn_53 ?_
      refine lv_lmul hx hb dX0_takeIn_54 ?_
      refine lv_ladd hx hb dX0_takeIn_55 ?_
      obtain ⟨σ9, e9, hf⟩ := nw_e hf
      refine r_last X hW k7 i7 n7 x8 e9 dX0_takeIn_56 (fun H locs hW => ?_)
      obtain ⟨v110, e10, hf⟩ := nw_e hf
      refine lv_iinc (v := v110) (lv' := [(4, .int v110), (0, .ref (ad v0)), (1, .int v1), (2, .int v2), (3, .int v3)]) hx hb dX0_takeIn_57 hl (k := 4) rfl (by rw [e10]; rfl) (by decide) rfl (fun ls hl => ?_)
      refine lv_goto (tgt := 20) hx hb dX0_takeIn_60 (by decide) ?_
      exact ih v0 v1 v2 v3 v110 σ9 _ _ _ hf hW (lv_sub hl [1, 2, 3, 4, 0] rfl)
end S_X0_takeIn
noncomputable def f_X0_takeIn (σ : St) (a0 : Nat) (a1 : Int32) (a2 : Int32) : Option (St) := bnd (f_X5_keepsOf a1) fun r1 => chk (kOK SC a0 0) <| nw (uL σ a0 1 ((σ.2 a0 1) * 9)) fun σ3 => f_X0_takeIn_20 (fun (w11_0 : Nat) (σ12 : St) => chk (kOK SC w11_0 0) <| nw (uI σ12 w11_0 2 ((σ12.1 w11_0 2) + 1)) fun σ14 => some σ14) fu a0 a1 a2 r1 0 σ3
set_option maxHeartbeats 4000000 in
set_option maxRecDepth 100000 in
theorem c_X0_takeIn (l : Launch) (D : va_G) (cA : Nat → ClassId) (ad : Nat → Nat) (hij : Ij ad SC) (σ : St) (a0 : Nat) (a1 : Int32) (a2 : Int32) (r : St) (hf : f_X0_takeIn σ a0 a1 a2 = some r) : Met l yX0_takeIn wsX0_takeIn rm_X0_takeIn (PC D cA ad SC [.ref (ad a0), .int a1, .int a2] σ) (Qv D cA ad SC r) 0 0 (Aw ad SC) := by
  rw [f_X0_takeIn] at hf
  refine k_head (own := RX0) (ws := wsX0_takeIn) (cc := cX0_takeIn) (nL := 5) (ret := none) pn_X0 rfl rfl hij (Nat.le_of_ble_eq_true rfl) (fun p e s m below meth c ls X hW hl => ?_)
  have hl : lv_has ls 5 [(0, .ref (ad a0)), (1, .int a1), (2, .int a2)] := hl
  obtain ⟨hx, hb, hml, hown, hts, hr, hlk, hK, hij⟩ := id X
  refine lv_iload_n hx hb dX0_takeIn_0 rfl (lv_at hl 1 rfl) ?_
  obtain ⟨r1, z1, hf⟩ := bnd_e hf
  refine r_cNiR (host := "ThirdOfTheLast") X hW (c_X5_keepsOf l D cA ad hij σ a1 r1 z1) gX0_takeIn_X5_keepsOf_n23 rfl ⟨rfl, rfl⟩ (by decide +kernel) (List.mem_of_getElem? (i := 6) rfl) (List.mem_of_getElem? (i := 5) rfl) hd_X5_keepsOf ⟨Nat.le_of_ble_eq_true rfl, Nat.le_of_ble_eq_true rfl⟩ rfl (Nat.le_of_ble_eq_true rfl) hl.1 dX0_takeIn_1 (fun H locs hW => ?_)
  refine lv_istore_n (lv' := [(3, .int r1), (0, .ref (ad a0)), (1, .int a1), (2, .int a2)]) hx hb dX0_takeIn_4 rfl hl (by decide) rfl (fun ls hl => ?_)
  refine lv_aload_n hx hb dX0_takeIn_5 rfl (lv_at hl 1 rfl) ?_
  refine lv_dup hx hb dX0_takeIn_6 rfl ?_
  obtain ⟨q2, hf⟩ := chk_e hf
  obtain ⟨i2, k2⟩ := kOK_e q2
  refine get_0_1 X hW k2 i2 inX0_takeIn_0 (List.mem_of_getElem? (i := 1) rfl) dX0_takeIn_7 ?_
  refine lv_ldc2 (v := 9) hx hb hown (hts _ (List.mem_of_getElem? (i := 2) rfl)) dX0_takeIn_10 ?_
  refine lv_lmul hx hb dX0_takeIn_13 ?_
  obtain ⟨σ3, e3, hf⟩ := nw_e hf
  refine put_0_1 X hW k2 i2 inX0_takeIn_0 (List.mem_of_getElem? (i := 1) rfl) e3 dX0_takeIn_14 (fun H locs hW => ?_)
  refine lv_iconst (v := 0) hx hb dX0_takeIn_17 (by decide) ?_
  refine lv_istore (lv' := [(4, .int 0), (3, .int r1), (0, .ref (ad a0)), (1, .int a1), (2, .int a2)]) hx hb dX0_takeIn_18 hl (by decide) rfl (fun ls hl => ?_)
  refine b_X0_takeIn_20 X (fun w11_0 σ12 H locs ls hf hW hl => ?_) fu a0 a1 a2 r1 0 σ3 _ _ _ hf hW (lv_sub hl [2, 3, 4, 1, 0] rfl)
  · refine lv_aload_n hx hb dX0_takeIn_63 rfl (lv_at hl 0 rfl) ?_
    refine lv_dup hx hb dX0_takeIn_64 rfl ?_
    obtain ⟨q13, hf⟩ := chk_e hf
    obtain ⟨i13, k13⟩ := kOK_e q13
    refine get_0_2 X hW k13 i13 inX0_takeIn_0 (List.mem_of_getElem? (i := 4) rfl) dX0_takeIn_65 ?_
    refine lv_iconst (v := 1) hx hb dX0_takeIn_68 (by decide) ?_
    refine lv_iadd hx hb dX0_takeIn_69 ?_
    obtain ⟨σ14, e14, hf⟩ := nw_e hf
    refine put_0_2 X hW k13 i13 inX0_takeIn_0 (List.mem_of_getElem? (i := 4) rfl) e14 dX0_takeIn_70 (fun H locs hW => ?_)
    exact r_vret X hW rfl hf dX0_takeIn_73

abbrev rm_X0_takeCode : Room := { frames := 2, cells := 0, slots := 0, locals := 49 }
theorem hd_X0_takeCode : yX0_takeCode.cls = RX0 ∧ yX0_takeCode.cls ≠ "java/lang/invoke/MethodHandle" ∧ yX0_takeCode.cls ≠ "java/lang/invoke/VarHandle" ∧ (parseMethodDescriptor yX0_takeCode.desc).map (fun d => d.parameters.length) = some 3 := by decide +kernel
theorem inX0_takeCode_0 : ∀ w ∈ wsX00, w ∈ wsX0_takeCode := fun _ h => List.mem_cons_of_mem _ (List.mem_append_right _ h)
section S_X0_takeCode
variable {p : Program} {l : Launch} {e : Env} {s : State} {m : MethodId} {args : Array Value} {below : List Frame} {meth : Method} {c : Code} {D : va_G} {cA : Nat → ClassId} {ad : Nat → Nat} {r : St}
noncomputable def f_X0_takeCode_5 (k27 : St → Option (St)) : Nat → Nat → Int32 → Int32 → Int32 → St → Option (St)
  | 0, _, _, _, _, _ => none
  | n + 1, v0, v1, v3, v4, σ => (if v4 < 0 then k27 σ else bnd (f_X5_kindIn v1 v4) fun r3 => chk (kOK SC v0 0) <| bnd (f_X0_takeIn σ v0 r3 v3) fun r4 => nw (v4 + (-1) : Int32) fun v106 => f_X0_takeCode_5 k27 n v0 v1 v3 v106 r4)
set_option maxHeartbeats 4000000 in
set_option maxRecDepth 100000 in
theorem b_X0_takeCode_5 {k27 : St → Option (St)} (X : Cx RX0 wsX0_takeCode cX0_takeCode 5 none D cA ad SC p s m args meth c) (h27 : ∀  (σ : St) (H : Heap) (locs : List Loc) (ls : Array Slot), k27 σ = some r → Rn D cA ad SC s.heap σ H locs → lv_has ls 5 [] → W p l e rm_X0_takeCode s m args below meth c H locs 0 0 (MQ below (Qv D cA ad SC r) args s 0 0 (Aw ad SC)) (F0 m 27 ls [])) : ∀ (n : Nat) (v0 : Nat) (v1 : Int32) (v3 : Int32) (v4 : Int32) (σ : St) (H : Heap) (locs : List Loc) (ls : Array Slot), f_X0_takeCode_5 k27 n v0 v1 v3 v4 σ = some r → Rn D cA ad SC s.heap σ H locs → lv_has ls 5 [(0, .ref (ad v0)), (1, .int v1), (3, .int v3), (4, .int v4)] → W p l e rm_X0_takeCode s m args below meth c H locs 0 0 (MQ below (Qv D cA ad SC r) args s 0 0 (Aw ad SC)) (F0 m 5 ls []) := by
  obtain ⟨hx, hb, hml, hown, hts, hr, hlk, hK, hij⟩ := id X
  intro n
  induction n with
  | zero =>
    intro v0 v1 v3 v4 σ H locs ls hf
    exact nomatch (show (none : Option (St)) = some r from hf)
  | succ n ih =>
    intro v0 v1 v3 v4 σ H locs ls hf hW hl
    rw [f_X0_takeCode_5] at hf
    refine lv_iload hx hb dX0_takeCode_5 (lv_at hl 3 rfl) ?_
    refine lv_if_lt (tgt := 27) hx hb dX0_takeCode_7 (by decide) (fun c2 => ?_) (fun c2 => ?_)
    · have hf := it_e hf c2
      exact h27 σ _ _ _ hf hW (lv_sub hl [] rfl)
    · have hf := ie_e hf c2
      refine lv_aload_n hx hb dX0_takeCode_10 rfl (lv_at hl 0 rfl) ?_
      refine lv_iload_n hx hb dX0_takeCode_11 rfl (lv_at hl 1 rfl) ?_
      refine lv_iload hx hb dX0_takeCode_12 (lv_at hl 3 rfl) ?_
      obtain ⟨r3, z3, hf⟩ := bnd_e hf
      refine r_cNiR (host := "ThirdOfTheLast") X hW (c_X5_kindIn l D cA ad hij σ v1 v4 r3 z3) gX0_takeCode_X5_kindIn_n33 rfl ⟨rfl, rfl⟩ (by decide +kernel) (List.mem_of_getElem? (i := 2) rfl) (List.mem_of_getElem? (i := 1) rfl) hd_X5_kindIn ⟨Nat.le_of_ble_eq_true rfl, Nat.le_of_ble_eq_true rfl⟩ rfl (Nat.le_of_ble_eq_true rfl) hl.1 dX0_takeCode_14 (fun H locs hW => ?_)
      refine lv_iload_n hx hb dX0_takeCode_17 rfl (lv_at hl 2 rfl) ?_
      obtain ⟨q5, hf⟩ := chk_e hf
      obtain ⟨i5, k5⟩ := kOK_e q5
      obtain ⟨r4, z4, hf⟩ := bnd_e hf
      refine r_cVv X hW k5 i5 rfl (c_X0_takeIn l D cA ad hij σ v0 r3 v3 r4 z4) gX0_takeCode_X0_takeIn rfl ⟨rfl, rfl⟩ hd_X0_takeIn ⟨Nat.le_of_ble_eq_true rfl, Nat.le_of_ble_eq_true rfl⟩ rfl (Nat.le_of_ble_eq_true rfl) hl.1 dX0_takeCode_18 (fun H locs hW => ?_)
      obtain ⟨v106, e6, hf⟩ := nw_e hf
      refine lv_iinc (v := v106) (lv' := [(4, .int v106), (0, .ref (ad v0)), (1, .int v1), (3, .int v3)]) hx hb dX0_takeCode_21 hl (k := 3) rfl (by rw [e6]; rfl) (by decide) rfl (fun ls hl => ?_)
      refine lv_goto (tgt := 5) hx hb dX0_takeCode_24 (by decide) ?_
      exact ih v0 v1 v3 v106 r4 _ _ _ hf hW (lv_sub hl [1, 2, 3, 0] rfl)
end S_X0_takeCode
noncomputable def f_X0_takeCode (σ : St) (a0 : Nat) (a1 : Int32) (a2 : Int32) (a3 : Int32) : Option (St) := nw (a2 - 1 : Int32) fun v101 => f_X0_takeCode_5 (fun  (σ7 : St) => some σ7) fu a0 a1 a3 v101 σ
set_option maxHeartbeats 4000000 in
set_option maxRecDepth 100000 in
theorem c_X0_takeCode (l : Launch) (D : va_G) (cA : Nat → ClassId) (ad : Nat → Nat) (hij : Ij ad SC) (σ : St) (a0 : Nat) (a1 : Int32) (a2 : Int32) (a3 : Int32) (r : St) (hf : f_X0_takeCode σ a0 a1 a2 a3 = some r) : Met l yX0_takeCode wsX0_takeCode rm_X0_takeCode (PC D cA ad SC [.ref (ad a0), .int a1, .int a2, .int a3] σ) (Qv D cA ad SC r) 0 0 (Aw ad SC) := by
  rw [f_X0_takeCode] at hf
  refine k_head (own := RX0) (ws := wsX0_takeCode) (cc := cX0_takeCode) (nL := 5) (ret := none) pn_X0 rfl rfl hij (Nat.le_of_ble_eq_true rfl) (fun p e s m below meth c ls X hW hl => ?_)
  have hl : lv_has ls 5 [(0, .ref (ad a0)), (1, .int a1), (2, .int a2), (3, .int a3)] := hl
  obtain ⟨hx, hb, hml, hown, hts, hr, hlk, hK, hij⟩ := id X
  refine lv_iload_n hx hb dX0_takeCode_0 rfl (lv_at hl 2 rfl) ?_
  refine lv_iconst (v := 1) hx hb dX0_takeCode_1 (by decide) ?_
  refine lv_isub hx hb dX0_takeCode_2 ?_
  obtain ⟨v101, e1, hf⟩ := nw_e hf
  refine tI _ e1 ?_
  refine lv_istore (lv' := [(4, .int v101), (0, .ref (ad a0)), (1, .int a1), (2, .int a2), (3, .int a3)]) hx hb dX0_takeCode_3 hl (by decide) rfl (fun ls hl => ?_)
  refine b_X0_takeCode_5 X (fun σ7 H locs ls hf hW hl => ?_) fu a0 a1 a3 v101 σ _ _ _ hf hW (lv_sub hl [1, 2, 4, 0] rfl)
  · exact r_vret X hW rfl hf dX0_takeCode_27

abbrev rm_X0_totalAbove : Room := { frames := 0, cells := 0, slots := 0, locals := 0 }
theorem hd_X0_totalAbove : yX0_totalAbove.cls = RX0 ∧ yX0_totalAbove.cls ≠ "java/lang/invoke/MethodHandle" ∧ yX0_totalAbove.cls ≠ "java/lang/invoke/VarHandle" ∧ (parseMethodDescriptor yX0_totalAbove.desc).map (fun d => d.parameters.length) = some 0 := by decide +kernel
theorem inX0_totalAbove_0 : ∀ w ∈ wsX00, w ∈ wsX0_totalAbove := fun _ h => List.mem_cons_of_mem _ (List.mem_append_right _ h)
section S_X0_totalAbove
variable {p : Program} {l : Launch} {e : Env} {s : State} {m : MethodId} {args : Array Value} {below : List Frame} {meth : Method} {c : Code} {D : va_G} {cA : Nat → ClassId} {ad : Nat → Nat} {r : Int64}
noncomputable def f_X0_totalAbove_4 (σ : St) (k24 : Int64 → Option (Int64)) : Nat → Nat → Int64 → Int32 → Option (Int64)
  | 0, _, _, _ => none
  | n + 1, v0, v1, v3 => (if 4 ≤ v3 then k24 v1 else chk (kOK SC v0 0) <| chk (aOK SC (v0 + 1) 21 4) <| chk (inb v3 4) <| nw (v1 + (σ.2 (v0 + 1) v3.toNatClampNeg) : Int64) fun v105 => nw (v3 + 1 : Int32) fun v106 => f_X0_totalAbove_4 σ k24 n v0 v105 v106)
set_option maxHeartbeats 4000000 in
set_option maxRecDepth 100000 in
theorem b_X0_totalAbove_4 {σ : St} {k24 : Int64 → Option (Int64)} (X : Cx RX0 wsX0_totalAbove cX0_totalAbove 4 (some .long) D cA ad SC p s m args meth c) (h24 : ∀ (w0 : Int64) (H : Heap) (locs : List Loc) (ls : Array Slot), k24 w0 = some r → Rn D cA ad SC s.heap σ H locs → lv_has ls 4 [(1, .long w0)] → W p l e rm_X0_totalAbove s m args below meth c H locs 0 0 (MQ below (Ql D cA ad SC (r, σ)) args s 0 0 (Aw ad SC)) (F0 m 24 ls [])) : ∀ (n : Nat) (v0 : Nat) (v1 : Int64) (v3 : Int32) (H : Heap) (locs : List Loc) (ls : Array Slot), f_X0_totalAbove_4 σ k24 n v0 v1 v3 = some r → Rn D cA ad SC s.heap σ H locs → lv_has ls 4 [(0, .ref (ad v0)), (1, .long v1), (3, .int v3)] → W p l e rm_X0_totalAbove s m args below meth c H locs 0 0 (MQ below (Ql D cA ad SC (r, σ)) args s 0 0 (Aw ad SC)) (F0 m 4 ls []) := by
  obtain ⟨hx, hb, hml, hown, hts, hr, hlk, hK, hij⟩ := id X
  intro n
  induction n with
  | zero =>
    intro v0 v1 v3 H locs ls hf
    exact nomatch (show (none : Option (Int64)) = some r from hf)
  | succ n ih =>
    intro v0 v1 v3 H locs ls hf hW hl
    rw [f_X0_totalAbove_4] at hf
    refine lv_iload_n hx hb dX0_totalAbove_4 rfl (lv_at hl 2 rfl) ?_
    refine lv_iconst (v := 4) hx hb dX0_totalAbove_5 (by decide) ?_
    refine lv_icmp_ge (tgt := 24) hx hb dX0_totalAbove_6 (by decide) (fun c1 => ?_) (fun c1 => ?_)
    · have hf := it_e hf c1
      exact h24 v1 _ _ _ hf hW (lv_sub hl [1] rfl)
    · have hf := ie_e hf c1
      refine lv_lload_n hx hb dX0_totalAbove_9 rfl (lv_at hl 1 rfl) ?_
      refine lv_aload_n hx hb dX0_totalAbove_10 rfl (lv_at hl 0 rfl) ?_
      obtain ⟨q2, hf⟩ := chk_e hf
      obtain ⟨i2, k2⟩ := kOK_e q2
      refine get_0_0 X hW k2 i2 inX0_totalAbove_0 (List.mem_of_getElem? (i := 1) rfl) dX0_totalAbove_11 ?_
      refine lv_iload_n hx hb dX0_totalAbove_14 rfl (lv_at hl 2 rfl) ?_
      obtain ⟨q3, hf⟩ := chk_e hf
      obtain ⟨i3, k3, n3⟩ := aOK_e q3
      obtain ⟨x4, hf⟩ := chk_e hf
      refine r_lald X hW k3 i3 n3 x4 dX0_totalAbove_15 ?_
      refine lv_ladd hx hb dX0_totalAbove_16 ?_
      obtain ⟨v105, e5, hf⟩ := nw_e hf
      refine tL _ e5 ?_
      refine lv_lstore_n (lv' := [(1, .long v105), (0, .ref (ad v0)), (3, .int v3)]) hx hb dX0_totalAbove_17 rfl hl (by decide) rfl (fun ls hl => ?_)
      obtain ⟨v106, e6, hf⟩ := nw_e hf
      refine lv_iinc (v := v106) (lv' := [(3, .int v106), (1, .long v105), (0, .ref (ad v0))]) hx hb dX0_totalAbove_18 hl (k := 2) rfl (by rw [e6]; rfl) (by decide) rfl (fun ls hl => ?_)
      refine lv_goto (tgt := 4) hx hb dX0_totalAbove_21 (by decide) ?_
      exact ih v0 v105 v106 _ _ _ hf hW (lv_sub hl [2, 1, 0] rfl)
end S_X0_totalAbove
noncomputable def f_X0_totalAbove (σ : St) (a0 : Nat) : Option (Int64) := f_X0_totalAbove_4 σ (fun (w7_0 : Int64) => some w7_0) fu a0 0 0
set_option maxHeartbeats 4000000 in
set_option maxRecDepth 100000 in
theorem c_X0_totalAbove (l : Launch) (D : va_G) (cA : Nat → ClassId) (ad : Nat → Nat) (hij : Ij ad SC) (σ : St) (a0 : Nat) (r : Int64) (hf : f_X0_totalAbove σ a0 = some r) : Met l yX0_totalAbove wsX0_totalAbove rm_X0_totalAbove (PC D cA ad SC [.ref (ad a0)] σ) (Ql D cA ad SC (r, σ)) 0 0 (Aw ad SC) := by
  rw [f_X0_totalAbove] at hf
  refine k_head (own := RX0) (ws := wsX0_totalAbove) (cc := cX0_totalAbove) (nL := 4) (ret := (some .long)) pn_X0 rfl rfl hij (Nat.le_of_ble_eq_true rfl) (fun p e s m below meth c ls X hW hl => ?_)
  have hl : lv_has ls 4 [(0, .ref (ad a0))] := hl
  obtain ⟨hx, hb, hml, hown, hts, hr, hlk, hK, hij⟩ := id X
  refine lv_lconst (v := 0) hx hb dX0_totalAbove_0 (by decide) ?_
  refine lv_lstore_n (lv' := [(1, .long 0), (0, .ref (ad a0))]) hx hb dX0_totalAbove_1 rfl hl (by decide) rfl (fun ls hl => ?_)
  refine lv_iconst (v := 0) hx hb dX0_totalAbove_2 (by decide) ?_
  refine lv_istore_n (lv' := [(3, .int 0), (1, .long 0), (0, .ref (ad a0))]) hx hb dX0_totalAbove_3 rfl hl (by decide) rfl (fun ls hl => ?_)
  refine b_X0_totalAbove_4 X (fun w7_0 H locs ls hf hW hl => ?_) fu a0 0 0 _ _ _ hf hW (lv_sub hl [2, 1, 0] rfl)
  · refine lv_lload_n hx hb dX0_totalAbove_24 rfl (lv_at hl 0 rfl) ?_
    exact r_lretR X hW rfl hf dX0_totalAbove_25

abbrev rm_X0_portionOf : Room := { frames := 1, cells := 0, slots := 0, locals := 23 }
theorem hd_X0_portionOf : yX0_portionOf.cls = RX0 ∧ yX0_portionOf.cls ≠ "java/lang/invoke/MethodHandle" ∧ yX0_portionOf.cls ≠ "java/lang/invoke/VarHandle" ∧ (parseMethodDescriptor yX0_portionOf.desc).map (fun d => d.parameters.length) = some 1 := by decide +kernel
theorem inX0_portionOf_0 : ∀ w ∈ wsX00, w ∈ wsX0_portionOf := fun _ h => List.mem_cons_of_mem _ (List.mem_append_right _ h)
section S_X0_portionOf
variable {p : Program} {l : Launch} {e : Env} {s : State} {m : MethodId} {args : Array Value} {below : List Frame} {meth : Method} {c : Code} {D : va_G} {cA : Nat → ClassId} {ad : Nat → Nat} {r : Int32}
end S_X0_portionOf
noncomputable def f_X0_portionOf (σ : St) (a0 : Nat) (a1 : Int32) : Option (Int32) := chk (kOK SC a0 0) <| bnd (f_X0_totalAbove σ a0) fun r1 => (if (lg_cmp r1 0) = 0 then some 0 else chk (aOK SC (a0 + 1) 21 4) <| chk (inb a1 4) <| chk (nzl r1) <| some (((100 * (σ.2 (a0 + 1) a1.toNatClampNeg)) / r1).toInt32))
set_option maxHeartbeats 4000000 in
set_option maxRecDepth 100000 in
theorem c_X0_portionOf (l : Launch) (D : va_G) (cA : Nat → ClassId) (ad : Nat → Nat) (hij : Ij ad SC) (σ : St) (a0 : Nat) (a1 : Int32) (r : Int32) (hf : f_X0_portionOf σ a0 a1 = some r) : Met l yX0_portionOf wsX0_portionOf rm_X0_portionOf (PC D cA ad SC [.ref (ad a0), .int a1] σ) (Qi D cA ad SC (r, σ)) 0 0 (Aw ad SC) := by
  rw [f_X0_portionOf] at hf
  refine k_head (own := RX0) (ws := wsX0_portionOf) (cc := cX0_portionOf) (nL := 4) (ret := (some .int)) pn_X0 rfl rfl hij (Nat.le_of_ble_eq_true rfl) (fun p e s m below meth c ls X hW hl => ?_)
  have hl : lv_has ls 4 [(0, .ref (ad a0)), (1, .int a1)] := hl
  obtain ⟨hx, hb, hml, hown, hts, hr, hlk, hK, hij⟩ := id X
  refine lv_aload_n hx hb dX0_portionOf_0 rfl (lv_at hl 0 rfl) ?_
  obtain ⟨q2, hf⟩ := chk_e hf
  obtain ⟨i2, k2⟩ := kOK_e q2
  obtain ⟨r1, z1, hf⟩ := bnd_e hf
  refine r_cVlR X hW k2 i2 rfl (c_X0_totalAbove l D cA ad hij σ a0 r1 z1) gX0_portionOf_X0_totalAbove rfl ⟨rfl, rfl⟩ hd_X0_totalAbove ⟨Nat.le_of_ble_eq_true rfl, Nat.le_of_ble_eq_true rfl⟩ rfl (Nat.le_of_ble_eq_true rfl) hl.1 dX0_portionOf_1 (fun H locs hW => ?_)
  refine lv_lstore_n (lv' := [(2, .long r1), (0, .ref (ad a0)), (1, .int a1)]) hx hb dX0_portionOf_4 rfl hl (by decide) rfl (fun ls hl => ?_)
  refine lv_lload_n hx hb dX0_portionOf_5 rfl (lv_at hl 0 rfl) ?_
  refine lv_lconst (v := 0) hx hb dX0_portionOf_6 (by decide) ?_
  refine W.lcmp hx hb dX0_portionOf_7 ?_
  refine lv_if_ne (tgt := 15) hx hb dX0_portionOf_8 (by decide) (fun c3 => ?_) (fun c3 => ?_)
  · have hf := ie_e hf c3
    refine lv_ldc2 (v := 100) hx hb hown (hts _ (List.mem_of_getElem? (i := 1) rfl)) dX0_portionOf_15 ?_
    refine lv_aload_n hx hb dX0_portionOf_18 rfl (lv_at hl 1 rfl) ?_
    refine get_0_0 X hW k2 i2 inX0_portionOf_0 (List.mem_of_getElem? (i := 2) rfl) dX0_portionOf_19 ?_
    refine lv_iload_n hx hb dX0_portionOf_22 rfl (lv_at hl 2 rfl) ?_
    obtain ⟨q4, hf⟩ := chk_e hf
    obtain ⟨i4, k4, n4⟩ := aOK_e q4
    obtain ⟨x5, hf⟩ := chk_e hf
    refine r_lald X hW k4 i4 n4 x5 dX0_portionOf_23 ?_
    refine lv_lmul hx hb dX0_portionOf_24 ?_
    refine lv_lload_n hx hb dX0_portionOf_25 rfl (lv_at hl 0 rfl) ?_
    obtain ⟨q6, hf⟩ := chk_e hf
    refine lv_ldiv hx hb dX0_portionOf_26 (nzl_e q6) ?_
    refine lv_l2i hx hb dX0_portionOf_27 rfl ?_
    exact r_iretR X hW rfl rfl hf dX0_portionOf_28
  · have hf := it_e hf c3
    refine lv_iconst (v := 0) hx hb dX0_portionOf_11 (by decide) ?_
    refine lv_goto (tgt := 28) hx hb dX0_portionOf_12 (by decide) ?_
    exact r_iretR X hW rfl rfl hf dX0_portionOf_28

abbrev rm_X0_isOver : Room := { frames := 1, cells := 0, slots := 0, locals := 23 }
theorem hd_X0_isOver : yX0_isOver.cls = RX0 ∧ yX0_isOver.cls ≠ "java/lang/invoke/MethodHandle" ∧ yX0_isOver.cls ≠ "java/lang/invoke/VarHandle" ∧ (parseMethodDescriptor yX0_isOver.desc).map (fun d => d.parameters.length) = some 2 := by decide +kernel
theorem inX0_isOver_0 : ∀ w ∈ wsX00, w ∈ wsX0_isOver := fun _ h => List.mem_cons_of_mem _ (List.mem_append_right _ h)
section S_X0_isOver
variable {p : Program} {l : Launch} {e : Env} {s : State} {m : MethodId} {args : Array Value} {below : List Frame} {meth : Method} {c : Code} {D : va_G} {cA : Nat → ClassId} {ad : Nat → Nat} {r : Int32}
end S_X0_isOver
noncomputable def f_X0_isOver (σ : St) (a0 : Nat) (a1 : Int32) (a2 : Int32) : Option (Int32) := chk (kOK SC a0 0) <| chk (aOK SC (a0 + 1) 21 4) <| chk (inb a1 4) <| bnd (f_X0_totalAbove σ a0) fun r4 => (if (lg_cmp (100 * (σ.2 (a0 + 1) a1.toNatClampNeg)) (a2.toInt64 * r4)) ≤ 0 then some 0 else some 1)
set_option maxHeartbeats 4000000 in
set_option maxRecDepth 100000 in
theorem c_X0_isOver (l : Launch) (D : va_G) (cA : Nat → ClassId) (ad : Nat → Nat) (hij : Ij ad SC) (σ : St) (a0 : Nat) (a1 : Int32) (a2 : Int32) (r : Int32) (hf : f_X0_isOver σ a0 a1 a2 = some r) : Met l yX0_isOver wsX0_isOver rm_X0_isOver (PC D cA ad SC [.ref (ad a0), .int a1, .int a2] σ) (Qi D cA ad SC (r, σ)) 0 0 (Aw ad SC) := by
  rw [f_X0_isOver] at hf
  refine k_head (own := RX0) (ws := wsX0_isOver) (cc := cX0_isOver) (nL := 3) (ret := (some .boolean)) pn_X0 rfl rfl hij (Nat.le_of_ble_eq_true rfl) (fun p e s m below meth c ls X hW hl => ?_)
  have hl : lv_has ls 3 [(0, .ref (ad a0)), (1, .int a1), (2, .int a2)] := hl
  obtain ⟨hx, hb, hml, hown, hts, hr, hlk, hK, hij⟩ := id X
  refine lv_ldc2 (v := 100) hx hb hown (hts _ (List.mem_of_getElem? (i := 1) rfl)) dX0_isOver_0 ?_
  refine lv_aload_n hx hb dX0_isOver_3 rfl (lv_at hl 0 rfl) ?_
  obtain ⟨q1, hf⟩ := chk_e hf
  obtain ⟨i1, k1⟩ := kOK_e q1
  refine get_0_0 X hW k1 i1 inX0_isOver_0 (List.mem_of_getElem? (i := 2) rfl) dX0_isOver_4 ?_
  refine lv_iload_n hx hb dX0_isOver_7 rfl (lv_at hl 1 rfl) ?_
  obtain ⟨q2, hf⟩ := chk_e hf
  obtain ⟨i2, k2, n2⟩ := aOK_e q2
  obtain ⟨x3, hf⟩ := chk_e hf
  refine r_lald X hW k2 i2 n2 x3 dX0_isOver_8 ?_
  refine lv_lmul hx hb dX0_isOver_9 ?_
  refine lv_iload_n hx hb dX0_isOver_10 rfl (lv_at hl 2 rfl) ?_
  refine lv_i2l hx hb dX0_isOver_11 rfl ?_
  refine lv_aload_n hx hb dX0_isOver_12 rfl (lv_at hl 0 rfl) ?_
  obtain ⟨r4, z4, hf⟩ := bnd_e hf
  refine r_cVlR X hW k1 i1 rfl (c_X0_totalAbove l D cA ad hij σ a0 r4 z4) gX0_isOver_X0_totalAbove rfl ⟨rfl, rfl⟩ hd_X0_totalAbove ⟨Nat.le_of_ble_eq_true rfl, Nat.le_of_ble_eq_true rfl⟩ rfl (Nat.le_of_ble_eq_true rfl) hl.1 dX0_isOver_13 (fun H locs hW => ?_)
  refine lv_lmul hx hb dX0_isOver_16 ?_
  refine W.lcmp hx hb dX0_isOver_17 ?_
  refine lv_if_le (tgt := 25) hx hb dX0_isOver_18 (by decide) (fun c5 => ?_) (fun c5 => ?_)
  · have hf := it_e hf c5
    refine lv_iconst (v := 0) hx hb dX0_isOver_25 (by decide) ?_
    exact r_iretR X hW rfl rfl hf dX0_isOver_26
  · have hf := ie_e hf c5
    refine lv_iconst (v := 1) hx hb dX0_isOver_21 (by decide) ?_
    refine lv_goto (tgt := 26) hx hb dX0_isOver_22 (by decide) ?_
    exact r_iretR X hW rfl rfl hf dX0_isOver_26

abbrev rm_X0_isHarmful : Room := { frames := 1, cells := 0, slots := 0, locals := 23 }
theorem hd_X0_isHarmful : yX0_isHarmful.cls = RX0 ∧ yX0_isHarmful.cls ≠ "java/lang/invoke/MethodHandle" ∧ yX0_isHarmful.cls ≠ "java/lang/invoke/VarHandle" ∧ (parseMethodDescriptor yX0_isHarmful.desc).map (fun d => d.parameters.length) = some 2 := by decide +kernel
theorem inX0_isHarmful_0 : ∀ w ∈ wsX00, w ∈ wsX0_isHarmful := fun _ h => List.mem_cons_of_mem _ (List.mem_append_right _ h)
section S_X0_isHarmful
variable {p : Program} {l : Launch} {e : Env} {s : State} {m : MethodId} {args : Array Value} {below : List Frame} {meth : Method} {c : Code} {D : va_G} {cA : Nat → ClassId} {ad : Nat → Nat} {r : Int32}
noncomputable def f_X0_isHarmful_45 (σ : St) (k11 : Nat → Int32 → Int64 → Int32 → Option (Int32)) (v0 : Nat) (v1 : Int32) (v3 : Int64) (v5 : Int32) : Option (Int32) := nw (v5 + 1 : Int32) fun v106 => k11 v0 v1 v3 v106
set_option maxHeartbeats 4000000 in
set_option maxRecDepth 100000 in
theorem b_X0_isHarmful_45 {σ : St} {k11 : Nat → Int32 → Int64 → Int32 → Option (Int32)} (X : Cx RX0 wsX0_isHarmful cX0_isHarmful 6 (some .boolean) D cA ad SC p s m args meth c) (h11 : ∀ (w0 : Nat) (w1 : Int32) (w2 : Int64) (w3 : Int32) (H : Heap) (locs : List Loc) (ls : Array Slot), k11 w0 w1 w2 w3 = some r → Rn D cA ad SC s.heap σ H locs → lv_has ls 6 [(0, .ref (ad w0)), (1, .int w1), (3, .long w2), (5, .int w3)] → W p l e rm_X0_isHarmful s m args below meth c H locs 0 0 (MQ below (Qi D cA ad SC (r, σ)) args s 0 0 (Aw ad SC)) (F0 m 11 ls [])) : ∀ (v0 : Nat) (v1 : Int32) (v3 : Int64) (v5 : Int32) (H : Heap) (locs : List Loc) (ls : Array Slot), f_X0_isHarmful_45 σ k11 v0 v1 v3 v5 = some r → Rn D cA ad SC s.heap σ H locs → lv_has ls 6 [(0, .ref (ad v0)), (1, .int v1), (3, .long v3), (5, .int v5)] → W p l e rm_X0_isHarmful s m args below meth c H locs 0 0 (MQ below (Qi D cA ad SC (r, σ)) args s 0 0 (Aw ad SC)) (F0 m 45 ls []) := by
  obtain ⟨hx, hb, hml, hown, hts, hr, hlk, hK, hij⟩ := id X
  intro v0 v1 v3 v5 H locs ls hf hW hl
  rw [f_X0_isHarmful_45] at hf
  obtain ⟨v106, e6, hf⟩ := nw_e hf
  refine lv_iinc (v := v106) (lv' := [(5, .int v106), (0, .ref (ad v0)), (1, .int v1), (3, .long v3)]) hx hb dX0_isHarmful_45 hl (k := 3) rfl (by rw [e6]; rfl) (by decide) rfl (fun ls hl => ?_)
  refine lv_goto (tgt := 11) hx hb dX0_isHarmful_48 (by decide) ?_
  exact h11 v0 v1 v3 v106 _ _ _ hf hW (lv_sub hl [1, 2, 3, 0] rfl)
noncomputable def f_X0_isHarmful_11 (σ : St) (k43 : Option (Int32)) (k51 : Option (Int32)) : Nat → Nat → Int32 → Int64 → Int32 → Option (Int32)
  | 0, _, _, _, _ => none
  | n + 1, v0, v1, v3, v5 => (if 4 ≤ v5 then k51 else (if ((v1 >>> (v5 &&& 31)) &&& 1) = 1 then chk (kOK SC v0 0) <| chk (aOK SC (v0 + 1) 21 4) <| chk (inb v5 4) <| (if (lg_cmp (100 * (σ.2 (v0 + 1) v5.toNatClampNeg)) v3) ≤ 0 then f_X0_isHarmful_45 σ (fun (w15_0 : Nat) (w16_1 : Int32) (w17_2 : Int64) (w18_3 : Int32) => f_X0_isHarmful_11 σ k43 k51 n w15_0 w16_1 w17_2 w18_3) v0 v1 v3 v5 else k43) else f_X0_isHarmful_45 σ (fun (w7_0 : Nat) (w8_1 : Int32) (w9_2 : Int64) (w10_3 : Int32) => f_X0_isHarmful_11 σ k43 k51 n w7_0 w8_1 w9_2 w10_3) v0 v1 v3 v5))
set_option maxHeartbeats 4000000 in
set_option maxRecDepth 100000 in
theorem b_X0_isHarmful_11 {σ : St} {k43 : Option (Int32)} {k51 : Option (Int32)} (X : Cx RX0 wsX0_isHarmful cX0_isHarmful 6 (some .boolean) D cA ad SC p s m args meth c) (h43 : ∀  (H : Heap) (locs : List Loc) (ls : Array Slot), k43 = some r → Rn D cA ad SC s.heap σ H locs → lv_has ls 6 [] → W p l e rm_X0_isHarmful s m args below meth c H locs 0 0 (MQ below (Qi D cA ad SC (r, σ)) args s 0 0 (Aw ad SC)) (F0 m 43 ls [])) (h51 : ∀  (H : Heap) (locs : List Loc) (ls : Array Slot), k51 = some r → Rn D cA ad SC s.heap σ H locs → lv_has ls 6 [] → W p l e rm_X0_isHarmful s m args below meth c H locs 0 0 (MQ below (Qi D cA ad SC (r, σ)) args s 0 0 (Aw ad SC)) (F0 m 51 ls [])) : ∀ (n : Nat) (v0 : Nat) (v1 : Int32) (v3 : Int64) (v5 : Int32) (H : Heap) (locs : List Loc) (ls : Array Slot), f_X0_isHarmful_11 σ k43 k51 n v0 v1 v3 v5 = some r → Rn D cA ad SC s.heap σ H locs → lv_has ls 6 [(0, .ref (ad v0)), (1, .int v1), (3, .long v3), (5, .int v5)] → W p l e rm_X0_isHarmful s m args below meth c H locs 0 0 (MQ below (Qi D cA ad SC (r, σ)) args s 0 0 (Aw ad SC)) (F0 m 11 ls []) := by
  obtain ⟨hx, hb, hml, hown, hts, hr, hlk, hK, hij⟩ := id X
  intro n
  induction n with
  | zero =>
    intro v0 v1 v3 v5 H locs ls hf
    exact nomatch (show (none : Option (Int32)) = some r from hf)
  | succ n ih =>
    intro v0 v1 v3 v5 H locs ls hf hW hl
    rw [f_X0_isHarmful_11] at hf
    refine lv_iload hx hb dX0_isHarmful_11 (lv_at hl 3 rfl) ?_
    refine lv_iconst (v := 4) hx hb dX0_isHarmful_13 (by decide) ?_
    refine lv_icmp_ge (tgt := 51) hx hb dX0_isHarmful_14 (by decide) (fun c4 => ?_) (fun c4 => ?_)
    · have hf := it_e hf c4
      exact h51  _ _ _ hf hW (lv_sub hl [] rfl)
    · have hf := ie_e hf c4
      refine lv_iload_n hx hb dX0_isHarmful_17 rfl (lv_at hl 1 rfl) ?_
      refine lv_iload hx hb dX0_isHarmful_18 (lv_at hl 3 rfl) ?_
      refine lv_ishr hx hb dX0_isHarmful_20 ?_
      refine lv_iconst (v := 1) hx hb dX0_isHarmful_21 (by decide) ?_
      refine lv_iand hx hb dX0_isHarmful_22 ?_
      refine lv_iconst (v := 1) hx hb dX0_isHarmful_23 (by decide) ?_
      refine lv_icmp_ne (tgt := 45) hx hb dX0_isHarmful_24 (by decide) (fun c5 => ?_) (fun c5 => ?_)
      · have hf := ie_e hf c5
        refine b_X0_isHarmful_45 X (fun w7_0 w8_1 w9_2 w10_3 H locs ls hf hW hl => ?_) v0 v1 v3 v5 _ _ _ hf hW (lv_sub hl [0, 1, 2, 3] rfl)
        · exact ih w7_0 w8_1 w9_2 w10_3 _ _ _ hf hW (lv_sub hl [0, 1, 2, 3] rfl)
      · have hf := it_e hf c5
        refine lv_ldc2 (v := 100) hx hb hown (hts _ (List.mem_of_getElem? (i := 1) rfl)) dX0_isHarmful_27 ?_
        refine lv_aload_n hx hb dX0_isHarmful_30 rfl (lv_at hl 0 rfl) ?_
        obtain ⟨q11, hf⟩ := chk_e hf
        obtain ⟨i11, k11⟩ := kOK_e q11
        refine get_0_0 X hW k11 i11 inX0_isHarmful_0 (List.mem_of_getElem? (i := 2) rfl) dX0_isHarmful_31 ?_
        refine lv_iload hx hb dX0_isHarmful_34 (lv_at hl 3 rfl) ?_
        obtain ⟨q12, hf⟩ := chk_e hf
        obtain ⟨i12, k12, n12⟩ := aOK_e q12
        obtain ⟨x13, hf⟩ := chk_e hf
        refine r_lald X hW k12 i12 n12 x13 dX0_isHarmful_36 ?_
        refine lv_lmul hx hb dX0_isHarmful_37 ?_
        refine lv_lload_n hx hb dX0_isHarmful_38 rfl (lv_at hl 2 rfl) ?_
        refine W.lcmp hx hb dX0_isHarmful_39 ?_
        refine lv_if_le (tgt := 45) hx hb dX0_isHarmful_40 (by decide) (fun c14 => ?_) (fun c14 => ?_)
        · have hf := it_e hf c14
          refine b_X0_isHarmful_45 X (fun w15_0 w16_1 w17_2 w18_3 H locs ls hf hW hl => ?_) v0 v1 v3 v5 _ _ _ hf hW (lv_sub hl [0, 1, 2, 3] rfl)
          · exact ih w15_0 w16_1 w17_2 w18_3 _ _ _ hf hW (lv_sub hl [0, 1, 2, 3] rfl)
        · have hf := ie_e hf c14
          exact h43  _ _ _ hf hW (lv_sub hl [] rfl)
end S_X0_isHarmful
noncomputable def f_X0_isHarmful (σ : St) (a0 : Nat) (a1 : Int32) (a2 : Int32) : Option (Int32) := chk (kOK SC a0 0) <| bnd (f_X0_totalAbove σ a0) fun r1 => nw (a2.toInt64 * r1 : Int64) fun v103 => f_X0_isHarmful_11 σ (some 1) (some 0) fu a0 a1 v103 0
set_option maxHeartbeats 4000000 in
set_option maxRecDepth 100000 in
theorem c_X0_isHarmful (l : Launch) (D : va_G) (cA : Nat → ClassId) (ad : Nat → Nat) (hij : Ij ad SC) (σ : St) (a0 : Nat) (a1 : Int32) (a2 : Int32) (r : Int32) (hf : f_X0_isHarmful σ a0 a1 a2 = some r) : Met l yX0_isHarmful wsX0_isHarmful rm_X0_isHarmful (PC D cA ad SC [.ref (ad a0), .int a1, .int a2] σ) (Qi D cA ad SC (r, σ)) 0 0 (Aw ad SC) := by
  rw [f_X0_isHarmful] at hf
  refine k_head (own := RX0) (ws := wsX0_isHarmful) (cc := cX0_isHarmful) (nL := 6) (ret := (some .boolean)) pn_X0 rfl rfl hij (Nat.le_of_ble_eq_true rfl) (fun p e s m below meth c ls X hW hl => ?_)
  have hl : lv_has ls 6 [(0, .ref (ad a0)), (1, .int a1), (2, .int a2)] := hl
  obtain ⟨hx, hb, hml, hown, hts, hr, hlk, hK, hij⟩ := id X
  refine lv_iload_n hx hb dX0_isHarmful_0 rfl (lv_at hl 2 rfl) ?_
  refine lv_i2l hx hb dX0_isHarmful_1 rfl ?_
  refine lv_aload_n hx hb dX0_isHarmful_2 rfl (lv_at hl 0 rfl) ?_
  obtain ⟨q2, hf⟩ := chk_e hf
  obtain ⟨i2, k2⟩ := kOK_e q2
  obtain ⟨r1, z1, hf⟩ := bnd_e hf
  refine r_cVlR X hW k2 i2 rfl (c_X0_totalAbove l D cA ad hij σ a0 r1 z1) gX0_isHarmful_X0_totalAbove rfl ⟨rfl, rfl⟩ hd_X0_totalAbove ⟨Nat.le_of_ble_eq_true rfl, Nat.le_of_ble_eq_true rfl⟩ rfl (Nat.le_of_ble_eq_true rfl) hl.1 dX0_isHarmful_3 (fun H locs hW => ?_)
  refine lv_lmul hx hb dX0_isHarmful_6 ?_
  obtain ⟨v103, e3, hf⟩ := nw_e hf
  refine tL _ e3 ?_
  refine lv_lstore_n (lv' := [(3, .long v103), (0, .ref (ad a0)), (1, .int a1), (2, .int a2)]) hx hb dX0_isHarmful_7 rfl hl (by decide) rfl (fun ls hl => ?_)
  refine lv_iconst (v := 0) hx hb dX0_isHarmful_8 (by decide) ?_
  refine lv_istore (lv' := [(5, .int 0), (3, .long v103), (0, .ref (ad a0)), (1, .int a1), (2, .int a2)]) hx hb dX0_isHarmful_9 hl (by decide) rfl (fun ls hl => ?_)
  refine b_X0_isHarmful_11 X (fun  H locs ls hf hW hl => ?_) (fun  H locs ls hf hW hl => ?_) fu a0 a1 v103 0 _ _ _ hf hW (lv_sub hl [2, 3, 1, 0] rfl)
  · refine lv_iconst (v := 1) hx hb dX0_isHarmful_43 (by decide) ?_
    exact r_iretR X hW rfl rfl hf dX0_isHarmful_44
  · refine lv_iconst (v := 0) hx hb dX0_isHarmful_51 (by decide) ?_
    exact r_iretR X hW rfl rfl hf dX0_isHarmful_52

abbrev rm_X0_mostTaste : Room := { frames := 0, cells := 0, slots := 0, locals := 0 }
theorem hd_X0_mostTaste : yX0_mostTaste.cls = RX0 ∧ yX0_mostTaste.cls ≠ "java/lang/invoke/MethodHandle" ∧ yX0_mostTaste.cls ≠ "java/lang/invoke/VarHandle" ∧ (parseMethodDescriptor yX0_mostTaste.desc).map (fun d => d.parameters.length) = some 0 := by decide +kernel
theorem inX0_mostTaste_0 : ∀ w ∈ wsX00, w ∈ wsX0_mostTaste := fun _ h => List.mem_cons_of_mem _ (List.mem_append_right _ h)
section S_X0_mostTaste
variable {p : Program} {l : Launch} {e : Env} {s : State} {m : MethodId} {args : Array Value} {below : List Frame} {meth : Method} {c : Code} {D : va_G} {cA : Nat → ClassId} {ad : Nat → Nat} {r : Int32}
noncomputable def f_X0_mostTaste_30 (σ : St) (k4 : Nat → Int32 → Int32 → Option (Int32)) (v0 : Nat) (v2 : Int32) (s0 : Int32) : Option (Int32) := nw (v2 + 1 : Int32) fun v107 => k4 v0 s0 v107
set_option maxHeartbeats 4000000 in
set_option maxRecDepth 100000 in
theorem b_X0_mostTaste_30 {σ : St} {k4 : Nat → Int32 → Int32 → Option (Int32)} (X : Cx RX0 wsX0_mostTaste cX0_mostTaste 3 (some .int) D cA ad SC p s m args meth c) (h4 : ∀ (w0 : Nat) (w1 : Int32) (w2 : Int32) (H : Heap) (locs : List Loc) (ls : Array Slot), k4 w0 w1 w2 = some r → Rn D cA ad SC s.heap σ H locs → lv_has ls 3 [(0, .ref (ad w0)), (1, .int w1), (2, .int w2)] → W p l e rm_X0_mostTaste s m args below meth c H locs 0 0 (MQ below (Qi D cA ad SC (r, σ)) args s 0 0 (Aw ad SC)) (F0 m 4 ls [])) : ∀ (v0 : Nat) (v2 : Int32) (s0 : Int32) (H : Heap) (locs : List Loc) (ls : Array Slot), f_X0_mostTaste_30 σ k4 v0 v2 s0 = some r → Rn D cA ad SC s.heap σ H locs → lv_has ls 3 [(0, .ref (ad v0)), (2, .int v2)] → W p l e rm_X0_mostTaste s m args below meth c H locs 0 0 (MQ below (Qi D cA ad SC (r, σ)) args s 0 0 (Aw ad SC)) (F0 m 30 ls [.int s0]) := by
  obtain ⟨hx, hb, hml, hown, hts, hr, hlk, hK, hij⟩ := id X
  intro v0 v2 s0 H locs ls hf hW hl
  rw [f_X0_mostTaste_30] at hf
  refine lv_istore_n (lv' := [(1, .int s0), (0, .ref (ad v0)), (2, .int v2)]) hx hb dX0_mostTaste_30 rfl hl (by decide) rfl (fun ls hl => ?_)
  obtain ⟨v107, e7, hf⟩ := nw_e hf
  refine lv_iinc (v := v107) (lv' := [(2, .int v107), (1, .int s0), (0, .ref (ad v0))]) hx hb dX0_mostTaste_31 hl (k := 2) rfl (by rw [e7]; rfl) (by decide) rfl (fun ls hl => ?_)
  refine lv_goto (tgt := 4) hx hb dX0_mostTaste_34 (by decide) ?_
  exact h4 v0 s0 v107 _ _ _ hf hW (lv_sub hl [2, 1, 0] rfl)
noncomputable def f_X0_mostTaste_4 (σ : St) (k37 : Nat → Int32 → Option (Int32)) : Nat → Nat → Int32 → Int32 → Option (Int32)
  | 0, _, _, _ => none
  | n + 1, v0, v1, v2 => (if 4 ≤ v2 then k37 v0 v1 else chk (kOK SC v0 0) <| chk (aOK SC (v0 + 1) 21 4) <| chk (inb v2 4) <| chk (inb v1 4) <| (if (lg_cmp (σ.2 (v0 + 1) v2.toNatClampNeg) (σ.2 (v0 + 1) v1.toNatClampNeg)) ≤ 0 then f_X0_mostTaste_30 σ (fun (w8_0 : Nat) (w9_1 : Int32) (w10_2 : Int32) => f_X0_mostTaste_4 σ k37 n w8_0 w9_1 w10_2) v0 v2 v1 else f_X0_mostTaste_30 σ (fun (w11_0 : Nat) (w12_1 : Int32) (w13_2 : Int32) => f_X0_mostTaste_4 σ k37 n w11_0 w12_1 w13_2) v0 v2 v2))
set_option maxHeartbeats 4000000 in
set_option maxRecDepth 100000 in
theorem b_X0_mostTaste_4 {σ : St} {k37 : Nat → Int32 → Option (Int32)} (X : Cx RX0 wsX0_mostTaste cX0_mostTaste 3 (some .int) D cA ad SC p s m args meth c) (h37 : ∀ (w0 : Nat) (w1 : Int32) (H : Heap) (locs : List Loc) (ls : Array Slot), k37 w0 w1 = some r → Rn D cA ad SC s.heap σ H locs → lv_has ls 3 [(0, .ref (ad w0)), (1, .int w1)] → W p l e rm_X0_mostTaste s m args below meth c H locs 0 0 (MQ below (Qi D cA ad SC (r, σ)) args s 0 0 (Aw ad SC)) (F0 m 37 ls [])) : ∀ (n : Nat) (v0 : Nat) (v1 : Int32) (v2 : Int32) (H : Heap) (locs : List Loc) (ls : Array Slot), f_X0_mostTaste_4 σ k37 n v0 v1 v2 = some r → Rn D cA ad SC s.heap σ H locs → lv_has ls 3 [(0, .ref (ad v0)), (1, .int v1), (2, .int v2)] → W p l e rm_X0_mostTaste s m args below meth c H locs 0 0 (MQ below (Qi D cA ad SC (r, σ)) args s 0 0 (Aw ad SC)) (F0 m 4 ls []) := by
  obtain ⟨hx, hb, hml, hown, hts, hr, hlk, hK, hij⟩ := id X
  intro n
  induction n with
  | zero =>
    intro v0 v1 v2 H locs ls hf
    exact nomatch (show (none : Option (Int32)) = some r from hf)
  | succ n ih =>
    intro v0 v1 v2 H locs ls hf hW hl
    rw [f_X0_mostTaste_4] at hf
    refine lv_iload_n hx hb dX0_mostTaste_4 rfl (lv_at hl 2 rfl) ?_
    refine lv_iconst (v := 4) hx hb dX0_mostTaste_5 (by decide) ?_
    refine lv_icmp_ge (tgt := 37) hx hb dX0_mostTaste_6 (by decide) (fun c1 => ?_) (fun c1 => ?_)
    · have hf := it_e hf c1
      exact h37 v0 v1 _ _ _ hf hW (lv_sub hl [0, 1] rfl)
    · have hf := ie_e hf c1
      refine lv_aload_n hx hb dX0_mostTaste_9 rfl (lv_at hl 0 rfl) ?_
      obtain ⟨q2, hf⟩ := chk_e hf
      obtain ⟨i2, k2⟩ := kOK_e q2
      refine get_0_0 X hW k2 i2 inX0_mostTaste_0 (List.mem_of_getElem? (i := 1) rfl) dX0_mostTaste_10 ?_
      refine lv_iload_n hx hb dX0_mostTaste_13 rfl (lv_at hl 2 rfl) ?_
      obtain ⟨q3, hf⟩ := chk_e hf
      obtain ⟨i3, k3, n3⟩ := aOK_e q3
      obtain ⟨x4, hf⟩ := chk_e hf
      refine r_lald X hW k3 i3 n3 x4 dX0_mostTaste_14 ?_
      refine lv_aload_n hx hb dX0_mostTaste_15 rfl (lv_at hl 0 rfl) ?_
      refine get_0_0 X hW k2 i2 inX0_mostTaste_0 (List.mem_of_getElem? (i := 1) rfl) dX0_mostTaste_16 ?_
      refine lv_iload_n hx hb dX0_mostTaste_19 rfl (lv_at hl 1 rfl) ?_
      obtain ⟨x5, hf⟩ := chk_e hf
      refine r_lald X hW k3 i3 n3 x5 dX0_mostTaste_20 ?_
      refine W.lcmp hx hb dX0_mostTaste_21 ?_
      refine lv_if_le (tgt := 29) hx hb dX0_mostTaste_22 (by decide) (fun c6 => ?_) (fun c6 => ?_)
      · have hf := it_e hf c6
        refine lv_iload_n hx hb dX0_mostTaste_29 rfl (lv_at hl 1 rfl) ?_
        refine b_X0_mostTaste_30 X (fun w8_0 w9_1 w10_2 H locs ls hf hW hl => ?_) v0 v2 v1 _ _ _ hf hW (lv_sub hl [0, 2] rfl)
        · exact ih w8_0 w9_1 w10_2 _ _ _ hf hW (lv_sub hl [0, 1, 2] rfl)
      · have hf := ie_e hf c6
        refine lv_iload_n hx hb dX0_mostTaste_25 rfl (lv_at hl 2 rfl) ?_
        refine lv_goto (tgt := 30) hx hb dX0_mostTaste_26 (by decide) ?_
        refine b_X0_mostTaste_30 X (fun w11_0 w12_1 w13_2 H locs ls hf hW hl => ?_) v0 v2 v2 _ _ _ hf hW (lv_sub hl [0, 2] rfl)
        · exact ih w11_0 w12_1 w13_2 _ _ _ hf hW (lv_sub hl [0, 1, 2] rfl)
end S_X0_mostTaste
noncomputable def f_X0_mostTaste (σ : St) (a0 : Nat) : Option (Int32) := f_X0_mostTaste_4 σ (fun (w14_0 : Nat) (w15_1 : Int32) => chk (kOK SC w14_0 0) <| chk (aOK SC (w14_0 + 1) 21 4) <| chk (inb w15_1 4) <| (if (lg_cmp (σ.2 (w14_0 + 1) w15_1.toNatClampNeg) 0) = 0 then some ((-4)) else some w15_1)) fu a0 0 1
set_option maxHeartbeats 4000000 in
set_option maxRecDepth 100000 in
theorem c_X0_mostTaste (l : Launch) (D : va_G) (cA : Nat → ClassId) (ad : Nat → Nat) (hij : Ij ad SC) (σ : St) (a0 : Nat) (r : Int32) (hf : f_X0_mostTaste σ a0 = some r) : Met l yX0_mostTaste wsX0_mostTaste rm_X0_mostTaste (PC D cA ad SC [.ref (ad a0)] σ) (Qi D cA ad SC (r, σ)) 0 0 (Aw ad SC) := by
  rw [f_X0_mostTaste] at hf
  refine k_head (own := RX0) (ws := wsX0_mostTaste) (cc := cX0_mostTaste) (nL := 3) (ret := (some .int)) pn_X0 rfl rfl hij (Nat.le_of_ble_eq_true rfl) (fun p e s m below meth c ls X hW hl => ?_)
  have hl : lv_has ls 3 [(0, .ref (ad a0))] := hl
  obtain ⟨hx, hb, hml, hown, hts, hr, hlk, hK, hij⟩ := id X
  refine lv_iconst (v := 0) hx hb dX0_mostTaste_0 (by decide) ?_
  refine lv_istore_n (lv' := [(1, .int 0), (0, .ref (ad a0))]) hx hb dX0_mostTaste_1 rfl hl (by decide) rfl (fun ls hl => ?_)
  refine lv_iconst (v := 1) hx hb dX0_mostTaste_2 (by decide) ?_
  refine lv_istore_n (lv' := [(2, .int 1), (1, .int 0), (0, .ref (ad a0))]) hx hb dX0_mostTaste_3 rfl hl (by decide) rfl (fun ls hl => ?_)
  refine b_X0_mostTaste_4 X (fun w14_0 w15_1 H locs ls hf hW hl => ?_) fu a0 0 1 _ _ _ hf hW (lv_sub hl [2, 1, 0] rfl)
  · refine lv_aload_n hx hb dX0_mostTaste_37 rfl (lv_at hl 0 rfl) ?_
    obtain ⟨q16, hf⟩ := chk_e hf
    obtain ⟨i16, k16⟩ := kOK_e q16
    refine get_0_0 X hW k16 i16 inX0_mostTaste_0 (List.mem_of_getElem? (i := 1) rfl) dX0_mostTaste_38 ?_
    refine lv_iload_n hx hb dX0_mostTaste_41 rfl (lv_at hl 1 rfl) ?_
    obtain ⟨q17, hf⟩ := chk_e hf
    obtain ⟨i17, k17, n17⟩ := aOK_e q17
    obtain ⟨x18, hf⟩ := chk_e hf
    refine r_lald X hW k17 i17 n17 x18 dX0_mostTaste_42 ?_
    refine lv_lconst (v := 0) hx hb dX0_mostTaste_43 (by decide) ?_
    refine W.lcmp hx hb dX0_mostTaste_44 ?_
    refine lv_if_ne (tgt := 53) hx hb dX0_mostTaste_45 (by decide) (fun c19 => ?_) (fun c19 => ?_)
    · have hf := ie_e hf c19
      refine lv_iload_n hx hb dX0_mostTaste_53 rfl (lv_at hl 1 rfl) ?_
      exact r_iretR X hW rfl rfl hf dX0_mostTaste_54
    · have hf := it_e hf c19
      refine lv_bipush (v := (-4)) hx hb dX0_mostTaste_48 (by decide) ?_
      refine lv_goto (tgt := 54) hx hb dX0_mostTaste_50 (by decide) ?_
      exact r_iretR X hW rfl rfl hf dX0_mostTaste_54

abbrev rm_X0_isLike : Room := { frames := 0, cells := 0, slots := 0, locals := 0 }
theorem hd_X0_isLike : yX0_isLike.cls = RX0 ∧ yX0_isLike.cls ≠ "java/lang/invoke/MethodHandle" ∧ yX0_isLike.cls ≠ "java/lang/invoke/VarHandle" ∧ (parseMethodDescriptor yX0_isLike.desc).map (fun d => d.parameters.length) = some 1 := by decide +kernel
theorem inX0_isLike_0 : ∀ w ∈ wsX00, w ∈ wsX0_isLike := fun _ h => List.mem_cons_of_mem _ (List.mem_append_right _ h)
section S_X0_isLike
variable {p : Program} {l : Launch} {e : Env} {s : State} {m : MethodId} {args : Array Value} {below : List Frame} {meth : Method} {c : Code} {D : va_G} {cA : Nat → ClassId} {ad : Nat → Nat} {r : Int32}
noncomputable def f_X0_isLike_2 (σ : St) (k33 : Option (Int32)) (k41 : Option (Int32)) : Nat → Nat → Nat → Int32 → Option (Int32)
  | 0, _, _, _ => none
  | n + 1, v0, v1, v2 => (if 4 ≤ v2 then k41 else chk (kOK SC v0 0) <| chk (aOK SC (v0 + 1) 21 4) <| chk (inb v2 4) <| chk (kOK SC v1 0) <| chk (aOK SC (v1 + 1) 21 4) <| (if (lg_cmp ((σ.2 (v0 + 1) v2.toNatClampNeg) * (σ.2 v1 1)) ((σ.2 (v1 + 1) v2.toNatClampNeg) * (σ.2 v0 1))) = 0 then nw (v2 + 1 : Int32) fun v108 => f_X0_isLike_2 σ k33 k41 n v0 v1 v108 else k33))
set_option maxHeartbeats 4000000 in
set_option maxRecDepth 100000 in
theorem b_X0_isLike_2 {σ : St} {k33 : Option (Int32)} {k41 : Option (Int32)} (X : Cx RX0 wsX0_isLike cX0_isLike 3 (some .boolean) D cA ad SC p s m args meth c) (h33 : ∀  (H : Heap) (locs : List Loc) (ls : Array Slot), k33 = some r → Rn D cA ad SC s.heap σ H locs → lv_has ls 3 [] → W p l e rm_X0_isLike s m args below meth c H locs 0 0 (MQ below (Qi D cA ad SC (r, σ)) args s 0 0 (Aw ad SC)) (F0 m 33 ls [])) (h41 : ∀  (H : Heap) (locs : List Loc) (ls : Array Slot), k41 = some r → Rn D cA ad SC s.heap σ H locs → lv_has ls 3 [] → W p l e rm_X0_isLike s m args below meth c H locs 0 0 (MQ below (Qi D cA ad SC (r, σ)) args s 0 0 (Aw ad SC)) (F0 m 41 ls [])) : ∀ (n : Nat) (v0 : Nat) (v1 : Nat) (v2 : Int32) (H : Heap) (locs : List Loc) (ls : Array Slot), f_X0_isLike_2 σ k33 k41 n v0 v1 v2 = some r → Rn D cA ad SC s.heap σ H locs → lv_has ls 3 [(0, .ref (ad v0)), (1, .ref (ad v1)), (2, .int v2)] → W p l e rm_X0_isLike s m args below meth c H locs 0 0 (MQ below (Qi D cA ad SC (r, σ)) args s 0 0 (Aw ad SC)) (F0 m 2 ls []) := by
  obtain ⟨hx, hb, hml, hown, hts, hr, hlk, hK, hij⟩ := id X
  intro n
  induction n with
  | zero =>
    intro v0 v1 v2 H locs ls hf
    exact nomatch (show (none : Option (Int32)) = some r from hf)
  | succ n ih =>
    intro v0 v1 v2 H locs ls hf hW hl
    rw [f_X0_isLike_2] at hf
    refine lv_iload_n hx hb dX0_isLike_2 rfl (lv_at hl 2 rfl) ?_
    refine lv_iconst (v := 4) hx hb dX0_isLike_3 (by decide) ?_
    refine lv_icmp_ge (tgt := 41) hx hb dX0_isLike_4 (by decide) (fun c1 => ?_) (fun c1 => ?_)
    · have hf := it_e hf c1
      exact h41  _ _ _ hf hW (lv_sub hl [] rfl)
    · have hf := ie_e hf c1
      refine lv_aload_n hx hb dX0_isLike_7 rfl (lv_at hl 0 rfl) ?_
      obtain ⟨q2, hf⟩ := chk_e hf
      obtain ⟨i2, k2⟩ := kOK_e q2
      refine get_0_0 X hW k2 i2 inX0_isLike_0 (List.mem_of_getElem? (i := 1) rfl) dX0_isLike_8 ?_
      refine lv_iload_n hx hb dX0_isLike_11 rfl (lv_at hl 2 rfl) ?_
      obtain ⟨q3, hf⟩ := chk_e hf
      obtain ⟨i3, k3, n3⟩ := aOK_e q3
      obtain ⟨x4, hf⟩ := chk_e hf
      refine r_lald X hW k3 i3 n3 x4 dX0_isLike_12 ?_
      refine lv_aload_n hx hb dX0_isLike_13 rfl (lv_at hl 1 rfl) ?_
      obtain ⟨q5, hf⟩ := chk_e hf
      obtain ⟨i5, k5⟩ := kOK_e q5
      refine get_0_1 X hW k5 i5 inX0_isLike_0 (List.mem_of_getElem? (i := 2) rfl) dX0_isLike_14 ?_
      refine lv_lmul hx hb dX0_isLike_17 ?_
      refine lv_aload_n hx hb dX0_isLike_18 rfl (lv_at hl 1 rfl) ?_
      refine get_0_0 X hW k5 i5 inX0_isLike_0 (List.mem_of_getElem? (i := 1) rfl) dX0_isLike_19 ?_
      refine lv_iload_n hx hb dX0_isLike_22 rfl (lv_at hl 2 rfl) ?_
      obtain ⟨q6, hf⟩ := chk_e hf
      obtain ⟨i6, k6, n6⟩ := aOK_e q6
      refine r_lald X hW k6 i6 n6 x4 dX0_isLike_23 ?_
      refine lv_aload_n hx hb dX0_isLike_24 rfl (lv_at hl 0 rfl) ?_
      refine get_0_1 X hW k2 i2 inX0_isLike_0 (List.mem_of_getElem? (i := 2) rfl) dX0_isLike_25 ?_
      refine lv_lmul hx hb dX0_isLike_28 ?_
      refine W.lcmp hx hb dX0_isLike_29 ?_
      refine lv_if_eq (tgt := 35) hx hb dX0_isLike_30 (by decide) (fun c7 => ?_) (fun c7 => ?_)
      · have hf := it_e hf c7
        obtain ⟨v108, e8, hf⟩ := nw_e hf
        refine lv_iinc (v := v108) (lv' := [(2, .int v108), (0, .ref (ad v0)), (1, .ref (ad v1))]) hx hb dX0_isLike_35 hl (k := 2) rfl (by rw [e8]; rfl) (by decide) rfl (fun ls hl => ?_)
        refine lv_goto (tgt := 2) hx hb dX0_isLike_38 (by decide) ?_
        exact ih v0 v1 v108 _ _ _ hf hW (lv_sub hl [1, 2, 0] rfl)
      · have hf := ie_e hf c7
        exact h33  _ _ _ hf hW (lv_sub hl [] rfl)
end S_X0_isLike
noncomputable def f_X0_isLike (σ : St) (a0 : Nat) (a1 : Nat) : Option (Int32) := f_X0_isLike_2 σ (some 0) (some 1) fu a0 a1 0
set_option maxHeartbeats 4000000 in
set_option maxRecDepth 100000 in
theorem c_X0_isLike (l : Launch) (D : va_G) (cA : Nat → ClassId) (ad : Nat → Nat) (hij : Ij ad SC) (σ : St) (a0 : Nat) (a1 : Nat) (r : Int32) (hf : f_X0_isLike σ a0 a1 = some r) : Met l yX0_isLike wsX0_isLike rm_X0_isLike (PC D cA ad SC [.ref (ad a0), .ref (ad a1)] σ) (Qi D cA ad SC (r, σ)) 0 0 (Aw ad SC) := by
  rw [f_X0_isLike] at hf
  refine k_head (own := RX0) (ws := wsX0_isLike) (cc := cX0_isLike) (nL := 3) (ret := (some .boolean)) pn_X0 rfl rfl hij (Nat.le_of_ble_eq_true rfl) (fun p e s m below meth c ls X hW hl => ?_)
  have hl : lv_has ls 3 [(0, .ref (ad a0)), (1, .ref (ad a1))] := hl
  obtain ⟨hx, hb, hml, hown, hts, hr, hlk, hK, hij⟩ := id X
  refine lv_iconst (v := 0) hx hb dX0_isLike_0 (by decide) ?_
  refine lv_istore_n (lv' := [(2, .int 0), (0, .ref (ad a0)), (1, .ref (ad a1))]) hx hb dX0_isLike_1 rfl hl (by decide) rfl (fun ls hl => ?_)
  refine b_X0_isLike_2 X (fun  H locs ls hf hW hl => ?_) (fun  H locs ls hf hW hl => ?_) fu a0 a1 0 _ _ _ hf hW (lv_sub hl [1, 2, 0] rfl)
  · refine lv_iconst (v := 0) hx hb dX0_isLike_33 (by decide) ?_
    exact r_iretR X hW rfl rfl hf dX0_isLike_34
  · refine lv_iconst (v := 1) hx hb dX0_isLike_41 (by decide) ?_
    exact r_iretR X hW rfl rfl hf dX0_isLike_42

abbrev rm_X3_become : Room := { frames := 1, cells := 0, slots := 0, locals := 80 }
theorem hd_X3_become : yX3_become.cls = RX3 ∧ yX3_become.cls ≠ "java/lang/invoke/MethodHandle" ∧ yX3_become.cls ≠ "java/lang/invoke/VarHandle" ∧ (parseMethodDescriptor yX3_become.desc).map (fun d => d.parameters.length) = some 1 := by decide +kernel
theorem inX3_become_3 : ∀ w ∈ wsX30, w ∈ wsX3_become := fun _ h => List.mem_cons_of_mem _ (List.mem_append_left _ (List.mem_append_right _ h))
theorem inX3_become_0 : ∀ w ∈ wsX00, w ∈ wsX3_become := fun _ h => List.mem_cons_of_mem _ (List.mem_append_right _ h)
section S_X3_become
variable {p : Program} {l : Launch} {e : Env} {s : State} {m : MethodId} {args : Array Value} {below : List Frame} {meth : Method} {c : Code} {D : va_G} {cA : Nat → ClassId} {ad : Nat → Nat} {r : St}
end S_X3_become
noncomputable def f_X3_become (σ : St) (a0 : Nat) (a1 : Nat) : Option (St) := chk (kOK SC a0 3) <| chk (kOK SC a1 3) <| chk (kOK SC (a0 + 1) 0) <| bnd (f_X0_become σ (a0 + 1) (a1 + 1)) fun r3 => chk (aOK SC (a1 + 3) 20 12) <| chk (aOK SC (a0 + 3) 20 12) <| chk (cpk 0 0 12 12 12) <| nw (cpI r3 (a1 + 3) 0 (a0 + 3) 0 12) fun σ7 => chk (aOK SC (a1 + 4) 20 12) <| chk (aOK SC (a0 + 4) 20 12) <| chk (cpk 0 0 12 12 12) <| nw (cpI σ7 (a1 + 4) 0 (a0 + 4) 0 12) fun σ10 => some σ10
set_option maxHeartbeats 4000000 in
set_option maxRecDepth 100000 in
theorem c_X3_become (l : Launch) (D : va_G) (cA : Nat → ClassId) (ad : Nat → Nat) (hij : Ij ad SC) (σ : St) (a0 : Nat) (a1 : Nat) (r : St) (hf : f_X3_become σ a0 a1 = some r) : Met l yX3_become wsX3_become rm_X3_become (PC D cA ad SC [.ref (ad a0), .ref (ad a1)] σ) (Qv D cA ad SC r) 0 0 (Aw ad SC) := by
  rw [f_X3_become] at hf
  refine k_head (own := RX3) (ws := wsX3_become) (cc := cX3_become) (nL := 2) (ret := none) pn_X3 rfl rfl hij (Nat.le_of_ble_eq_true rfl) (fun p e s m below meth c ls X hW hl => ?_)
  have hl : lv_has ls 2 [(0, .ref (ad a0)), (1, .ref (ad a1))] := hl
  obtain ⟨hx, hb, hml, hown, hts, hr, hlk, hK, hij⟩ := id X
  refine lv_aload_n hx hb dX3_become_0 rfl (lv_at hl 0 rfl) ?_
  obtain ⟨q1, hf⟩ := chk_e hf
  obtain ⟨i1, k1⟩ := kOK_e q1
  refine get_3_0 X hW k1 i1 inX3_become_3 (List.mem_of_getElem? (i := 1) rfl) dX3_become_1 ?_
  refine lv_aload_n hx hb dX3_become_4 rfl (lv_at hl 1 rfl) ?_
  obtain ⟨q2, hf⟩ := chk_e hf
  obtain ⟨i2, k2⟩ := kOK_e q2
  refine get_3_0 X hW k2 i2 inX3_become_3 (List.mem_of_getElem? (i := 1) rfl) dX3_become_5 ?_
  obtain ⟨q4, hf⟩ := chk_e hf
  obtain ⟨i4, k4⟩ := kOK_e q4
  obtain ⟨r3, z3, hf⟩ := bnd_e hf
  refine r_cVv X hW k4 i4 rfl (c_X0_become l D cA ad hij σ (a0 + 1) (a1 + 1) r3 z3) gX3_become_X0_become rfl ⟨rfl, rfl⟩ hd_X0_become ⟨Nat.le_of_ble_eq_true rfl, Nat.le_of_ble_eq_true rfl⟩ rfl (Nat.le_of_ble_eq_true rfl) hl.1 dX3_become_8 (fun H locs hW => ?_)
  refine lv_aload_n hx hb dX3_become_11 rfl (lv_at hl 1 rfl) ?_
  refine get_3_1 X hW k2 i2 inX3_become_3 (List.mem_of_getElem? (i := 2) rfl) dX3_become_12 ?_
  refine lv_iconst (v := 0) hx hb dX3_become_15 (by decide) ?_
  refine lv_aload_n hx hb dX3_become_16 rfl (lv_at hl 0 rfl) ?_
  refine get_3_1 X hW k1 i1 inX3_become_3 (List.mem_of_getElem? (i := 2) rfl) dX3_become_17 ?_
  refine lv_iconst (v := 0) hx hb dX3_become_20 (by decide) ?_
  refine lv_bipush (v := 12) hx hb dX3_become_21 (by decide) ?_
  obtain ⟨q5, hf⟩ := chk_e hf
  obtain ⟨i5, k5, n5⟩ := aOK_e q5
  obtain ⟨q6, hf⟩ := chk_e hf
  obtain ⟨i6, k6, n6⟩ := aOK_e q6
  obtain ⟨q7, hf⟩ := chk_e hf
  obtain ⟨σ7, e7, hf⟩ := nw_e hf
  refine r_copy X hW k5 i5 n5 k6 i6 n6 q7 e7 hl.1 (List.mem_of_getElem? (i := 3) rfl) (List.mem_of_getElem? (i := 4) rfl) (List.mem_of_getElem? (i := 5) rfl) (List.mem_of_getElem? (i := 6) rfl) ⟨Nat.le_of_ble_eq_true rfl, Nat.le_of_ble_eq_true rfl⟩ dX3_become_23 (fun H locs hW => ?_)
  refine lv_aload_n hx hb dX3_become_26 rfl (lv_at hl 1 rfl) ?_
  refine get_3_2 X hW k2 i2 inX3_become_3 (List.mem_of_getElem? (i := 7) rfl) dX3_become_27 ?_
  refine lv_iconst (v := 0) hx hb dX3_become_30 (by decide) ?_
  refine lv_aload_n hx hb dX3_become_31 rfl (lv_at hl 0 rfl) ?_
  refine get_3_2 X hW k1 i1 inX3_become_3 (List.mem_of_getElem? (i := 7) rfl) dX3_become_32 ?_
  refine lv_iconst (v := 0) hx hb dX3_become_35 (by decide) ?_
  refine lv_bipush (v := 12) hx hb dX3_become_36 (by decide) ?_
  obtain ⟨q8, hf⟩ := chk_e hf
  obtain ⟨i8, k8, n8⟩ := aOK_e q8
  obtain ⟨q9, hf⟩ := chk_e hf
  obtain ⟨i9, k9, n9⟩ := aOK_e q9
  obtain ⟨q10, hf⟩ := chk_e hf
  obtain ⟨σ10, e10, hf⟩ := nw_e hf
  refine r_copy X hW k8 i8 n8 k9 i9 n9 q10 e10 hl.1 (List.mem_of_getElem? (i := 3) rfl) (List.mem_of_getElem? (i := 4) rfl) (List.mem_of_getElem? (i := 5) rfl) (List.mem_of_getElem? (i := 6) rfl) ⟨Nat.le_of_ble_eq_true rfl, Nat.le_of_ble_eq_true rfl⟩ dX3_become_38 (fun H locs hW => ?_)
  exact r_vret X hW rfl hf dX3_become_41

abbrev rm_X3_cookIn : Room := { frames := 2, cells := 0, slots := 0, locals := 49 }
theorem hd_X3_cookIn : yX3_cookIn.cls = RX3 ∧ yX3_cookIn.cls ≠ "java/lang/invoke/MethodHandle" ∧ yX3_cookIn.cls ≠ "java/lang/invoke/VarHandle" ∧ (parseMethodDescriptor yX3_cookIn.desc).map (fun d => d.parameters.length) = some 2 := by decide +kernel
theorem inX3_cookIn_3 : ∀ w ∈ wsX30, w ∈ wsX3_cookIn := fun _ h => List.mem_cons_of_mem _ (List.mem_append_left _ (List.mem_append_right _ h))
theorem inX3_cookIn_0 : ∀ w ∈ wsX00, w ∈ wsX3_cookIn := fun _ h => List.mem_cons_of_mem _ (List.mem_append_right _ h)
section S_X3_cookIn
variable {p : Program} {l : Launch} {e : Env} {s : State} {m : MethodId} {args : Array Value} {below : List Frame} {meth : Method} {c : Code} {D : va_G} {cA : Nat → ClassId} {ad : Nat → Nat} {r : Int32 × St}
end S_X3_cookIn
noncomputable def f_X3_cookIn (σ : St) (a0 : Nat) (a1 : Int32) (a2 : Int32) : Option (Int32 × St) := chk (kOK SC a0 3) <| chk (kOK SC (a0 + 1) 0) <| bnd (f_X0_hasRoom σ (a0 + 1)) fun r2 => (if r2 = 0 then some (0, σ) else chk (aOK SC (a0 + 3) 20 12) <| chk (inb (σ.1 (a0 + 1) 2) 12) <| nw (uI σ (a0 + 3) (σ.1 (a0 + 1) 2).toNatClampNeg a1) fun σ7 => chk (aOK SC (a0 + 4) 20 12) <| chk (inb (σ7.1 (a0 + 1) 2) 12) <| nw (uI σ7 (a0 + 4) (σ7.1 (a0 + 1) 2).toNatClampNeg a2) fun σ10 => bnd (f_X0_takeIn σ10 (a0 + 1) a1 a2) fun r11 => some (1, r11))
set_option maxHeartbeats 4000000 in
set_option maxRecDepth 100000 in
theorem c_X3_cookIn (l : Launch) (D : va_G) (cA : Nat → ClassId) (ad : Nat → Nat) (hij : Ij ad SC) (σ : St) (a0 : Nat) (a1 : Int32) (a2 : Int32) (r : Int32 × St) (hf : f_X3_cookIn σ a0 a1 a2 = some r) : Met l yX3_cookIn wsX3_cookIn rm_X3_cookIn (PC D cA ad SC [.ref (ad a0), .int a1, .int a2] σ) (Qi D cA ad SC r) 0 0 (Aw ad SC) := by
  rw [f_X3_cookIn] at hf
  refine k_head (own := RX3) (ws := wsX3_cookIn) (cc := cX3_cookIn) (nL := 3) (ret := (some .boolean)) pn_X3 rfl rfl hij (Nat.le_of_ble_eq_true rfl) (fun p e s m below meth c ls X hW hl => ?_)
  have hl : lv_has ls 3 [(0, .ref (ad a0)), (1, .int a1), (2, .int a2)] := hl
  obtain ⟨hx, hb, hml, hown, hts, hr, hlk, hK, hij⟩ := id X
  refine lv_aload_n hx hb dX3_cookIn_0 rfl (lv_at hl 0 rfl) ?_
  obtain ⟨q1, hf⟩ := chk_e hf
  obtain ⟨i1, k1⟩ := kOK_e q1
  refine get_3_0 X hW k1 i1 inX3_cookIn_3 (List.mem_of_getElem? (i := 1) rfl) dX3_cookIn_1 ?_
  obtain ⟨q3, hf⟩ := chk_e hf
  obtain ⟨i3, k3⟩ := kOK_e q3
  obtain ⟨r2, z2, hf⟩ := bnd_e hf
  refine r_cViR X hW k3 i3 rfl (c_X0_hasRoom l D cA ad hij σ (a0 + 1) r2 z2) gX3_cookIn_X0_hasRoom rfl ⟨rfl, rfl⟩ hd_X0_hasRoom ⟨Nat.le_of_ble_eq_true rfl, Nat.le_of_ble_eq_true rfl⟩ rfl (Nat.le_of_ble_eq_true rfl) hl.1 dX3_cookIn_4 (fun H locs hW => ?_)
  refine lv_if_ne (tgt := 12) hx hb dX3_cookIn_7 (by decide) (fun c4 => ?_) (fun c4 => ?_)
  · have hf := ie_e hf c4
    refine lv_aload_n hx hb dX3_cookIn_12 rfl (lv_at hl 0 rfl) ?_
    refine get_3_1 X hW k1 i1 inX3_cookIn_3 (List.mem_of_getElem? (i := 2) rfl) dX3_cookIn_13 ?_
    refine lv_aload_n hx hb dX3_cookIn_16 rfl (lv_at hl 0 rfl) ?_
    refine get_3_0 X hW k1 i1 inX3_cookIn_3 (List.mem_of_getElem? (i := 1) rfl) dX3_cookIn_17 ?_
    refine get_0_2 X hW k3 i3 inX3_cookIn_0 (List.mem_of_getElem? (i := 3) rfl) dX3_cookIn_20 ?_
    refine lv_iload_n hx hb dX3_cookIn_23 rfl (lv_at hl 1 rfl) ?_
    obtain ⟨q5, hf⟩ := chk_e hf
    obtain ⟨i5, k5, n5⟩ := aOK_e q5
    obtain ⟨x6, hf⟩ := chk_e hf
    obtain ⟨σ7, e7, hf⟩ := nw_e hf
    refine r_iast X hW k5 i5 n5 x6 e7 dX3_cookIn_24 (fun H locs hW => ?_)
    refine lv_aload_n hx hb dX3_cookIn_25 rfl (lv_at hl 0 rfl) ?_
    refine get_3_2 X hW k1 i1 inX3_cookIn_3 (List.mem_of_getElem? (i := 4) rfl) dX3_cookIn_26 ?_
    refine lv_aload_n hx hb dX3_cookIn_29 rfl (lv_at hl 0 rfl) ?_
    refine get_3_0 X hW k1 i1 inX3_cookIn_3 (List.mem_of_getElem? (i := 1) rfl) dX3_cookIn_30 ?_
    refine get_0_2 X hW k3 i3 inX3_cookIn_0 (List.mem_of_getElem? (i := 3) rfl) dX3_cookIn_33 ?_
    refine lv_iload_n hx hb dX3_cookIn_36 rfl (lv_at hl 2 rfl) ?_
    obtain ⟨q8, hf⟩ := chk_e hf
    obtain ⟨i8, k8, n8⟩ := aOK_e q8
    obtain ⟨x9, hf⟩ := chk_e hf
    obtain ⟨σ10, e10, hf⟩ := nw_e hf
    refine r_iast X hW k8 i8 n8 x9 e10 dX3_cookIn_37 (fun H locs hW => ?_)
    refine lv_aload_n hx hb dX3_cookIn_38 rfl (lv_at hl 0 rfl) ?_
    refine get_3_0 X hW k1 i1 inX3_cookIn_3 (List.mem_of_getElem? (i := 1) rfl) dX3_cookIn_39 ?_
    refine lv_iload_n hx hb dX3_cookIn_42 rfl (lv_at hl 1 rfl) ?_
    refine lv_iload_n hx hb dX3_cookIn_43 rfl (lv_at hl 2 rfl) ?_
    obtain ⟨r11, z11, hf⟩ := bnd_e hf
    refine r_cVv X hW k3 i3 rfl (c_X0_takeIn l D cA ad hij σ10 (a0 + 1) a1 a2 r11 z11) gX3_cookIn_X0_takeIn rfl ⟨rfl, rfl⟩ hd_X0_takeIn ⟨Nat.le_of_ble_eq_true rfl, Nat.le_of_ble_eq_true rfl⟩ rfl (Nat.le_of_ble_eq_true rfl) hl.1 dX3_cookIn_44 (fun H locs hW => ?_)
    refine lv_iconst (v := 1) hx hb dX3_cookIn_47 (by decide) ?_
    exact r_iret X hW rfl rfl hf dX3_cookIn_48
  · have hf := it_e hf c4
    refine lv_iconst (v := 0) hx hb dX3_cookIn_10 (by decide) ?_
    exact r_iret X hW rfl rfl hf dX3_cookIn_11

abbrev rm_X3_hasDish : Room := { frames := 0, cells := 0, slots := 0, locals := 0 }
theorem hd_X3_hasDish : yX3_hasDish.cls = RX3 ∧ yX3_hasDish.cls ≠ "java/lang/invoke/MethodHandle" ∧ yX3_hasDish.cls ≠ "java/lang/invoke/VarHandle" ∧ (parseMethodDescriptor yX3_hasDish.desc).map (fun d => d.parameters.length) = some 1 := by decide +kernel
theorem inX3_hasDish_3 : ∀ w ∈ wsX30, w ∈ wsX3_hasDish := fun _ h => List.mem_cons_of_mem _ (List.mem_append_left _ (List.mem_append_right _ h))
theorem inX3_hasDish_0 : ∀ w ∈ wsX00, w ∈ wsX3_hasDish := fun _ h => List.mem_cons_of_mem _ (List.mem_append_right _ h)
section S_X3_hasDish
variable {p : Program} {l : Launch} {e : Env} {s : State} {m : MethodId} {args : Array Value} {below : List Frame} {meth : Method} {c : Code} {D : va_G} {cA : Nat → ClassId} {ad : Nat → Nat} {r : Int32}
end S_X3_hasDish
noncomputable def f_X3_hasDish (σ : St) (a0 : Nat) (a1 : Int32) : Option (Int32) := (if a1 < 0 then some 0 else chk (kOK SC a0 3) <| chk (kOK SC (a0 + 1) 0) <| (if (σ.1 (a0 + 1) 2) ≤ a1 then some 0 else some 1))
set_option maxHeartbeats 4000000 in
set_option maxRecDepth 100000 in
theorem c_X3_hasDish (l : Launch) (D : va_G) (cA : Nat → ClassId) (ad : Nat → Nat) (hij : Ij ad SC) (σ : St) (a0 : Nat) (a1 : Int32) (r : Int32) (hf : f_X3_hasDish σ a0 a1 = some r) : Met l yX3_hasDish wsX3_hasDish rm_X3_hasDish (PC D cA ad SC [.ref (ad a0), .int a1] σ) (Qi D cA ad SC (r, σ)) 0 0 (Aw ad SC) := by
  rw [f_X3_hasDish] at hf
  refine k_head (own := RX3) (ws := wsX3_hasDish) (cc := cX3_hasDish) (nL := 2) (ret := (some .boolean)) pn_X3 rfl rfl hij (Nat.le_of_ble_eq_true rfl) (fun p e s m below meth c ls X hW hl => ?_)
  have hl : lv_has ls 2 [(0, .ref (ad a0)), (1, .int a1)] := hl
  obtain ⟨hx, hb, hml, hown, hts, hr, hlk, hK, hij⟩ := id X
  refine lv_iload_n hx hb dX3_hasDish_0 rfl (lv_at hl 1 rfl) ?_
  refine lv_if_lt (tgt := 19) hx hb dX3_hasDish_1 (by decide) (fun c1 => ?_) (fun c1 => ?_)
  · have hf := it_e hf c1
    refine lv_iconst (v := 0) hx hb dX3_hasDish_19 (by decide) ?_
    exact r_iretR X hW rfl rfl hf dX3_hasDish_20
  · have hf := ie_e hf c1
    refine lv_iload_n hx hb dX3_hasDish_4 rfl (lv_at hl 1 rfl) ?_
    refine lv_aload_n hx hb dX3_hasDish_5 rfl (lv_at hl 0 rfl) ?_
    obtain ⟨q2, hf⟩ := chk_e hf
    obtain ⟨i2, k2⟩ := kOK_e q2
    refine get_3_0 X hW k2 i2 inX3_hasDish_3 (List.mem_of_getElem? (i := 1) rfl) dX3_hasDish_6 ?_
    obtain ⟨q3, hf⟩ := chk_e hf
    obtain ⟨i3, k3⟩ := kOK_e q3
    refine get_0_2 X hW k3 i3 inX3_hasDish_0 (List.mem_of_getElem? (i := 2) rfl) dX3_hasDish_9 ?_
    refine lv_icmp_ge (tgt := 19) hx hb dX3_hasDish_12 (by decide) (fun c4 => ?_) (fun c4 => ?_)
    · have hf := it_e hf c4
      refine lv_iconst (v := 0) hx hb dX3_hasDish_19 (by decide) ?_
      exact r_iretR X hW rfl rfl hf dX3_hasDish_20
    · have hf := ie_e hf c4
      refine lv_iconst (v := 1) hx hb dX3_hasDish_15 (by decide) ?_
      refine lv_goto (tgt := 20) hx hb dX3_hasDish_16 (by decide) ?_
      exact r_iretR X hW rfl rfl hf dX3_hasDish_20

abbrev rm_X3_kindOf : Room := { frames := 0, cells := 0, slots := 0, locals := 0 }
theorem hd_X3_kindOf : yX3_kindOf.cls = RX3 ∧ yX3_kindOf.cls ≠ "java/lang/invoke/MethodHandle" ∧ yX3_kindOf.cls ≠ "java/lang/invoke/VarHandle" ∧ (parseMethodDescriptor yX3_kindOf.desc).map (fun d => d.parameters.length) = some 1 := by decide +kernel
theorem inX3_kindOf_3 : ∀ w ∈ wsX30, w ∈ wsX3_kindOf := fun _ h => List.mem_cons_of_mem _ (List.mem_append_left _ (List.mem_append_right _ h))
theorem inX3_kindOf_0 : ∀ w ∈ wsX00, w ∈ wsX3_kindOf := fun _ h => List.mem_cons_of_mem _ (List.mem_append_right _ h)
section S_X3_kindOf
variable {p : Program} {l : Launch} {e : Env} {s : State} {m : MethodId} {args : Array Value} {below : List Frame} {meth : Method} {c : Code} {D : va_G} {cA : Nat → ClassId} {ad : Nat → Nat} {r : Int32}
end S_X3_kindOf
noncomputable def f_X3_kindOf (σ : St) (a0 : Nat) (a1 : Int32) : Option (Int32) := chk (kOK SC a0 3) <| chk (kOK SC (a0 + 1) 0) <| chk (aOK SC (a0 + 3) 20 12) <| chk (inb (((σ.1 (a0 + 1) 2) - 1) - a1) 12) <| some (σ.1 (a0 + 3) (((σ.1 (a0 + 1) 2) - 1) - a1).toNatClampNeg)
set_option maxHeartbeats 4000000 in
set_option maxRecDepth 100000 in
theorem c_X3_kindOf (l : Launch) (D : va_G) (cA : Nat → ClassId) (ad : Nat → Nat) (hij : Ij ad SC) (σ : St) (a0 : Nat) (a1 : Int32) (r : Int32) (hf : f_X3_kindOf σ a0 a1 = some r) : Met l yX3_kindOf wsX3_kindOf rm_X3_kindOf (PC D cA ad SC [.ref (ad a0), .int a1] σ) (Qi D cA ad SC (r, σ)) 0 0 (Aw ad SC) := by
  rw [f_X3_kindOf] at hf
  refine k_head (own := RX3) (ws := wsX3_kindOf) (cc := cX3_kindOf) (nL := 2) (ret := (some .int)) pn_X3 rfl rfl hij (Nat.le_of_ble_eq_true rfl) (fun p e s m below meth c ls X hW hl => ?_)
  have hl : lv_has ls 2 [(0, .ref (ad a0)), (1, .int a1)] := hl
  obtain ⟨hx, hb, hml, hown, hts, hr, hlk, hK, hij⟩ := id X
  refine lv_aload_n hx hb dX3_kindOf_0 rfl (lv_at hl 0 rfl) ?_
  obtain ⟨q1, hf⟩ := chk_e hf
  obtain ⟨i1, k1⟩ := kOK_e q1
  refine get_3_1 X hW k1 i1 inX3_kindOf_3 (List.mem_of_getElem? (i := 1) rfl) dX3_kindOf_1 ?_
  refine lv_aload_n hx hb dX3_kindOf_4 rfl (lv_at hl 0 rfl) ?_
  refine get_3_0 X hW k1 i1 inX3_kindOf_3 (List.mem_of_getElem? (i := 2) rfl) dX3_kindOf_5 ?_
  obtain ⟨q2, hf⟩ := chk_e hf
  obtain ⟨i2, k2⟩ := kOK_e q2
  refine get_0_2 X hW k2 i2 inX3_kindOf_0 (List.mem_of_getElem? (i := 3) rfl) dX3_kindOf_8 ?_
  refine lv_iconst (v := 1) hx hb dX3_kindOf_11 (by decide) ?_
  refine lv_isub hx hb dX3_kindOf_12 ?_
  refine lv_iload_n hx hb dX3_kindOf_13 rfl (lv_at hl 1 rfl) ?_
  refine lv_isub hx hb dX3_kindOf_14 ?_
  obtain ⟨q3, hf⟩ := chk_e hf
  obtain ⟨i3, k3, n3⟩ := aOK_e q3
  obtain ⟨x4, hf⟩ := chk_e hf
  refine r_iald X hW k3 i3 n3 x4 dX3_kindOf_15 ?_
  exact r_iretR X hW rfl rfl hf dX3_kindOf_16

abbrev rm_X3_figureOf : Room := { frames := 0, cells := 0, slots := 0, locals := 0 }
theorem hd_X3_figureOf : yX3_figureOf.cls = RX3 ∧ yX3_figureOf.cls ≠ "java/lang/invoke/MethodHandle" ∧ yX3_figureOf.cls ≠ "java/lang/invoke/VarHandle" ∧ (parseMethodDescriptor yX3_figureOf.desc).map (fun d => d.parameters.length) = some 1 := by decide +kernel
theorem inX3_figureOf_3 : ∀ w ∈ wsX30, w ∈ wsX3_figureOf := fun _ h => List.mem_cons_of_mem _ (List.mem_append_left _ (List.mem_append_right _ h))
theorem inX3_figureOf_0 : ∀ w ∈ wsX00, w ∈ wsX3_figureOf := fun _ h => List.mem_cons_of_mem _ (List.mem_append_right _ h)
section S_X3_figureOf
variable {p : Program} {l : Launch} {e : Env} {s : State} {m : MethodId} {args : Array Value} {below : List Frame} {meth : Method} {c : Code} {D : va_G} {cA : Nat → ClassId} {ad : Nat → Nat} {r : Int32}
end S_X3_figureOf
noncomputable def f_X3_figureOf (σ : St) (a0 : Nat) (a1 : Int32) : Option (Int32) := chk (kOK SC a0 3) <| chk (kOK SC (a0 + 1) 0) <| chk (aOK SC (a0 + 4) 20 12) <| chk (inb (((σ.1 (a0 + 1) 2) - 1) - a1) 12) <| some (σ.1 (a0 + 4) (((σ.1 (a0 + 1) 2) - 1) - a1).toNatClampNeg)
set_option maxHeartbeats 4000000 in
set_option maxRecDepth 100000 in
theorem c_X3_figureOf (l : Launch) (D : va_G) (cA : Nat → ClassId) (ad : Nat → Nat) (hij : Ij ad SC) (σ : St) (a0 : Nat) (a1 : Int32) (r : Int32) (hf : f_X3_figureOf σ a0 a1 = some r) : Met l yX3_figureOf wsX3_figureOf rm_X3_figureOf (PC D cA ad SC [.ref (ad a0), .int a1] σ) (Qi D cA ad SC (r, σ)) 0 0 (Aw ad SC) := by
  rw [f_X3_figureOf] at hf
  refine k_head (own := RX3) (ws := wsX3_figureOf) (cc := cX3_figureOf) (nL := 2) (ret := (some .int)) pn_X3 rfl rfl hij (Nat.le_of_ble_eq_true rfl) (fun p e s m below meth c ls X hW hl => ?_)
  have hl : lv_has ls 2 [(0, .ref (ad a0)), (1, .int a1)] := hl
  obtain ⟨hx, hb, hml, hown, hts, hr, hlk, hK, hij⟩ := id X
  refine lv_aload_n hx hb dX3_figureOf_0 rfl (lv_at hl 0 rfl) ?_
  obtain ⟨q1, hf⟩ := chk_e hf
  obtain ⟨i1, k1⟩ := kOK_e q1
  refine get_3_2 X hW k1 i1 inX3_figureOf_3 (List.mem_of_getElem? (i := 1) rfl) dX3_figureOf_1 ?_
  refine lv_aload_n hx hb dX3_figureOf_4 rfl (lv_at hl 0 rfl) ?_
  refine get_3_0 X hW k1 i1 inX3_figureOf_3 (List.mem_of_getElem? (i := 2) rfl) dX3_figureOf_5 ?_
  obtain ⟨q2, hf⟩ := chk_e hf
  obtain ⟨i2, k2⟩ := kOK_e q2
  refine get_0_2 X hW k2 i2 inX3_figureOf_0 (List.mem_of_getElem? (i := 3) rfl) dX3_figureOf_8 ?_
  refine lv_iconst (v := 1) hx hb dX3_figureOf_11 (by decide) ?_
  refine lv_isub hx hb dX3_figureOf_12 ?_
  refine lv_iload_n hx hb dX3_figureOf_13 rfl (lv_at hl 1 rfl) ?_
  refine lv_isub hx hb dX3_figureOf_14 ?_
  obtain ⟨q3, hf⟩ := chk_e hf
  obtain ⟨i3, k3, n3⟩ := aOK_e q3
  obtain ⟨x4, hf⟩ := chk_e hf
  refine r_iald X hW k3 i3 n3 x4 dX3_figureOf_15 ?_
  exact r_iretR X hW rfl rfl hf dX3_figureOf_16

abbrev rm_X3_leftAbove : Room := { frames := 1, cells := 0, slots := 0, locals := 23 }
theorem hd_X3_leftAbove : yX3_leftAbove.cls = RX3 ∧ yX3_leftAbove.cls ≠ "java/lang/invoke/MethodHandle" ∧ yX3_leftAbove.cls ≠ "java/lang/invoke/VarHandle" ∧ (parseMethodDescriptor yX3_leftAbove.desc).map (fun d => d.parameters.length) = some 1 := by decide +kernel
theorem inX3_leftAbove_3 : ∀ w ∈ wsX30, w ∈ wsX3_leftAbove := fun _ h => List.mem_cons_of_mem _ (List.mem_append_left _ (List.mem_append_right _ h))
theorem inX3_leftAbove_0 : ∀ w ∈ wsX00, w ∈ wsX3_leftAbove := fun _ h => List.mem_cons_of_mem _ (List.mem_append_right _ h)
section S_X3_leftAbove
variable {p : Program} {l : Launch} {e : Env} {s : State} {m : MethodId} {args : Array Value} {below : List Frame} {meth : Method} {c : Code} {D : va_G} {cA : Nat → ClassId} {ad : Nat → Nat} {r : Int64}
noncomputable def f_X3_leftAbove_5 (σ : St) (k30 : Int64 → Option (Int64)) : Nat → Nat → Int32 → Int64 → Int32 → Option (Int64)
  | 0, _, _, _, _ => none
  | n + 1, v0, v1, v2, v4 => (if v1 ≤ v4 then k30 v2 else chk (kOK SC v0 3) <| bnd (f_X3_kindOf σ v0 v4) fun r2 => bnd (f_X5_keepsOf r2) fun r4 => nw (v2 * r4.toInt64 : Int64) fun v105 => nw (v4 + 1 : Int32) fun v106 => f_X3_leftAbove_5 σ k30 n v0 v1 v105 v106)
set_option maxHeartbeats 4000000 in
set_option maxRecDepth 100000 in
theorem b_X3_leftAbove_5 {σ : St} {k30 : Int64 → Option (Int64)} (X : Cx RX3 wsX3_leftAbove cX3_leftAbove 5 (some .long) D cA ad SC p s m args meth c) (h30 : ∀ (w0 : Int64) (H : Heap) (locs : List Loc) (ls : Array Slot), k30 w0 = some r → Rn D cA ad SC s.heap σ H locs → lv_has ls 5 [(2, .long w0)] → W p l e rm_X3_leftAbove s m args below meth c H locs 0 0 (MQ below (Ql D cA ad SC (r, σ)) args s 0 0 (Aw ad SC)) (F0 m 30 ls [])) : ∀ (n : Nat) (v0 : Nat) (v1 : Int32) (v2 : Int64) (v4 : Int32) (H : Heap) (locs : List Loc) (ls : Array Slot), f_X3_leftAbove_5 σ k30 n v0 v1 v2 v4 = some r → Rn D cA ad SC s.heap σ H locs → lv_has ls 5 [(0, .ref (ad v0)), (1, .int v1), (2, .long v2), (4, .int v4)] → W p l e rm_X3_leftAbove s m args below meth c H locs 0 0 (MQ below (Ql D cA ad SC (r, σ)) args s 0 0 (Aw ad SC)) (F0 m 5 ls []) := by
  obtain ⟨hx, hb, hml, hown, hts, hr, hlk, hK, hij⟩ := id X
  intro n
  induction n with
  | zero =>
    intro v0 v1 v2 v4 H locs ls hf
    exact nomatch (show (none : Option (Int64)) = some r from hf)
  | succ n ih =>
    intro v0 v1 v2 v4 H locs ls hf hW hl
    rw [f_X3_leftAbove_5] at hf
    refine lv_iload hx hb dX3_leftAbove_5 (lv_at hl 3 rfl) ?_
    refine lv_iload_n hx hb dX3_leftAbove_7 rfl (lv_at hl 1 rfl) ?_
    refine lv_icmp_ge (tgt := 30) hx hb dX3_leftAbove_8 (by decide) (fun c1 => ?_) (fun c1 => ?_)
    · have hf := it_e hf c1
      exact h30 v2 _ _ _ hf hW (lv_sub hl [2] rfl)
    · have hf := ie_e hf c1
      refine lv_lload_n hx hb dX3_leftAbove_11 rfl (lv_at hl 2 rfl) ?_
      refine lv_aload_n hx hb dX3_leftAbove_12 rfl (lv_at hl 0 rfl) ?_
      refine lv_iload hx hb dX3_leftAbove_13 (lv_at hl 3 rfl) ?_
      obtain ⟨q3, hf⟩ := chk_e hf
      obtain ⟨i3, k3⟩ := kOK_e q3
      obtain ⟨r2, z2, hf⟩ := bnd_e hf
      refine r_cViR X hW k3 i3 rfl (c_X3_kindOf l D cA ad hij σ v0 v4 r2 z2) gX3_leftAbove_X3_kindOf rfl ⟨rfl, rfl⟩ hd_X3_kindOf ⟨Nat.le_of_ble_eq_true rfl, Nat.le_of_ble_eq_true rfl⟩ rfl (Nat.le_of_ble_eq_true rfl) hl.1 dX3_leftAbove_15 (fun H locs hW => ?_)
      obtain ⟨r4, z4, hf⟩ := bnd_e hf
      refine r_cNiR (host := "ThirdOfTheLast") X hW (c_X5_keepsOf l D cA ad hij σ r2 r4 z4) gX3_leftAbove_X5_keepsOf_n51 rfl ⟨rfl, rfl⟩ (by decide +kernel) (List.mem_of_getElem? (i := 10) rfl) (List.mem_of_getElem? (i := 9) rfl) hd_X5_keepsOf ⟨Nat.le_of_ble_eq_true rfl, Nat.le_of_ble_eq_true rfl⟩ rfl (Nat.le_of_ble_eq_true rfl) hl.1 dX3_leftAbove_18 (fun H locs hW => ?_)
      refine lv_i2l hx hb dX3_leftAbove_21 rfl ?_
      refine lv_lmul hx hb dX3_leftAbove_22 ?_
      obtain ⟨v105, e5, hf⟩ := nw_e hf
      refine tL _ e5 ?_
      refine lv_lstore_n (lv' := [(2, .long v105), (0, .ref (ad v0)), (1, .int v1), (4, .int v4)]) hx hb dX3_leftAbove_23 rfl hl (by decide) rfl (fun ls hl => ?_)
      obtain ⟨v106, e6, hf⟩ := nw_e hf
      refine lv_iinc (v := v106) (lv' := [(4, .int v106), (2, .long v105), (0, .ref (ad v0)), (1, .int v1)]) hx hb dX3_leftAbove_24 hl (k := 3) rfl (by rw [e6]; rfl) (by decide) rfl (fun ls hl => ?_)
      refine lv_goto (tgt := 5) hx hb dX3_leftAbove_27 (by decide) ?_
      exact ih v0 v1 v105 v106 _ _ _ hf hW (lv_sub hl [2, 3, 1, 0] rfl)
end S_X3_leftAbove
noncomputable def f_X3_leftAbove (σ : St) (a0 : Nat) (a1 : Int32) : Option (Int64) := f_X3_leftAbove_5 σ (fun (w7_0 : Int64) => some w7_0) fu a0 a1 1 0
set_option maxHeartbeats 4000000 in
set_option maxRecDepth 100000 in
theorem c_X3_leftAbove (l : Launch) (D : va_G) (cA : Nat → ClassId) (ad : Nat → Nat) (hij : Ij ad SC) (σ : St) (a0 : Nat) (a1 : Int32) (r : Int64) (hf : f_X3_leftAbove σ a0 a1 = some r) : Met l yX3_leftAbove wsX3_leftAbove rm_X3_leftAbove (PC D cA ad SC [.ref (ad a0), .int a1] σ) (Ql D cA ad SC (r, σ)) 0 0 (Aw ad SC) := by
  rw [f_X3_leftAbove] at hf
  refine k_head (own := RX3) (ws := wsX3_leftAbove) (cc := cX3_leftAbove) (nL := 5) (ret := (some .long)) pn_X3 rfl rfl hij (Nat.le_of_ble_eq_true rfl) (fun p e s m below meth c ls X hW hl => ?_)
  have hl : lv_has ls 5 [(0, .ref (ad a0)), (1, .int a1)] := hl
  obtain ⟨hx, hb, hml, hown, hts, hr, hlk, hK, hij⟩ := id X
  refine lv_lconst (v := 1) hx hb dX3_leftAbove_0 (by decide) ?_
  refine lv_lstore_n (lv' := [(2, .long 1), (0, .ref (ad a0)), (1, .int a1)]) hx hb dX3_leftAbove_1 rfl hl (by decide) rfl (fun ls hl => ?_)
  refine lv_iconst (v := 0) hx hb dX3_leftAbove_2 (by decide) ?_
  refine lv_istore (lv' := [(4, .int 0), (2, .long 1), (0, .ref (ad a0)), (1, .int a1)]) hx hb dX3_leftAbove_3 hl (by decide) rfl (fun ls hl => ?_)
  refine b_X3_leftAbove_5 X (fun w7_0 H locs ls hf hW hl => ?_) fu a0 a1 1 0 _ _ _ hf hW (lv_sub hl [2, 3, 1, 0] rfl)
  · refine lv_lload_n hx hb dX3_leftAbove_30 rfl (lv_at hl 0 rfl) ?_
    exact r_lretR X hW rfl hf dX3_leftAbove_31

abbrev rm_X3_howManyOf : Room := { frames := 0, cells := 0, slots := 0, locals := 0 }
theorem hd_X3_howManyOf : yX3_howManyOf.cls = RX3 ∧ yX3_howManyOf.cls ≠ "java/lang/invoke/MethodHandle" ∧ yX3_howManyOf.cls ≠ "java/lang/invoke/VarHandle" ∧ (parseMethodDescriptor yX3_howManyOf.desc).map (fun d => d.parameters.length) = some 1 := by decide +kernel
theorem inX3_howManyOf_3 : ∀ w ∈ wsX30, w ∈ wsX3_howManyOf := fun _ h => List.mem_cons_of_mem _ (List.mem_append_left _ (List.mem_append_right _ h))
theorem inX3_howManyOf_0 : ∀ w ∈ wsX00, w ∈ wsX3_howManyOf := fun _ h => List.mem_cons_of_mem _ (List.mem_append_right _ h)
section S_X3_howManyOf
variable {p : Program} {l : Launch} {e : Env} {s : State} {m : MethodId} {args : Array Value} {below : List Frame} {meth : Method} {c : Code} {D : va_G} {cA : Nat → ClassId} {ad : Nat → Nat} {r : Int32}
noncomputable def f_X3_howManyOf_31 (σ : St) (k4 : Nat → Int32 → Int32 → Int32 → Option (Int32)) (v0 : Nat) (v1 : Int32) (v3 : Int32) (s0 : Int32) (s1 : Int32) : Option (Int32) := nw (s0 + s1 : Int32) fun v107 => nw (v3 + 1 : Int32) fun v108 => k4 v0 v1 v107 v108
set_option maxHeartbeats 4000000 in
set_option maxRecDepth 100000 in
theorem b_X3_howManyOf_31 {σ : St} {k4 : Nat → Int32 → Int32 → Int32 → Option (Int32)} (X : Cx RX3 wsX3_howManyOf cX3_howManyOf 4 (some .int) D cA ad SC p s m args meth c) (h4 : ∀ (w0 : Nat) (w1 : Int32) (w2 : Int32) (w3 : Int32) (H : Heap) (locs : List Loc) (ls : Array Slot), k4 w0 w1 w2 w3 = some r → Rn D cA ad SC s.heap σ H locs → lv_has ls 4 [(0, .ref (ad w0)), (1, .int w1), (2, .int w2), (3, .int w3)] → W p l e rm_X3_howManyOf s m args below meth c H locs 0 0 (MQ below (Qi D cA ad SC (r, σ)) args s 0 0 (Aw ad SC)) (F0 m 4 ls [])) : ∀ (v0 : Nat) (v1 : Int32) (v3 : Int32) (s0 : Int32) (s1 : Int32) (H : Heap) (locs : List Loc) (ls : Array Slot), f_X3_howManyOf_31 σ k4 v0 v1 v3 s0 s1 = some r → Rn D cA ad SC s.heap σ H locs → lv_has ls 4 [(0, .ref (ad v0)), (1, .int v1), (3, .int v3)] → W p l e rm_X3_howManyOf s m args below meth c H locs 0 0 (MQ below (Qi D cA ad SC (r, σ)) args s 0 0 (Aw ad SC)) (F0 m 31 ls [.int s1, .int s0]) := by
  obtain ⟨hx, hb, hml, hown, hts, hr, hlk, hK, hij⟩ := id X
  intro v0 v1 v3 s0 s1 H locs ls hf hW hl
  rw [f_X3_howManyOf_31] at hf
  refine lv_iadd hx hb dX3_howManyOf_31 ?_
  obtain ⟨v107, e7, hf⟩ := nw_e hf
  refine tI _ e7 ?_
  refine lv_istore_n (lv' := [(2, .int v107), (0, .ref (ad v0)), (1, .int v1), (3, .int v3)]) hx hb dX3_howManyOf_32 rfl hl (by decide) rfl (fun ls hl => ?_)
  obtain ⟨v108, e8, hf⟩ := nw_e hf
  refine lv_iinc (v := v108) (lv' := [(3, .int v108), (2, .int v107), (0, .ref (ad v0)), (1, .int v1)]) hx hb dX3_howManyOf_33 hl (k := 3) rfl (by rw [e8]; rfl) (by decide) rfl (fun ls hl => ?_)
  refine lv_goto (tgt := 4) hx hb dX3_howManyOf_36 (by decide) ?_
  exact h4 v0 v1 v107 v108 _ _ _ hf hW (lv_sub hl [2, 3, 1, 0] rfl)
noncomputable def f_X3_howManyOf_4 (σ : St) (k39 : Int32 → Option (Int32)) : Nat → Nat → Int32 → Int32 → Int32 → Option (Int32)
  | 0, _, _, _, _ => none
  | n + 1, v0, v1, v2, v3 => chk (kOK SC v0 3) <| chk (kOK SC (v0 + 1) 0) <| (if (σ.1 (v0 + 1) 2) ≤ v3 then k39 v2 else chk (aOK SC (v0 + 3) 20 12) <| chk (inb v3 12) <| (if (σ.1 (v0 + 3) v3.toNatClampNeg) = v1 then f_X3_howManyOf_31 σ (fun (w13_0 : Nat) (w14_1 : Int32) (w15_2 : Int32) (w16_3 : Int32) => f_X3_howManyOf_4 σ k39 n w13_0 w14_1 w15_2 w16_3) v0 v1 v3 v2 1 else f_X3_howManyOf_31 σ (fun (w9_0 : Nat) (w10_1 : Int32) (w11_2 : Int32) (w12_3 : Int32) => f_X3_howManyOf_4 σ k39 n w9_0 w10_1 w11_2 w12_3) v0 v1 v3 v2 0))
set_option maxHeartbeats 4000000 in
set_option maxRecDepth 100000 in
theorem b_X3_howManyOf_4 {σ : St} {k39 : Int32 → Option (Int32)} (X : Cx RX3 wsX3_howManyOf cX3_howManyOf 4 (some .int) D cA ad SC p s m args meth c) (h39 : ∀ (w0 : Int32) (H : Heap) (locs : List Loc) (ls : Array Slot), k39 w0 = some r → Rn D cA ad SC s.heap σ H locs → lv_has ls 4 [(2, .int w0)] → W p l e rm_X3_howManyOf s m args below meth c H locs 0 0 (MQ below (Qi D cA ad SC (r, σ)) args s 0 0 (Aw ad SC)) (F0 m 39 ls [])) : ∀ (n : Nat) (v0 : Nat) (v1 : Int32) (v2 : Int32) (v3 : Int32) (H : Heap) (locs : List Loc) (ls : Array Slot), f_X3_howManyOf_4 σ k39 n v0 v1 v2 v3 = some r → Rn D cA ad SC s.heap σ H locs → lv_has ls 4 [(0, .ref (ad v0)), (1, .int v1), (2, .int v2), (3, .int v3)] → W p l e rm_X3_howManyOf s m args below meth c H locs 0 0 (MQ below (Qi D cA ad SC (r, σ)) args s 0 0 (Aw ad SC)) (F0 m 4 ls []) := by
  obtain ⟨hx, hb, hml, hown, hts, hr, hlk, hK, hij⟩ := id X
  intro n
  induction n with
  | zero =>
    intro v0 v1 v2 v3 H locs ls hf
    exact nomatch (show (none : Option (Int32)) = some r from hf)
  | succ n ih =>
    intro v0 v1 v2 v3 H locs ls hf hW hl
    rw [f_X3_howManyOf_4] at hf
    refine lv_iload_n hx hb dX3_howManyOf_4 rfl (lv_at hl 3 rfl) ?_
    refine lv_aload_n hx hb dX3_howManyOf_5 rfl (lv_at hl 0 rfl) ?_
    obtain ⟨q1, hf⟩ := chk_e hf
    obtain ⟨i1, k1⟩ := kOK_e q1
    refine get_3_0 X hW k1 i1 inX3_howManyOf_3 (List.mem_of_getElem? (i := 1) rfl) dX3_howManyOf_6 ?_
    obtain ⟨q2, hf⟩ := chk_e hf
    obtain ⟨i2, k2⟩ := kOK_e q2
    refine get_0_2 X hW k2 i2 inX3_howManyOf_0 (List.mem_of_getElem? (i := 2) rfl) dX3_howManyOf_9 ?_
    refine lv_icmp_ge (tgt := 39) hx hb dX3_howManyOf_12 (by decide) (fun c3 => ?_) (fun c3 => ?_)
    · have hf := it_e hf c3
      exact h39 v2 _ _ _ hf hW (lv_sub hl [2] rfl)
    · have hf := ie_e hf c3
      refine lv_iload_n hx hb dX3_howManyOf_15 rfl (lv_at hl 2 rfl) ?_
      refine lv_aload_n hx hb dX3_howManyOf_16 rfl (lv_at hl 0 rfl) ?_
      refine get_3_1 X hW k1 i1 inX3_howManyOf_3 (List.mem_of_getElem? (i := 3) rfl) dX3_howManyOf_17 ?_
      refine lv_iload_n hx hb dX3_howManyOf_20 rfl (lv_at hl 3 rfl) ?_
      obtain ⟨q4, hf⟩ := chk_e hf
      obtain ⟨i4, k4, n4⟩ := aOK_e q4
      obtain ⟨x5, hf⟩ := chk_e hf
      refine r_iald X hW k4 i4 n4 x5 dX3_howManyOf_21 ?_
      refine lv_iload_n hx hb dX3_howManyOf_22 rfl (lv_at hl 1 rfl) ?_
      refine lv_icmp_ne (tgt := 30) hx hb dX3_howManyOf_23 (by decide) (fun c6 => ?_) (fun c6 => ?_)
      · have hf := ie_e hf c6
        refine lv_iconst (v := 0) hx hb dX3_howManyOf_30 (by decide) ?_
        refine b_X3_howManyOf_31 X (fun w9_0 w10_1 w11_2 w12_3 H locs ls hf hW hl => ?_) v0 v1 v3 v2 0 _ _ _ hf hW (lv_sub hl [0, 1, 3] rfl)
        · exact ih w9_0 w10_1 w11_2 w12_3 _ _ _ hf hW (lv_sub hl [0, 1, 2, 3] rfl)
      · have hf := it_e hf c6
        refine lv_iconst (v := 1) hx hb dX3_howManyOf_26 (by decide) ?_
        refine lv_goto (tgt := 31) hx hb dX3_howManyOf_27 (by decide) ?_
        refine b_X3_howManyOf_31 X (fun w13_0 w14_1 w15_2 w16_3 H locs ls hf hW hl => ?_) v0 v1 v3 v2 1 _ _ _ hf hW (lv_sub hl [0, 1, 3] rfl)
        · exact ih w13_0 w14_1 w15_2 w16_3 _ _ _ hf hW (lv_sub hl [0, 1, 2, 3] rfl)
end S_X3_howManyOf
noncomputable def f_X3_howManyOf (σ : St) (a0 : Nat) (a1 : Int32) : Option (Int32) := f_X3_howManyOf_4 σ (fun (w17_0 : Int32) => some w17_0) fu a0 a1 0 0
set_option maxHeartbeats 4000000 in
set_option maxRecDepth 100000 in
theorem c_X3_howManyOf (l : Launch) (D : va_G) (cA : Nat → ClassId) (ad : Nat → Nat) (hij : Ij ad SC) (σ : St) (a0 : Nat) (a1 : Int32) (r : Int32) (hf : f_X3_howManyOf σ a0 a1 = some r) : Met l yX3_howManyOf wsX3_howManyOf rm_X3_howManyOf (PC D cA ad SC [.ref (ad a0), .int a1] σ) (Qi D cA ad SC (r, σ)) 0 0 (Aw ad SC) := by
  rw [f_X3_howManyOf] at hf
  refine k_head (own := RX3) (ws := wsX3_howManyOf) (cc := cX3_howManyOf) (nL := 4) (ret := (some .int)) pn_X3 rfl rfl hij (Nat.le_of_ble_eq_true rfl) (fun p e s m below meth c ls X hW hl => ?_)
  have hl : lv_has ls 4 [(0, .ref (ad a0)), (1, .int a1)] := hl
  obtain ⟨hx, hb, hml, hown, hts, hr, hlk, hK, hij⟩ := id X
  refine lv_iconst (v := 0) hx hb dX3_howManyOf_0 (by decide) ?_
  refine lv_istore_n (lv' := [(2, .int 0), (0, .ref (ad a0)), (1, .int a1)]) hx hb dX3_howManyOf_1 rfl hl (by decide) rfl (fun ls hl => ?_)
  refine lv_iconst (v := 0) hx hb dX3_howManyOf_2 (by decide) ?_
  refine lv_istore_n (lv' := [(3, .int 0), (2, .int 0), (0, .ref (ad a0)), (1, .int a1)]) hx hb dX3_howManyOf_3 rfl hl (by decide) rfl (fun ls hl => ?_)
  refine b_X3_howManyOf_4 X (fun w17_0 H locs ls hf hW hl => ?_) fu a0 a1 0 0 _ _ _ hf hW (lv_sub hl [2, 3, 1, 0] rfl)
  · refine lv_iload_n hx hb dX3_howManyOf_39 rfl (lv_at hl 0 rfl) ?_
    exact r_iretR X hW rfl rfl hf dX3_howManyOf_40
