abbrev rm_X1_has : Room := { frames := 0, cells := 0, slots := 0, locals := 0 }
theorem hd_X1_has : yX1_has.cls = RX1 ∧ yX1_has.cls ≠ "java/lang/invoke/MethodHandle" ∧ yX1_has.cls ≠ "java/lang/invoke/VarHandle" ∧ (parseMethodDescriptor yX1_has.desc).map (fun d => d.parameters.length) = some 1 := by decide +kernel
theorem inX1_has_1 : ∀ w ∈ wsX10, w ∈ wsX1_has := fun _ h => List.mem_cons_of_mem _ (List.mem_append_right _ h)
section S_X1_has
variable {p : Program} {l : Launch} {e : Env} {s : State} {m : MethodId} {args : Array Value} {below : List Frame} {meth : Method} {c : Code} {D : va_G} {cA : Nat → ClassId} {ad : Nat → Nat} {r : Int32}
end S_X1_has
noncomputable def f_X1_has (σ : St) (a0 : Nat) (a1 : Int32) : Option (Int32) := (if a1 < 0 then some 0 else chk (kOK SC a0 1) <| (if (σ.1 a0 1) ≤ a1 then some 0 else some 1))
set_option maxHeartbeats 4000000 in
set_option maxRecDepth 100000 in
theorem c_X1_has (l : Launch) (D : va_G) (cA : Nat → ClassId) (ad : Nat → Nat) (hij : Ij ad SC) (σ : St) (a0 : Nat) (a1 : Int32) (r : Int32) (hf : f_X1_has σ a0 a1 = some r) : Met l yX1_has wsX1_has rm_X1_has (PC D cA ad SC [.ref (ad a0), .int a1] σ) (Qi D cA ad SC (r, σ)) 0 0 (Aw ad SC) := by
  rw [f_X1_has] at hf
  refine k_head (own := RX1) (ws := wsX1_has) (cc := cX1_has) (nL := 2) (ret := (some .boolean)) pn_X1 rfl rfl hij (Nat.le_of_ble_eq_true rfl) (fun p e s m below meth c ls X hW hl => ?_)
  have hl : lv_has ls 2 [(0, .ref (ad a0)), (1, .int a1)] := hl
  obtain ⟨hx, hb, hml, hown, hts, hr, hlk, hK, hij⟩ := id X
  refine lv_iload_n hx hb dX1_has_0 rfl (lv_at hl 1 rfl) ?_
  refine lv_if_lt (tgt := 16) hx hb dX1_has_1 (by decide) (fun c1 => ?_) (fun c1 => ?_)
  · have hf := it_e hf c1
    refine lv_iconst (v := 0) hx hb dX1_has_16 (by decide) ?_
    exact r_iretR X hW rfl rfl hf dX1_has_17
  · have hf := ie_e hf c1
    refine lv_iload_n hx hb dX1_has_4 rfl (lv_at hl 1 rfl) ?_
    refine lv_aload_n hx hb dX1_has_5 rfl (lv_at hl 0 rfl) ?_
    obtain ⟨q2, hf⟩ := chk_e hf
    obtain ⟨i2, k2⟩ := kOK_e q2
    refine get_1_1 X hW k2 i2 inX1_has_1 (List.mem_of_getElem? (i := 1) rfl) dX1_has_6 ?_
    refine lv_icmp_ge (tgt := 16) hx hb dX1_has_9 (by decide) (fun c3 => ?_) (fun c3 => ?_)
    · have hf := it_e hf c3
      refine lv_iconst (v := 0) hx hb dX1_has_16 (by decide) ?_
      exact r_iretR X hW rfl rfl hf dX1_has_17
    · have hf := ie_e hf c3
      refine lv_iconst (v := 1) hx hb dX1_has_12 (by decide) ?_
      refine lv_goto (tgt := 17) hx hb dX1_has_13 (by decide) ?_
      exact r_iretR X hW rfl rfl hf dX1_has_17

abbrev rm_X1_become : Room := { frames := 2, cells := 0, slots := 0, locals := 101 }
theorem hd_X1_become : yX1_become.cls = RX1 ∧ yX1_become.cls ≠ "java/lang/invoke/MethodHandle" ∧ yX1_become.cls ≠ "java/lang/invoke/VarHandle" ∧ (parseMethodDescriptor yX1_become.desc).map (fun d => d.parameters.length) = some 1 := by decide +kernel
theorem inX1_become_1 : ∀ w ∈ wsX10, w ∈ wsX1_become := fun _ h => List.mem_cons_of_mem _ (List.mem_append_left _ (List.mem_append_left _ (List.mem_append_right _ h)))
theorem inX1_become_3 : ∀ w ∈ wsX30, w ∈ wsX1_become := fun _ h => List.mem_cons_of_mem _ (List.mem_append_left _ (List.mem_append_right _ h))
theorem inX1_become_0 : ∀ w ∈ wsX00, w ∈ wsX1_become := fun _ h => List.mem_cons_of_mem _ (List.mem_append_right _ h)
section S_X1_become
variable {p : Program} {l : Launch} {e : Env} {s : State} {m : MethodId} {args : Array Value} {below : List Frame} {meth : Method} {c : Code} {D : va_G} {cA : Nat → ClassId} {ad : Nat → Nat} {r : St}
noncomputable def f_X1_become_10 (k39 : St → Option (St)) : Nat → Nat → Nat → Int32 → St → Option (St)
  | 0, _, _, _, _ => none
  | n + 1, v0, v1, v2, σ => chk (kOK SC v0 1) <| (if (σ.1 v0 1) ≤ v2 then k39 σ else chk (aOK SC (v0 + 1) 22 6) <| chk (inb v2 6) <| chk (kOK SC v1 1) <| chk (aOK SC (v1 + 1) 22 6) <| chk (kOK SC (v0 + 1 + 1 + 5 * v2.toNatClampNeg) 3) <| bnd (f_X3_become σ (v0 + 1 + 1 + 5 * v2.toNatClampNeg) (v1 + 1 + 1 + 5 * v2.toNatClampNeg)) fun r10 => nw (v2 + 1 : Int32) fun v112 => f_X1_become_10 k39 n v0 v1 v112 r10)
set_option maxHeartbeats 4000000 in
set_option maxRecDepth 100000 in
theorem b_X1_become_10 {k39 : St → Option (St)} (X : Cx RX1 wsX1_become cX1_become 3 none D cA ad SC p s m args meth c) (h39 : ∀  (σ : St) (H : Heap) (locs : List Loc) (ls : Array Slot), k39 σ = some r → Rn D cA ad SC s.heap σ H locs → lv_has ls 3 [] → W p l e rm_X1_become s m args below meth c H locs 0 0 (MQ below (Qv D cA ad SC r) args s 0 0 (Aw ad SC)) (F0 m 39 ls [])) : ∀ (n : Nat) (v0 : Nat) (v1 : Nat) (v2 : Int32) (σ : St) (H : Heap) (locs : List Loc) (ls : Array Slot), f_X1_become_10 k39 n v0 v1 v2 σ = some r → Rn D cA ad SC s.heap σ H locs → lv_has ls 3 [(0, .ref (ad v0)), (1, .ref (ad v1)), (2, .int v2)] → W p l e rm_X1_become s m args below meth c H locs 0 0 (MQ below (Qv D cA ad SC r) args s 0 0 (Aw ad SC)) (F0 m 10 ls []) := by
  obtain ⟨hx, hb, hml, hown, hts, hr, hlk, hK, hij⟩ := id X
  intro n
  induction n with
  | zero =>
    intro v0 v1 v2 σ H locs ls hf
    exact nomatch (show (none : Option (St)) = some r from hf)
  | succ n ih =>
    intro v0 v1 v2 σ H locs ls hf hW hl
    rw [f_X1_become_10] at hf
    refine lv_iload_n hx hb dX1_become_10 rfl (lv_at hl 2 rfl) ?_
    refine lv_aload_n hx hb dX1_become_11 rfl (lv_at hl 0 rfl) ?_
    obtain ⟨q4, hf⟩ := chk_e hf
    obtain ⟨i4, k4⟩ := kOK_e q4
    refine get_1_1 X hW k4 i4 inX1_become_1 (List.mem_of_getElem? (i := 1) rfl) dX1_become_12 ?_
    refine lv_icmp_ge (tgt := 39) hx hb dX1_become_15 (by decide) (fun c5 => ?_) (fun c5 => ?_)
    · have hf := it_e hf c5
      exact h39 σ _ _ _ hf hW (lv_sub hl [] rfl)
    · have hf := ie_e hf c5
      refine lv_aload_n hx hb dX1_become_18 rfl (lv_at hl 0 rfl) ?_
      refine get_1_0 X hW k4 i4 inX1_become_1 (List.mem_of_getElem? (i := 2) rfl) dX1_become_19 ?_
      refine lv_iload_n hx hb dX1_become_22 rfl (lv_at hl 2 rfl) ?_
      obtain ⟨q6, hf⟩ := chk_e hf
      obtain ⟨i6, k6, n6⟩ := aOK_e q6
      obtain ⟨x7, hf⟩ := chk_e hf
      refine r_aald (j := v0 + 1 + 1 + 5 * v2.toNatClampNeg) X hW k6 i6 n6 (by decide) rfl x7 rfl dX1_become_23 ?_
      refine lv_aload_n hx hb dX1_become_24 rfl (lv_at hl 1 rfl) ?_
      obtain ⟨q8, hf⟩ := chk_e hf
      obtain ⟨i8, k8⟩ := kOK_e q8
      refine get_1_0 X hW k8 i8 inX1_become_1 (List.mem_of_getElem? (i := 2) rfl) dX1_become_25 ?_
      refine lv_iload_n hx hb dX1_become_28 rfl (lv_at hl 2 rfl) ?_
      obtain ⟨q9, hf⟩ := chk_e hf
      obtain ⟨i9, k9, n9⟩ := aOK_e q9
      refine r_aald (j := v1 + 1 + 1 + 5 * v2.toNatClampNeg) X hW k9 i9 n9 (by decide) rfl x7 rfl dX1_become_29 ?_
      obtain ⟨q11, hf⟩ := chk_e hf
      obtain ⟨i11, k11⟩ := kOK_e q11
      obtain ⟨r10, z10, hf⟩ := bnd_e hf
      refine r_cVv X hW k11 i11 rfl (c_X3_become l D cA ad hij σ (v0 + 1 + 1 + 5 * v2.toNatClampNeg) (v1 + 1 + 1 + 5 * v2.toNatClampNeg) r10 z10) gX1_become_X3_become rfl ⟨rfl, rfl⟩ hd_X3_become ⟨Nat.le_of_ble_eq_true rfl, Nat.le_of_ble_eq_true rfl⟩ rfl (Nat.le_of_ble_eq_true rfl) hl.1 dX1_become_30 (fun H locs hW => ?_)
      obtain ⟨v112, e12, hf⟩ := nw_e hf
      refine lv_iinc (v := v112) (lv' := [(2, .int v112), (0, .ref (ad v0)), (1, .ref (ad v1))]) hx hb dX1_become_33 hl (k := 2) rfl (by rw [e12]; rfl) (by decide) rfl (fun ls hl => ?_)
      refine lv_goto (tgt := 10) hx hb dX1_become_36 (by decide) ?_
      exact ih v0 v1 v112 r10 _ _ _ hf hW (lv_sub hl [1, 2, 0] rfl)
end S_X1_become
noncomputable def f_X1_become (σ : St) (a0 : Nat) (a1 : Nat) : Option (St) := chk (kOK SC a1 1) <| chk (kOK SC a0 1) <| nw (uI σ a0 1 (σ.1 a1 1)) fun σ3 => f_X1_become_10 (fun  (σ13 : St) => some σ13) fu a0 a1 0 σ3
set_option maxHeartbeats 4000000 in
set_option maxRecDepth 100000 in
theorem c_X1_become (l : Launch) (D : va_G) (cA : Nat → ClassId) (ad : Nat → Nat) (hij : Ij ad SC) (σ : St) (a0 : Nat) (a1 : Nat) (r : St) (hf : f_X1_become σ a0 a1 = some r) : Met l yX1_become wsX1_become rm_X1_become (PC D cA ad SC [.ref (ad a0), .ref (ad a1)] σ) (Qv D cA ad SC r) 0 0 (Aw ad SC) := by
  rw [f_X1_become] at hf
  refine k_head (own := RX1) (ws := wsX1_become) (cc := cX1_become) (nL := 3) (ret := none) pn_X1 rfl rfl hij (Nat.le_of_ble_eq_true rfl) (fun p e s m below meth c ls X hW hl => ?_)
  have hl : lv_has ls 3 [(0, .ref (ad a0)), (1, .ref (ad a1))] := hl
  obtain ⟨hx, hb, hml, hown, hts, hr, hlk, hK, hij⟩ := id X
  refine lv_aload_n hx hb dX1_become_0 rfl (lv_at hl 0 rfl) ?_
  refine lv_aload_n hx hb dX1_become_1 rfl (lv_at hl 1 rfl) ?_
  obtain ⟨q1, hf⟩ := chk_e hf
  obtain ⟨i1, k1⟩ := kOK_e q1
  refine get_1_1 X hW k1 i1 inX1_become_1 (List.mem_of_getElem? (i := 1) rfl) dX1_become_2 ?_
  obtain ⟨q2, hf⟩ := chk_e hf
  obtain ⟨i2, k2⟩ := kOK_e q2
  obtain ⟨σ3, e3, hf⟩ := nw_e hf
  refine put_1_1 X hW k2 i2 inX1_become_1 (List.mem_of_getElem? (i := 1) rfl) e3 dX1_become_5 (fun H locs hW => ?_)
  refine lv_iconst (v := 0) hx hb dX1_become_8 (by decide) ?_
  refine lv_istore_n (lv' := [(2, .int 0), (0, .ref (ad a0)), (1, .ref (ad a1))]) hx hb dX1_become_9 rfl hl (by decide) rfl (fun ls hl => ?_)
  refine b_X1_become_10 X (fun σ13 H locs ls hf hW hl => ?_) fu a0 a1 0 σ3 _ _ _ hf hW (lv_sub hl [1, 2, 0] rfl)
  · exact r_vret X hW rfl hf dX1_become_39

abbrev rm_X1_addPot : Room := { frames := 1, cells := 0, slots := 0, locals := 21 }
theorem hd_X1_addPot : yX1_addPot.cls = RX1 ∧ yX1_addPot.cls ≠ "java/lang/invoke/MethodHandle" ∧ yX1_addPot.cls ≠ "java/lang/invoke/VarHandle" ∧ (parseMethodDescriptor yX1_addPot.desc).map (fun d => d.parameters.length) = some 0 := by decide +kernel
theorem inX1_addPot_1 : ∀ w ∈ wsX10, w ∈ wsX1_addPot := fun _ h => List.mem_cons_of_mem _ (List.mem_append_left _ (List.mem_append_left _ (List.mem_append_right _ h)))
theorem inX1_addPot_3 : ∀ w ∈ wsX30, w ∈ wsX1_addPot := fun _ h => List.mem_cons_of_mem _ (List.mem_append_left _ (List.mem_append_right _ h))
theorem inX1_addPot_0 : ∀ w ∈ wsX00, w ∈ wsX1_addPot := fun _ h => List.mem_cons_of_mem _ (List.mem_append_right _ h)
section S_X1_addPot
variable {p : Program} {l : Launch} {e : Env} {s : State} {m : MethodId} {args : Array Value} {below : List Frame} {meth : Method} {c : Code} {D : va_G} {cA : Nat → ClassId} {ad : Nat → Nat} {r : Int32 × St}
end S_X1_addPot
noncomputable def f_X1_addPot (σ : St) (a0 : Nat) : Option (Int32 × St) := chk (kOK SC a0 1) <| (if (σ.1 a0 1) < 6 then chk (aOK SC (a0 + 1) 22 6) <| chk (inb (σ.1 a0 1) 6) <| chk (kOK SC (a0 + 1 + 1 + 5 * (σ.1 a0 1).toNatClampNeg) 3) <| chk (kOK SC (a0 + 1 + 1 + 5 * (σ.1 a0 1).toNatClampNeg + 1) 0) <| bnd (f_X0_clear σ (a0 + 1 + 1 + 5 * (σ.1 a0 1).toNatClampNeg + 1)) fun r6 => nw (uI r6 a0 1 ((r6.1 a0 1) + 1)) fun σ8 => some (1, σ8) else some (0, σ))
set_option maxHeartbeats 4000000 in
set_option maxRecDepth 100000 in
theorem c_X1_addPot (l : Launch) (D : va_G) (cA : Nat → ClassId) (ad : Nat → Nat) (hij : Ij ad SC) (σ : St) (a0 : Nat) (r : Int32 × St) (hf : f_X1_addPot σ a0 = some r) : Met l yX1_addPot wsX1_addPot rm_X1_addPot (PC D cA ad SC [.ref (ad a0)] σ) (Qi D cA ad SC r) 0 0 (Aw ad SC) := by
  rw [f_X1_addPot] at hf
  refine k_head (own := RX1) (ws := wsX1_addPot) (cc := cX1_addPot) (nL := 1) (ret := (some .boolean)) pn_X1 rfl rfl hij (Nat.le_of_ble_eq_true rfl) (fun p e s m below meth c ls X hW hl => ?_)
  have hl : lv_has ls 1 [(0, .ref (ad a0))] := hl
  obtain ⟨hx, hb, hml, hown, hts, hr, hlk, hK, hij⟩ := id X
  refine lv_aload_n hx hb dX1_addPot_0 rfl (lv_at hl 0 rfl) ?_
  obtain ⟨q1, hf⟩ := chk_e hf
  obtain ⟨i1, k1⟩ := kOK_e q1
  refine get_1_1 X hW k1 i1 inX1_addPot_1 (List.mem_of_getElem? (i := 1) rfl) dX1_addPot_1 ?_
  refine lv_bipush (v := 6) hx hb dX1_addPot_4 (by decide) ?_
  refine lv_icmp_lt (tgt := 11) hx hb dX1_addPot_6 (by decide) (fun c2 => ?_) (fun c2 => ?_)
  · have hf := it_e hf c2
    refine lv_aload_n hx hb dX1_addPot_11 rfl (lv_at hl 0 rfl) ?_
    refine get_1_0 X hW k1 i1 inX1_addPot_1 (List.mem_of_getElem? (i := 2) rfl) dX1_addPot_12 ?_
    refine lv_aload_n hx hb dX1_addPot_15 rfl (lv_at hl 0 rfl) ?_
    refine get_1_1 X hW k1 i1 inX1_addPot_1 (List.mem_of_getElem? (i := 1) rfl) dX1_addPot_16 ?_
    obtain ⟨q3, hf⟩ := chk_e hf
    obtain ⟨i3, k3, n3⟩ := aOK_e q3
    obtain ⟨x4, hf⟩ := chk_e hf
    refine r_aald (j := a0 + 1 + 1 + 5 * (σ.1 a0 1).toNatClampNeg) X hW k3 i3 n3 (by decide) rfl x4 rfl dX1_addPot_19 ?_
    obtain ⟨q5, hf⟩ := chk_e hf
    obtain ⟨i5, k5⟩ := kOK_e q5
    refine get_3_0 X hW k5 i5 inX1_addPot_3 (List.mem_of_getElem? (i := 3) rfl) dX1_addPot_20 ?_
    obtain ⟨q7, hf⟩ := chk_e hf
    obtain ⟨i7, k7⟩ := kOK_e q7
    obtain ⟨r6, z6, hf⟩ := bnd_e hf
    refine r_cVv X hW k7 i7 rfl (c_X0_clear l D cA ad hij σ (a0 + 1 + 1 + 5 * (σ.1 a0 1).toNatClampNeg + 1) r6 z6) gX1_addPot_X0_clear rfl ⟨rfl, rfl⟩ hd_X0_clear ⟨Nat.le_of_ble_eq_true rfl, Nat.le_of_ble_eq_true rfl⟩ rfl (Nat.le_of_ble_eq_true rfl) hl.1 dX1_addPot_23 (fun H locs hW => ?_)
    refine lv_aload_n hx hb dX1_addPot_26 rfl (lv_at hl 0 rfl) ?_
    refine lv_dup hx hb dX1_addPot_27 rfl ?_
    refine get_1_1 X hW k1 i1 inX1_addPot_1 (List.mem_of_getElem? (i := 1) rfl) dX1_addPot_28 ?_
    refine lv_iconst (v := 1) hx hb dX1_addPot_31 (by decide) ?_
    refine lv_iadd hx hb dX1_addPot_32 ?_
    obtain ⟨σ8, e8, hf⟩ := nw_e hf
    refine put_1_1 X hW k1 i1 inX1_addPot_1 (List.mem_of_getElem? (i := 1) rfl) e8 dX1_addPot_33 (fun H locs hW => ?_)
    refine lv_iconst (v := 1) hx hb dX1_addPot_36 (by decide) ?_
    exact r_iret X hW rfl rfl hf dX1_addPot_37
  · have hf := ie_e hf c2
    refine lv_iconst (v := 0) hx hb dX1_addPot_9 (by decide) ?_
    exact r_iret X hW rfl rfl hf dX1_addPot_10

abbrev rm_X1_digitsBehind : Room := { frames := 0, cells := 0, slots := 0, locals := 0 }
theorem hd_X1_digitsBehind : yX1_digitsBehind.cls = RX1 ∧ yX1_digitsBehind.cls ≠ "java/lang/invoke/MethodHandle" ∧ yX1_digitsBehind.cls ≠ "java/lang/invoke/VarHandle" ∧ (parseMethodDescriptor yX1_digitsBehind.desc).map (fun d => d.parameters.length) = some 1 := by decide +kernel
section S_X1_digitsBehind
variable {p : Program} {l : Launch} {e : Env} {s : State} {m : MethodId} {args : Array Value} {below : List Frame} {meth : Method} {c : Code} {D : va_G} {cA : Nat → ClassId} {ad : Nat → Nat} {r : Int32}
end S_X1_digitsBehind
noncomputable def f_X1_digitsBehind (a0 : Int32) : Option (Int32) := (if a0 = 99 then some 2 else (if a0 = 100 then some 3 else (if a0 = 110 then some 1 else (if a0 = 112 then some 0 else some ((-4))))))
set_option maxHeartbeats 4000000 in
set_option maxRecDepth 100000 in
theorem c_X1_digitsBehind (l : Launch) (D : va_G) (cA : Nat → ClassId) (ad : Nat → Nat) (hij : Ij ad SC) (σ : St) (a0 : Int32) (r : Int32) (hf : f_X1_digitsBehind a0 = some r) : Met l yX1_digitsBehind wsX1_digitsBehind rm_X1_digitsBehind (PC D cA ad SC [.int a0] σ) (Qi D cA ad SC (r, σ)) 0 0 (Aw ad SC) := by
  rw [f_X1_digitsBehind] at hf
  refine k_head (own := RX1) (ws := wsX1_digitsBehind) (cc := cX1_digitsBehind) (nL := 1) (ret := (some .int)) pn_X1 rfl rfl hij (Nat.le_of_ble_eq_true rfl) (fun p e s m below meth c ls X hW hl => ?_)
  have hl : lv_has ls 1 [(0, .int a0)] := hl
  obtain ⟨hx, hb, hml, hown, hts, hr, hlk, hK, hij⟩ := id X
  refine lv_iload_n hx hb dX1_digitsBehind_0 rfl (lv_at hl 0 rfl) ?_
  by_cases c1 : a0 = 99
  · have hf := it_e hf c1
    refine lv_lookup (tgt := 48) hx hb dX1_digitsBehind_1 (by decide) (by rw [c1] <;> rfl) (by decide) ?_
    refine lv_iconst (v := 2) hx hb dX1_digitsBehind_48 (by decide) ?_
    exact r_iretR X hW rfl rfl hf dX1_digitsBehind_49
  · have hf := ie_e hf c1
    by_cases c2 : a0 = 100
    · have hf := it_e hf c2
      refine lv_lookup (tgt := 50) hx hb dX1_digitsBehind_1 (by decide) (by rw [c2] <;> rfl) (by decide) ?_
      refine lv_iconst (v := 3) hx hb dX1_digitsBehind_50 (by decide) ?_
      exact r_iretR X hW rfl rfl hf dX1_digitsBehind_51
    · have hf := ie_e hf c2
      by_cases c3 : a0 = 110
      · have hf := it_e hf c3
        refine lv_lookup (tgt := 46) hx hb dX1_digitsBehind_1 (by decide) (by rw [c3] <;> rfl) (by decide) ?_
        refine lv_iconst (v := 1) hx hb dX1_digitsBehind_46 (by decide) ?_
        exact r_iretR X hW rfl rfl hf dX1_digitsBehind_47
      · have hf := ie_e hf c3
        by_cases c4 : a0 = 112
        · have hf := it_e hf c4
          refine lv_lookup (tgt := 44) hx hb dX1_digitsBehind_1 (by decide) (by rw [c4] <;> rfl) (by decide) ?_
          refine lv_iconst (v := 0) hx hb dX1_digitsBehind_44 (by decide) ?_
          exact r_iretR X hW rfl rfl hf dX1_digitsBehind_45
        · have hf := ie_e hf c4
          refine lv_lookup (tgt := 52) hx hb dX1_digitsBehind_1 (by decide) ((lv_osw c1 (by decide)).trans ((lv_osw c2 (by decide)).trans ((lv_osw c3 (by decide)).trans ((lv_osw c4 (by decide)).trans rfl)))) rfl ?_
          refine lv_bipush (v := (-4)) hx hb dX1_digitsBehind_52 (by decide) ?_
          exact r_iretR X hW rfl rfl hf dX1_digitsBehind_54

abbrev rm_X1_brokenAt : Room := { frames := 3, cells := 0, slots := 0, locals := 64 }
theorem hd_X1_brokenAt : yX1_brokenAt.cls = RX1 ∧ yX1_brokenAt.cls ≠ "java/lang/invoke/MethodHandle" ∧ yX1_brokenAt.cls ≠ "java/lang/invoke/VarHandle" ∧ (parseMethodDescriptor yX1_brokenAt.desc).map (fun d => d.parameters.length) = some 1 := by decide +kernel
theorem inX1_brokenAt_4 : ∀ w ∈ wsX40, w ∈ wsX1_brokenAt := fun _ h => List.mem_cons_of_mem _ (List.mem_append_right _ h)
section S_X1_brokenAt
variable {p : Program} {l : Launch} {e : Env} {s : State} {m : MethodId} {args : Array Value} {below : List Frame} {meth : Method} {c : Code} {D : va_G} {cA : Nat → ClassId} {ad : Nat → Nat} {r : Int32}
noncomputable def f_X1_brokenAt_24 (σ : St) (k40 : Int32 → Option (Int32)) (k51 : Nat → Int32 → Option (Int32)) : Nat → Nat → Int32 → Int32 → Int32 → Option (Int32)
  | 0, _, _, _, _ => none
  | n + 1, v0, v1, v2, v3 => (if v2 ≤ v3 then k51 v0 v1 else chk (kOK SC v0 4) <| bnd (f_X4_digitAt σ v0 v1) fun r7 => bnd (f_X5_isNoFigure r7) fun r9 => (if r9 = 0 then nw (v1 + 1 : Int32) fun v111 => nw (v3 + 1 : Int32) fun v112 => f_X1_brokenAt_24 σ k40 k51 n v0 v111 v2 v112 else k40 v1))
set_option maxHeartbeats 4000000 in
set_option maxRecDepth 100000 in
theorem b_X1_brokenAt_24 {σ : St} {k40 : Int32 → Option (Int32)} {k51 : Nat → Int32 → Option (Int32)} (X : Cx RX1 wsX1_brokenAt cX1_brokenAt 4 (some .int) D cA ad SC p s m args meth c) (h40 : ∀ (w0 : Int32) (H : Heap) (locs : List Loc) (ls : Array Slot), k40 w0 = some r → Rn D cA ad SC s.heap σ H locs → lv_has ls 4 [(1, .int w0)] → W p l e rm_X1_brokenAt s m args below meth c H locs 0 0 (MQ below (Qi D cA ad SC (r, σ)) args s 0 0 (Aw ad SC)) (F0 m 40 ls [])) (h51 : ∀ (w0 : Nat) (w1 : Int32) (H : Heap) (locs : List Loc) (ls : Array Slot), k51 w0 w1 = some r → Rn D cA ad SC s.heap σ H locs → lv_has ls 4 [(0, .ref (ad w0)), (1, .int w1)] → W p l e rm_X1_brokenAt s m args below meth c H locs 0 0 (MQ below (Qi D cA ad SC (r, σ)) args s 0 0 (Aw ad SC)) (F0 m 51 ls [])) : ∀ (n : Nat) (v0 : Nat) (v1 : Int32) (v2 : Int32) (v3 : Int32) (H : Heap) (locs : List Loc) (ls : Array Slot), f_X1_brokenAt_24 σ k40 k51 n v0 v1 v2 v3 = some r → Rn D cA ad SC s.heap σ H locs → lv_has ls 4 [(0, .ref (ad v0)), (1, .int v1), (2, .int v2), (3, .int v3)] → W p l e rm_X1_brokenAt s m args below meth c H locs 0 0 (MQ below (Qi D cA ad SC (r, σ)) args s 0 0 (Aw ad SC)) (F0 m 24 ls []) := by
  obtain ⟨hx, hb, hml, hown, hts, hr, hlk, hK, hij⟩ := id X
  intro n
  induction n with
  | zero =>
    intro v0 v1 v2 v3 H locs ls hf
    exact nomatch (show (none : Option (Int32)) = some r from hf)
  | succ n ih =>
    intro v0 v1 v2 v3 H locs ls hf hW hl
    rw [f_X1_brokenAt_24] at hf
    refine lv_iload_n hx hb dX1_brokenAt_24 rfl (lv_at hl 3 rfl) ?_
    refine lv_iload_n hx hb dX1_brokenAt_25 rfl (lv_at hl 2 rfl) ?_
    refine lv_icmp_ge (tgt := 51) hx hb dX1_brokenAt_26 (by decide) (fun c6 => ?_) (fun c6 => ?_)
    · have hf := it_e hf c6
      exact h51 v0 v1 _ _ _ hf hW (lv_sub hl [0, 1] rfl)
    · have hf := ie_e hf c6
      refine lv_aload_n hx hb dX1_brokenAt_29 rfl (lv_at hl 0 rfl) ?_
      refine lv_iload_n hx hb dX1_brokenAt_30 rfl (lv_at hl 1 rfl) ?_
      obtain ⟨q8, hf⟩ := chk_e hf
      obtain ⟨i8, k8⟩ := kOK_e q8
      obtain ⟨r7, z7, hf⟩ := bnd_e hf
      refine r_cViR X hW k8 i8 rfl (c_X4_digitAt l D cA ad hij σ v0 v1 r7 z7) gX1_brokenAt_X4_digitAt rfl ⟨rfl, rfl⟩ hd_X4_digitAt ⟨Nat.le_of_ble_eq_true rfl, Nat.le_of_ble_eq_true rfl⟩ rfl (Nat.le_of_ble_eq_true rfl) hl.1 dX1_brokenAt_31 (fun H locs hW => ?_)
      obtain ⟨r9, z9, hf⟩ := bnd_e hf
      refine r_cNiR (host := "ThirdOfTheLast") X hW (c_X5_isNoFigure l D cA ad hij σ r7 r9 z9) gX1_brokenAt_X5_isNoFigure_n48 rfl ⟨rfl, rfl⟩ (by decide +kernel) (List.mem_of_getElem? (i := 23) rfl) (List.mem_of_getElem? (i := 22) rfl) hd_X5_isNoFigure ⟨Nat.le_of_ble_eq_true rfl, Nat.le_of_ble_eq_true rfl⟩ rfl (Nat.le_of_ble_eq_true rfl) hl.1 dX1_brokenAt_34 (fun H locs hW => ?_)
      refine lv_if_eq (tgt := 42) hx hb dX1_brokenAt_37 (by decide) (fun c10 => ?_) (fun c10 => ?_)
      · have hf := it_e hf c10
        obtain ⟨v111, e11, hf⟩ := nw_e hf
        refine lv_iinc (v := v111) (lv' := [(1, .int v111), (0, .ref (ad v0)), (2, .int v2), (3, .int v3)]) hx hb dX1_brokenAt_42 hl (k := 1) rfl (by rw [e11]; rfl) (by decide) rfl (fun ls hl => ?_)
        obtain ⟨v112, e12, hf⟩ := nw_e hf
        refine lv_iinc (v := v112) (lv' := [(3, .int v112), (1, .int v111), (0, .ref (ad v0)), (2, .int v2)]) hx hb dX1_brokenAt_45 hl (k := 3) rfl (by rw [e12]; rfl) (by decide) rfl (fun ls hl => ?_)
        refine lv_goto (tgt := 24) hx hb dX1_brokenAt_48 (by decide) ?_
        exact ih v0 v111 v2 v112 _ _ _ hf hW (lv_sub hl [2, 1, 3, 0] rfl)
      · have hf := ie_e hf c10
        exact h40 v1 _ _ _ hf hW (lv_sub hl [1] rfl)
noncomputable def f_X1_brokenAt_2 (σ : St) (k17 : Int32 → Option (Int32)) (k40 : Int32 → Option (Int32)) (k63 : Int32 → Option (Int32)) (k76 : Option (Int32)) : Nat → Nat → Int32 → Option (Int32)
  | 0, _, _ => none
  | n + 1, v0, v1 => chk (kOK SC v0 4) <| bnd (f_X4_elementOr σ v0 v1 ((-4))) fun r1 => bnd (f_X1_digitsBehind r1) fun r3 => (if 0 ≤ r3 then nw (v1 + 1 : Int32) fun v105 => f_X1_brokenAt_24 σ k40 (fun (w13_0 : Nat) (w14_1 : Int32) => chk (kOK SC w13_0 4) <| bnd (f_X4_elementOr σ w13_0 w14_1 ((-4))) fun r15 => (if r15 = 59 then nw (w14_1 + 1 : Int32) fun v118 => (if v118 < (σ.1 w13_0 4) then f_X1_brokenAt_2 σ k17 k40 k63 k76 n w13_0 v118 else k76) else k63 w14_1)) fu v0 v105 r3 0 else k17 v1)
set_option maxHeartbeats 4000000 in
set_option maxRecDepth 100000 in
theorem b_X1_brokenAt_2 {σ : St} {k17 : Int32 → Option (Int32)} {k40 : Int32 → Option (Int32)} {k63 : Int32 → Option (Int32)} {k76 : Option (Int32)} (X : Cx RX1 wsX1_brokenAt cX1_brokenAt 4 (some .int) D cA ad SC p s m args meth c) (h17 : ∀ (w0 : Int32) (H : Heap) (locs : List Loc) (ls : Array Slot), k17 w0 = some r → Rn D cA ad SC s.heap σ H locs → lv_has ls 4 [(1, .int w0)] → W p l e rm_X1_brokenAt s m args below meth c H locs 0 0 (MQ below (Qi D cA ad SC (r, σ)) args s 0 0 (Aw ad SC)) (F0 m 17 ls [])) (h40 : ∀ (w0 : Int32) (H : Heap) (locs : List Loc) (ls : Array Slot), k40 w0 = some r → Rn D cA ad SC s.heap σ H locs → lv_has ls 4 [(1, .int w0)] → W p l e rm_X1_brokenAt s m args below meth c H locs 0 0 (MQ below (Qi D cA ad SC (r, σ)) args s 0 0 (Aw ad SC)) (F0 m 40 ls [])) (h63 : ∀ (w0 : Int32) (H : Heap) (locs : List Loc) (ls : Array Slot), k63 w0 = some r → Rn D cA ad SC s.heap σ H locs → lv_has ls 4 [(1, .int w0)] → W p l e rm_X1_brokenAt s m args below meth c H locs 0 0 (MQ below (Qi D cA ad SC (r, σ)) args s 0 0 (Aw ad SC)) (F0 m 63 ls [])) (h76 : ∀  (H : Heap) (locs : List Loc) (ls : Array Slot), k76 = some r → Rn D cA ad SC s.heap σ H locs → lv_has ls 4 [] → W p l e rm_X1_brokenAt s m args below meth c H locs 0 0 (MQ below (Qi D cA ad SC (r, σ)) args s 0 0 (Aw ad SC)) (F0 m 76 ls [])) : ∀ (n : Nat) (v0 : Nat) (v1 : Int32) (H : Heap) (locs : List Loc) (ls : Array Slot), f_X1_brokenAt_2 σ k17 k40 k63 k76 n v0 v1 = some r → Rn D cA ad SC s.heap σ H locs → lv_has ls 4 [(0, .ref (ad v0)), (1, .int v1)] → W p l e rm_X1_brokenAt s m args below meth c H locs 0 0 (MQ below (Qi D cA ad SC (r, σ)) args s 0 0 (Aw ad SC)) (F0 m 2 ls []) := by
  obtain ⟨hx, hb, hml, hown, hts, hr, hlk, hK, hij⟩ := id X
  intro n
  induction n with
  | zero =>
    intro v0 v1 H locs ls hf
    exact nomatch (show (none : Option (Int32)) = some r from hf)
  | succ n ih =>
    intro v0 v1 H locs ls hf hW hl
    rw [f_X1_brokenAt_2] at hf
    refine lv_aload_n hx hb dX1_brokenAt_2 rfl (lv_at hl 0 rfl) ?_
    refine lv_iload_n hx hb dX1_brokenAt_3 rfl (lv_at hl 1 rfl) ?_
    refine lv_bipush (v := (-4)) hx hb dX1_brokenAt_4 (by decide) ?_
    obtain ⟨q2, hf⟩ := chk_e hf
    obtain ⟨i2, k2⟩ := kOK_e q2
    obtain ⟨r1, z1, hf⟩ := bnd_e hf
    refine r_cViR X hW k2 i2 rfl (c_X4_elementOr l D cA ad hij σ v0 v1 ((-4)) r1 z1) gX1_brokenAt_X4_elementOr rfl ⟨rfl, rfl⟩ hd_X4_elementOr ⟨Nat.le_of_ble_eq_true rfl, Nat.le_of_ble_eq_true rfl⟩ rfl (Nat.le_of_ble_eq_true rfl) hl.1 dX1_brokenAt_6 (fun H locs hW => ?_)
    obtain ⟨r3, z3, hf⟩ := bnd_e hf
    refine r_cSiR X hW (c_X1_digitsBehind l D cA ad hij σ r1 r3 z3) gX1_brokenAt_X1_digitsBehind rfl ⟨rfl, rfl⟩ hd_X1_digitsBehind ⟨Nat.le_of_ble_eq_true rfl, Nat.le_of_ble_eq_true rfl⟩ rfl (Nat.le_of_ble_eq_true rfl) hl.1 dX1_brokenAt_9 (fun H locs hW => ?_)
    refine lv_istore_n (lv' := [(2, .int r3), (0, .ref (ad v0)), (1, .int v1)]) hx hb dX1_brokenAt_12 rfl hl (by decide) rfl (fun ls hl => ?_)
    refine lv_iload_n hx hb dX1_brokenAt_13 rfl (lv_at hl 0 rfl) ?_
    refine lv_if_ge (tgt := 19) hx hb dX1_brokenAt_14 (by decide) (fun c4 => ?_) (fun c4 => ?_)
    · have hf := it_e hf c4
      obtain ⟨v105, e5, hf⟩ := nw_e hf
      refine lv_iinc (v := v105) (lv' := [(1, .int v105), (2, .int r3), (0, .ref (ad v0))]) hx hb dX1_brokenAt_19 hl (k := 2) rfl (by rw [e5]; rfl) (by decide) rfl (fun ls hl => ?_)
      refine lv_iconst (v := 0) hx hb dX1_brokenAt_22 (by decide) ?_
      refine lv_istore_n (lv' := [(3, .int 0), (1, .int v105), (2, .int r3), (0, .ref (ad v0))]) hx hb dX1_brokenAt_23 rfl hl (by decide) rfl (fun ls hl => ?_)
      refine b_X1_brokenAt_24 X h40 (fun w13_0 w14_1 H locs ls hf hW hl => ?_) fu v0 v105 r3 0 _ _ _ hf hW (lv_sub hl [3, 1, 2, 0] rfl)
      · refine lv_aload_n hx hb dX1_brokenAt_51 rfl (lv_at hl 0 rfl) ?_
        refine lv_iload_n hx hb dX1_brokenAt_52 rfl (lv_at hl 1 rfl) ?_
        refine lv_bipush (v := (-4)) hx hb dX1_brokenAt_53 (by decide) ?_
        obtain ⟨q16, hf⟩ := chk_e hf
        obtain ⟨i16, k16⟩ := kOK_e q16
        obtain ⟨r15, z15, hf⟩ := bnd_e hf
        refine r_cViR X hW k16 i16 rfl (c_X4_elementOr l D cA ad hij σ w13_0 w14_1 ((-4)) r15 z15) gX1_brokenAt_X4_elementOr rfl ⟨rfl, rfl⟩ hd_X4_elementOr ⟨Nat.le_of_ble_eq_true rfl, Nat.le_of_ble_eq_true rfl⟩ rfl (Nat.le_of_ble_eq_true rfl) hl.1 dX1_brokenAt_55 (fun H locs hW => ?_)
        refine lv_bipush (v := 59) hx hb dX1_brokenAt_58 (by decide) ?_
        refine lv_icmp_eq (tgt := 65) hx hb dX1_brokenAt_60 (by decide) (fun c17 => ?_) (fun c17 => ?_)
        · have hf := it_e hf c17
          obtain ⟨v118, e18, hf⟩ := nw_e hf
          refine lv_iinc (v := v118) (lv' := [(1, .int v118), (0, .ref (ad w13_0))]) hx hb dX1_brokenAt_65 hl (k := 1) rfl (by rw [e18]; rfl) (by decide) rfl (fun ls hl => ?_)
          refine lv_iload_n hx hb dX1_brokenAt_68 rfl (lv_at hl 0 rfl) ?_
          refine lv_aload_n hx hb dX1_brokenAt_69 rfl (lv_at hl 1 rfl) ?_
          refine get_4_4 X hW k16 i16 inX1_brokenAt_4 (List.mem_of_getElem? (i := 1) rfl) dX1_brokenAt_70 ?_
          refine lv_icmp_lt (tgt := 2) hx hb dX1_brokenAt_73 (by decide) (fun c19 => ?_) (fun c19 => ?_)
          · have hf := it_e hf c19
            exact ih w13_0 v118 _ _ _ hf hW (lv_sub hl [1, 0] rfl)
          · have hf := ie_e hf c19
            exact h76  _ _ _ hf hW (lv_sub hl [] rfl)
        · have hf := ie_e hf c17
          exact h63 w14_1 _ _ _ hf hW (lv_sub hl [1] rfl)
    · have hf := ie_e hf c4
      exact h17 v1 _ _ _ hf hW (lv_sub hl [2] rfl)
end S_X1_brokenAt
noncomputable def f_X1_brokenAt (σ : St) (a0 : Nat) : Option (Int32) := f_X1_brokenAt_2 σ (fun (w20_0 : Int32) => some w20_0) (fun (w21_0 : Int32) => some w21_0) (fun (w22_0 : Int32) => some w22_0) (some ((-4))) fu a0 0
set_option maxHeartbeats 4000000 in
set_option maxRecDepth 100000 in
theorem c_X1_brokenAt (l : Launch) (D : va_G) (cA : Nat → ClassId) (ad : Nat → Nat) (hij : Ij ad SC) (σ : St) (a0 : Nat) (r : Int32) (hf : f_X1_brokenAt σ a0 = some r) : Met l yX1_brokenAt wsX1_brokenAt rm_X1_brokenAt (PC D cA ad SC [.ref (ad a0)] σ) (Qi D cA ad SC (r, σ)) 0 0 (Aw ad SC) := by
  rw [f_X1_brokenAt] at hf
  refine k_head (own := RX1) (ws := wsX1_brokenAt) (cc := cX1_brokenAt) (nL := 4) (ret := (some .int)) pn_X1 rfl rfl hij (Nat.le_of_ble_eq_true rfl) (fun p e s m below meth c ls X hW hl => ?_)
  have hl : lv_has ls 4 [(0, .ref (ad a0))] := hl
  obtain ⟨hx, hb, hml, hown, hts, hr, hlk, hK, hij⟩ := id X
  refine lv_iconst (v := 0) hx hb dX1_brokenAt_0 (by decide) ?_
  refine lv_istore_n (lv' := [(1, .int 0), (0, .ref (ad a0))]) hx hb dX1_brokenAt_1 rfl hl (by decide) rfl (fun ls hl => ?_)
  refine b_X1_brokenAt_2 X (fun w20_0 H locs ls hf hW hl => ?_) (fun w21_0 H locs ls hf hW hl => ?_) (fun w22_0 H locs ls hf hW hl => ?_) (fun  H locs ls hf hW hl => ?_) fu a0 0 _ _ _ hf hW (lv_sub hl [1, 0] rfl)
  · refine lv_iload_n hx hb dX1_brokenAt_17 rfl (lv_at hl 0 rfl) ?_
    exact r_iretR X hW rfl rfl hf dX1_brokenAt_18
  · refine lv_iload_n hx hb dX1_brokenAt_40 rfl (lv_at hl 0 rfl) ?_
    exact r_iretR X hW rfl rfl hf dX1_brokenAt_41
  · refine lv_iload_n hx hb dX1_brokenAt_63 rfl (lv_at hl 0 rfl) ?_
    exact r_iretR X hW rfl rfl hf dX1_brokenAt_64
  · refine lv_bipush (v := (-4)) hx hb dX1_brokenAt_76 (by decide) ?_
    exact r_iretR X hW rfl rfl hf dX1_brokenAt_78

abbrev rm_X1_cookIn : Room := { frames := 3, cells := 0, slots := 0, locals := 71 }
theorem hd_X1_cookIn : yX1_cookIn.cls = RX1 ∧ yX1_cookIn.cls ≠ "java/lang/invoke/MethodHandle" ∧ yX1_cookIn.cls ≠ "java/lang/invoke/VarHandle" ∧ (parseMethodDescriptor yX1_cookIn.desc).map (fun d => d.parameters.length) = some 3 := by decide +kernel
theorem inX1_cookIn_1 : ∀ w ∈ wsX10, w ∈ wsX1_cookIn := fun _ h => List.mem_cons_of_mem _ (List.mem_append_left _ (List.mem_append_left _ (List.mem_append_right _ h)))
theorem inX1_cookIn_3 : ∀ w ∈ wsX30, w ∈ wsX1_cookIn := fun _ h => List.mem_cons_of_mem _ (List.mem_append_left _ (List.mem_append_right _ h))
theorem inX1_cookIn_0 : ∀ w ∈ wsX00, w ∈ wsX1_cookIn := fun _ h => List.mem_cons_of_mem _ (List.mem_append_right _ h)
section S_X1_cookIn
variable {p : Program} {l : Launch} {e : Env} {s : State} {m : MethodId} {args : Array Value} {below : List Frame} {meth : Method} {c : Code} {D : va_G} {cA : Nat → ClassId} {ad : Nat → Nat} {r : Int32 × St}
end S_X1_cookIn
noncomputable def f_X1_cookIn (σ : St) (a0 : Nat) (a1 : Int32) (a2 : Int32) (a3 : Int32) : Option (Int32 × St) := chk (kOK SC a0 1) <| bnd (f_X1_has σ a0 a1) fun r1 => (if r1 = 0 then some (0, σ) else bnd (f_X5_isNoKind a2) fun r4 => (if r4 = 0 then bnd (f_X5_isNoFigure a3) fun r6 => (if r6 = 0 then chk (aOK SC (a0 + 1) 22 6) <| chk (inb a1 6) <| chk (kOK SC (a0 + 1 + 1 + 5 * a1.toNatClampNeg) 3) <| bnd (f_X3_cookIn σ (a0 + 1 + 1 + 5 * a1.toNatClampNeg) a2 a3) fun r10 => chk (b01 r10.1) <| some (r10.1, r10.2) else some (0, σ)) else some (0, σ)))
set_option maxHeartbeats 4000000 in
set_option maxRecDepth 100000 in
theorem c_X1_cookIn (l : Launch) (D : va_G) (cA : Nat → ClassId) (ad : Nat → Nat) (hij : Ij ad SC) (σ : St) (a0 : Nat) (a1 : Int32) (a2 : Int32) (a3 : Int32) (r : Int32 × St) (hf : f_X1_cookIn σ a0 a1 a2 a3 = some r) : Met l yX1_cookIn wsX1_cookIn rm_X1_cookIn (PC D cA ad SC [.ref (ad a0), .int a1, .int a2, .int a3] σ) (Qi D cA ad SC r) 0 0 (Aw ad SC) := by
  rw [f_X1_cookIn] at hf
  refine k_head (own := RX1) (ws := wsX1_cookIn) (cc := cX1_cookIn) (nL := 4) (ret := (some .boolean)) pn_X1 rfl rfl hij (Nat.le_of_ble_eq_true rfl) (fun p e s m below meth c ls X hW hl => ?_)
  have hl : lv_has ls 4 [(0, .ref (ad a0)), (1, .int a1), (2, .int a2), (3, .int a3)] := hl
  obtain ⟨hx, hb, hml, hown, hts, hr, hlk, hK, hij⟩ := id X
  refine lv_aload_n hx hb dX1_cookIn_0 rfl (lv_at hl 0 rfl) ?_
  refine lv_iload_n hx hb dX1_cookIn_1 rfl (lv_at hl 1 rfl) ?_
  obtain ⟨q2, hf⟩ := chk_e hf
  obtain ⟨i2, k2⟩ := kOK_e q2
  obtain ⟨r1, z1, hf⟩ := bnd_e hf
  refine r_cViR X hW k2 i2 rfl (c_X1_has l D cA ad hij σ a0 a1 r1 z1) gX1_cookIn_X1_has rfl ⟨rfl, rfl⟩ hd_X1_has ⟨Nat.le_of_ble_eq_true rfl, Nat.le_of_ble_eq_true rfl⟩ rfl (Nat.le_of_ble_eq_true rfl) hl.1 dX1_cookIn_2 (fun H locs hW => ?_)
  refine lv_if_eq (tgt := 22) hx hb dX1_cookIn_5 (by decide) (fun c3 => ?_) (fun c3 => ?_)
  · have hf := it_e hf c3
    refine lv_iconst (v := 0) hx hb dX1_cookIn_22 (by decide) ?_
    exact r_iret X hW rfl rfl hf dX1_cookIn_23
  · have hf := ie_e hf c3
    refine lv_iload_n hx hb dX1_cookIn_8 rfl (lv_at hl 2 rfl) ?_
    obtain ⟨r4, z4, hf⟩ := bnd_e hf
    refine r_cNiR (host := "ThirdOfTheLast") X hW (c_X5_isNoKind l D cA ad hij σ a2 r4 z4) gX1_cookIn_X5_isNoKind_n71 rfl ⟨rfl, rfl⟩ (by decide +kernel) (List.mem_of_getElem? (i := 9) rfl) (List.mem_of_getElem? (i := 8) rfl) hd_X5_isNoKind ⟨Nat.le_of_ble_eq_true rfl, Nat.le_of_ble_eq_true rfl⟩ rfl (Nat.le_of_ble_eq_true rfl) hl.1 dX1_cookIn_9 (fun H locs hW => ?_)
    refine lv_if_ne (tgt := 22) hx hb dX1_cookIn_12 (by decide) (fun c5 => ?_) (fun c5 => ?_)
    · have hf := ie_e hf c5
      refine lv_iconst (v := 0) hx hb dX1_cookIn_22 (by decide) ?_
      exact r_iret X hW rfl rfl hf dX1_cookIn_23
    · have hf := it_e hf c5
      refine lv_iload_n hx hb dX1_cookIn_15 rfl (lv_at hl 3 rfl) ?_
      obtain ⟨r6, z6, hf⟩ := bnd_e hf
      refine r_cNiR (host := "ThirdOfTheLast") X hW (c_X5_isNoFigure l D cA ad hij σ a3 r6 z6) gX1_cookIn_X5_isNoFigure_n48 rfl ⟨rfl, rfl⟩ (by decide +kernel) (List.mem_of_getElem? (i := 9) rfl) (List.mem_of_getElem? (i := 11) rfl) hd_X5_isNoFigure ⟨Nat.le_of_ble_eq_true rfl, Nat.le_of_ble_eq_true rfl⟩ rfl (Nat.le_of_ble_eq_true rfl) hl.1 dX1_cookIn_16 (fun H locs hW => ?_)
      refine lv_if_eq (tgt := 24) hx hb dX1_cookIn_19 (by decide) (fun c7 => ?_) (fun c7 => ?_)
      · have hf := it_e hf c7
        refine lv_aload_n hx hb dX1_cookIn_24 rfl (lv_at hl 0 rfl) ?_
        refine get_1_0 X hW k2 i2 inX1_cookIn_1 (List.mem_of_getElem? (i := 1) rfl) dX1_cookIn_25 ?_
        refine lv_iload_n hx hb dX1_cookIn_28 rfl (lv_at hl 1 rfl) ?_
        obtain ⟨q8, hf⟩ := chk_e hf
        obtain ⟨i8, k8, n8⟩ := aOK_e q8
        obtain ⟨x9, hf⟩ := chk_e hf
        refine r_aald (j := a0 + 1 + 1 + 5 * a1.toNatClampNeg) X hW k8 i8 n8 (by decide) rfl x9 rfl dX1_cookIn_29 ?_
        refine lv_iload_n hx hb dX1_cookIn_30 rfl (lv_at hl 2 rfl) ?_
        refine lv_iload_n hx hb dX1_cookIn_31 rfl (lv_at hl 3 rfl) ?_
        obtain ⟨q11, hf⟩ := chk_e hf
        obtain ⟨i11, k11⟩ := kOK_e q11
        obtain ⟨r10, z10, hf⟩ := bnd_e hf
        refine r_cVi X hW k11 i11 rfl (c_X3_cookIn l D cA ad hij σ (a0 + 1 + 1 + 5 * a1.toNatClampNeg) a2 a3 r10 z10) gX1_cookIn_X3_cookIn rfl ⟨rfl, rfl⟩ hd_X3_cookIn ⟨Nat.le_of_ble_eq_true rfl, Nat.le_of_ble_eq_true rfl⟩ rfl (Nat.le_of_ble_eq_true rfl) hl.1 dX1_cookIn_32 (fun H locs hW => ?_)
        obtain ⟨q12, hf⟩ := chk_e hf
        exact r_iret X hW rfl (b01_e q12).1 hf dX1_cookIn_35
      · have hf := ie_e hf c7
        refine lv_iconst (v := 0) hx hb dX1_cookIn_22 (by decide) ?_
        exact r_iret X hW rfl rfl hf dX1_cookIn_23

abbrev rm_X1_renew : Room := { frames := 1, cells := 0, slots := 0, locals := 21 }
theorem hd_X1_renew : yX1_renew.cls = RX1 ∧ yX1_renew.cls ≠ "java/lang/invoke/MethodHandle" ∧ yX1_renew.cls ≠ "java/lang/invoke/VarHandle" ∧ (parseMethodDescriptor yX1_renew.desc).map (fun d => d.parameters.length) = some 1 := by decide +kernel
theorem inX1_renew_1 : ∀ w ∈ wsX10, w ∈ wsX1_renew := fun _ h => List.mem_cons_of_mem _ (List.mem_append_left _ (List.mem_append_left _ (List.mem_append_right _ h)))
theorem inX1_renew_3 : ∀ w ∈ wsX30, w ∈ wsX1_renew := fun _ h => List.mem_cons_of_mem _ (List.mem_append_left _ (List.mem_append_right _ h))
theorem inX1_renew_0 : ∀ w ∈ wsX00, w ∈ wsX1_renew := fun _ h => List.mem_cons_of_mem _ (List.mem_append_right _ h)
section S_X1_renew
variable {p : Program} {l : Launch} {e : Env} {s : State} {m : MethodId} {args : Array Value} {below : List Frame} {meth : Method} {c : Code} {D : va_G} {cA : Nat → ClassId} {ad : Nat → Nat} {r : Int32 × St}
end S_X1_renew
noncomputable def f_X1_renew (σ : St) (a0 : Nat) (a1 : Int32) : Option (Int32 × St) := chk (kOK SC a0 1) <| bnd (f_X1_has σ a0 a1) fun r1 => (if r1 = 0 then some (0, σ) else chk (aOK SC (a0 + 1) 22 6) <| chk (inb a1 6) <| chk (kOK SC (a0 + 1 + 1 + 5 * a1.toNatClampNeg) 3) <| chk (kOK SC (a0 + 1 + 1 + 5 * a1.toNatClampNeg + 1) 0) <| bnd (f_X0_clear σ (a0 + 1 + 1 + 5 * a1.toNatClampNeg + 1)) fun r7 => some (1, r7))
set_option maxHeartbeats 4000000 in
set_option maxRecDepth 100000 in
theorem c_X1_renew (l : Launch) (D : va_G) (cA : Nat → ClassId) (ad : Nat → Nat) (hij : Ij ad SC) (σ : St) (a0 : Nat) (a1 : Int32) (r : Int32 × St) (hf : f_X1_renew σ a0 a1 = some r) : Met l yX1_renew wsX1_renew rm_X1_renew (PC D cA ad SC [.ref (ad a0), .int a1] σ) (Qi D cA ad SC r) 0 0 (Aw ad SC) := by
  rw [f_X1_renew] at hf
  refine k_head (own := RX1) (ws := wsX1_renew) (cc := cX1_renew) (nL := 2) (ret := (some .boolean)) pn_X1 rfl rfl hij (Nat.le_of_ble_eq_true rfl) (fun p e s m below meth c ls X hW hl => ?_)
  have hl : lv_has ls 2 [(0, .ref (ad a0)), (1, .int a1)] := hl
  obtain ⟨hx, hb, hml, hown, hts, hr, hlk, hK, hij⟩ := id X
  refine lv_aload_n hx hb dX1_renew_0 rfl (lv_at hl 0 rfl) ?_
  refine lv_iload_n hx hb dX1_renew_1 rfl (lv_at hl 1 rfl) ?_
  obtain ⟨q2, hf⟩ := chk_e hf
  obtain ⟨i2, k2⟩ := kOK_e q2
  obtain ⟨r1, z1, hf⟩ := bnd_e hf
  refine r_cViR X hW k2 i2 rfl (c_X1_has l D cA ad hij σ a0 a1 r1 z1) gX1_renew_X1_has rfl ⟨rfl, rfl⟩ hd_X1_has ⟨Nat.le_of_ble_eq_true rfl, Nat.le_of_ble_eq_true rfl⟩ rfl (Nat.le_of_ble_eq_true rfl) hl.1 dX1_renew_2 (fun H locs hW => ?_)
  refine lv_if_ne (tgt := 10) hx hb dX1_renew_5 (by decide) (fun c3 => ?_) (fun c3 => ?_)
  · have hf := ie_e hf c3
    refine lv_aload_n hx hb dX1_renew_10 rfl (lv_at hl 0 rfl) ?_
    refine get_1_0 X hW k2 i2 inX1_renew_1 (List.mem_of_getElem? (i := 1) rfl) dX1_renew_11 ?_
    refine lv_iload_n hx hb dX1_renew_14 rfl (lv_at hl 1 rfl) ?_
    obtain ⟨q4, hf⟩ := chk_e hf
    obtain ⟨i4, k4, n4⟩ := aOK_e q4
    obtain ⟨x5, hf⟩ := chk_e hf
    refine r_aald (j := a0 + 1 + 1 + 5 * a1.toNatClampNeg) X hW k4 i4 n4 (by decide) rfl x5 rfl dX1_renew_15 ?_
    obtain ⟨q6, hf⟩ := chk_e hf
    obtain ⟨i6, k6⟩ := kOK_e q6
    refine get_3_0 X hW k6 i6 inX1_renew_3 (List.mem_of_getElem? (i := 2) rfl) dX1_renew_16 ?_
    obtain ⟨q8, hf⟩ := chk_e hf
    obtain ⟨i8, k8⟩ := kOK_e q8
    obtain ⟨r7, z7, hf⟩ := bnd_e hf
    refine r_cVv X hW k8 i8 rfl (c_X0_clear l D cA ad hij σ (a0 + 1 + 1 + 5 * a1.toNatClampNeg + 1) r7 z7) gX1_renew_X0_clear rfl ⟨rfl, rfl⟩ hd_X0_clear ⟨Nat.le_of_ble_eq_true rfl, Nat.le_of_ble_eq_true rfl⟩ rfl (Nat.le_of_ble_eq_true rfl) hl.1 dX1_renew_19 (fun H locs hW => ?_)
    refine lv_iconst (v := 1) hx hb dX1_renew_22 (by decide) ?_
    exact r_iret X hW rfl rfl hf dX1_renew_23
  · have hf := it_e hf c3
    refine lv_iconst (v := 0) hx hb dX1_renew_8 (by decide) ?_
    exact r_iret X hW rfl rfl hf dX1_renew_9

abbrev rm_X1_makeAlike : Room := { frames := 2, cells := 0, slots := 0, locals := 101 }
theorem hd_X1_makeAlike : yX1_makeAlike.cls = RX1 ∧ yX1_makeAlike.cls ≠ "java/lang/invoke/MethodHandle" ∧ yX1_makeAlike.cls ≠ "java/lang/invoke/VarHandle" ∧ (parseMethodDescriptor yX1_makeAlike.desc).map (fun d => d.parameters.length) = some 2 := by decide +kernel
theorem inX1_makeAlike_1 : ∀ w ∈ wsX10, w ∈ wsX1_makeAlike := fun _ h => List.mem_cons_of_mem _ (List.mem_append_left _ (List.mem_append_left _ (List.mem_append_right _ h)))
theorem inX1_makeAlike_3 : ∀ w ∈ wsX30, w ∈ wsX1_makeAlike := fun _ h => List.mem_cons_of_mem _ (List.mem_append_left _ (List.mem_append_right _ h))
theorem inX1_makeAlike_0 : ∀ w ∈ wsX00, w ∈ wsX1_makeAlike := fun _ h => List.mem_cons_of_mem _ (List.mem_append_right _ h)
section S_X1_makeAlike
variable {p : Program} {l : Launch} {e : Env} {s : State} {m : MethodId} {args : Array Value} {below : List Frame} {meth : Method} {c : Code} {D : va_G} {cA : Nat → ClassId} {ad : Nat → Nat} {r : Int32 × St}
end S_X1_makeAlike
noncomputable def f_X1_makeAlike (σ : St) (a0 : Nat) (a1 : Int32) (a2 : Int32) : Option (Int32 × St) := chk (kOK SC a0 1) <| bnd (f_X1_has σ a0 a1) fun r1 => (if r1 = 0 then some (0, σ) else bnd (f_X1_has σ a0 a2) fun r4 => (if r4 = 0 then some (0, σ) else (if a1 = a2 then some (0, σ) else chk (aOK SC (a0 + 1) 22 6) <| chk (inb a2 6) <| chk (inb a1 6) <| chk (kOK SC (a0 + 1 + 1 + 5 * a2.toNatClampNeg) 3) <| bnd (f_X3_become σ (a0 + 1 + 1 + 5 * a2.toNatClampNeg) (a0 + 1 + 1 + 5 * a1.toNatClampNeg)) fun r10 => some (1, r10))))
set_option maxHeartbeats 4000000 in
set_option maxRecDepth 100000 in
theorem c_X1_makeAlike (l : Launch) (D : va_G) (cA : Nat → ClassId) (ad : Nat → Nat) (hij : Ij ad SC) (σ : St) (a0 : Nat) (a1 : Int32) (a2 : Int32) (r : Int32 × St) (hf : f_X1_makeAlike σ a0 a1 a2 = some r) : Met l yX1_makeAlike wsX1_makeAlike rm_X1_makeAlike (PC D cA ad SC [.ref (ad a0), .int a1, .int a2] σ) (Qi D cA ad SC r) 0 0 (Aw ad SC) := by
  rw [f_X1_makeAlike] at hf
  refine k_head (own := RX1) (ws := wsX1_makeAlike) (cc := cX1_makeAlike) (nL := 3) (ret := (some .boolean)) pn_X1 rfl rfl hij (Nat.le_of_ble_eq_true rfl) (fun p e s m below meth c ls X hW hl => ?_)
  have hl : lv_has ls 3 [(0, .ref (ad a0)), (1, .int a1), (2, .int a2)] := hl
  obtain ⟨hx, hb, hml, hown, hts, hr, hlk, hK, hij⟩ := id X
  refine lv_aload_n hx hb dX1_makeAlike_0 rfl (lv_at hl 0 rfl) ?_
  refine lv_iload_n hx hb dX1_makeAlike_1 rfl (lv_at hl 1 rfl) ?_
  obtain ⟨q2, hf⟩ := chk_e hf
  obtain ⟨i2, k2⟩ := kOK_e q2
  obtain ⟨r1, z1, hf⟩ := bnd_e hf
  refine r_cViR X hW k2 i2 rfl (c_X1_has l D cA ad hij σ a0 a1 r1 z1) gX1_makeAlike_X1_has rfl ⟨rfl, rfl⟩ hd_X1_has ⟨Nat.le_of_ble_eq_true rfl, Nat.le_of_ble_eq_true rfl⟩ rfl (Nat.le_of_ble_eq_true rfl) hl.1 dX1_makeAlike_2 (fun H locs hW => ?_)
  refine lv_if_eq (tgt := 21) hx hb dX1_makeAlike_5 (by decide) (fun c3 => ?_) (fun c3 => ?_)
  · have hf := it_e hf c3
    refine lv_iconst (v := 0) hx hb dX1_makeAlike_21 (by decide) ?_
    exact r_iret X hW rfl rfl hf dX1_makeAlike_22
  · have hf := ie_e hf c3
    refine lv_aload_n hx hb dX1_makeAlike_8 rfl (lv_at hl 0 rfl) ?_
    refine lv_iload_n hx hb dX1_makeAlike_9 rfl (lv_at hl 2 rfl) ?_
    obtain ⟨r4, z4, hf⟩ := bnd_e hf
    refine r_cViR X hW k2 i2 rfl (c_X1_has l D cA ad hij σ a0 a2 r4 z4) gX1_makeAlike_X1_has rfl ⟨rfl, rfl⟩ hd_X1_has ⟨Nat.le_of_ble_eq_true rfl, Nat.le_of_ble_eq_true rfl⟩ rfl (Nat.le_of_ble_eq_true rfl) hl.1 dX1_makeAlike_10 (fun H locs hW => ?_)
    refine lv_if_eq (tgt := 21) hx hb dX1_makeAlike_13 (by decide) (fun c5 => ?_) (fun c5 => ?_)
    · have hf := it_e hf c5
      refine lv_iconst (v := 0) hx hb dX1_makeAlike_21 (by decide) ?_
      exact r_iret X hW rfl rfl hf dX1_makeAlike_22
    · have hf := ie_e hf c5
      refine lv_iload_n hx hb dX1_makeAlike_16 rfl (lv_at hl 1 rfl) ?_
      refine lv_iload_n hx hb dX1_makeAlike_17 rfl (lv_at hl 2 rfl) ?_
      refine lv_icmp_ne (tgt := 23) hx hb dX1_makeAlike_18 (by decide) (fun c6 => ?_) (fun c6 => ?_)
      · have hf := ie_e hf c6
        refine lv_aload_n hx hb dX1_makeAlike_23 rfl (lv_at hl 0 rfl) ?_
        refine get_1_0 X hW k2 i2 inX1_makeAlike_1 (List.mem_of_getElem? (i := 1) rfl) dX1_makeAlike_24 ?_
        refine lv_iload_n hx hb dX1_makeAlike_27 rfl (lv_at hl 2 rfl) ?_
        obtain ⟨q7, hf⟩ := chk_e hf
        obtain ⟨i7, k7, n7⟩ := aOK_e q7
        obtain ⟨x8, hf⟩ := chk_e hf
        refine r_aald (j := a0 + 1 + 1 + 5 * a2.toNatClampNeg) X hW k7 i7 n7 (by decide) rfl x8 rfl dX1_makeAlike_28 ?_
        refine lv_aload_n hx hb dX1_makeAlike_29 rfl (lv_at hl 0 rfl) ?_
        refine get_1_0 X hW k2 i2 inX1_makeAlike_1 (List.mem_of_getElem? (i := 1) rfl) dX1_makeAlike_30 ?_
        refine lv_iload_n hx hb dX1_makeAlike_33 rfl (lv_at hl 1 rfl) ?_
        obtain ⟨x9, hf⟩ := chk_e hf
        refine r_aald (j := a0 + 1 + 1 + 5 * a1.toNatClampNeg) X hW k7 i7 n7 (by decide) rfl x9 rfl dX1_makeAlike_34 ?_
        obtain ⟨q11, hf⟩ := chk_e hf
        obtain ⟨i11, k11⟩ := kOK_e q11
        obtain ⟨r10, z10, hf⟩ := bnd_e hf
        refine r_cVv X hW k11 i11 rfl (c_X3_become l D cA ad hij σ (a0 + 1 + 1 + 5 * a2.toNatClampNeg) (a0 + 1 + 1 + 5 * a1.toNatClampNeg) r10 z10) gX1_makeAlike_X3_become rfl ⟨rfl, rfl⟩ hd_X3_become ⟨Nat.le_of_ble_eq_true rfl, Nat.le_of_ble_eq_true rfl⟩ rfl (Nat.le_of_ble_eq_true rfl) hl.1 dX1_makeAlike_35 (fun H locs hW => ?_)
        refine lv_iconst (v := 1) hx hb dX1_makeAlike_38 (by decide) ?_
        exact r_iret X hW rfl rfl hf dX1_makeAlike_39
      · have hf := it_e hf c6
        refine lv_iconst (v := 0) hx hb dX1_makeAlike_21 (by decide) ?_
        exact r_iret X hW rfl rfl hf dX1_makeAlike_22

abbrev rm_X1_carryOut : Room := { frames := 4, cells := 0, slots := 0, locals := 123 }
theorem hd_X1_carryOut : yX1_carryOut.cls = RX1 ∧ yX1_carryOut.cls ≠ "java/lang/invoke/MethodHandle" ∧ yX1_carryOut.cls ≠ "java/lang/invoke/VarHandle" ∧ (parseMethodDescriptor yX1_carryOut.desc).map (fun d => d.parameters.length) = some 2 := by decide +kernel
theorem inX1_carryOut_4 : ∀ w ∈ wsX40, w ∈ wsX1_carryOut := fun _ h => List.mem_cons_of_mem _ (List.mem_append_left _ (List.mem_append_left _ (List.mem_append_left _ (List.mem_append_right _ h))))
theorem inX1_carryOut_1 : ∀ w ∈ wsX10, w ∈ wsX1_carryOut := fun _ h => List.mem_cons_of_mem _ (List.mem_append_left _ (List.mem_append_left _ (List.mem_append_right _ h)))
theorem inX1_carryOut_3 : ∀ w ∈ wsX30, w ∈ wsX1_carryOut := fun _ h => List.mem_cons_of_mem _ (List.mem_append_left _ (List.mem_append_right _ h))
theorem inX1_carryOut_0 : ∀ w ∈ wsX00, w ∈ wsX1_carryOut := fun _ h => List.mem_cons_of_mem _ (List.mem_append_right _ h)
section S_X1_carryOut
variable {p : Program} {l : Launch} {e : Env} {s : State} {m : MethodId} {args : Array Value} {below : List Frame} {meth : Method} {c : Code} {D : va_G} {cA : Nat → ClassId} {ad : Nat → Nat} {r : Int32 × St}
end S_X1_carryOut
noncomputable def f_X1_carryOut (σ : St) (a0 : Nat) (a1 : Nat) (a2 : Int32) : Option (Int32 × St) := chk (kOK SC a1 4) <| bnd (f_X4_digitAt σ a1 (a2 + 1)) fun r1 => bnd (f_X4_digitAt σ a1 (a2 + 2)) fun r3 => bnd (f_X4_elementOr σ a1 a2 ((-4))) fun r4 => (if r4 = 99 then chk (kOK SC a0 1) <| bnd (f_X1_makeAlike σ a0 r1 r3) fun r6 => chk (b01 r6.1) <| some (r6.1, r6.2) else (if r4 = 100 then bnd (f_X4_digitAt σ a1 (a2 + 3)) fun r10 => chk (kOK SC a0 1) <| bnd (f_X1_cookIn σ a0 r1 r3 r10) fun r11 => chk (b01 r11.1) <| some (r11.1, r11.2) else (if r4 = 110 then chk (kOK SC a0 1) <| bnd (f_X1_renew σ a0 r1) fun r15 => chk (b01 r15.1) <| some (r15.1, r15.2) else (if r4 = 112 then chk (kOK SC a0 1) <| bnd (f_X1_addPot σ a0) fun r19 => chk (b01 r19.1) <| some (r19.1, r19.2) else some (0, σ)))))
set_option maxHeartbeats 4000000 in
set_option maxRecDepth 100000 in
theorem c_X1_carryOut (l : Launch) (D : va_G) (cA : Nat → ClassId) (ad : Nat → Nat) (hij : Ij ad SC) (σ : St) (a0 : Nat) (a1 : Nat) (a2 : Int32) (r : Int32 × St) (hf : f_X1_carryOut σ a0 a1 a2 = some r) : Met l yX1_carryOut wsX1_carryOut rm_X1_carryOut (PC D cA ad SC [.ref (ad a0), .ref (ad a1), .int a2] σ) (Qi D cA ad SC r) 0 0 (Aw ad SC) := by
  rw [f_X1_carryOut] at hf
  refine k_head (own := RX1) (ws := wsX1_carryOut) (cc := cX1_carryOut) (nL := 5) (ret := (some .boolean)) pn_X1 rfl rfl hij (Nat.le_of_ble_eq_true rfl) (fun p e s m below meth c ls X hW hl => ?_)
  have hl : lv_has ls 5 [(0, .ref (ad a0)), (1, .ref (ad a1)), (2, .int a2)] := hl
  obtain ⟨hx, hb, hml, hown, hts, hr, hlk, hK, hij⟩ := id X
  refine lv_aload_n hx hb dX1_carryOut_0 rfl (lv_at hl 1 rfl) ?_
  refine lv_iload_n hx hb dX1_carryOut_1 rfl (lv_at hl 2 rfl) ?_
  refine lv_iconst (v := 1) hx hb dX1_carryOut_2 (by decide) ?_
  refine lv_iadd hx hb dX1_carryOut_3 ?_
  obtain ⟨q2, hf⟩ := chk_e hf
  obtain ⟨i2, k2⟩ := kOK_e q2
  obtain ⟨r1, z1, hf⟩ := bnd_e hf
  refine r_cViR X hW k2 i2 rfl (c_X4_digitAt l D cA ad hij σ a1 (a2 + 1) r1 z1) gX1_carryOut_X4_digitAt rfl ⟨rfl, rfl⟩ hd_X4_digitAt ⟨Nat.le_of_ble_eq_true rfl, Nat.le_of_ble_eq_true rfl⟩ rfl (Nat.le_of_ble_eq_true rfl) hl.1 dX1_carryOut_4 (fun H locs hW => ?_)
  refine lv_istore_n (lv' := [(3, .int r1), (0, .ref (ad a0)), (1, .ref (ad a1)), (2, .int a2)]) hx hb dX1_carryOut_7 rfl hl (by decide) rfl (fun ls hl => ?_)
  refine lv_aload_n hx hb dX1_carryOut_8 rfl (lv_at hl 2 rfl) ?_
  refine lv_iload_n hx hb dX1_carryOut_9 rfl (lv_at hl 3 rfl) ?_
  refine lv_iconst (v := 2) hx hb dX1_carryOut_10 (by decide) ?_
  refine lv_iadd hx hb dX1_carryOut_11 ?_
  obtain ⟨r3, z3, hf⟩ := bnd_e hf
  refine r_cViR X hW k2 i2 rfl (c_X4_digitAt l D cA ad hij σ a1 (a2 + 2) r3 z3) gX1_carryOut_X4_digitAt rfl ⟨rfl, rfl⟩ hd_X4_digitAt ⟨Nat.le_of_ble_eq_true rfl, Nat.le_of_ble_eq_true rfl⟩ rfl (Nat.le_of_ble_eq_true rfl) hl.1 dX1_carryOut_12 (fun H locs hW => ?_)
  refine lv_istore (lv' := [(4, .int r3), (3, .int r1), (0, .ref (ad a0)), (1, .ref (ad a1)), (2, .int a2)]) hx hb dX1_carryOut_15 hl (by decide) rfl (fun ls hl => ?_)
  refine lv_aload_n hx hb dX1_carryOut_17 rfl (lv_at hl 3 rfl) ?_
  refine lv_iload_n hx hb dX1_carryOut_18 rfl (lv_at hl 4 rfl) ?_
  refine lv_bipush (v := (-4)) hx hb dX1_carryOut_19 (by decide) ?_
  obtain ⟨r4, z4, hf⟩ := bnd_e hf
  refine r_cViR X hW k2 i2 rfl (c_X4_elementOr l D cA ad hij σ a1 a2 ((-4)) r4 z4) gX1_carryOut_X4_elementOr rfl ⟨rfl, rfl⟩ hd_X4_elementOr ⟨Nat.le_of_ble_eq_true rfl, Nat.le_of_ble_eq_true rfl⟩ rfl (Nat.le_of_ble_eq_true rfl) hl.1 dX1_carryOut_21 (fun H locs hW => ?_)
  by_cases c5 : r4 = 99
  · have hf := it_e hf c5
    refine lv_lookup (tgt := 94) hx hb dX1_carryOut_24 (by decide) (by rw [c5] <;> rfl) (by decide) ?_
    refine lv_aload_n hx hb dX1_carryOut_94 rfl (lv_at hl 2 rfl) ?_
    refine lv_iload_n hx hb dX1_carryOut_95 rfl (lv_at hl 1 rfl) ?_
    refine lv_iload hx hb dX1_carryOut_96 (lv_at hl 0 rfl) ?_
    obtain ⟨q7, hf⟩ := chk_e hf
    obtain ⟨i7, k7⟩ := kOK_e q7
    obtain ⟨r6, z6, hf⟩ := bnd_e hf
    refine r_cVi X hW k7 i7 rfl (c_X1_makeAlike l D cA ad hij σ a0 r1 r3 r6 z6) gX1_carryOut_X1_makeAlike rfl ⟨rfl, rfl⟩ hd_X1_makeAlike ⟨Nat.le_of_ble_eq_true rfl, Nat.le_of_ble_eq_true rfl⟩ rfl (Nat.le_of_ble_eq_true rfl) hl.1 dX1_carryOut_98 (fun H locs hW => ?_)
    obtain ⟨q8, hf⟩ := chk_e hf
    exact r_iret X hW rfl (b01_e q8).1 hf dX1_carryOut_101
  · have hf := ie_e hf c5
    by_cases c9 : r4 = 100
    · have hf := it_e hf c9
      refine lv_lookup (tgt := 73) hx hb dX1_carryOut_24 (by decide) (by rw [c9] <;> rfl) (by decide) ?_
      refine lv_aload_n hx hb dX1_carryOut_73 rfl (lv_at hl 2 rfl) ?_
      refine lv_iload_n hx hb dX1_carryOut_74 rfl (lv_at hl 1 rfl) ?_
      refine lv_iload hx hb dX1_carryOut_75 (lv_at hl 0 rfl) ?_
      refine lv_aload_n hx hb dX1_carryOut_77 rfl (lv_at hl 3 rfl) ?_
      refine lv_iload_n hx hb dX1_carryOut_78 rfl (lv_at hl 4 rfl) ?_
      refine lv_iconst (v := 3) hx hb dX1_carryOut_79 (by decide) ?_
      refine lv_iadd hx hb dX1_carryOut_80 ?_
      obtain ⟨r10, z10, hf⟩ := bnd_e hf
      refine r_cViR X hW k2 i2 rfl (c_X4_digitAt l D cA ad hij σ a1 (a2 + 3) r10 z10) gX1_carryOut_X4_digitAt rfl ⟨rfl, rfl⟩ hd_X4_digitAt ⟨Nat.le_of_ble_eq_true rfl, Nat.le_of_ble_eq_true rfl⟩ rfl (Nat.le_of_ble_eq_true rfl) hl.1 dX1_carryOut_81 (fun H locs hW => ?_)
      obtain ⟨q12, hf⟩ := chk_e hf
      obtain ⟨i12, k12⟩ := kOK_e q12
      obtain ⟨r11, z11, hf⟩ := bnd_e hf
      refine r_cVi X hW k12 i12 rfl (c_X1_cookIn l D cA ad hij σ a0 r1 r3 r10 r11 z11) gX1_carryOut_X1_cookIn rfl ⟨rfl, rfl⟩ hd_X1_cookIn ⟨Nat.le_of_ble_eq_true rfl, Nat.le_of_ble_eq_true rfl⟩ rfl (Nat.le_of_ble_eq_true rfl) hl.1 dX1_carryOut_84 (fun H locs hW => ?_)
      obtain ⟨q13, hf⟩ := chk_e hf
      exact r_iret X hW rfl (b01_e q13).1 hf dX1_carryOut_87
    · have hf := ie_e hf c9
      by_cases c14 : r4 = 110
      · have hf := it_e hf c14
        refine lv_lookup (tgt := 88) hx hb dX1_carryOut_24 (by decide) (by rw [c14] <;> rfl) (by decide) ?_
        refine lv_aload_n hx hb dX1_carryOut_88 rfl (lv_at hl 2 rfl) ?_
        refine lv_iload_n hx hb dX1_carryOut_89 rfl (lv_at hl 1 rfl) ?_
        obtain ⟨q16, hf⟩ := chk_e hf
        obtain ⟨i16, k16⟩ := kOK_e q16
        obtain ⟨r15, z15, hf⟩ := bnd_e hf
        refine r_cVi X hW k16 i16 rfl (c_X1_renew l D cA ad hij σ a0 r1 r15 z15) gX1_carryOut_X1_renew rfl ⟨rfl, rfl⟩ hd_X1_renew ⟨Nat.le_of_ble_eq_true rfl, Nat.le_of_ble_eq_true rfl⟩ rfl (Nat.le_of_ble_eq_true rfl) hl.1 dX1_carryOut_90 (fun H locs hW => ?_)
        obtain ⟨q17, hf⟩ := chk_e hf
        exact r_iret X hW rfl (b01_e q17).1 hf dX1_carryOut_93
      · have hf := ie_e hf c14
        by_cases c18 : r4 = 112
        · have hf := it_e hf c18
          refine lv_lookup (tgt := 68) hx hb dX1_carryOut_24 (by decide) (by rw [c18] <;> rfl) (by decide) ?_
          refine lv_aload_n hx hb dX1_carryOut_68 rfl (lv_at hl 2 rfl) ?_
          obtain ⟨q20, hf⟩ := chk_e hf
          obtain ⟨i20, k20⟩ := kOK_e q20
          obtain ⟨r19, z19, hf⟩ := bnd_e hf
          refine r_cVi X hW k20 i20 rfl (c_X1_addPot l D cA ad hij σ a0 r19 z19) gX1_carryOut_X1_addPot rfl ⟨rfl, rfl⟩ hd_X1_addPot ⟨Nat.le_of_ble_eq_true rfl, Nat.le_of_ble_eq_true rfl⟩ rfl (Nat.le_of_ble_eq_true rfl) hl.1 dX1_carryOut_69 (fun H locs hW => ?_)
          obtain ⟨q21, hf⟩ := chk_e hf
          exact r_iret X hW rfl (b01_e q21).1 hf dX1_carryOut_72
        · have hf := ie_e hf c18
          refine lv_lookup (tgt := 102) hx hb dX1_carryOut_24 (by decide) ((lv_osw c5 (by decide)).trans ((lv_osw c9 (by decide)).trans ((lv_osw c14 (by decide)).trans ((lv_osw c18 (by decide)).trans rfl)))) rfl ?_
          refine lv_iconst (v := 0) hx hb dX1_carryOut_102 (by decide) ?_
          exact r_iret X hW rfl rfl hf dX1_carryOut_103

abbrev rm_X2_thinkOf : Room := { frames := 1, cells := 0, slots := 0, locals := 22 }
theorem hd_X2_thinkOf : yX2_thinkOf.cls = RX2 ∧ yX2_thinkOf.cls ≠ "java/lang/invoke/MethodHandle" ∧ yX2_thinkOf.cls ≠ "java/lang/invoke/VarHandle" ∧ (parseMethodDescriptor yX2_thinkOf.desc).map (fun d => d.parameters.length) = some 3 := by decide +kernel
theorem inX2_thinkOf_1 : ∀ w ∈ wsX10, w ∈ wsX2_thinkOf := fun _ h => List.mem_cons_of_mem _ (List.mem_append_left _ (List.mem_append_left _ (List.mem_append_left _ (List.mem_append_right _ h))))
theorem inX2_thinkOf_2 : ∀ w ∈ wsX20, w ∈ wsX2_thinkOf := fun _ h => List.mem_cons_of_mem _ (List.mem_append_left _ (List.mem_append_left _ (List.mem_append_right _ h)))
theorem inX2_thinkOf_3 : ∀ w ∈ wsX30, w ∈ wsX2_thinkOf := fun _ h => List.mem_cons_of_mem _ (List.mem_append_left _ (List.mem_append_right _ h))
theorem inX2_thinkOf_0 : ∀ w ∈ wsX00, w ∈ wsX2_thinkOf := fun _ h => List.mem_cons_of_mem _ (List.mem_append_right _ h)
section S_X2_thinkOf
variable {p : Program} {l : Launch} {e : Env} {s : State} {m : MethodId} {args : Array Value} {below : List Frame} {meth : Method} {c : Code} {D : va_G} {cA : Nat → ClassId} {ad : Nat → Nat} {r : St}
noncomputable def f_X2_thinkOf_21 (k56 : St → Option (St)) : Nat → Nat → Int32 → St → Option (St)
  | 0, _, _, _ => none
  | n + 1, v1, v4, σ => (if (σ.1 97 2) ≤ v4 then k56 σ else chk (inb v4 6) <| chk (kOK SC v1 1) <| chk (aOK SC (v1 + 1) 22 6) <| chk (kOK SC (v1 + 1 + 1 + 5 * v4.toNatClampNeg) 3) <| chk (kOK SC (99 + 2 * v4.toNatClampNeg) 0) <| bnd (f_X0_become σ (99 + 2 * v4.toNatClampNeg) (v1 + 1 + 1 + 5 * v4.toNatClampNeg + 1)) fun r10 => nw (v4 + 1 : Int32) fun v112 => f_X2_thinkOf_21 k56 n v1 v112 r10)
set_option maxHeartbeats 4000000 in
set_option maxRecDepth 100000 in
theorem b_X2_thinkOf_21 {k56 : St → Option (St)} (X : Cx RX2 wsX2_thinkOf cX2_thinkOf 5 none D cA ad SC p s m args meth c) (h56 : ∀  (σ : St) (H : Heap) (locs : List Loc) (ls : Array Slot), k56 σ = some r → Rn D cA ad SC s.heap σ H locs → lv_has ls 5 [] → W p l e rm_X2_thinkOf s m args below meth c H locs 0 0 (MQ below (Qv D cA ad SC r) args s 0 0 (Aw ad SC)) (F0 m 56 ls [])) : ∀ (n : Nat) (v1 : Nat) (v4 : Int32) (σ : St) (H : Heap) (locs : List Loc) (ls : Array Slot), f_X2_thinkOf_21 k56 n v1 v4 σ = some r → Rn D cA ad SC s.heap σ H locs → lv_has ls 5 [(0, .ref (ad 97)), (1, .ref (ad v1)), (4, .int v4)] → W p l e rm_X2_thinkOf s m args below meth c H locs 0 0 (MQ below (Qv D cA ad SC r) args s 0 0 (Aw ad SC)) (F0 m 21 ls []) := by
  obtain ⟨hx, hb, hml, hown, hts, hr, hlk, hK, hij⟩ := id X
  intro n
  induction n with
  | zero =>
    intro v1 v4 σ H locs ls hf
    exact nomatch (show (none : Option (St)) = some r from hf)
  | succ n ih =>
    intro v1 v4 σ H locs ls hf hW hl
    rw [f_X2_thinkOf_21] at hf
    refine lv_iload hx hb dX2_thinkOf_21 (lv_at hl 2 rfl) ?_
    refine lv_aload_n hx hb dX2_thinkOf_23 rfl (lv_at hl 0 rfl) ?_
    refine get_2_2 X hW kC_97 iC_97 inX2_thinkOf_2 (List.mem_of_getElem? (i := 2) rfl) dX2_thinkOf_24 ?_
    refine lv_icmp_ge (tgt := 56) hx hb dX2_thinkOf_27 (by decide) (fun c5 => ?_) (fun c5 => ?_)
    · have hf := it_e hf c5
      exact h56 σ _ _ _ hf hW (lv_sub hl [] rfl)
    · have hf := ie_e hf c5
      refine lv_aload_n hx hb dX2_thinkOf_30 rfl (lv_at hl 0 rfl) ?_
      refine get_2_0 X hW kC_97 iC_97 inX2_thinkOf_2 (List.mem_of_getElem? (i := 5) rfl) dX2_thinkOf_31 ?_
      refine lv_iload hx hb dX2_thinkOf_34 (lv_at hl 2 rfl) ?_
      obtain ⟨x6, hf⟩ := chk_e hf
      refine r_aald (j := 99 + 2 * v4.toNatClampNeg) X hW kC_98 iC_98 nC_98 (by decide) rfl x6 rfl dX2_thinkOf_36 ?_
      refine lv_aload_n hx hb dX2_thinkOf_37 rfl (lv_at hl 1 rfl) ?_
      obtain ⟨q7, hf⟩ := chk_e hf
      obtain ⟨i7, k7⟩ := kOK_e q7
      refine get_1_0 X hW k7 i7 inX2_thinkOf_1 (List.mem_of_getElem? (i := 6) rfl) dX2_thinkOf_38 ?_
      refine lv_iload hx hb dX2_thinkOf_41 (lv_at hl 2 rfl) ?_
      obtain ⟨q8, hf⟩ := chk_e hf
      obtain ⟨i8, k8, n8⟩ := aOK_e q8
      refine r_aald (j := v1 + 1 + 1 + 5 * v4.toNatClampNeg) X hW k8 i8 n8 (by decide) rfl x6 rfl dX2_thinkOf_43 ?_
      obtain ⟨q9, hf⟩ := chk_e hf
      obtain ⟨i9, k9⟩ := kOK_e q9
      refine get_3_0 X hW k9 i9 inX2_thinkOf_3 (List.mem_of_getElem? (i := 7) rfl) dX2_thinkOf_44 ?_
      obtain ⟨q11, hf⟩ := chk_e hf
      obtain ⟨i11, k11⟩ := kOK_e q11
      obtain ⟨r10, z10, hf⟩ := bnd_e hf
      refine r_cVv X hW k11 i11 rfl (c_X0_become l D cA ad hij σ (99 + 2 * v4.toNatClampNeg) (v1 + 1 + 1 + 5 * v4.toNatClampNeg + 1) r10 z10) gX2_thinkOf_X0_become rfl ⟨rfl, rfl⟩ hd_X0_become ⟨Nat.le_of_ble_eq_true rfl, Nat.le_of_ble_eq_true rfl⟩ rfl (Nat.le_of_ble_eq_true rfl) hl.1 dX2_thinkOf_47 (fun H locs hW => ?_)
      obtain ⟨v112, e12, hf⟩ := nw_e hf
      refine lv_iinc (v := v112) (lv' := [(4, .int v112), (0, .ref (ad 97)), (1, .ref (ad v1))]) hx hb dX2_thinkOf_50 hl (k := 2) rfl (by rw [e12]; rfl) (by decide) rfl (fun ls hl => ?_)
      refine lv_goto (tgt := 21) hx hb dX2_thinkOf_53 (by decide) ?_
      exact ih v1 v112 r10 _ _ _ hf hW (lv_sub hl [1, 2, 0] rfl)
end S_X2_thinkOf
noncomputable def f_X2_thinkOf (σ : St) (a1 : Nat) (a2 : Int32) (a3 : Int32) : Option (St) := chk (kOK SC a1 1) <| nw (uI σ 97 2 (σ.1 a1 1)) fun σ2 => nw (uI σ2 97 3 a2) fun σ3 => nw (uI σ3 97 4 a3) fun σ4 => f_X2_thinkOf_21 (fun  (σ13 : St) => some σ13) fu a1 0 σ4
set_option maxHeartbeats 4000000 in
set_option maxRecDepth 100000 in
theorem c_X2_thinkOf (l : Launch) (D : va_G) (cA : Nat → ClassId) (ad : Nat → Nat) (hij : Ij ad SC) (σ : St) (a1 : Nat) (a2 : Int32) (a3 : Int32) (r : St) (hf : f_X2_thinkOf σ a1 a2 a3 = some r) : Met l yX2_thinkOf wsX2_thinkOf rm_X2_thinkOf (PC D cA ad SC [.ref (ad 97), .ref (ad a1), .int a2, .int a3] σ) (Qv D cA ad SC r) 0 0 (Aw ad SC) := by
  rw [f_X2_thinkOf] at hf
  refine k_head (own := RX2) (ws := wsX2_thinkOf) (cc := cX2_thinkOf) (nL := 5) (ret := none) pn_X2 rfl rfl hij (Nat.le_of_ble_eq_true rfl) (fun p e s m below meth c ls X hW hl => ?_)
  have hl : lv_has ls 5 [(0, .ref (ad 97)), (1, .ref (ad a1)), (2, .int a2), (3, .int a3)] := hl
  obtain ⟨hx, hb, hml, hown, hts, hr, hlk, hK, hij⟩ := id X
  refine lv_aload_n hx hb dX2_thinkOf_0 rfl (lv_at hl 0 rfl) ?_
  refine lv_aload_n hx hb dX2_thinkOf_1 rfl (lv_at hl 1 rfl) ?_
  obtain ⟨q1, hf⟩ := chk_e hf
  obtain ⟨i1, k1⟩ := kOK_e q1
  refine get_1_1 X hW k1 i1 inX2_thinkOf_1 (List.mem_of_getElem? (i := 1) rfl) dX2_thinkOf_2 ?_
  obtain ⟨σ2, e2, hf⟩ := nw_e hf
  refine put_2_2 X hW kC_97 iC_97 inX2_thinkOf_2 (List.mem_of_getElem? (i := 2) rfl) e2 dX2_thinkOf_5 (fun H locs hW => ?_)
  refine lv_aload_n hx hb dX2_thinkOf_8 rfl (lv_at hl 0 rfl) ?_
  refine lv_iload_n hx hb dX2_thinkOf_9 rfl (lv_at hl 2 rfl) ?_
  obtain ⟨σ3, e3, hf⟩ := nw_e hf
  refine put_2_3 X hW kC_97 iC_97 inX2_thinkOf_2 (List.mem_of_getElem? (i := 3) rfl) e3 dX2_thinkOf_10 (fun H locs hW => ?_)
  refine lv_aload_n hx hb dX2_thinkOf_13 rfl (lv_at hl 0 rfl) ?_
  refine lv_iload_n hx hb dX2_thinkOf_14 rfl (lv_at hl 3 rfl) ?_
  obtain ⟨σ4, e4, hf⟩ := nw_e hf
  refine put_2_4 X hW kC_97 iC_97 inX2_thinkOf_2 (List.mem_of_getElem? (i := 4) rfl) e4 dX2_thinkOf_15 (fun H locs hW => ?_)
  refine lv_iconst (v := 0) hx hb dX2_thinkOf_18 (by decide) ?_
  refine lv_istore (lv' := [(4, .int 0), (0, .ref (ad 97)), (1, .ref (ad a1)), (2, .int a2), (3, .int a3)]) hx hb dX2_thinkOf_19 hl (by decide) rfl (fun ls hl => ?_)
  refine b_X2_thinkOf_21 X (fun σ13 H locs ls hf hW hl => ?_) fu a1 0 σ4 _ _ _ hf hW (lv_sub hl [1, 2, 0] rfl)
  · exact r_vret X hW rfl hf dX2_thinkOf_56

abbrev rm_X2_staysGood : Room := { frames := 2, cells := 0, slots := 0, locals := 49 }
theorem hd_X2_staysGood : yX2_staysGood.cls = RX2 ∧ yX2_staysGood.cls ≠ "java/lang/invoke/MethodHandle" ∧ yX2_staysGood.cls ≠ "java/lang/invoke/VarHandle" ∧ (parseMethodDescriptor yX2_staysGood.desc).map (fun d => d.parameters.length) = some 3 := by decide +kernel
theorem inX2_staysGood_2 : ∀ w ∈ wsX20, w ∈ wsX2_staysGood := fun _ h => List.mem_cons_of_mem _ (List.mem_append_left _ (List.mem_append_left _ (List.mem_append_right _ h)))
theorem inX2_staysGood_0 : ∀ w ∈ wsX00, w ∈ wsX2_staysGood := fun _ h => List.mem_cons_of_mem _ (List.mem_append_left _ (List.mem_append_right _ h))
theorem inX2_staysGood_4 : ∀ w ∈ wsX40, w ∈ wsX2_staysGood := fun _ h => List.mem_cons_of_mem _ (List.mem_append_right _ h)
section S_X2_staysGood
variable {p : Program} {l : Launch} {e : Env} {s : State} {m : MethodId} {args : Array Value} {below : List Frame} {meth : Method} {c : Code} {D : va_G} {cA : Nat → ClassId} {ad : Nat → Nat} {r : Int32 × St}
end S_X2_staysGood
noncomputable def f_X2_staysGood (σ : St) (a1 : Nat) (a2 : Nat) (a3 : Int32) : Option (Int32 × St) := chk (kOK SC a1 0) <| bnd (f_X0_hasRoom σ a1) fun r1 => (if r1 = 0 then some (0, σ) else chk (kOK SC a2 4) <| bnd (f_X4_elementOr σ a2 a3 0) fun r4 => bnd (f_X4_elementOr σ a2 (a3 + 1) 0) fun r6 => bnd (f_X0_takeIn σ a1 r4 r6) fun r7 => bnd (f_X0_isHarmful r7 a1 (r7.1 97 3) (r7.1 97 4)) fun r8 => (if r8 = 0 then some (1, r7) else some (0, r7)))
set_option maxHeartbeats 4000000 in
set_option maxRecDepth 100000 in
theorem c_X2_staysGood (l : Launch) (D : va_G) (cA : Nat → ClassId) (ad : Nat → Nat) (hij : Ij ad SC) (σ : St) (a1 : Nat) (a2 : Nat) (a3 : Int32) (r : Int32 × St) (hf : f_X2_staysGood σ a1 a2 a3 = some r) : Met l yX2_staysGood wsX2_staysGood rm_X2_staysGood (PC D cA ad SC [.ref (ad 97), .ref (ad a1), .ref (ad a2), .int a3] σ) (Qi D cA ad SC r) 0 0 (Aw ad SC) := by
  rw [f_X2_staysGood] at hf
  refine k_head (own := RX2) (ws := wsX2_staysGood) (cc := cX2_staysGood) (nL := 4) (ret := (some .boolean)) pn_X2 rfl rfl hij (Nat.le_of_ble_eq_true rfl) (fun p e s m below meth c ls X hW hl => ?_)
  have hl : lv_has ls 4 [(0, .ref (ad 97)), (1, .ref (ad a1)), (2, .ref (ad a2)), (3, .int a3)] := hl
  obtain ⟨hx, hb, hml, hown, hts, hr, hlk, hK, hij⟩ := id X
  refine lv_aload_n hx hb dX2_staysGood_0 rfl (lv_at hl 1 rfl) ?_
  obtain ⟨q2, hf⟩ := chk_e hf
  obtain ⟨i2, k2⟩ := kOK_e q2
  obtain ⟨r1, z1, hf⟩ := bnd_e hf
  refine r_cViR X hW k2 i2 rfl (c_X0_hasRoom l D cA ad hij σ a1 r1 z1) gX2_staysGood_X0_hasRoom rfl ⟨rfl, rfl⟩ hd_X0_hasRoom ⟨Nat.le_of_ble_eq_true rfl, Nat.le_of_ble_eq_true rfl⟩ rfl (Nat.le_of_ble_eq_true rfl) hl.1 dX2_staysGood_1 (fun H locs hW => ?_)
  refine lv_if_ne (tgt := 9) hx hb dX2_staysGood_4 (by decide) (fun c3 => ?_) (fun c3 => ?_)
  · have hf := ie_e hf c3
    refine lv_aload_n hx hb dX2_staysGood_9 rfl (lv_at hl 1 rfl) ?_
    refine lv_aload_n hx hb dX2_staysGood_10 rfl (lv_at hl 2 rfl) ?_
    refine lv_iload_n hx hb dX2_staysGood_11 rfl (lv_at hl 3 rfl) ?_
    refine lv_iconst (v := 0) hx hb dX2_staysGood_12 (by decide) ?_
    obtain ⟨q5, hf⟩ := chk_e hf
    obtain ⟨i5, k5⟩ := kOK_e q5
    obtain ⟨r4, z4, hf⟩ := bnd_e hf
    refine r_cViR X hW k5 i5 rfl (c_X4_elementOr l D cA ad hij σ a2 a3 0 r4 z4) gX2_staysGood_X4_elementOr rfl ⟨rfl, rfl⟩ hd_X4_elementOr ⟨Nat.le_of_ble_eq_true rfl, Nat.le_of_ble_eq_true rfl⟩ rfl (Nat.le_of_ble_eq_true rfl) hl.1 dX2_staysGood_13 (fun H locs hW => ?_)
    refine lv_aload_n hx hb dX2_staysGood_16 rfl (lv_at hl 2 rfl) ?_
    refine lv_iload_n hx hb dX2_staysGood_17 rfl (lv_at hl 3 rfl) ?_
    refine lv_iconst (v := 1) hx hb dX2_staysGood_18 (by decide) ?_
    refine lv_iadd hx hb dX2_staysGood_19 ?_
    refine lv_iconst (v := 0) hx hb dX2_staysGood_20 (by decide) ?_
    obtain ⟨r6, z6, hf⟩ := bnd_e hf
    refine r_cViR X hW k5 i5 rfl (c_X4_elementOr l D cA ad hij σ a2 (a3 + 1) 0 r6 z6) gX2_staysGood_X4_elementOr rfl ⟨rfl, rfl⟩ hd_X4_elementOr ⟨Nat.le_of_ble_eq_true rfl, Nat.le_of_ble_eq_true rfl⟩ rfl (Nat.le_of_ble_eq_true rfl) hl.1 dX2_staysGood_21 (fun H locs hW => ?_)
    obtain ⟨r7, z7, hf⟩ := bnd_e hf
    refine r_cVv X hW k2 i2 rfl (c_X0_takeIn l D cA ad hij σ a1 r4 r6 r7 z7) gX2_staysGood_X0_takeIn rfl ⟨rfl, rfl⟩ hd_X0_takeIn ⟨Nat.le_of_ble_eq_true rfl, Nat.le_of_ble_eq_true rfl⟩ rfl (Nat.le_of_ble_eq_true rfl) hl.1 dX2_staysGood_24 (fun H locs hW => ?_)
    refine lv_aload_n hx hb dX2_staysGood_27 rfl (lv_at hl 1 rfl) ?_
    refine lv_aload_n hx hb dX2_staysGood_28 rfl (lv_at hl 0 rfl) ?_
    refine get_2_3 X hW kC_97 iC_97 inX2_staysGood_2 (List.mem_of_getElem? (i := 1) rfl) dX2_staysGood_29 ?_
    refine lv_aload_n hx hb dX2_staysGood_32 rfl (lv_at hl 0 rfl) ?_
    refine get_2_4 X hW kC_97 iC_97 inX2_staysGood_2 (List.mem_of_getElem? (i := 2) rfl) dX2_staysGood_33 ?_
    obtain ⟨r8, z8, hf⟩ := bnd_e hf
    refine r_cViR X hW k2 i2 rfl (c_X0_isHarmful l D cA ad hij r7 a1 (r7.1 97 3) (r7.1 97 4) r8 z8) gX2_staysGood_X0_isHarmful rfl ⟨rfl, rfl⟩ hd_X0_isHarmful ⟨Nat.le_of_ble_eq_true rfl, Nat.le_of_ble_eq_true rfl⟩ rfl (Nat.le_of_ble_eq_true rfl) hl.1 dX2_staysGood_36 (fun H locs hW => ?_)
    refine lv_if_ne (tgt := 46) hx hb dX2_staysGood_39 (by decide) (fun c9 => ?_) (fun c9 => ?_)
    · have hf := ie_e hf c9
      refine lv_iconst (v := 0) hx hb dX2_staysGood_46 (by decide) ?_
      exact r_iret X hW rfl rfl hf dX2_staysGood_47
    · have hf := it_e hf c9
      refine lv_iconst (v := 1) hx hb dX2_staysGood_42 (by decide) ?_
      refine lv_goto (tgt := 47) hx hb dX2_staysGood_43 (by decide) ?_
      exact r_iret X hW rfl rfl hf dX2_staysGood_47
  · have hf := it_e hf c3
    refine lv_iconst (v := 0) hx hb dX2_staysGood_7 (by decide) ?_
    exact r_iret X hW rfl rfl hf dX2_staysGood_8

abbrev rm_X2_firstHarm : Room := { frames := 3, cells := 0, slots := 0, locals := 72 }
theorem hd_X2_firstHarm : yX2_firstHarm.cls = RX2 ∧ yX2_firstHarm.cls ≠ "java/lang/invoke/MethodHandle" ∧ yX2_firstHarm.cls ≠ "java/lang/invoke/VarHandle" ∧ (parseMethodDescriptor yX2_firstHarm.desc).map (fun d => d.parameters.length) = some 1 := by decide +kernel
theorem inX2_firstHarm_4 : ∀ w ∈ wsX40, w ∈ wsX2_firstHarm := fun _ h => List.mem_cons_of_mem _ (List.mem_append_left _ (List.mem_append_left _ (List.mem_append_right _ h)))
theorem inX2_firstHarm_2 : ∀ w ∈ wsX20, w ∈ wsX2_firstHarm := fun _ h => List.mem_cons_of_mem _ (List.mem_append_left _ (List.mem_append_right _ h))
theorem inX2_firstHarm_0 : ∀ w ∈ wsX00, w ∈ wsX2_firstHarm := fun _ h => List.mem_cons_of_mem _ (List.mem_append_right _ h)
section S_X2_firstHarm
variable {p : Program} {l : Launch} {e : Env} {s : State} {m : MethodId} {args : Array Value} {below : List Frame} {meth : Method} {c : Code} {D : va_G} {cA : Nat → ClassId} {ad : Nat → Nat} {r : Int32 × St}
noncomputable def f_X2_firstHarm_2 (k48 : Int32 → St → Option (Int32 × St)) (k58 : St → Option (Int32 × St)) : Nat → Nat → Int32 → St → Option (Int32 × St)
  | 0, _, _, _ => none
  | n + 1, v1, v2, σ => chk (kOK SC v1 4) <| (if (σ.1 v1 4) ≤ (v2 + 2) then k58 σ else chk (aOK SC (v1 + 1) 20 100) <| chk (inb v2 100) <| nw (σ.1 (v1 + 1) v2.toNatClampNeg : Int32) fun v105 => (if v105 < 0 then k48 v2 σ else (if (σ.1 97 2) ≤ v105 then k48 v2 σ else chk (inb v105 6) <| bnd (f_X2_staysGood σ (99 + 2 * v105.toNatClampNeg) v1 (v2 + 1)) fun r9 => (if r9.1 = 0 then k48 v2 r9.2 else nw (v2 + 3 : Int32) fun v111 => f_X2_firstHarm_2 k48 k58 n v1 v111 r9.2))))
set_option maxHeartbeats 4000000 in
set_option maxRecDepth 100000 in
theorem b_X2_firstHarm_2 {k48 : Int32 → St → Option (Int32 × St)} {k58 : St → Option (Int32 × St)} (X : Cx RX2 wsX2_firstHarm cX2_firstHarm 4 (some .int) D cA ad SC p s m args meth c) (h48 : ∀ (w0 : Int32) (σ : St) (H : Heap) (locs : List Loc) (ls : Array Slot), k48 w0 σ = some r → Rn D cA ad SC s.heap σ H locs → lv_has ls 4 [(2, .int w0)] → W p l e rm_X2_firstHarm s m args below meth c H locs 0 0 (MQ below (Qi D cA ad SC r) args s 0 0 (Aw ad SC)) (F0 m 48 ls [])) (h58 : ∀  (σ : St) (H : Heap) (locs : List Loc) (ls : Array Slot), k58 σ = some r → Rn D cA ad SC s.heap σ H locs → lv_has ls 4 [] → W p l e rm_X2_firstHarm s m args below meth c H locs 0 0 (MQ below (Qi D cA ad SC r) args s 0 0 (Aw ad SC)) (F0 m 58 ls [])) : ∀ (n : Nat) (v1 : Nat) (v2 : Int32) (σ : St) (H : Heap) (locs : List Loc) (ls : Array Slot), f_X2_firstHarm_2 k48 k58 n v1 v2 σ = some r → Rn D cA ad SC s.heap σ H locs → lv_has ls 4 [(0, .ref (ad 97)), (1, .ref (ad v1)), (2, .int v2)] → W p l e rm_X2_firstHarm s m args below meth c H locs 0 0 (MQ below (Qi D cA ad SC r) args s 0 0 (Aw ad SC)) (F0 m 2 ls []) := by
  obtain ⟨hx, hb, hml, hown, hts, hr, hlk, hK, hij⟩ := id X
  intro n
  induction n with
  | zero =>
    intro v1 v2 σ H locs ls hf
    exact nomatch (show (none : Option (Int32 × St)) = some r from hf)
  | succ n ih =>
    intro v1 v2 σ H locs ls hf hW hl
    rw [f_X2_firstHarm_2] at hf
    refine lv_iload_n hx hb dX2_firstHarm_2 rfl (lv_at hl 2 rfl) ?_
    refine lv_iconst (v := 2) hx hb dX2_firstHarm_3 (by decide) ?_
    refine lv_iadd hx hb dX2_firstHarm_4 ?_
    refine lv_aload_n hx hb dX2_firstHarm_5 rfl (lv_at hl 1 rfl) ?_
    obtain ⟨q1, hf⟩ := chk_e hf
    obtain ⟨i1, k1⟩ := kOK_e q1
    refine get_4_4 X hW k1 i1 inX2_firstHarm_4 (List.mem_of_getElem? (i := 1) rfl) dX2_firstHarm_6 ?_
    refine lv_icmp_ge (tgt := 58) hx hb dX2_firstHarm_9 (by decide) (fun c2 => ?_) (fun c2 => ?_)
    · have hf := it_e hf c2
      exact h58 σ _ _ _ hf hW (lv_sub hl [] rfl)
    · have hf := ie_e hf c2
      refine lv_aload_n hx hb dX2_firstHarm_12 rfl (lv_at hl 1 rfl) ?_
      refine get_4_5 X hW k1 i1 inX2_firstHarm_4 (List.mem_of_getElem? (i := 2) rfl) dX2_firstHarm_13 ?_
      refine lv_iload_n hx hb dX2_firstHarm_16 rfl (lv_at hl 2 rfl) ?_
      obtain ⟨q3, hf⟩ := chk_e hf
      obtain ⟨i3, k3, n3⟩ := aOK_e q3
      obtain ⟨x4, hf⟩ := chk_e hf
      refine r_iald X hW k3 i3 n3 x4 dX2_firstHarm_17 ?_
      obtain ⟨v105, e5, hf⟩ := nw_e hf
      refine tI _ e5 ?_
      refine lv_istore_n (lv' := [(3, .int v105), (0, .ref (ad 97)), (1, .ref (ad v1)), (2, .int v2)]) hx hb dX2_firstHarm_18 rfl hl (by decide) rfl (fun ls hl => ?_)
      refine lv_iload_n hx hb dX2_firstHarm_19 rfl (lv_at hl 0 rfl) ?_
      refine lv_if_lt (tgt := 48) hx hb dX2_firstHarm_20 (by decide) (fun c6 => ?_) (fun c6 => ?_)
      · have hf := it_e hf c6
        exact h48 v2 σ _ _ _ hf hW (lv_sub hl [3] rfl)
      · have hf := ie_e hf c6
        refine lv_iload_n hx hb dX2_firstHarm_23 rfl (lv_at hl 0 rfl) ?_
        refine lv_aload_n hx hb dX2_firstHarm_24 rfl (lv_at hl 1 rfl) ?_
        refine get_2_2 X hW kC_97 iC_97 inX2_firstHarm_2 (List.mem_of_getElem? (i := 3) rfl) dX2_firstHarm_25 ?_
        refine lv_icmp_ge (tgt := 48) hx hb dX2_firstHarm_28 (by decide) (fun c7 => ?_) (fun c7 => ?_)
        · have hf := it_e hf c7
          exact h48 v2 σ _ _ _ hf hW (lv_sub hl [3] rfl)
        · have hf := ie_e hf c7
          refine lv_aload_n hx hb dX2_firstHarm_31 rfl (lv_at hl 1 rfl) ?_
          refine lv_aload_n hx hb dX2_firstHarm_32 rfl (lv_at hl 1 rfl) ?_
          refine get_2_0 X hW kC_97 iC_97 inX2_firstHarm_2 (List.mem_of_getElem? (i := 4) rfl) dX2_firstHarm_33 ?_
          refine lv_iload_n hx hb dX2_firstHarm_36 rfl (lv_at hl 0 rfl) ?_
          obtain ⟨x8, hf⟩ := chk_e hf
          refine r_aald (j := 99 + 2 * v105.toNatClampNeg) X hW kC_98 iC_98 nC_98 (by decide) rfl x8 rfl dX2_firstHarm_37 ?_
          refine lv_aload_n hx hb dX2_firstHarm_38 rfl (lv_at hl 2 rfl) ?_
          refine lv_iload_n hx hb dX2_firstHarm_39 rfl (lv_at hl 3 rfl) ?_
          refine lv_iconst (v := 1) hx hb dX2_firstHarm_40 (by decide) ?_
          refine lv_iadd hx hb dX2_firstHarm_41 ?_
          obtain ⟨r9, z9, hf⟩ := bnd_e hf
          refine r_cVi X hW kC_97 iC_97 rfl (c_X2_staysGood l D cA ad hij σ (99 + 2 * v105.toNatClampNeg) v1 (v2 + 1) r9 z9) gX2_firstHarm_X2_staysGood rfl ⟨rfl, rfl⟩ hd_X2_staysGood ⟨Nat.le_of_ble_eq_true rfl, Nat.le_of_ble_eq_true rfl⟩ rfl (Nat.le_of_ble_eq_true rfl) hl.1 dX2_firstHarm_42 (fun H locs hW => ?_)
          refine lv_if_ne (tgt := 52) hx hb dX2_firstHarm_45 (by decide) (fun c10 => ?_) (fun c10 => ?_)
          · have hf := ie_e hf c10
            obtain ⟨v111, e11, hf⟩ := nw_e hf
            refine lv_iinc (v := v111) (lv' := [(2, .int v111), (3, .int v105), (0, .ref (ad 97)), (1, .ref (ad v1))]) hx hb dX2_firstHarm_52 hl (k := 3) rfl (by rw [e11]; rfl) (by decide) rfl (fun ls hl => ?_)
            refine lv_goto (tgt := 2) hx hb dX2_firstHarm_55 (by decide) ?_
            exact ih v1 v111 r9.2 _ _ _ hf hW (lv_sub hl [2, 3, 0] rfl)
          · have hf := it_e hf c10
            exact h48 v2 r9.2 _ _ _ hf hW (lv_sub hl [3] rfl)
end S_X2_firstHarm
noncomputable def f_X2_firstHarm (σ : St) (a1 : Nat) : Option (Int32 × St) := f_X2_firstHarm_2 (fun (w12_0 : Int32) (σ13 : St) => some (w12_0 / 3, σ13)) (fun  (σ14 : St) => some ((-4), σ14)) fu a1 0 σ
set_option maxHeartbeats 4000000 in
set_option maxRecDepth 100000 in
theorem c_X2_firstHarm (l : Launch) (D : va_G) (cA : Nat → ClassId) (ad : Nat → Nat) (hij : Ij ad SC) (σ : St) (a1 : Nat) (r : Int32 × St) (hf : f_X2_firstHarm σ a1 = some r) : Met l yX2_firstHarm wsX2_firstHarm rm_X2_firstHarm (PC D cA ad SC [.ref (ad 97), .ref (ad a1)] σ) (Qi D cA ad SC r) 0 0 (Aw ad SC) := by
  rw [f_X2_firstHarm] at hf
  refine k_head (own := RX2) (ws := wsX2_firstHarm) (cc := cX2_firstHarm) (nL := 4) (ret := (some .int)) pn_X2 rfl rfl hij (Nat.le_of_ble_eq_true rfl) (fun p e s m below meth c ls X hW hl => ?_)
  have hl : lv_has ls 4 [(0, .ref (ad 97)), (1, .ref (ad a1))] := hl
  obtain ⟨hx, hb, hml, hown, hts, hr, hlk, hK, hij⟩ := id X
  refine lv_iconst (v := 0) hx hb dX2_firstHarm_0 (by decide) ?_
  refine lv_istore_n (lv' := [(2, .int 0), (0, .ref (ad 97)), (1, .ref (ad a1))]) hx hb dX2_firstHarm_1 rfl hl (by decide) rfl (fun ls hl => ?_)
  refine b_X2_firstHarm_2 X (fun w12_0 σ13 H locs ls hf hW hl => ?_) (fun σ14 H locs ls hf hW hl => ?_) fu a1 0 σ _ _ _ hf hW (lv_sub hl [1, 2, 0] rfl)
  · refine lv_iload_n hx hb dX2_firstHarm_48 rfl (lv_at hl 0 rfl) ?_
    refine lv_iconst (v := 3) hx hb dX2_firstHarm_49 (by decide) ?_
    refine lv_idiv hx hb dX2_firstHarm_50 (by decide) ?_
    exact r_iret X hW rfl rfl hf dX2_firstHarm_51
  · refine lv_bipush (v := (-4)) hx hb dX2_firstHarm_58 (by decide) ?_
    exact r_iret X hW rfl rfl hf dX2_firstHarm_60

abbrev rm_X2_spread (nR : Nat) : Room := { frames := 3 + nR, cells := 0, slots := 0, locals := 72 + 60 * nR }
theorem hd_X2_spread : yX2_spread.cls = RX2 ∧ yX2_spread.cls ≠ "java/lang/invoke/MethodHandle" ∧ yX2_spread.cls ≠ "java/lang/invoke/VarHandle" ∧ (parseMethodDescriptor yX2_spread.desc).map (fun d => d.parameters.length) = some 4 := by decide +kernel
theorem inX2_spread_4 : ∀ w ∈ wsX40, w ∈ wsX2_spread := fun _ h => List.mem_cons_of_mem _ (List.mem_append_left _ (List.mem_append_left _ (List.mem_append_right _ h)))
theorem inX2_spread_2 : ∀ w ∈ wsX20, w ∈ wsX2_spread := fun _ h => List.mem_cons_of_mem _ (List.mem_append_left _ (List.mem_append_right _ h))
theorem inX2_spread_0 : ∀ w ∈ wsX00, w ∈ wsX2_spread := fun _ h => List.mem_cons_of_mem _ (List.mem_append_right _ h)
section S_X2_spread
variable {p : Program} {l : Launch} {e : Env} {s : State} {m : MethodId} {args : Array Value} {below : List Frame} {meth : Method} {c : Code} {D : va_G} {cA : Nat → ClassId} {ad : Nat → Nat} {r : St} {nR : Nat}
noncomputable def f_X2_spread_114 (kr : St → Nat → Int32 → Int32 → Option (St)) (k61 : Nat → Int32 → Int32 → Nat → Int32 → St → Option (St)) (v1 : Nat) (v2 : Int32) (v3 : Int32) (v4 : Nat) (v5 : Int32) (v6 : Nat) (σ : St) : Option (St) := chk (kOK SC v6 0) <| bnd (f_X0_become σ v6 v4) fun r13 => nw (v5 + 1 : Int32) fun v115 => k61 v1 v2 v3 v4 v115 r13
set_option maxHeartbeats 4000000 in
set_option maxRecDepth 100000 in
theorem b_X2_spread_114 {kr : St → Nat → Int32 → Int32 → Option (St)} {k61 : Nat → Int32 → Int32 → Nat → Int32 → St → Option (St)} (X : Cx RX2 wsX2_spread cX2_spread 7 none D cA ad SC p s m args meth c) (hrec : ∀ (σ : St) (b1 : Nat) (b2 : Int32) (b3 : Int32) (r : St), kr σ b1 b2 b3 = some r → Met l yX2_spread wsX2_spread (rm_X2_spread nR) (PC D cA ad SC [.ref (ad 97), .ref (ad b1), .int b2, .int b3] σ) (Qv D cA ad SC r) 0 0 (Aw ad SC)) (h61 : ∀ (w0 : Nat) (w1 : Int32) (w2 : Int32) (w3 : Nat) (w4 : Int32) (σ : St) (H : Heap) (locs : List Loc) (ls : Array Slot), k61 w0 w1 w2 w3 w4 σ = some r → Rn D cA ad SC s.heap σ H locs → lv_has ls 7 [(0, .ref (ad 97)), (1, .ref (ad w0)), (2, .int w1), (3, .int w2), (4, .ref (ad w3)), (5, .int w4)] → W p l e (rm_X2_spread (nR + 1)) s m args below meth c H locs 0 0 (MQ below (Qv D cA ad SC r) args s 0 0 (Aw ad SC)) (F0 m 61 ls [])) : ∀ (v1 : Nat) (v2 : Int32) (v3 : Int32) (v4 : Nat) (v5 : Int32) (v6 : Nat) (σ : St) (H : Heap) (locs : List Loc) (ls : Array Slot), f_X2_spread_114 kr k61 v1 v2 v3 v4 v5 v6 σ = some r → Rn D cA ad SC s.heap σ H locs → lv_has ls 7 [(0, .ref (ad 97)), (1, .ref (ad v1)), (2, .int v2), (3, .int v3), (4, .ref (ad v4)), (5, .int v5), (6, .ref (ad v6))] → W p l e (rm_X2_spread (nR + 1)) s m args below meth c H locs 0 0 (MQ below (Qv D cA ad SC r) args s 0 0 (Aw ad SC)) (F0 m 114 ls []) := by
  obtain ⟨hx, hb, hml, hown, hts, hr, hlk, hK, hij⟩ := id X
  intro v1 v2 v3 v4 v5 v6 σ H locs ls hf hW hl
  rw [f_X2_spread_114] at hf
  refine lv_aload hx hb dX2_spread_114 (lv_at hl 6 rfl) ?_
  refine lv_aload hx hb dX2_spread_116 (lv_at hl 4 rfl) ?_
  obtain ⟨q14, hf⟩ := chk_e hf
  obtain ⟨i14, k14⟩ := kOK_e q14
  obtain ⟨r13, z13, hf⟩ := bnd_e hf
  refine r_cVv X hW k14 i14 rfl (c_X0_become l D cA ad hij σ v6 v4 r13 z13) gX2_spread_X0_become rfl ⟨rfl, rfl⟩ hd_X0_become ⟨by show _ ≤ _; simp only [rm_X2_spread, rm_X0_become]; omega, by show _ ≤ _; simp only [rm_X2_spread, rm_X0_become]; omega⟩ rfl (Nat.le_of_ble_eq_true rfl) hl.1 dX2_spread_118 (fun H locs hW => ?_)
  obtain ⟨v115, e15, hf⟩ := nw_e hf
  refine lv_iinc (v := v115) (lv' := [(5, .int v115), (0, .ref (ad 97)), (1, .ref (ad v1)), (2, .int v2), (3, .int v3), (4, .ref (ad v4)), (6, .ref (ad v6))]) hx hb dX2_spread_121 hl (k := 5) rfl (by rw [e15]; rfl) (by decide) rfl (fun ls hl => ?_)
  refine lv_goto (tgt := 61) hx hb dX2_spread_124 (by decide) ?_
  exact h61 v1 v2 v3 v4 v115 r13 _ _ _ hf hW (lv_sub hl [1, 2, 3, 4, 5, 0] rfl)
noncomputable def f_X2_spread_61 (kr : St → Nat → Int32 → Int32 → Option (St)) (k127 : St → Option (St)) : Nat → Nat → Int32 → Int32 → Nat → Int32 → St → Option (St)
  | 0, _, _, _, _, _, _ => none
  | n + 1, v1, v2, v3, v4, v5, σ => (if (σ.1 97 2) ≤ v5 then k127 σ else chk (inb v5 6) <| nw (99 + 2 * v5.toNatClampNeg : Nat) fun v108 => chk (kOK SC v4 0) <| bnd (f_X0_become σ v4 v108) fun r9 => bnd (f_X2_staysGood r9 v108 v1 (2 * v2)) fun r11 => (if r11.1 = 0 then f_X2_spread_114 kr (fun (w16_0 : Nat) (w17_1 : Int32) (w18_2 : Int32) (w19_3 : Nat) (w20_4 : Int32) (σ21 : St) => f_X2_spread_61 kr k127 n w16_0 w17_1 w18_2 w19_3 w20_4 σ21) v1 v2 v3 v4 v5 v108 r11.2 else bnd (kr r11.2 v1 (v2 + 1) ((10 * v3) + v5)) fun r22 => f_X2_spread_114 kr (fun (w23_0 : Nat) (w24_1 : Int32) (w25_2 : Int32) (w26_3 : Nat) (w27_4 : Int32) (σ28 : St) => f_X2_spread_61 kr k127 n w23_0 w24_1 w25_2 w26_3 w27_4 σ28) v1 v2 v3 v4 v5 v108 r22))
set_option maxHeartbeats 4000000 in
set_option maxRecDepth 100000 in
theorem b_X2_spread_61 {kr : St → Nat → Int32 → Int32 → Option (St)} {k127 : St → Option (St)} (X : Cx RX2 wsX2_spread cX2_spread 7 none D cA ad SC p s m args meth c) (hrec : ∀ (σ : St) (b1 : Nat) (b2 : Int32) (b3 : Int32) (r : St), kr σ b1 b2 b3 = some r → Met l yX2_spread wsX2_spread (rm_X2_spread nR) (PC D cA ad SC [.ref (ad 97), .ref (ad b1), .int b2, .int b3] σ) (Qv D cA ad SC r) 0 0 (Aw ad SC)) (h127 : ∀  (σ : St) (H : Heap) (locs : List Loc) (ls : Array Slot), k127 σ = some r → Rn D cA ad SC s.heap σ H locs → lv_has ls 7 [] → W p l e (rm_X2_spread (nR + 1)) s m args below meth c H locs 0 0 (MQ below (Qv D cA ad SC r) args s 0 0 (Aw ad SC)) (F0 m 127 ls [])) : ∀ (n : Nat) (v1 : Nat) (v2 : Int32) (v3 : Int32) (v4 : Nat) (v5 : Int32) (σ : St) (H : Heap) (locs : List Loc) (ls : Array Slot), f_X2_spread_61 kr k127 n v1 v2 v3 v4 v5 σ = some r → Rn D cA ad SC s.heap σ H locs → lv_has ls 7 [(0, .ref (ad 97)), (1, .ref (ad v1)), (2, .int v2), (3, .int v3), (4, .ref (ad v4)), (5, .int v5)] → W p l e (rm_X2_spread (nR + 1)) s m args below meth c H locs 0 0 (MQ below (Qv D cA ad SC r) args s 0 0 (Aw ad SC)) (F0 m 61 ls []) := by
  obtain ⟨hx, hb, hml, hown, hts, hr, hlk, hK, hij⟩ := id X
  intro n
  induction n with
  | zero =>
    intro v1 v2 v3 v4 v5 σ H locs ls hf
    exact nomatch (show (none : Option (St)) = some r from hf)
  | succ n ih =>
    intro v1 v2 v3 v4 v5 σ H locs ls hf hW hl
    rw [f_X2_spread_61] at hf
    refine lv_iload hx hb dX2_spread_61 (lv_at hl 5 rfl) ?_
    refine lv_aload_n hx hb dX2_spread_63 rfl (lv_at hl 0 rfl) ?_
    refine get_2_2 X hW kC_97 iC_97 inX2_spread_2 (List.mem_of_getElem? (i := 5) rfl) dX2_spread_64 ?_
    refine lv_icmp_ge (tgt := 127) hx hb dX2_spread_67 (by decide) (fun c6 => ?_) (fun c6 => ?_)
    · have hf := it_e hf c6
      exact h127 σ _ _ _ hf hW (lv_sub hl [] rfl)
    · have hf := ie_e hf c6
      refine lv_aload_n hx hb dX2_spread_70 rfl (lv_at hl 0 rfl) ?_
      refine get_2_0 X hW kC_97 iC_97 inX2_spread_2 (List.mem_of_getElem? (i := 6) rfl) dX2_spread_71 ?_
      refine lv_iload hx hb dX2_spread_74 (lv_at hl 5 rfl) ?_
      obtain ⟨x7, hf⟩ := chk_e hf
      refine r_aald (j := 99 + 2 * v5.toNatClampNeg) X hW kC_98 iC_98 nC_98 (by decide) rfl x7 rfl dX2_spread_76 ?_
      obtain ⟨v108, e8, hf⟩ := nw_e hf
      refine tR _ e8 ?_
      refine lv_astore (lv' := [(6, .ref (ad v108)), (0, .ref (ad 97)), (1, .ref (ad v1)), (2, .int v2), (3, .int v3), (4, .ref (ad v4)), (5, .int v5)]) hx hb dX2_spread_77 hl (by decide) rfl (fun ls hl => ?_)
      refine lv_aload hx hb dX2_spread_79 (lv_at hl 5 rfl) ?_
      refine lv_aload hx hb dX2_spread_81 (lv_at hl 0 rfl) ?_
      obtain ⟨q10, hf⟩ := chk_e hf
      obtain ⟨i10, k10⟩ := kOK_e q10
      obtain ⟨r9, z9, hf⟩ := bnd_e hf
      refine r_cVv X hW k10 i10 rfl (c_X0_become l D cA ad hij σ v4 v108 r9 z9) gX2_spread_X0_become rfl ⟨rfl, rfl⟩ hd_X0_become ⟨by show _ ≤ _; simp only [rm_X2_spread, rm_X0_become]; omega, by show _ ≤ _; simp only [rm_X2_spread, rm_X0_become]; omega⟩ rfl (Nat.le_of_ble_eq_true rfl) hl.1 dX2_spread_83 (fun H locs hW => ?_)
      refine lv_aload_n hx hb dX2_spread_86 rfl (lv_at hl 1 rfl) ?_
      refine lv_aload hx hb dX2_spread_87 (lv_at hl 0 rfl) ?_
      refine lv_aload_n hx hb dX2_spread_89 rfl (lv_at hl 2 rfl) ?_
      refine lv_iconst (v := 2) hx hb dX2_spread_90 (by decide) ?_
      refine lv_iload_n hx hb dX2_spread_91 rfl (lv_at hl 3 rfl) ?_
      refine lv_imul hx hb dX2_spread_92 ?_
      obtain ⟨r11, z11, hf⟩ := bnd_e hf
      refine r_cVi X hW kC_97 iC_97 rfl (c_X2_staysGood l D cA ad hij r9 v108 v1 (2 * v2) r11 z11) gX2_spread_X2_staysGood rfl ⟨rfl, rfl⟩ hd_X2_staysGood ⟨by show _ ≤ _; simp only [rm_X2_spread, rm_X2_staysGood]; omega, by show _ ≤ _; simp only [rm_X2_spread, rm_X2_staysGood]; omega⟩ rfl (Nat.le_of_ble_eq_true rfl) hl.1 dX2_spread_93 (fun H locs hW => ?_)
      refine lv_if_eq (tgt := 114) hx hb dX2_spread_96 (by decide) (fun c12 => ?_) (fun c12 => ?_)
      · have hf := it_e hf c12
        refine b_X2_spread_114 X hrec (fun w16_0 w17_1 w18_2 w19_3 w20_4 σ21 H locs ls hf hW hl => ?_) v1 v2 v3 v4 v5 v108 r11.2 _ _ _ hf hW (lv_sub hl [1, 2, 3, 4, 5, 6, 0] rfl)
        · exact ih w16_0 w17_1 w18_2 w19_3 w20_4 σ21 _ _ _ hf hW (lv_sub hl [0, 1, 2, 3, 4, 5] rfl)
      · have hf := ie_e hf c12
        refine lv_aload_n hx hb dX2_spread_99 rfl (lv_at hl 1 rfl) ?_
        refine lv_aload_n hx hb dX2_spread_100 rfl (lv_at hl 2 rfl) ?_
        refine lv_iload_n hx hb dX2_spread_101 rfl (lv_at hl 3 rfl) ?_
        refine lv_iconst (v := 1) hx hb dX2_spread_102 (by decide) ?_
        refine lv_iadd hx hb dX2_spread_103 ?_
        refine lv_bipush (v := 10) hx hb dX2_spread_104 (by decide) ?_
        refine lv_iload_n hx hb dX2_spread_106 rfl (lv_at hl 4 rfl) ?_
        refine lv_imul hx hb dX2_spread_107 ?_
        refine lv_iload hx hb dX2_spread_108 (lv_at hl 6 rfl) ?_
        refine lv_iadd hx hb dX2_spread_110 ?_
        obtain ⟨r22, z22, hf⟩ := bnd_e hf
        refine r_cSv X hW (hrec r11.2 v1 (v2 + 1) ((10 * v3) + v5) r22 z22) gX2_spread_X2_spread rfl ⟨rfl, rfl⟩ hd_X2_spread (by unfold rm_X2_spread; exact ⟨by simp only []; omega, by simp only []; omega⟩) rfl (Nat.le_of_ble_eq_true rfl) hl.1 dX2_spread_111 (fun H locs hW => ?_)
        refine b_X2_spread_114 X hrec (fun w23_0 w24_1 w25_2 w26_3 w27_4 σ28 H locs ls hf hW hl => ?_) v1 v2 v3 v4 v5 v108 r22 _ _ _ hf hW (lv_sub hl [1, 2, 3, 4, 5, 6, 0] rfl)
        · exact ih w23_0 w24_1 w25_2 w26_3 w27_4 σ28 _ _ _ hf hW (lv_sub hl [0, 1, 2, 3, 4, 5] rfl)
noncomputable def f_X2_spread_26 (kr : St → Nat → Int32 → Int32 → Option (St)) (s0 : Nat) (s1 : Int32) (σ : St) : Option (St) := chk (kOK SC s0 2) <| nw (uI σ s0 6 s1) fun σ32 => nw (uI σ32 97 5 ((σ32.1 97 5) + 1)) fun σ33 => some σ33
set_option maxHeartbeats 4000000 in
set_option maxRecDepth 100000 in
theorem b_X2_spread_26 {kr : St → Nat → Int32 → Int32 → Option (St)} (X : Cx RX2 wsX2_spread cX2_spread 7 none D cA ad SC p s m args meth c) (hrec : ∀ (σ : St) (b1 : Nat) (b2 : Int32) (b3 : Int32) (r : St), kr σ b1 b2 b3 = some r → Met l yX2_spread wsX2_spread (rm_X2_spread nR) (PC D cA ad SC [.ref (ad 97), .ref (ad b1), .int b2, .int b3] σ) (Qv D cA ad SC r) 0 0 (Aw ad SC)) : ∀ (s0 : Nat) (s1 : Int32) (σ : St) (H : Heap) (locs : List Loc) (ls : Array Slot), f_X2_spread_26 kr s0 s1 σ = some r → Rn D cA ad SC s.heap σ H locs → lv_has ls 7 [(0, .ref (ad 97))] → W p l e (rm_X2_spread (nR + 1)) s m args below meth c H locs 0 0 (MQ below (Qv D cA ad SC r) args s 0 0 (Aw ad SC)) (F0 m 26 ls [.int s1, .ref (ad s0)]) := by
  obtain ⟨hx, hb, hml, hown, hts, hr, hlk, hK, hij⟩ := id X
  intro s0 s1 σ H locs ls hf hW hl
  rw [f_X2_spread_26] at hf
  obtain ⟨q31, hf⟩ := chk_e hf
  obtain ⟨i31, k31⟩ := kOK_e q31
  obtain ⟨σ32, e32, hf⟩ := nw_e hf
  refine put_2_6 X hW k31 i31 inX2_spread_2 (List.mem_of_getElem? (i := 3) rfl) e32 dX2_spread_26 (fun H locs hW => ?_)
  refine lv_aload_n hx hb dX2_spread_29 rfl (lv_at hl 0 rfl) ?_
  refine lv_dup hx hb dX2_spread_30 rfl ?_
  refine get_2_5 X hW kC_97 iC_97 inX2_spread_2 (List.mem_of_getElem? (i := 2) rfl) dX2_spread_31 ?_
  refine lv_iconst (v := 1) hx hb dX2_spread_34 (by decide) ?_
  refine lv_iadd hx hb dX2_spread_35 ?_
  obtain ⟨σ33, e33, hf⟩ := nw_e hf
  refine put_2_5 X hW kC_97 iC_97 inX2_spread_2 (List.mem_of_getElem? (i := 2) rfl) e33 dX2_spread_36 (fun H locs hW => ?_)
  exact r_vret X hW rfl hf dX2_spread_39
end S_X2_spread
noncomputable def f_X2_spread : Nat → St → Nat → Int32 → Int32 → Option (St)
  | 0, _, _, _, _ => none
  | nR + 1, σ, a1, a2, a3 => (fun kr => chk (kOK SC a1 4) <| (if (2 * a2) < (σ.1 a1 4) then (if a2 < 5 then chk (inb a2 5) <| nw (112 + 2 * a2.toNatClampNeg : Nat) fun v105 => f_X2_spread_61 kr (fun  (σ29 : St) => some σ29) fu a1 a2 a3 v105 0 σ else some σ) else (if (σ.1 97 5) = 0 then f_X2_spread_26 kr 97 a3 σ else f_X2_spread_26 kr 97 (σ.1 97 6) σ))) (f_X2_spread nR)
set_option maxHeartbeats 4000000 in
set_option maxRecDepth 100000 in
theorem c_X2_spread (l : Launch) (D : va_G) (cA : Nat → ClassId) (ad : Nat → Nat) (hij : Ij ad SC) : ∀ (nR : Nat) (σ : St) (a1 : Nat) (a2 : Int32) (a3 : Int32) (r : St) (_ : f_X2_spread nR σ a1 a2 a3 = some r), Met l yX2_spread wsX2_spread (rm_X2_spread nR) (PC D cA ad SC [.ref (ad 97), .ref (ad a1), .int a2, .int a3] σ) (Qv D cA ad SC r) 0 0 (Aw ad SC) := by
  intro nR
  induction nR with
  | zero =>
    intro σ a1 a2 a3 r hf
    exact nomatch (show (none : Option (St)) = some r from hf)
  | succ nR ihR =>
    intro σ a1 a2 a3 r hf
    have hrec := ihR
    rw [f_X2_spread] at hf
    generalize f_X2_spread nR = kr at hf hrec
    have hf : (chk (kOK SC a1 4) <| (if (2 * a2) < (σ.1 a1 4) then (if a2 < 5 then chk (inb a2 5) <| nw (112 + 2 * a2.toNatClampNeg : Nat) fun v105 => f_X2_spread_61 kr (fun  (σ29 : St) => some σ29) fu a1 a2 a3 v105 0 σ else some σ) else (if (σ.1 97 5) = 0 then f_X2_spread_26 kr 97 a3 σ else f_X2_spread_26 kr 97 (σ.1 97 6) σ))) = some r := hf
    refine k_head (own := RX2) (ws := wsX2_spread) (cc := cX2_spread) (nL := 7) (ret := none) pn_X2 rfl rfl hij (Nat.le_of_ble_eq_true rfl) (fun p e s m below meth c ls X hW hl => ?_)
    have hl : lv_has ls 7 [(0, .ref (ad 97)), (1, .ref (ad a1)), (2, .int a2), (3, .int a3)] := hl
    obtain ⟨hx, hb, hml, hown, hts, hr, hlk, hK, hij⟩ := id X
    refine lv_iconst (v := 2) hx hb dX2_spread_0 (by decide) ?_
    refine lv_iload_n hx hb dX2_spread_1 rfl (lv_at hl 2 rfl) ?_
    refine lv_imul hx hb dX2_spread_2 ?_
    refine lv_aload_n hx hb dX2_spread_3 rfl (lv_at hl 1 rfl) ?_
    obtain ⟨q1, hf⟩ := chk_e hf
    obtain ⟨i1, k1⟩ := kOK_e q1
    refine get_4_4 X hW k1 i1 inX2_spread_4 (List.mem_of_getElem? (i := 1) rfl) dX2_spread_4 ?_
    refine lv_icmp_lt (tgt := 40) hx hb dX2_spread_7 (by decide) (fun c2 => ?_) (fun c2 => ?_)
    · have hf := it_e hf c2
      refine lv_iload_n hx hb dX2_spread_40 rfl (lv_at hl 2 rfl) ?_
      refine lv_aload_n hx hb dX2_spread_41 rfl (lv_at hl 0 rfl) ?_
      refine get_2_1 X hW kC_97 iC_97 inX2_spread_2 (List.mem_of_getElem? (i := 4) rfl) dX2_spread_42 ?_
      refine r_alenR (v := 5) X hW kC_111 iC_111 nC_111 (by decide) (by decide) dX2_spread_45 ?_
      refine lv_icmp_lt (tgt := 50) hx hb dX2_spread_46 (by decide) (fun c3 => ?_) (fun c3 => ?_)
      · have hf := it_e hf c3
        refine lv_aload_n hx hb dX2_spread_50 rfl (lv_at hl 0 rfl) ?_
        refine get_2_1 X hW kC_97 iC_97 inX2_spread_2 (List.mem_of_getElem? (i := 4) rfl) dX2_spread_51 ?_
        refine lv_iload_n hx hb dX2_spread_54 rfl (lv_at hl 2 rfl) ?_
        obtain ⟨x4, hf⟩ := chk_e hf
        refine r_aald (j := 112 + 2 * a2.toNatClampNeg) X hW kC_111 iC_111 nC_111 (by decide) rfl x4 rfl dX2_spread_55 ?_
        obtain ⟨v105, e5, hf⟩ := nw_e hf
        refine tR _ e5 ?_
        refine lv_astore (lv' := [(4, .ref (ad v105)), (0, .ref (ad 97)), (1, .ref (ad a1)), (2, .int a2), (3, .int a3)]) hx hb dX2_spread_56 hl (by decide) rfl (fun ls hl => ?_)
        refine lv_iconst (v := 0) hx hb dX2_spread_58 (by decide) ?_
        refine lv_istore (lv' := [(5, .int 0), (4, .ref (ad v105)), (0, .ref (ad 97)), (1, .ref (ad a1)), (2, .int a2), (3, .int a3)]) hx hb dX2_spread_59 hl (by decide) rfl (fun ls hl => ?_)
        refine b_X2_spread_61 X hrec (fun σ29 H locs ls hf hW hl => ?_) fu a1 a2 a3 v105 0 σ _ _ _ hf hW (lv_sub hl [2, 3, 4, 5, 1, 0] rfl)
        · exact r_vret X hW rfl hf dX2_spread_127
      · have hf := ie_e hf c3
        exact r_vret X hW rfl hf dX2_spread_49
    · have hf := ie_e hf c2
      refine lv_aload_n hx hb dX2_spread_10 rfl (lv_at hl 0 rfl) ?_
      refine lv_aload_n hx hb dX2_spread_11 rfl (lv_at hl 0 rfl) ?_
      refine get_2_5 X hW kC_97 iC_97 inX2_spread_2 (List.mem_of_getElem? (i := 2) rfl) dX2_spread_12 ?_
      refine lv_if_ne (tgt := 22) hx hb dX2_spread_15 (by decide) (fun c30 => ?_) (fun c30 => ?_)
      · have hf := ie_e hf c30
        refine lv_aload_n hx hb dX2_spread_22 rfl (lv_at hl 0 rfl) ?_
        refine get_2_6 X hW kC_97 iC_97 inX2_spread_2 (List.mem_of_getElem? (i := 3) rfl) dX2_spread_23 ?_
        exact b_X2_spread_26 X hrec 97 (σ.1 97 6) σ _ _ _ hf hW (lv_sub hl [0] rfl)
      · have hf := it_e hf c30
        refine lv_iload_n hx hb dX2_spread_18 rfl (lv_at hl 3 rfl) ?_
        refine lv_goto (tgt := 26) hx hb dX2_spread_19 (by decide) ?_
        exact b_X2_spread_26 X hrec 97 a3 σ _ _ _ hf hW (lv_sub hl [0] rfl)

abbrev rm_X2_countWays : Room := { frames := 12, cells := 0, slots := 0, locals := 578 }
theorem hd_X2_countWays : yX2_countWays.cls = RX2 ∧ yX2_countWays.cls ≠ "java/lang/invoke/MethodHandle" ∧ yX2_countWays.cls ≠ "java/lang/invoke/VarHandle" ∧ (parseMethodDescriptor yX2_countWays.desc).map (fun d => d.parameters.length) = some 1 := by decide +kernel
theorem inX2_countWays_2 : ∀ w ∈ wsX20, w ∈ wsX2_countWays := fun _ h => List.mem_cons_of_mem _ (List.mem_append_left _ (List.mem_append_left _ (List.mem_append_right _ h)))
theorem inX2_countWays_4 : ∀ w ∈ wsX40, w ∈ wsX2_countWays := fun _ h => List.mem_cons_of_mem _ (List.mem_append_left _ (List.mem_append_right _ h))
theorem inX2_countWays_0 : ∀ w ∈ wsX00, w ∈ wsX2_countWays := fun _ h => List.mem_cons_of_mem _ (List.mem_append_right _ h)
section S_X2_countWays
variable {p : Program} {l : Launch} {e : Env} {s : State} {m : MethodId} {args : Array Value} {below : List Frame} {meth : Method} {c : Code} {D : va_G} {cA : Nat → ClassId} {ad : Nat → Nat} {r : St}
end S_X2_countWays
noncomputable def f_X2_countWays (σ : St) (a1 : Nat) : Option (St) := nw (uI σ 97 5 0) fun σ1 => nw (uI σ1 97 6 ((-4))) fun σ2 => bnd (f_X2_spread fuS σ2 a1 0 0) fun r3 => some r3
set_option maxHeartbeats 4000000 in
set_option maxRecDepth 100000 in
theorem c_X2_countWays (l : Launch) (D : va_G) (cA : Nat → ClassId) (ad : Nat → Nat) (hij : Ij ad SC) (σ : St) (a1 : Nat) (r : St) (hf : f_X2_countWays σ a1 = some r) : Met l yX2_countWays wsX2_countWays rm_X2_countWays (PC D cA ad SC [.ref (ad 97), .ref (ad a1)] σ) (Qv D cA ad SC r) 0 0 (Aw ad SC) := by
  rw [f_X2_countWays] at hf
  refine k_head (own := RX2) (ws := wsX2_countWays) (cc := cX2_countWays) (nL := 2) (ret := none) pn_X2 rfl rfl hij (Nat.le_of_ble_eq_true rfl) (fun p e s m below meth c ls X hW hl => ?_)
  have hl : lv_has ls 2 [(0, .ref (ad 97)), (1, .ref (ad a1))] := hl
  obtain ⟨hx, hb, hml, hown, hts, hr, hlk, hK, hij⟩ := id X
  refine lv_aload_n hx hb dX2_countWays_0 rfl (lv_at hl 0 rfl) ?_
  refine lv_iconst (v := 0) hx hb dX2_countWays_1 (by decide) ?_
  obtain ⟨σ1, e1, hf⟩ := nw_e hf
  refine put_2_5 X hW kC_97 iC_97 inX2_countWays_2 (List.mem_of_getElem? (i := 1) rfl) e1 dX2_countWays_2 (fun H locs hW => ?_)
  refine lv_aload_n hx hb dX2_countWays_5 rfl (lv_at hl 0 rfl) ?_
  refine lv_bipush (v := (-4)) hx hb dX2_countWays_6 (by decide) ?_
  obtain ⟨σ2, e2, hf⟩ := nw_e hf
  refine put_2_6 X hW kC_97 iC_97 inX2_countWays_2 (List.mem_of_getElem? (i := 2) rfl) e2 dX2_countWays_8 (fun H locs hW => ?_)
  refine lv_aload_n hx hb dX2_countWays_11 rfl (lv_at hl 0 rfl) ?_
  refine lv_aload_n hx hb dX2_countWays_12 rfl (lv_at hl 1 rfl) ?_
  refine lv_iconst (v := 0) hx hb dX2_countWays_13 (by decide) ?_
  refine lv_iconst (v := 0) hx hb dX2_countWays_14 (by decide) ?_
  obtain ⟨r3, z3, hf⟩ := bnd_e hf
  refine r_cSv X hW (c_X2_spread l D cA ad hij fuS σ2 a1 0 0 r3 z3) gX2_countWays_X2_spread rfl ⟨rfl, rfl⟩ hd_X2_spread ⟨Nat.le_of_ble_eq_true rfl, Nat.le_of_ble_eq_true rfl⟩ rfl (Nat.le_of_ble_eq_true rfl) hl.1 dX2_countWays_15 (fun H locs hW => ?_)
  exact r_vret X hW rfl hf dX2_countWays_18
