abbrev rm_X5_isNoTaste : Room := { frames := 0, cells := 0, slots := 0, locals := 0 }
theorem hd_X5_isNoTaste : yX5_isNoTaste.cls = RX5 ∧ yX5_isNoTaste.cls ≠ "java/lang/invoke/MethodHandle" ∧ yX5_isNoTaste.cls ≠ "java/lang/invoke/VarHandle" ∧ (parseMethodDescriptor yX5_isNoTaste.desc).map (fun d => d.parameters.length) = some 1 := by decide +kernel
section S_X5_isNoTaste
variable {p : Program} {l : Launch} {e : Env} {s : State} {m : MethodId} {args : Array Value} {below : List Frame} {meth : Method} {c : Code} {D : va_G} {cA : Nat → ClassId} {ad : Nat → Nat} {r : Int32}
end S_X5_isNoTaste
def f_X5_isNoTaste (a0 : Int32) : Option (Int32) := (if a0 < 0 then some 1 else (if a0 < 4 then some 0 else some 1))
set_option maxHeartbeats 4000000 in
set_option maxRecDepth 100000 in
theorem c_X5_isNoTaste (l : Launch) (D : va_G) (cA : Nat → ClassId) (ad : Nat → Nat) (hij : Ij ad SC) (σ : St) (a0 : Int32) (r : Int32) (hf : f_X5_isNoTaste a0 = some r) : Met l yX5_isNoTaste wsX5_isNoTaste rm_X5_isNoTaste (PC D cA ad SC [.int a0] σ) (Qi D cA ad SC (r, σ)) 0 0 (Aw ad SC) := by
  rw [f_X5_isNoTaste] at hf
  refine k_head (own := RX5) (ws := wsX5_isNoTaste) (cc := cX5_isNoTaste) (nL := 1) (ret := (some .boolean)) (by decide) rfl rfl hij (Nat.le_of_ble_eq_true rfl) (fun p e s m below meth c ls X hW hl => ?_)
  have hl : lv_has ls 1 [(0, .int a0)] := hl
  obtain ⟨hx, hb, hml, hown, hts, hr, hlk, hK, hij⟩ := id X
  refine lv_iload_n hx hb dX5_isNoTaste_0 rfl (lv_at hl 0 rfl) ?_
  refine lv_if_lt (tgt := 9) hx hb dX5_isNoTaste_1 (by decide) (fun c1 => ?_) (fun c1 => ?_)
  · have hf := it_e hf c1
    refine lv_iconst (v := 1) hx hb dX5_isNoTaste_9 (by decide) ?_
    refine lv_goto (tgt := 14) hx hb dX5_isNoTaste_10 (by decide) ?_
    exact r_iretR X hW rfl (by decide) hf dX5_isNoTaste_14
  · have hf := ie_e hf c1
    refine lv_iload_n hx hb dX5_isNoTaste_4 rfl (lv_at hl 0 rfl) ?_
    refine lv_iconst (v := 4) hx hb dX5_isNoTaste_5 (by decide) ?_
    refine lv_icmp_lt (tgt := 13) hx hb dX5_isNoTaste_6 (by decide) (fun c2 => ?_) (fun c2 => ?_)
    · have hf := it_e hf c2
      refine lv_iconst (v := 0) hx hb dX5_isNoTaste_13 (by decide) ?_
      exact r_iretR X hW rfl (by decide) hf dX5_isNoTaste_14
    · have hf := ie_e hf c2
      refine lv_iconst (v := 1) hx hb dX5_isNoTaste_9 (by decide) ?_
      refine lv_goto (tgt := 14) hx hb dX5_isNoTaste_10 (by decide) ?_
      exact r_iretR X hW rfl (by decide) hf dX5_isNoTaste_14

abbrev rm_X5_kindIn : Room := { frames := 0, cells := 0, slots := 0, locals := 0 }
theorem hd_X5_kindIn : yX5_kindIn.cls = RX5 ∧ yX5_kindIn.cls ≠ "java/lang/invoke/MethodHandle" ∧ yX5_kindIn.cls ≠ "java/lang/invoke/VarHandle" ∧ (parseMethodDescriptor yX5_kindIn.desc).map (fun d => d.parameters.length) = some 2 := by decide +kernel
section S_X5_kindIn
variable {p : Program} {l : Launch} {e : Env} {s : State} {m : MethodId} {args : Array Value} {below : List Frame} {meth : Method} {c : Code} {D : va_G} {cA : Nat → ClassId} {ad : Nat → Nat} {r : Int32}
end S_X5_kindIn
def f_X5_kindIn (a0 : Int32) (a1 : Int32) : Option (Int32) := some ((a0 >>> ((3 * a1) &&& 31)) &&& 7)
set_option maxHeartbeats 4000000 in
set_option maxRecDepth 100000 in
theorem c_X5_kindIn (l : Launch) (D : va_G) (cA : Nat → ClassId) (ad : Nat → Nat) (hij : Ij ad SC) (σ : St) (a0 : Int32) (a1 : Int32) (r : Int32) (hf : f_X5_kindIn a0 a1 = some r) : Met l yX5_kindIn wsX5_kindIn rm_X5_kindIn (PC D cA ad SC [.int a0, .int a1] σ) (Qi D cA ad SC (r, σ)) 0 0 (Aw ad SC) := by
  rw [f_X5_kindIn] at hf
  refine k_head (own := RX5) (ws := wsX5_kindIn) (cc := cX5_kindIn) (nL := 2) (ret := (some .int)) (by decide) rfl rfl hij (Nat.le_of_ble_eq_true rfl) (fun p e s m below meth c ls X hW hl => ?_)
  have hl : lv_has ls 2 [(0, .int a0), (1, .int a1)] := hl
  obtain ⟨hx, hb, hml, hown, hts, hr, hlk, hK, hij⟩ := id X
  refine lv_iload_n hx hb dX5_kindIn_0 rfl (lv_at hl 0 rfl) ?_
  refine lv_iconst (v := 3) hx hb dX5_kindIn_1 (by decide) ?_
  refine lv_iload_n hx hb dX5_kindIn_2 rfl (lv_at hl 1 rfl) ?_
  refine lv_imul hx hb dX5_kindIn_3 ?_
  refine lv_ishr hx hb dX5_kindIn_4 ?_
  refine lv_bipush (v := 7) hx hb dX5_kindIn_5 (by decide) ?_
  refine lv_iand hx hb dX5_kindIn_7 ?_
  exact r_iretR X hW rfl rfl hf dX5_kindIn_8

abbrev rm_X5_codesOf : Room := { frames := 0, cells := 0, slots := 0, locals := 0 }
theorem hd_X5_codesOf : yX5_codesOf.cls = RX5 ∧ yX5_codesOf.cls ≠ "java/lang/invoke/MethodHandle" ∧ yX5_codesOf.cls ≠ "java/lang/invoke/VarHandle" ∧ (parseMethodDescriptor yX5_codesOf.desc).map (fun d => d.parameters.length) = some 1 := by decide +kernel
section S_X5_codesOf
variable {p : Program} {l : Launch} {e : Env} {s : State} {m : MethodId} {args : Array Value} {below : List Frame} {meth : Method} {c : Code} {D : va_G} {cA : Nat → ClassId} {ad : Nat → Nat} {r : Int32}
end S_X5_codesOf
def f_X5_codesOf (a0 : Int32) : Option (Int32) := some (1 <<< ((3 * a0) &&& 31))
set_option maxHeartbeats 4000000 in
set_option maxRecDepth 100000 in
theorem c_X5_codesOf (l : Launch) (D : va_G) (cA : Nat → ClassId) (ad : Nat → Nat) (hij : Ij ad SC) (σ : St) (a0 : Int32) (r : Int32) (hf : f_X5_codesOf a0 = some r) : Met l yX5_codesOf wsX5_codesOf rm_X5_codesOf (PC D cA ad SC [.int a0] σ) (Qi D cA ad SC (r, σ)) 0 0 (Aw ad SC) := by
  rw [f_X5_codesOf] at hf
  refine k_head (own := RX5) (ws := wsX5_codesOf) (cc := cX5_codesOf) (nL := 1) (ret := (some .int)) (by decide) rfl rfl hij (Nat.le_of_ble_eq_true rfl) (fun p e s m below meth c ls X hW hl => ?_)
  have hl : lv_has ls 1 [(0, .int a0)] := hl
  obtain ⟨hx, hb, hml, hown, hts, hr, hlk, hK, hij⟩ := id X
  refine lv_iconst (v := 1) hx hb dX5_codesOf_0 (by decide) ?_
  refine lv_iconst (v := 3) hx hb dX5_codesOf_1 (by decide) ?_
  refine lv_iload_n hx hb dX5_codesOf_2 rfl (lv_at hl 0 rfl) ?_
  refine lv_imul hx hb dX5_codesOf_3 ?_
  refine lv_ishl hx hb dX5_codesOf_4 ?_
  exact r_iretR X hW rfl rfl hf dX5_codesOf_5

abbrev rm_X4_hasElement : Room := { frames := 0, cells := 0, slots := 0, locals := 0 }
theorem hd_X4_hasElement : yX4_hasElement.cls = RX4 ∧ yX4_hasElement.cls ≠ "java/lang/invoke/MethodHandle" ∧ yX4_hasElement.cls ≠ "java/lang/invoke/VarHandle" ∧ (parseMethodDescriptor yX4_hasElement.desc).map (fun d => d.parameters.length) = some 1 := by decide +kernel
theorem inX4_hasElement_4 : ∀ w ∈ wsX40, w ∈ wsX4_hasElement := fun _ h => List.mem_cons_of_mem _ (List.mem_append_right _ h)
section S_X4_hasElement
variable {p : Program} {l : Launch} {e : Env} {s : State} {m : MethodId} {args : Array Value} {below : List Frame} {meth : Method} {c : Code} {D : va_G} {cA : Nat → ClassId} {ad : Nat → Nat} {r : Int32}
end S_X4_hasElement
def f_X4_hasElement (σ : St) (a0 : Nat) (a1 : Int32) : Option (Int32) := (if a1 < 0 then some 0 else chk (kOK SC a0 4) <| (if (σ.1 a0 4) ≤ a1 then some 0 else some 1))
set_option maxHeartbeats 4000000 in
set_option maxRecDepth 100000 in
theorem c_X4_hasElement (l : Launch) (D : va_G) (cA : Nat → ClassId) (ad : Nat → Nat) (hij : Ij ad SC) (σ : St) (a0 : Nat) (a1 : Int32) (r : Int32) (hf : f_X4_hasElement σ a0 a1 = some r) : Met l yX4_hasElement wsX4_hasElement rm_X4_hasElement (PC D cA ad SC [.ref (ad a0), .int a1] σ) (Qi D cA ad SC (r, σ)) 0 0 (Aw ad SC) := by
  rw [f_X4_hasElement] at hf
  refine k_head (own := RX4) (ws := wsX4_hasElement) (cc := cX4_hasElement) (nL := 2) (ret := (some .boolean)) (by decide) rfl rfl hij (Nat.le_of_ble_eq_true rfl) (fun p e s m below meth c ls X hW hl => ?_)
  have hl : lv_has ls 2 [(0, .ref (ad a0)), (1, .int a1)] := hl
  obtain ⟨hx, hb, hml, hown, hts, hr, hlk, hK, hij⟩ := id X
  refine lv_iload_n hx hb dX4_hasElement_0 rfl (lv_at hl 1 rfl) ?_
  refine lv_if_lt (tgt := 16) hx hb dX4_hasElement_1 (by decide) (fun c1 => ?_) (fun c1 => ?_)
  · have hf := it_e hf c1
    refine lv_iconst (v := 0) hx hb dX4_hasElement_16 (by decide) ?_
    exact r_iretR X hW rfl (by decide) hf dX4_hasElement_17
  · have hf := ie_e hf c1
    refine lv_iload_n hx hb dX4_hasElement_4 rfl (lv_at hl 1 rfl) ?_
    refine lv_aload_n hx hb dX4_hasElement_5 rfl (lv_at hl 0 rfl) ?_
    obtain ⟨q2, hf⟩ := chk_e hf
    obtain ⟨i2, k2⟩ := kOK_e q2
    refine get_4_4 X hW k2 i2 inX4_hasElement_4 (List.mem_of_getElem? (i := 1) rfl) dX4_hasElement_6 ?_
    refine lv_icmp_ge (tgt := 16) hx hb dX4_hasElement_9 (by decide) (fun c3 => ?_) (fun c3 => ?_)
    · have hf := it_e hf c3
      refine lv_iconst (v := 0) hx hb dX4_hasElement_16 (by decide) ?_
      exact r_iretR X hW rfl (by decide) hf dX4_hasElement_17
    · have hf := ie_e hf c3
      refine lv_iconst (v := 1) hx hb dX4_hasElement_12 (by decide) ?_
      refine lv_goto (tgt := 17) hx hb dX4_hasElement_13 (by decide) ?_
      exact r_iretR X hW rfl (by decide) hf dX4_hasElement_17
