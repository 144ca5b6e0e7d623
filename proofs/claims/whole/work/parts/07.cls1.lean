abbrev rm_X5_back : Room := { frames := 2, cells := 0, slots := 0, locals := 47 }
theorem hd_X5_back : yX5_back.cls = RX5 ∧ yX5_back.cls ≠ "java/lang/invoke/MethodHandle" ∧ yX5_back.cls ≠ "java/lang/invoke/VarHandle" ∧ (parseMethodDescriptor yX5_back.desc).map (fun d => d.parameters.length) = some 2 := by decide +kernel
theorem inX5_back_5 : ∀ w ∈ wsX50, w ∈ wsX5_back := fun _ h => List.mem_cons_of_mem _ (List.mem_append_left _ (List.mem_append_left _ (List.mem_append_left _ (List.mem_append_right _ h))))
theorem inX5_back_1 : ∀ w ∈ wsX10, w ∈ wsX5_back := fun _ h => List.mem_cons_of_mem _ (List.mem_append_left _ (List.mem_append_left _ (List.mem_append_right _ h)))
theorem inX5_back_3 : ∀ w ∈ wsX30, w ∈ wsX5_back := fun _ h => List.mem_cons_of_mem _ (List.mem_append_left _ (List.mem_append_right _ h))
theorem inX5_back_0 : ∀ w ∈ wsX00, w ∈ wsX5_back := fun _ h => List.mem_cons_of_mem _ (List.mem_append_right _ h)
section S_X5_back
variable {p : Program} {l : Launch} {e : Env} {s : State} {m : MethodId} {args : Array Value} {below : List Frame} {meth : Method} {c : Code} {D : va_G} {cA : Nat → ClassId} {ad : Nat → Nat} {r : Int32}
noncomputable def f_X5_back_33 (σ : St) (k73 : Int32 → Option (Int32)) : Nat → Int32 → Nat → Int32 → Option (Int32)
  | 0, _, _, _ => none
  | n + 1, v2, v3, v4 => chk (kOK SC v3 3) <| chk (kOK SC (v3 + 1) 0) <| (if (σ.1 (v3 + 1) 2) ≤ v4 then k73 v4 else bnd (f_X3_leftAbove σ v3 v4) fun r10 => bnd (f_X5_powerOfNine v4) fun r11 => (if (lg_cmp (100 * r10) (v2.toInt64 * r11)) < 0 then k73 v4 else nw (v4 + 1 : Int32) fun v113 => f_X5_back_33 σ k73 n v2 v3 v113))
set_option maxHeartbeats 4000000 in
set_option maxRecDepth 100000 in
theorem b_X5_back_33 {σ : St} {k73 : Int32 → Option (Int32)} (X : Cx RX5 wsX5_back cX5_back 5 (some .int) D cA ad SC p s m args meth c) (h73 : ∀ (w0 : Int32) (H : Heap) (locs : List Loc) (ls : Array Slot), k73 w0 = some r → Rn D cA ad SC s.heap σ H locs → lv_has ls 5 [(4, .int w0)] → W p l e rm_X5_back s m args below meth c H locs 0 0 (MQ below (Qi D cA ad SC (r, σ)) args s 0 0 (Aw ad SC)) (F0 m 73 ls [])) : ∀ (n : Nat) (v2 : Int32) (v3 : Nat) (v4 : Int32) (H : Heap) (locs : List Loc) (ls : Array Slot), f_X5_back_33 σ k73 n v2 v3 v4 = some r → Rn D cA ad SC s.heap σ H locs → lv_has ls 5 [(2, .int v2), (3, .ref (ad v3)), (4, .int v4)] → W p l e rm_X5_back s m args below meth c H locs 0 0 (MQ below (Qi D cA ad SC (r, σ)) args s 0 0 (Aw ad SC)) (F0 m 33 ls []) := by
  obtain ⟨hx, hb, hml, hown, hts, hr, hlk, hK, hij⟩ := id X
  intro n
  induction n with
  | zero =>
    intro v2 v3 v4 H locs ls hf
    exact nomatch (show (none : Option (Int32)) = some r from hf)
  | succ n ih =>
    intro v2 v3 v4 H locs ls hf hW hl
    rw [f_X5_back_33] at hf
    refine lv_iload hx hb dX5_back_33 (lv_at hl 2 rfl) ?_
    refine lv_aload_n hx hb dX5_back_35 rfl (lv_at hl 1 rfl) ?_
    obtain ⟨q7, hf⟩ := chk_e hf
    obtain ⟨i7, k7⟩ := kOK_e q7
    refine get_3_0 X hW k7 i7 inX5_back_3 (List.mem_of_getElem? (i := 3) rfl) dX5_back_36 ?_
    obtain ⟨q8, hf⟩ := chk_e hf
    obtain ⟨i8, k8⟩ := kOK_e q8
    refine get_0_2 X hW k8 i8 inX5_back_0 (List.mem_of_getElem? (i := 4) rfl) dX5_back_39 ?_
    refine lv_icmp_ge (tgt := 73) hx hb dX5_back_42 (by decide) (fun c9 => ?_) (fun c9 => ?_)
    · have hf := it_e hf c9
      exact h73 v4 _ _ _ hf hW (lv_sub hl [2] rfl)
    · have hf := ie_e hf c9
      refine lv_ldc2 (v := 100) hx hb hown (hts _ (List.mem_of_getElem? (i := 5) rfl)) dX5_back_45 ?_
      refine lv_aload_n hx hb dX5_back_48 rfl (lv_at hl 1 rfl) ?_
      refine lv_iload hx hb dX5_back_49 (lv_at hl 2 rfl) ?_
      obtain ⟨r10, z10, hf⟩ := bnd_e hf
      refine r_cVlR X hW k7 i7 rfl (c_X3_leftAbove l D cA ad hij σ v3 v4 r10 z10) gX5_back_X3_leftAbove rfl ⟨rfl, rfl⟩ hd_X3_leftAbove ⟨Nat.le_of_ble_eq_true rfl, Nat.le_of_ble_eq_true rfl⟩ rfl (Nat.le_of_ble_eq_true rfl) hl.1 dX5_back_51 (fun H locs hW => ?_)
      refine lv_lmul hx hb dX5_back_54 ?_
      refine lv_iload_n hx hb dX5_back_55 rfl (lv_at hl 0 rfl) ?_
      refine lv_i2l hx hb dX5_back_56 rfl ?_
      refine lv_iload hx hb dX5_back_57 (lv_at hl 2 rfl) ?_
      obtain ⟨r11, z11, hf⟩ := bnd_e hf
      refine r_cSlR X hW (c_X5_powerOfNine l D cA ad hij σ v4 r11 z11) gX5_back_X5_powerOfNine rfl ⟨rfl, rfl⟩ hd_X5_powerOfNine ⟨Nat.le_of_ble_eq_true rfl, Nat.le_of_ble_eq_true rfl⟩ rfl (Nat.le_of_ble_eq_true rfl) hl.1 dX5_back_59 (fun H locs hW => ?_)
      refine lv_lmul hx hb dX5_back_62 ?_
      refine W.lcmp hx hb dX5_back_63 ?_
      refine lv_if_lt (tgt := 73) hx hb dX5_back_64 (by decide) (fun c12 => ?_) (fun c12 => ?_)
      · have hf := it_e hf c12
        exact h73 v4 _ _ _ hf hW (lv_sub hl [2] rfl)
      · have hf := ie_e hf c12
        obtain ⟨v113, e13, hf⟩ := nw_e hf
        refine lv_iinc (v := v113) (lv' := [(4, .int v113), (2, .int v2), (3, .ref (ad v3))]) hx hb dX5_back_67 hl (k := 2) rfl (by rw [e13]; rfl) (by decide) rfl (fun ls hl => ?_)
        refine lv_goto (tgt := 33) hx hb dX5_back_70 (by decide) ?_
        exact ih v2 v3 v113 _ _ _ hf hW (lv_sub hl [1, 2, 0] rfl)
end S_X5_back
noncomputable def f_X5_back (σ : St) (a1 : Int32) (a2 : Int32) : Option (Int32) := bnd (f_X1_has σ 1 a1) fun r1 => (if r1 = 0 then some ((-1)) else bnd (f_X5_isNoHundredth a2) fun r3 => (if r3 = 0 then chk (inb a1 6) <| nw (3 + 5 * a1.toNatClampNeg : Nat) fun v106 => f_X5_back_33 σ (fun (w14_0 : Int32) => some w14_0) fu a2 v106 0 else some ((-1))))
set_option maxHeartbeats 4000000 in
set_option maxRecDepth 100000 in
theorem c_X5_back (l : Launch) (D : va_G) (cA : Nat → ClassId) (ad : Nat → Nat) (hij : Ij ad SC) (σ : St) (a1 : Int32) (a2 : Int32) (r : Int32) (hf : f_X5_back σ a1 a2 = some r) : Met l yX5_back wsX5_back rm_X5_back (PC D cA ad SC [.ref (ad 0), .int a1, .int a2] σ) (Qi D cA ad SC (r, σ)) 0 0 (Aw ad SC) := by
  rw [f_X5_back] at hf
  refine k_head (own := RX5) (ws := wsX5_back) (cc := cX5_back) (nL := 5) (ret := (some .int)) pn_X5 rfl rfl hij (Nat.le_of_ble_eq_true rfl) (fun p e s m below meth c ls X hW hl => ?_)
  have hl : lv_has ls 5 [(0, .ref (ad 0)), (1, .int a1), (2, .int a2)] := hl
  obtain ⟨hx, hb, hml, hown, hts, hr, hlk, hK, hij⟩ := id X
  refine lv_aload_n hx hb dX5_back_0 rfl (lv_at hl 0 rfl) ?_
  refine get_5_0 X hW kC_0 iC_0 inX5_back_5 (List.mem_of_getElem? (i := 1) rfl) dX5_back_1 ?_
  refine lv_iload_n hx hb dX5_back_4 rfl (lv_at hl 1 rfl) ?_
  obtain ⟨r1, z1, hf⟩ := bnd_e hf
  refine r_cViR X hW kC_1 iC_1 rfl (c_X1_has l D cA ad hij σ 1 a1 r1 z1) gX5_back_X1_has rfl ⟨rfl, rfl⟩ hd_X1_has ⟨Nat.le_of_ble_eq_true rfl, Nat.le_of_ble_eq_true rfl⟩ rfl (Nat.le_of_ble_eq_true rfl) hl.1 dX5_back_5 (fun H locs hW => ?_)
  refine lv_if_eq (tgt := 18) hx hb dX5_back_8 (by decide) (fun c2 => ?_) (fun c2 => ?_)
  · have hf := it_e hf c2
    refine lv_iconst (v := (-1)) hx hb dX5_back_18 (by decide) ?_
    exact r_iretR X hW rfl rfl hf dX5_back_19
  · have hf := ie_e hf c2
    refine lv_iload_n hx hb dX5_back_11 rfl (lv_at hl 2 rfl) ?_
    obtain ⟨r3, z3, hf⟩ := bnd_e hf
    refine r_cSiR X hW (c_X5_isNoHundredth l D cA ad hij σ a2 r3 z3) gX5_back_X5_isNoHundredth rfl ⟨rfl, rfl⟩ hd_X5_isNoHundredth ⟨Nat.le_of_ble_eq_true rfl, Nat.le_of_ble_eq_true rfl⟩ rfl (Nat.le_of_ble_eq_true rfl) hl.1 dX5_back_12 (fun H locs hW => ?_)
    refine lv_if_eq (tgt := 20) hx hb dX5_back_15 (by decide) (fun c4 => ?_) (fun c4 => ?_)
    · have hf := it_e hf c4
      refine lv_aload_n hx hb dX5_back_20 rfl (lv_at hl 0 rfl) ?_
      refine get_5_0 X hW kC_0 iC_0 inX5_back_5 (List.mem_of_getElem? (i := 1) rfl) dX5_back_21 ?_
      refine get_1_0 X hW kC_1 iC_1 inX5_back_1 (List.mem_of_getElem? (i := 2) rfl) dX5_back_24 ?_
      refine lv_iload_n hx hb dX5_back_27 rfl (lv_at hl 1 rfl) ?_
      obtain ⟨x5, hf⟩ := chk_e hf
      refine r_aald (j := 3 + 5 * a1.toNatClampNeg) X hW kC_2 iC_2 nC_2 (by decide) rfl x5 rfl dX5_back_28 ?_
      obtain ⟨v106, e6, hf⟩ := nw_e hf
      refine tR _ e6 ?_
      refine lv_astore_n (lv' := [(3, .ref (ad v106)), (0, .ref (ad 0)), (1, .int a1), (2, .int a2)]) hx hb dX5_back_29 rfl hl (by decide) rfl (fun ls hl => ?_)
      refine lv_iconst (v := 0) hx hb dX5_back_30 (by decide) ?_
      refine lv_istore (lv' := [(4, .int 0), (3, .ref (ad v106)), (0, .ref (ad 0)), (1, .int a1), (2, .int a2)]) hx hb dX5_back_31 hl (by decide) rfl (fun ls hl => ?_)
      refine b_X5_back_33 X (fun w14_0 H locs ls hf hW hl => ?_) fu a2 v106 0 _ _ _ hf hW (lv_sub hl [4, 1, 0] rfl)
      · refine lv_iload hx hb dX5_back_73 (lv_at hl 0 rfl) ?_
        exact r_iretR X hW rfl rfl hf dX5_back_75
    · have hf := ie_e hf c4
      refine lv_iconst (v := (-1)) hx hb dX5_back_18 (by decide) ?_
      exact r_iretR X hW rfl rfl hf dX5_back_19

abbrev rm_X5_strongest : Room := { frames := 1, cells := 0, slots := 0, locals := 22 }
theorem hd_X5_strongest : yX5_strongest.cls = RX5 ∧ yX5_strongest.cls ≠ "java/lang/invoke/MethodHandle" ∧ yX5_strongest.cls ≠ "java/lang/invoke/VarHandle" ∧ (parseMethodDescriptor yX5_strongest.desc).map (fun d => d.parameters.length) = some 1 := by decide +kernel
theorem inX5_strongest_5 : ∀ w ∈ wsX50, w ∈ wsX5_strongest := fun _ h => List.mem_cons_of_mem _ (List.mem_append_left _ (List.mem_append_left _ (List.mem_append_left _ (List.mem_append_right _ h))))
theorem inX5_strongest_1 : ∀ w ∈ wsX10, w ∈ wsX5_strongest := fun _ h => List.mem_cons_of_mem _ (List.mem_append_left _ (List.mem_append_left _ (List.mem_append_right _ h)))
theorem inX5_strongest_3 : ∀ w ∈ wsX30, w ∈ wsX5_strongest := fun _ h => List.mem_cons_of_mem _ (List.mem_append_left _ (List.mem_append_right _ h))
theorem inX5_strongest_0 : ∀ w ∈ wsX00, w ∈ wsX5_strongest := fun _ h => List.mem_cons_of_mem _ (List.mem_append_right _ h)
section S_X5_strongest
variable {p : Program} {l : Launch} {e : Env} {s : State} {m : MethodId} {args : Array Value} {below : List Frame} {meth : Method} {c : Code} {D : va_G} {cA : Nat → ClassId} {ad : Nat → Nat} {r : Int32}
end S_X5_strongest
noncomputable def f_X5_strongest (σ : St) (a1 : Int32) : Option (Int32) := bnd (f_X1_has σ 1 a1) fun r1 => (if r1 = 0 then some ((-1)) else chk (inb a1 6) <| chk (kOK SC (3 + 5 * a1.toNatClampNeg) 3) <| chk (kOK SC (3 + 5 * a1.toNatClampNeg + 1) 0) <| bnd (f_X0_mostTaste σ (3 + 5 * a1.toNatClampNeg + 1)) fun r5 => some r5)
set_option maxHeartbeats 4000000 in
set_option maxRecDepth 100000 in
theorem c_X5_strongest (l : Launch) (D : va_G) (cA : Nat → ClassId) (ad : Nat → Nat) (hij : Ij ad SC) (σ : St) (a1 : Int32) (r : Int32) (hf : f_X5_strongest σ a1 = some r) : Met l yX5_strongest wsX5_strongest rm_X5_strongest (PC D cA ad SC [.ref (ad 0), .int a1] σ) (Qi D cA ad SC (r, σ)) 0 0 (Aw ad SC) := by
  rw [f_X5_strongest] at hf
  refine k_head (own := RX5) (ws := wsX5_strongest) (cc := cX5_strongest) (nL := 2) (ret := (some .int)) pn_X5 rfl rfl hij (Nat.le_of_ble_eq_true rfl) (fun p e s m below meth c ls X hW hl => ?_)
  have hl : lv_has ls 2 [(0, .ref (ad 0)), (1, .int a1)] := hl
  obtain ⟨hx, hb, hml, hown, hts, hr, hlk, hK, hij⟩ := id X
  refine lv_aload_n hx hb dX5_strongest_0 rfl (lv_at hl 0 rfl) ?_
  refine get_5_0 X hW kC_0 iC_0 inX5_strongest_5 (List.mem_of_getElem? (i := 1) rfl) dX5_strongest_1 ?_
  refine lv_iload_n hx hb dX5_strongest_4 rfl (lv_at hl 1 rfl) ?_
  obtain ⟨r1, z1, hf⟩ := bnd_e hf
  refine r_cViR X hW kC_1 iC_1 rfl (c_X1_has l D cA ad hij σ 1 a1 r1 z1) gX5_strongest_X1_has rfl ⟨rfl, rfl⟩ hd_X1_has ⟨Nat.le_of_ble_eq_true rfl, Nat.le_of_ble_eq_true rfl⟩ rfl (Nat.le_of_ble_eq_true rfl) hl.1 dX5_strongest_5 (fun H locs hW => ?_)
  refine lv_if_eq (tgt := 29) hx hb dX5_strongest_8 (by decide) (fun c2 => ?_) (fun c2 => ?_)
  · have hf := it_e hf c2
    refine lv_iconst (v := (-1)) hx hb dX5_strongest_29 (by decide) ?_
    exact r_iretR X hW rfl rfl hf dX5_strongest_30
  · have hf := ie_e hf c2
    refine lv_aload_n hx hb dX5_strongest_11 rfl (lv_at hl 0 rfl) ?_
    refine get_5_0 X hW kC_0 iC_0 inX5_strongest_5 (List.mem_of_getElem? (i := 1) rfl) dX5_strongest_12 ?_
    refine get_1_0 X hW kC_1 iC_1 inX5_strongest_1 (List.mem_of_getElem? (i := 2) rfl) dX5_strongest_15 ?_
    refine lv_iload_n hx hb dX5_strongest_18 rfl (lv_at hl 1 rfl) ?_
    obtain ⟨x3, hf⟩ := chk_e hf
    refine r_aald (j := 3 + 5 * a1.toNatClampNeg) X hW kC_2 iC_2 nC_2 (by decide) rfl x3 rfl dX5_strongest_19 ?_
    obtain ⟨q4, hf⟩ := chk_e hf
    obtain ⟨i4, k4⟩ := kOK_e q4
    refine get_3_0 X hW k4 i4 inX5_strongest_3 (List.mem_of_getElem? (i := 3) rfl) dX5_strongest_20 ?_
    obtain ⟨q6, hf⟩ := chk_e hf
    obtain ⟨i6, k6⟩ := kOK_e q6
    obtain ⟨r5, z5, hf⟩ := bnd_e hf
    refine r_cViR X hW k6 i6 rfl (c_X0_mostTaste l D cA ad hij σ (3 + 5 * a1.toNatClampNeg + 1) r5 z5) gX5_strongest_X0_mostTaste rfl ⟨rfl, rfl⟩ hd_X0_mostTaste ⟨Nat.le_of_ble_eq_true rfl, Nat.le_of_ble_eq_true rfl⟩ rfl (Nat.le_of_ble_eq_true rfl) hl.1 dX5_strongest_23 (fun H locs hW => ?_)
    refine lv_goto (tgt := 30) hx hb dX5_strongest_26 (by decide) ?_
    exact r_iretR X hW rfl rfl hf dX5_strongest_30

abbrev rm_X5_harms : Room := { frames := 2, cells := 0, slots := 0, locals := 48 }
theorem hd_X5_harms : yX5_harms.cls = RX5 ∧ yX5_harms.cls ≠ "java/lang/invoke/MethodHandle" ∧ yX5_harms.cls ≠ "java/lang/invoke/VarHandle" ∧ (parseMethodDescriptor yX5_harms.desc).map (fun d => d.parameters.length) = some 3 := by decide +kernel
theorem inX5_harms_5 : ∀ w ∈ wsX50, w ∈ wsX5_harms := fun _ h => List.mem_cons_of_mem _ (List.mem_append_left _ (List.mem_append_left _ (List.mem_append_left _ (List.mem_append_right _ h))))
theorem inX5_harms_1 : ∀ w ∈ wsX10, w ∈ wsX5_harms := fun _ h => List.mem_cons_of_mem _ (List.mem_append_left _ (List.mem_append_left _ (List.mem_append_right _ h)))
theorem inX5_harms_3 : ∀ w ∈ wsX30, w ∈ wsX5_harms := fun _ h => List.mem_cons_of_mem _ (List.mem_append_left _ (List.mem_append_right _ h))
theorem inX5_harms_0 : ∀ w ∈ wsX00, w ∈ wsX5_harms := fun _ h => List.mem_cons_of_mem _ (List.mem_append_right _ h)
section S_X5_harms
variable {p : Program} {l : Launch} {e : Env} {s : State} {m : MethodId} {args : Array Value} {below : List Frame} {meth : Method} {c : Code} {D : va_G} {cA : Nat → ClassId} {ad : Nat → Nat} {r : Int32}
end S_X5_harms
noncomputable def f_X5_harms (σ : St) (a1 : Int32) (a2 : Int32) (a3 : Int32) : Option (Int32) := bnd (f_X1_has σ 1 a1) fun r1 => (if r1 = 0 then some ((-1)) else bnd (f_X5_isNoBans a2) fun r3 => (if r3 = 0 then bnd (f_X5_isNoPercent a3) fun r5 => (if r5 = 0 then chk (inb a1 6) <| chk (kOK SC (3 + 5 * a1.toNatClampNeg) 3) <| chk (kOK SC (3 + 5 * a1.toNatClampNeg + 1) 0) <| bnd (f_X0_isHarmful σ (3 + 5 * a1.toNatClampNeg + 1) a2 a3) fun r9 => (if r9 = 0 then some 0 else some 1) else some ((-1))) else some ((-1))))
set_option maxHeartbeats 4000000 in
set_option maxRecDepth 100000 in
theorem c_X5_harms (l : Launch) (D : va_G) (cA : Nat → ClassId) (ad : Nat → Nat) (hij : Ij ad SC) (σ : St) (a1 : Int32) (a2 : Int32) (a3 : Int32) (r : Int32) (hf : f_X5_harms σ a1 a2 a3 = some r) : Met l yX5_harms wsX5_harms rm_X5_harms (PC D cA ad SC [.ref (ad 0), .int a1, .int a2, .int a3] σ) (Qi D cA ad SC (r, σ)) 0 0 (Aw ad SC) := by
  rw [f_X5_harms] at hf
  refine k_head (own := RX5) (ws := wsX5_harms) (cc := cX5_harms) (nL := 4) (ret := (some .int)) pn_X5 rfl rfl hij (Nat.le_of_ble_eq_true rfl) (fun p e s m below meth c ls X hW hl => ?_)
  have hl : lv_has ls 4 [(0, .ref (ad 0)), (1, .int a1), (2, .int a2), (3, .int a3)] := hl
  obtain ⟨hx, hb, hml, hown, hts, hr, hlk, hK, hij⟩ := id X
  refine lv_aload_n hx hb dX5_harms_0 rfl (lv_at hl 0 rfl) ?_
  refine get_5_0 X hW kC_0 iC_0 inX5_harms_5 (List.mem_of_getElem? (i := 1) rfl) dX5_harms_1 ?_
  refine lv_iload_n hx hb dX5_harms_4 rfl (lv_at hl 1 rfl) ?_
  obtain ⟨r1, z1, hf⟩ := bnd_e hf
  refine r_cViR X hW kC_1 iC_1 rfl (c_X1_has l D cA ad hij σ 1 a1 r1 z1) gX5_harms_X1_has rfl ⟨rfl, rfl⟩ hd_X1_has ⟨Nat.le_of_ble_eq_true rfl, Nat.le_of_ble_eq_true rfl⟩ rfl (Nat.le_of_ble_eq_true rfl) hl.1 dX5_harms_5 (fun H locs hW => ?_)
  refine lv_if_eq (tgt := 25) hx hb dX5_harms_8 (by decide) (fun c2 => ?_) (fun c2 => ?_)
  · have hf := it_e hf c2
    refine lv_iconst (v := (-1)) hx hb dX5_harms_25 (by decide) ?_
    exact r_iretR X hW rfl rfl hf dX5_harms_26
  · have hf := ie_e hf c2
    refine lv_iload_n hx hb dX5_harms_11 rfl (lv_at hl 2 rfl) ?_
    obtain ⟨r3, z3, hf⟩ := bnd_e hf
    refine r_cSiR X hW (c_X5_isNoBans l D cA ad hij σ a2 r3 z3) gX5_harms_X5_isNoBans rfl ⟨rfl, rfl⟩ hd_X5_isNoBans ⟨Nat.le_of_ble_eq_true rfl, Nat.le_of_ble_eq_true rfl⟩ rfl (Nat.le_of_ble_eq_true rfl) hl.1 dX5_harms_12 (fun H locs hW => ?_)
    refine lv_if_ne (tgt := 25) hx hb dX5_harms_15 (by decide) (fun c4 => ?_) (fun c4 => ?_)
    · have hf := ie_e hf c4
      refine lv_iconst (v := (-1)) hx hb dX5_harms_25 (by decide) ?_
      exact r_iretR X hW rfl rfl hf dX5_harms_26
    · have hf := it_e hf c4
      refine lv_iload_n hx hb dX5_harms_18 rfl (lv_at hl 3 rfl) ?_
      obtain ⟨r5, z5, hf⟩ := bnd_e hf
      refine r_cSiR X hW (c_X5_isNoPercent l D cA ad hij σ a3 r5 z5) gX5_harms_X5_isNoPercent rfl ⟨rfl, rfl⟩ hd_X5_isNoPercent ⟨Nat.le_of_ble_eq_true rfl, Nat.le_of_ble_eq_true rfl⟩ rfl (Nat.le_of_ble_eq_true rfl) hl.1 dX5_harms_19 (fun H locs hW => ?_)
      refine lv_if_eq (tgt := 27) hx hb dX5_harms_22 (by decide) (fun c6 => ?_) (fun c6 => ?_)
      · have hf := it_e hf c6
        refine lv_aload_n hx hb dX5_harms_27 rfl (lv_at hl 0 rfl) ?_
        refine get_5_0 X hW kC_0 iC_0 inX5_harms_5 (List.mem_of_getElem? (i := 1) rfl) dX5_harms_28 ?_
        refine get_1_0 X hW kC_1 iC_1 inX5_harms_1 (List.mem_of_getElem? (i := 2) rfl) dX5_harms_31 ?_
        refine lv_iload_n hx hb dX5_harms_34 rfl (lv_at hl 1 rfl) ?_
        obtain ⟨x7, hf⟩ := chk_e hf
        refine r_aald (j := 3 + 5 * a1.toNatClampNeg) X hW kC_2 iC_2 nC_2 (by decide) rfl x7 rfl dX5_harms_35 ?_
        obtain ⟨q8, hf⟩ := chk_e hf
        obtain ⟨i8, k8⟩ := kOK_e q8
        refine get_3_0 X hW k8 i8 inX5_harms_3 (List.mem_of_getElem? (i := 3) rfl) dX5_harms_36 ?_
        refine lv_iload_n hx hb dX5_harms_39 rfl (lv_at hl 2 rfl) ?_
        refine lv_iload_n hx hb dX5_harms_40 rfl (lv_at hl 3 rfl) ?_
        obtain ⟨q10, hf⟩ := chk_e hf
        obtain ⟨i10, k10⟩ := kOK_e q10
        obtain ⟨r9, z9, hf⟩ := bnd_e hf
        refine r_cViR X hW k10 i10 rfl (c_X0_isHarmful l D cA ad hij σ (3 + 5 * a1.toNatClampNeg + 1) a2 a3 r9 z9) gX5_harms_X0_isHarmful rfl ⟨rfl, rfl⟩ hd_X0_isHarmful ⟨Nat.le_of_ble_eq_true rfl, Nat.le_of_ble_eq_true rfl⟩ rfl (Nat.le_of_ble_eq_true rfl) hl.1 dX5_harms_41 (fun H locs hW => ?_)
        refine lv_if_eq (tgt := 51) hx hb dX5_harms_44 (by decide) (fun c11 => ?_) (fun c11 => ?_)
        · have hf := it_e hf c11
          refine lv_iconst (v := 0) hx hb dX5_harms_51 (by decide) ?_
          exact r_iretR X hW rfl rfl hf dX5_harms_52
        · have hf := ie_e hf c11
          refine lv_iconst (v := 1) hx hb dX5_harms_47 (by decide) ?_
          refine lv_goto (tgt := 52) hx hb dX5_harms_48 (by decide) ?_
          exact r_iretR X hW rfl rfl hf dX5_harms_52
      · have hf := ie_e hf c6
        refine lv_iconst (v := (-1)) hx hb dX5_harms_25 (by decide) ?_
        exact r_iretR X hW rfl rfl hf dX5_harms_26

abbrev rm_X5_isPlan : Room := { frames := 3, cells := 0, slots := 0, locals := 64 }
theorem hd_X5_isPlan : yX5_isPlan.cls = RX5 ∧ yX5_isPlan.cls ≠ "java/lang/invoke/MethodHandle" ∧ yX5_isPlan.cls ≠ "java/lang/invoke/VarHandle" ∧ (parseMethodDescriptor yX5_isPlan.desc).map (fun d => d.parameters.length) = some 1 := by decide +kernel
theorem inX5_isPlan_4 : ∀ w ∈ wsX40, w ∈ wsX5_isPlan := fun _ h => List.mem_cons_of_mem _ (List.mem_append_left _ (List.mem_append_left _ (List.mem_append_right _ h)))
theorem inX5_isPlan_5 : ∀ w ∈ wsX50, w ∈ wsX5_isPlan := fun _ h => List.mem_cons_of_mem _ (List.mem_append_left _ (List.mem_append_right _ h))
theorem inX5_isPlan_1 : ∀ w ∈ wsX10, w ∈ wsX5_isPlan := fun _ h => List.mem_cons_of_mem _ (List.mem_append_right _ h)
section S_X5_isPlan
variable {p : Program} {l : Launch} {e : Env} {s : State} {m : MethodId} {args : Array Value} {below : List Frame} {meth : Method} {c : Code} {D : va_G} {cA : Nat → ClassId} {ad : Nat → Nat} {r : Int32}
noncomputable def f_X5_isPlan_22 (σ : St) (k57 : Option (Int32)) (k65 : Option (Int32)) : Nat → Nat → Int32 → Option (Int32)
  | 0, _, _ => none
  | n + 1, v1, v2 => chk (kOK SC v1 4) <| (if (σ.1 v1 4) ≤ v2 then k65 else bnd (f_X4_elementOr σ v1 v2 ((-4))) fun r6 => bnd (f_X1_has σ 1 r6) fun r7 => (if r7 = 0 then k57 else bnd (f_X4_hasDishAt σ v1 (v2 + 1)) fun r9 => (if r9 = 0 then k57 else nw (v2 + 3 : Int32) fun v111 => f_X5_isPlan_22 σ k57 k65 n v1 v111)))
set_option maxHeartbeats 4000000 in
set_option maxRecDepth 100000 in
theorem b_X5_isPlan_22 {σ : St} {k57 : Option (Int32)} {k65 : Option (Int32)} (X : Cx RX5 wsX5_isPlan cX5_isPlan 3 (some .boolean) D cA ad SC p s m args meth c) (h57 : ∀  (H : Heap) (locs : List Loc) (ls : Array Slot), k57 = some r → Rn D cA ad SC s.heap σ H locs → lv_has ls 3 [] → W p l e rm_X5_isPlan s m args below meth c H locs 0 0 (MQ below (Qi D cA ad SC (r, σ)) args s 0 0 (Aw ad SC)) (F0 m 57 ls [])) (h65 : ∀  (H : Heap) (locs : List Loc) (ls : Array Slot), k65 = some r → Rn D cA ad SC s.heap σ H locs → lv_has ls 3 [] → W p l e rm_X5_isPlan s m args below meth c H locs 0 0 (MQ below (Qi D cA ad SC (r, σ)) args s 0 0 (Aw ad SC)) (F0 m 65 ls [])) : ∀ (n : Nat) (v1 : Nat) (v2 : Int32) (H : Heap) (locs : List Loc) (ls : Array Slot), f_X5_isPlan_22 σ k57 k65 n v1 v2 = some r → Rn D cA ad SC s.heap σ H locs → lv_has ls 3 [(0, .ref (ad 0)), (1, .ref (ad v1)), (2, .int v2)] → W p l e rm_X5_isPlan s m args below meth c H locs 0 0 (MQ below (Qi D cA ad SC (r, σ)) args s 0 0 (Aw ad SC)) (F0 m 22 ls []) := by
  obtain ⟨hx, hb, hml, hown, hts, hr, hlk, hK, hij⟩ := id X
  intro n
  induction n with
  | zero =>
    intro v1 v2 H locs ls hf
    exact nomatch (show (none : Option (Int32)) = some r from hf)
  | succ n ih =>
    intro v1 v2 H locs ls hf hW hl
    rw [f_X5_isPlan_22] at hf
    refine lv_iload_n hx hb dX5_isPlan_22 rfl (lv_at hl 2 rfl) ?_
    refine lv_aload_n hx hb dX5_isPlan_23 rfl (lv_at hl 1 rfl) ?_
    obtain ⟨q4, hf⟩ := chk_e hf
    obtain ⟨i4, k4⟩ := kOK_e q4
    refine get_4_4 X hW k4 i4 inX5_isPlan_4 (List.mem_of_getElem? (i := 1) rfl) dX5_isPlan_24 ?_
    refine lv_icmp_ge (tgt := 65) hx hb dX5_isPlan_27 (by decide) (fun c5 => ?_) (fun c5 => ?_)
    · have hf := it_e hf c5
      exact h65  _ _ _ hf hW (lv_sub hl [] rfl)
    · have hf := ie_e hf c5
      refine lv_aload_n hx hb dX5_isPlan_30 rfl (lv_at hl 0 rfl) ?_
      refine get_5_0 X hW kC_0 iC_0 inX5_isPlan_5 (List.mem_of_getElem? (i := 2) rfl) dX5_isPlan_31 ?_
      refine lv_aload_n hx hb dX5_isPlan_34 rfl (lv_at hl 1 rfl) ?_
      refine lv_iload_n hx hb dX5_isPlan_35 rfl (lv_at hl 2 rfl) ?_
      refine lv_bipush (v := (-4)) hx hb dX5_isPlan_36 (by decide) ?_
      obtain ⟨r6, z6, hf⟩ := bnd_e hf
      refine r_cViR X hW k4 i4 rfl (c_X4_elementOr l D cA ad hij σ v1 v2 ((-4)) r6 z6) gX5_isPlan_X4_elementOr rfl ⟨rfl, rfl⟩ hd_X4_elementOr ⟨Nat.le_of_ble_eq_true rfl, Nat.le_of_ble_eq_true rfl⟩ rfl (Nat.le_of_ble_eq_true rfl) hl.1 dX5_isPlan_38 (fun H locs hW => ?_)
      obtain ⟨r7, z7, hf⟩ := bnd_e hf
      refine r_cViR X hW kC_1 iC_1 rfl (c_X1_has l D cA ad hij σ 1 r6 r7 z7) gX5_isPlan_X1_has rfl ⟨rfl, rfl⟩ hd_X1_has ⟨Nat.le_of_ble_eq_true rfl, Nat.le_of_ble_eq_true rfl⟩ rfl (Nat.le_of_ble_eq_true rfl) hl.1 dX5_isPlan_41 (fun H locs hW => ?_)
      refine lv_if_eq (tgt := 57) hx hb dX5_isPlan_44 (by decide) (fun c8 => ?_) (fun c8 => ?_)
      · have hf := it_e hf c8
        exact h57  _ _ _ hf hW (lv_sub hl [] rfl)
      · have hf := ie_e hf c8
        refine lv_aload_n hx hb dX5_isPlan_47 rfl (lv_at hl 1 rfl) ?_
        refine lv_iload_n hx hb dX5_isPlan_48 rfl (lv_at hl 2 rfl) ?_
        refine lv_iconst (v := 1) hx hb dX5_isPlan_49 (by decide) ?_
        refine lv_iadd hx hb dX5_isPlan_50 ?_
        obtain ⟨r9, z9, hf⟩ := bnd_e hf
        refine r_cViR X hW k4 i4 rfl (c_X4_hasDishAt l D cA ad hij σ v1 (v2 + 1) r9 z9) gX5_isPlan_X4_hasDishAt rfl ⟨rfl, rfl⟩ hd_X4_hasDishAt ⟨Nat.le_of_ble_eq_true rfl, Nat.le_of_ble_eq_true rfl⟩ rfl (Nat.le_of_ble_eq_true rfl) hl.1 dX5_isPlan_51 (fun H locs hW => ?_)
        refine lv_if_ne (tgt := 59) hx hb dX5_isPlan_54 (by decide) (fun c10 => ?_) (fun c10 => ?_)
        · have hf := ie_e hf c10
          obtain ⟨v111, e11, hf⟩ := nw_e hf
          refine lv_iinc (v := v111) (lv' := [(2, .int v111), (0, .ref (ad 0)), (1, .ref (ad v1))]) hx hb dX5_isPlan_59 hl (k := 2) rfl (by rw [e11]; rfl) (by decide) rfl (fun ls hl => ?_)
          refine lv_goto (tgt := 22) hx hb dX5_isPlan_62 (by decide) ?_
          exact ih v1 v111 _ _ _ hf hW (lv_sub hl [1, 2, 0] rfl)
        · have hf := it_e hf c10
          exact h57  _ _ _ hf hW (lv_sub hl [] rfl)
end S_X5_isPlan
noncomputable def f_X5_isPlan (σ : St) (a1 : Nat) : Option (Int32) := chk (kOK SC a1 4) <| (if ((σ.1 a1 4) - (σ.1 a1 4) / 3 * 3) = 0 then (if (σ.1 a1 4) ≤ 24 then f_X5_isPlan_22 σ (some 0) (some 1) fu a1 0 else some 0) else some 0)
set_option maxHeartbeats 4000000 in
set_option maxRecDepth 100000 in
theorem c_X5_isPlan (l : Launch) (D : va_G) (cA : Nat → ClassId) (ad : Nat → Nat) (hij : Ij ad SC) (σ : St) (a1 : Nat) (r : Int32) (hf : f_X5_isPlan σ a1 = some r) : Met l yX5_isPlan wsX5_isPlan rm_X5_isPlan (PC D cA ad SC [.ref (ad 0), .ref (ad a1)] σ) (Qi D cA ad SC (r, σ)) 0 0 (Aw ad SC) := by
  rw [f_X5_isPlan] at hf
  refine k_head (own := RX5) (ws := wsX5_isPlan) (cc := cX5_isPlan) (nL := 3) (ret := (some .boolean)) pn_X5 rfl rfl hij (Nat.le_of_ble_eq_true rfl) (fun p e s m below meth c ls X hW hl => ?_)
  have hl : lv_has ls 3 [(0, .ref (ad 0)), (1, .ref (ad a1))] := hl
  obtain ⟨hx, hb, hml, hown, hts, hr, hlk, hK, hij⟩ := id X
  refine lv_aload_n hx hb dX5_isPlan_0 rfl (lv_at hl 1 rfl) ?_
  obtain ⟨q1, hf⟩ := chk_e hf
  obtain ⟨i1, k1⟩ := kOK_e q1
  refine get_4_4 X hW k1 i1 inX5_isPlan_4 (List.mem_of_getElem? (i := 1) rfl) dX5_isPlan_1 ?_
  refine lv_iconst (v := 3) hx hb dX5_isPlan_4 (by decide) ?_
  refine lv_irem hx hb dX5_isPlan_5 (by decide) ?_
  refine lv_if_ne (tgt := 18) hx hb dX5_isPlan_6 (by decide) (fun c2 => ?_) (fun c2 => ?_)
  · have hf := ie_e hf c2
    refine lv_iconst (v := 0) hx hb dX5_isPlan_18 (by decide) ?_
    exact r_iretR X hW rfl rfl hf dX5_isPlan_19
  · have hf := it_e hf c2
    refine lv_aload_n hx hb dX5_isPlan_9 rfl (lv_at hl 1 rfl) ?_
    refine get_4_4 X hW k1 i1 inX5_isPlan_4 (List.mem_of_getElem? (i := 1) rfl) dX5_isPlan_10 ?_
    refine lv_bipush (v := 24) hx hb dX5_isPlan_13 (by decide) ?_
    refine lv_icmp_le (tgt := 20) hx hb dX5_isPlan_15 (by decide) (fun c3 => ?_) (fun c3 => ?_)
    · have hf := it_e hf c3
      refine lv_iconst (v := 0) hx hb dX5_isPlan_20 (by decide) ?_
      refine lv_istore_n (lv' := [(2, .int 0), (0, .ref (ad 0)), (1, .ref (ad a1))]) hx hb dX5_isPlan_21 rfl hl (by decide) rfl (fun ls hl => ?_)
      refine b_X5_isPlan_22 X (fun  H locs ls hf hW hl => ?_) (fun  H locs ls hf hW hl => ?_) fu a1 0 _ _ _ hf hW (lv_sub hl [1, 2, 0] rfl)
      · refine lv_iconst (v := 0) hx hb dX5_isPlan_57 (by decide) ?_
        exact r_iretR X hW rfl rfl hf dX5_isPlan_58
      · refine lv_iconst (v := 1) hx hb dX5_isPlan_65 (by decide) ?_
        exact r_iretR X hW rfl rfl hf dX5_isPlan_66
    · have hf := ie_e hf c3
      refine lv_iconst (v := 0) hx hb dX5_isPlan_18 (by decide) ?_
      exact r_iretR X hW rfl rfl hf dX5_isPlan_19

abbrev rm_X5_first : Room := { frames := 4, cells := 0, slots := 0, locals := 95 }
theorem hd_X5_first : yX5_first.cls = RX5 ∧ yX5_first.cls ≠ "java/lang/invoke/MethodHandle" ∧ yX5_first.cls ≠ "java/lang/invoke/VarHandle" ∧ (parseMethodDescriptor yX5_first.desc).map (fun d => d.parameters.length) = some 3 := by decide +kernel
theorem inX5_first_5 : ∀ w ∈ wsX50, w ∈ wsX5_first := fun _ h => List.mem_cons_of_mem _ (List.mem_append_left _ (List.mem_append_left _ (List.mem_append_left _ (List.mem_append_left _ (List.mem_append_left _ (List.mem_append_right _ h))))))
theorem inX5_first_4 : ∀ w ∈ wsX40, w ∈ wsX5_first := fun _ h => List.mem_cons_of_mem _ (List.mem_append_left _ (List.mem_append_left _ (List.mem_append_left _ (List.mem_append_left _ (List.mem_append_right _ h)))))
theorem inX5_first_1 : ∀ w ∈ wsX10, w ∈ wsX5_first := fun _ h => List.mem_cons_of_mem _ (List.mem_append_left _ (List.mem_append_left _ (List.mem_append_left _ (List.mem_append_right _ h))))
theorem inX5_first_2 : ∀ w ∈ wsX20, w ∈ wsX5_first := fun _ h => List.mem_cons_of_mem _ (List.mem_append_left _ (List.mem_append_left _ (List.mem_append_right _ h)))
theorem inX5_first_3 : ∀ w ∈ wsX30, w ∈ wsX5_first := fun _ h => List.mem_cons_of_mem _ (List.mem_append_left _ (List.mem_append_right _ h))
theorem inX5_first_0 : ∀ w ∈ wsX00, w ∈ wsX5_first := fun _ h => List.mem_cons_of_mem _ (List.mem_append_right _ h)
section S_X5_first
variable {p : Program} {l : Launch} {e : Env} {s : State} {m : MethodId} {args : Array Value} {below : List Frame} {meth : Method} {c : Code} {D : va_G} {cA : Nat → ClassId} {ad : Nat → Nat} {r : Int32 × St}
end S_X5_first
noncomputable def f_X5_first (σ : St) (a1 : Int32) (a2 : Int32) (a3 : Int32) : Option (Int32 × St) := bnd (f_X5_isNoBans a2) fun r1 => (if r1 = 0 then bnd (f_X5_isNoPercent a3) fun r3 => (if r3 = 0 then bnd (f_X5_bytesRefusal σ a1) fun r5 => (if r5 = 0 then chk (inb a1 8) <| nw (126 + 2 * a1.toNatClampNeg : Nat) fun v108 => bnd (f_X5_isPlan σ v108) fun r9 => (if r9 = 0 then some ((-13), σ) else bnd (f_X2_thinkOf σ 1 a2 a3) fun r11 => bnd (f_X2_firstHarm r11 v108) fun r12 => some (r12.1, r12.2)) else some (r5, σ)) else some ((-1), σ)) else some ((-1), σ))
set_option maxHeartbeats 4000000 in
set_option maxRecDepth 100000 in
theorem c_X5_first (l : Launch) (D : va_G) (cA : Nat → ClassId) (ad : Nat → Nat) (hij : Ij ad SC) (σ : St) (a1 : Int32) (a2 : Int32) (a3 : Int32) (r : Int32 × St) (hf : f_X5_first σ a1 a2 a3 = some r) : Met l yX5_first wsX5_first rm_X5_first (PC D cA ad SC [.ref (ad 0), .int a1, .int a2, .int a3] σ) (Qi D cA ad SC r) 0 0 (Aw ad SC) := by
  rw [f_X5_first] at hf
  refine k_head (own := RX5) (ws := wsX5_first) (cc := cX5_first) (nL := 6) (ret := (some .int)) pn_X5 rfl rfl hij (Nat.le_of_ble_eq_true rfl) (fun p e s m below meth c ls X hW hl => ?_)
  have hl : lv_has ls 6 [(0, .ref (ad 0)), (1, .int a1), (2, .int a2), (3, .int a3)] := hl
  obtain ⟨hx, hb, hml, hown, hts, hr, hlk, hK, hij⟩ := id X
  refine lv_iload_n hx hb dX5_first_0 rfl (lv_at hl 2 rfl) ?_
  obtain ⟨r1, z1, hf⟩ := bnd_e hf
  refine r_cSiR X hW (c_X5_isNoBans l D cA ad hij σ a2 r1 z1) gX5_first_X5_isNoBans rfl ⟨rfl, rfl⟩ hd_X5_isNoBans ⟨Nat.le_of_ble_eq_true rfl, Nat.le_of_ble_eq_true rfl⟩ rfl (Nat.le_of_ble_eq_true rfl) hl.1 dX5_first_1 (fun H locs hW => ?_)
  refine lv_if_ne (tgt := 14) hx hb dX5_first_4 (by decide) (fun c2 => ?_) (fun c2 => ?_)
  · have hf := ie_e hf c2
    refine lv_iconst (v := (-1)) hx hb dX5_first_14 (by decide) ?_
    exact r_iret X hW rfl rfl hf dX5_first_15
  · have hf := it_e hf c2
    refine lv_iload_n hx hb dX5_first_7 rfl (lv_at hl 3 rfl) ?_
    obtain ⟨r3, z3, hf⟩ := bnd_e hf
    refine r_cSiR X hW (c_X5_isNoPercent l D cA ad hij σ a3 r3 z3) gX5_first_X5_isNoPercent rfl ⟨rfl, rfl⟩ hd_X5_isNoPercent ⟨Nat.le_of_ble_eq_true rfl, Nat.le_of_ble_eq_true rfl⟩ rfl (Nat.le_of_ble_eq_true rfl) hl.1 dX5_first_8 (fun H locs hW => ?_)
    refine lv_if_eq (tgt := 16) hx hb dX5_first_11 (by decide) (fun c4 => ?_) (fun c4 => ?_)
    · have hf := it_e hf c4
      refine lv_aload_n hx hb dX5_first_16 rfl (lv_at hl 0 rfl) ?_
      refine lv_iload_n hx hb dX5_first_17 rfl (lv_at hl 1 rfl) ?_
      obtain ⟨r5, z5, hf⟩ := bnd_e hf
      refine r_cViR X hW kC_0 iC_0 rfl (c_X5_bytesRefusal l D cA ad hij σ a1 r5 z5) gX5_first_X5_bytesRefusal rfl ⟨rfl, rfl⟩ hd_X5_bytesRefusal ⟨Nat.le_of_ble_eq_true rfl, Nat.le_of_ble_eq_true rfl⟩ rfl (Nat.le_of_ble_eq_true rfl) hl.1 dX5_first_18 (fun H locs hW => ?_)
      refine lv_istore (lv' := [(4, .int r5), (0, .ref (ad 0)), (1, .int a1), (2, .int a2), (3, .int a3)]) hx hb dX5_first_21 hl (by decide) rfl (fun ls hl => ?_)
      refine lv_iload hx hb dX5_first_23 (lv_at hl 0 rfl) ?_
      refine lv_if_eq (tgt := 31) hx hb dX5_first_25 (by decide) (fun c6 => ?_) (fun c6 => ?_)
      · have hf := it_e hf c6
        refine lv_aload_n hx hb dX5_first_31 rfl (lv_at hl 1 rfl) ?_
        refine get_5_7 X hW kC_0 iC_0 inX5_first_5 (List.mem_of_getElem? (i := 1) rfl) dX5_first_32 ?_
        refine lv_iload_n hx hb dX5_first_35 rfl (lv_at hl 2 rfl) ?_
        obtain ⟨x7, hf⟩ := chk_e hf
        refine r_aald (j := 126 + 2 * a1.toNatClampNeg) X hW kC_125 iC_125 nC_125 (by decide) rfl x7 rfl dX5_first_36 ?_
        obtain ⟨v108, e8, hf⟩ := nw_e hf
        refine tR _ e8 ?_
        refine lv_astore (lv' := [(5, .ref (ad v108)), (4, .int r5), (0, .ref (ad 0)), (1, .int a1), (2, .int a2), (3, .int a3)]) hx hb dX5_first_37 hl (by decide) rfl (fun ls hl => ?_)
        refine lv_aload_n hx hb dX5_first_39 rfl (lv_at hl 2 rfl) ?_
        refine lv_aload hx hb dX5_first_40 (lv_at hl 0 rfl) ?_
        obtain ⟨r9, z9, hf⟩ := bnd_e hf
        refine r_cViR X hW kC_0 iC_0 rfl (c_X5_isPlan l D cA ad hij σ v108 r9 z9) gX5_first_X5_isPlan rfl ⟨rfl, rfl⟩ hd_X5_isPlan ⟨Nat.le_of_ble_eq_true rfl, Nat.le_of_ble_eq_true rfl⟩ rfl (Nat.le_of_ble_eq_true rfl) hl.1 dX5_first_42 (fun H locs hW => ?_)
        refine lv_if_ne (tgt := 51) hx hb dX5_first_45 (by decide) (fun c10 => ?_) (fun c10 => ?_)
        · have hf := ie_e hf c10
          refine lv_aload_n hx hb dX5_first_51 rfl (lv_at hl 2 rfl) ?_
          refine get_5_4 X hW kC_0 iC_0 inX5_first_5 (List.mem_of_getElem? (i := 2) rfl) dX5_first_52 ?_
          refine lv_aload_n hx hb dX5_first_55 rfl (lv_at hl 2 rfl) ?_
          refine get_5_0 X hW kC_0 iC_0 inX5_first_5 (List.mem_of_getElem? (i := 3) rfl) dX5_first_56 ?_
          refine lv_iload_n hx hb dX5_first_59 rfl (lv_at hl 4 rfl) ?_
          refine lv_iload_n hx hb dX5_first_60 rfl (lv_at hl 5 rfl) ?_
          obtain ⟨r11, z11, hf⟩ := bnd_e hf
          refine r_cVv X hW kC_97 iC_97 rfl (c_X2_thinkOf l D cA ad hij σ 1 a2 a3 r11 z11) gX5_first_X2_thinkOf rfl ⟨rfl, rfl⟩ hd_X2_thinkOf ⟨Nat.le_of_ble_eq_true rfl, Nat.le_of_ble_eq_true rfl⟩ rfl (Nat.le_of_ble_eq_true rfl) hl.1 dX5_first_61 (fun H locs hW => ?_)
          refine lv_aload_n hx hb dX5_first_64 rfl (lv_at hl 2 rfl) ?_
          refine get_5_4 X hW kC_0 iC_0 inX5_first_5 (List.mem_of_getElem? (i := 2) rfl) dX5_first_65 ?_
          refine lv_aload hx hb dX5_first_68 (lv_at hl 0 rfl) ?_
          obtain ⟨r12, z12, hf⟩ := bnd_e hf
          refine r_cVi X hW kC_97 iC_97 rfl (c_X2_firstHarm l D cA ad hij r11 v108 r12 z12) gX5_first_X2_firstHarm rfl ⟨rfl, rfl⟩ hd_X2_firstHarm ⟨Nat.le_of_ble_eq_true rfl, Nat.le_of_ble_eq_true rfl⟩ rfl (Nat.le_of_ble_eq_true rfl) hl.1 dX5_first_70 (fun H locs hW => ?_)
          exact r_iret X hW rfl rfl hf dX5_first_73
        · have hf := it_e hf c10
          refine lv_bipush (v := (-13)) hx hb dX5_first_48 (by decide) ?_
          exact r_iret X hW rfl rfl hf dX5_first_50
      · have hf := ie_e hf c6
        refine lv_iload hx hb dX5_first_28 (lv_at hl 0 rfl) ?_
        exact r_iret X hW rfl rfl hf dX5_first_30
    · have hf := ie_e hf c4
      refine lv_iconst (v := (-1)) hx hb dX5_first_14 (by decide) ?_
      exact r_iret X hW rfl rfl hf dX5_first_15

abbrev rm_X5_isRowOfDishes : Room := { frames := 3, cells := 0, slots := 0, locals := 64 }
theorem hd_X5_isRowOfDishes : yX5_isRowOfDishes.cls = RX5 ∧ yX5_isRowOfDishes.cls ≠ "java/lang/invoke/MethodHandle" ∧ yX5_isRowOfDishes.cls ≠ "java/lang/invoke/VarHandle" ∧ (parseMethodDescriptor yX5_isRowOfDishes.desc).map (fun d => d.parameters.length) = some 1 := by decide +kernel
theorem inX5_isRowOfDishes_4 : ∀ w ∈ wsX40, w ∈ wsX5_isRowOfDishes := fun _ h => List.mem_cons_of_mem _ (List.mem_append_right _ h)
section S_X5_isRowOfDishes
variable {p : Program} {l : Launch} {e : Env} {s : State} {m : MethodId} {args : Array Value} {below : List Frame} {meth : Method} {c : Code} {D : va_G} {cA : Nat → ClassId} {ad : Nat → Nat} {r : Int32}
noncomputable def f_X5_isRowOfDishes_22 (σ : St) (k38 : Option (Int32)) (k46 : Option (Int32)) : Nat → Nat → Int32 → Option (Int32)
  | 0, _, _ => none
  | n + 1, v0, v1 => chk (kOK SC v0 4) <| (if (σ.1 v0 4) ≤ v1 then k46 else bnd (f_X4_hasDishAt σ v0 v1) fun r6 => (if r6 = 0 then k38 else nw (v1 + 2 : Int32) fun v108 => f_X5_isRowOfDishes_22 σ k38 k46 n v0 v108))
set_option maxHeartbeats 4000000 in
set_option maxRecDepth 100000 in
theorem b_X5_isRowOfDishes_22 {σ : St} {k38 : Option (Int32)} {k46 : Option (Int32)} (X : Cx RX5 wsX5_isRowOfDishes cX5_isRowOfDishes 2 (some .boolean) D cA ad SC p s m args meth c) (h38 : ∀  (H : Heap) (locs : List Loc) (ls : Array Slot), k38 = some r → Rn D cA ad SC s.heap σ H locs → lv_has ls 2 [] → W p l e rm_X5_isRowOfDishes s m args below meth c H locs 0 0 (MQ below (Qi D cA ad SC (r, σ)) args s 0 0 (Aw ad SC)) (F0 m 38 ls [])) (h46 : ∀  (H : Heap) (locs : List Loc) (ls : Array Slot), k46 = some r → Rn D cA ad SC s.heap σ H locs → lv_has ls 2 [] → W p l e rm_X5_isRowOfDishes s m args below meth c H locs 0 0 (MQ below (Qi D cA ad SC (r, σ)) args s 0 0 (Aw ad SC)) (F0 m 46 ls [])) : ∀ (n : Nat) (v0 : Nat) (v1 : Int32) (H : Heap) (locs : List Loc) (ls : Array Slot), f_X5_isRowOfDishes_22 σ k38 k46 n v0 v1 = some r → Rn D cA ad SC s.heap σ H locs → lv_has ls 2 [(0, .ref (ad v0)), (1, .int v1)] → W p l e rm_X5_isRowOfDishes s m args below meth c H locs 0 0 (MQ below (Qi D cA ad SC (r, σ)) args s 0 0 (Aw ad SC)) (F0 m 22 ls []) := by
  obtain ⟨hx, hb, hml, hown, hts, hr, hlk, hK, hij⟩ := id X
  intro n
  induction n with
  | zero =>
    intro v0 v1 H locs ls hf
    exact nomatch (show (none : Option (Int32)) = some r from hf)
  | succ n ih =>
    intro v0 v1 H locs ls hf hW hl
    rw [f_X5_isRowOfDishes_22] at hf
    refine lv_iload_n hx hb dX5_isRowOfDishes_22 rfl (lv_at hl 1 rfl) ?_
    refine lv_aload_n hx hb dX5_isRowOfDishes_23 rfl (lv_at hl 0 rfl) ?_
    obtain ⟨q4, hf⟩ := chk_e hf
    obtain ⟨i4, k4⟩ := kOK_e q4
    refine get_4_4 X hW k4 i4 inX5_isRowOfDishes_4 (List.mem_of_getElem? (i := 1) rfl) dX5_isRowOfDishes_24 ?_
    refine lv_icmp_ge (tgt := 46) hx hb dX5_isRowOfDishes_27 (by decide) (fun c5 => ?_) (fun c5 => ?_)
    · have hf := it_e hf c5
      exact h46  _ _ _ hf hW (lv_sub hl [] rfl)
    · have hf := ie_e hf c5
      refine lv_aload_n hx hb dX5_isRowOfDishes_30 rfl (lv_at hl 0 rfl) ?_
      refine lv_iload_n hx hb dX5_isRowOfDishes_31 rfl (lv_at hl 1 rfl) ?_
      obtain ⟨r6, z6, hf⟩ := bnd_e hf
      refine r_cViR X hW k4 i4 rfl (c_X4_hasDishAt l D cA ad hij σ v0 v1 r6 z6) gX5_isRowOfDishes_X4_hasDishAt rfl ⟨rfl, rfl⟩ hd_X4_hasDishAt ⟨Nat.le_of_ble_eq_true rfl, Nat.le_of_ble_eq_true rfl⟩ rfl (Nat.le_of_ble_eq_true rfl) hl.1 dX5_isRowOfDishes_32 (fun H locs hW => ?_)
      refine lv_if_ne (tgt := 40) hx hb dX5_isRowOfDishes_35 (by decide) (fun c7 => ?_) (fun c7 => ?_)
      · have hf := ie_e hf c7
        obtain ⟨v108, e8, hf⟩ := nw_e hf
        refine lv_iinc (v := v108) (lv' := [(1, .int v108), (0, .ref (ad v0))]) hx hb dX5_isRowOfDishes_40 hl (k := 1) rfl (by rw [e8]; rfl) (by decide) rfl (fun ls hl => ?_)
        refine lv_goto (tgt := 22) hx hb dX5_isRowOfDishes_43 (by decide) ?_
        exact ih v0 v108 _ _ _ hf hW (lv_sub hl [1, 0] rfl)
      · have hf := it_e hf c7
        exact h38  _ _ _ hf hW (lv_sub hl [] rfl)
end S_X5_isRowOfDishes
noncomputable def f_X5_isRowOfDishes (σ : St) (a0 : Nat) : Option (Int32) := chk (kOK SC a0 4) <| (if ((σ.1 a0 4) - (σ.1 a0 4) / 2 * 2) = 0 then (if (σ.1 a0 4) ≤ 10 then f_X5_isRowOfDishes_22 σ (some 0) (some 1) fu a0 0 else some 0) else some 0)
set_option maxHeartbeats 4000000 in
set_option maxRecDepth 100000 in
theorem c_X5_isRowOfDishes (l : Launch) (D : va_G) (cA : Nat → ClassId) (ad : Nat → Nat) (hij : Ij ad SC) (σ : St) (a0 : Nat) (r : Int32) (hf : f_X5_isRowOfDishes σ a0 = some r) : Met l yX5_isRowOfDishes wsX5_isRowOfDishes rm_X5_isRowOfDishes (PC D cA ad SC [.ref (ad a0)] σ) (Qi D cA ad SC (r, σ)) 0 0 (Aw ad SC) := by
  rw [f_X5_isRowOfDishes] at hf
  refine k_head (own := RX5) (ws := wsX5_isRowOfDishes) (cc := cX5_isRowOfDishes) (nL := 2) (ret := (some .boolean)) pn_X5 rfl rfl hij (Nat.le_of_ble_eq_true rfl) (fun p e s m below meth c ls X hW hl => ?_)
  have hl : lv_has ls 2 [(0, .ref (ad a0))] := hl
  obtain ⟨hx, hb, hml, hown, hts, hr, hlk, hK, hij⟩ := id X
  refine lv_aload_n hx hb dX5_isRowOfDishes_0 rfl (lv_at hl 0 rfl) ?_
  obtain ⟨q1, hf⟩ := chk_e hf
  obtain ⟨i1, k1⟩ := kOK_e q1
  refine get_4_4 X hW k1 i1 inX5_isRowOfDishes_4 (List.mem_of_getElem? (i := 1) rfl) dX5_isRowOfDishes_1 ?_
  refine lv_iconst (v := 2) hx hb dX5_isRowOfDishes_4 (by decide) ?_
  refine lv_irem hx hb dX5_isRowOfDishes_5 (by decide) ?_
  refine lv_if_ne (tgt := 18) hx hb dX5_isRowOfDishes_6 (by decide) (fun c2 => ?_) (fun c2 => ?_)
  · have hf := ie_e hf c2
    refine lv_iconst (v := 0) hx hb dX5_isRowOfDishes_18 (by decide) ?_
    exact r_iretR X hW rfl rfl hf dX5_isRowOfDishes_19
  · have hf := it_e hf c2
    refine lv_aload_n hx hb dX5_isRowOfDishes_9 rfl (lv_at hl 0 rfl) ?_
    refine get_4_4 X hW k1 i1 inX5_isRowOfDishes_4 (List.mem_of_getElem? (i := 1) rfl) dX5_isRowOfDishes_10 ?_
    refine lv_bipush (v := 10) hx hb dX5_isRowOfDishes_13 (by decide) ?_
    refine lv_icmp_le (tgt := 20) hx hb dX5_isRowOfDishes_15 (by decide) (fun c3 => ?_) (fun c3 => ?_)
    · have hf := it_e hf c3
      refine lv_iconst (v := 0) hx hb dX5_isRowOfDishes_20 (by decide) ?_
      refine lv_istore_n (lv' := [(1, .int 0), (0, .ref (ad a0))]) hx hb dX5_isRowOfDishes_21 rfl hl (by decide) rfl (fun ls hl => ?_)
      refine b_X5_isRowOfDishes_22 X (fun  H locs ls hf hW hl => ?_) (fun  H locs ls hf hW hl => ?_) fu a0 0 _ _ _ hf hW (lv_sub hl [1, 0] rfl)
      · refine lv_iconst (v := 0) hx hb dX5_isRowOfDishes_38 (by decide) ?_
        exact r_iretR X hW rfl rfl hf dX5_isRowOfDishes_39
      · refine lv_iconst (v := 1) hx hb dX5_isRowOfDishes_46 (by decide) ?_
        exact r_iretR X hW rfl rfl hf dX5_isRowOfDishes_47
    · have hf := ie_e hf c3
      refine lv_iconst (v := 0) hx hb dX5_isRowOfDishes_18 (by decide) ?_
      exact r_iretR X hW rfl rfl hf dX5_isRowOfDishes_19

abbrev rm_X5_week : Room := { frames := 13, cells := 0, slots := 0, locals := 599 }
theorem hd_X5_week : yX5_week.cls = RX5 ∧ yX5_week.cls ≠ "java/lang/invoke/MethodHandle" ∧ yX5_week.cls ≠ "java/lang/invoke/VarHandle" ∧ (parseMethodDescriptor yX5_week.desc).map (fun d => d.parameters.length) = some 4 := by decide +kernel
theorem inX5_week_5 : ∀ w ∈ wsX50, w ∈ wsX5_week := fun _ h => List.mem_cons_of_mem _ (List.mem_append_left _ (List.mem_append_left _ (List.mem_append_left _ (List.mem_append_left _ (List.mem_append_left _ (List.mem_append_right _ h))))))
theorem inX5_week_1 : ∀ w ∈ wsX10, w ∈ wsX5_week := fun _ h => List.mem_cons_of_mem _ (List.mem_append_left _ (List.mem_append_left _ (List.mem_append_left _ (List.mem_append_left _ (List.mem_append_right _ h)))))
theorem inX5_week_2 : ∀ w ∈ wsX20, w ∈ wsX5_week := fun _ h => List.mem_cons_of_mem _ (List.mem_append_left _ (List.mem_append_left _ (List.mem_append_left _ (List.mem_append_right _ h))))
theorem inX5_week_4 : ∀ w ∈ wsX40, w ∈ wsX5_week := fun _ h => List.mem_cons_of_mem _ (List.mem_append_left _ (List.mem_append_left _ (List.mem_append_right _ h)))
theorem inX5_week_3 : ∀ w ∈ wsX30, w ∈ wsX5_week := fun _ h => List.mem_cons_of_mem _ (List.mem_append_left _ (List.mem_append_right _ h))
theorem inX5_week_0 : ∀ w ∈ wsX00, w ∈ wsX5_week := fun _ h => List.mem_cons_of_mem _ (List.mem_append_right _ h)
section S_X5_week
variable {p : Program} {l : Launch} {e : Env} {s : State} {m : MethodId} {args : Array Value} {below : List Frame} {meth : Method} {c : Code} {D : va_G} {cA : Nat → ClassId} {ad : Nat → Nat} {r : Int32 × St}
end S_X5_week
noncomputable def f_X5_week (σ : St) (a1 : Int32) (a2 : Int32) (a3 : Int32) (a4 : Int32) : Option (Int32 × St) := bnd (f_X5_isNoShelf a1) fun r1 => (if r1 = 0 then bnd (f_X5_isNoBans a2) fun r3 => (if r3 = 0 then bnd (f_X5_isNoPercent a3) fun r5 => (if r5 = 0 then bnd (f_X5_isNoHalf a4) fun r7 => (if r7 = 0 then (if (σ.1 1 1) = 0 then some ((-3), σ) else bnd (f_X5_bytesRefusal σ a1) fun r10 => (if r10 = 0 then chk (inb a1 8) <| nw (126 + 2 * a1.toNatClampNeg : Nat) fun v113 => bnd (f_X5_isRowOfDishes σ v113) fun r14 => (if r14 = 0 then some ((-13), σ) else bnd (f_X2_thinkOf σ 1 a2 a3) fun r16 => bnd (f_X2_countWays r16 v113) fun r17 => (if a4 = 0 then some (r17.1 97 5, r17) else some (r17.1 97 6, r17))) else some (r10, σ))) else some ((-1), σ)) else some ((-1), σ)) else some ((-1), σ)) else some ((-1), σ))
set_option maxHeartbeats 4000000 in
set_option maxRecDepth 100000 in
theorem c_X5_week (l : Launch) (D : va_G) (cA : Nat → ClassId) (ad : Nat → Nat) (hij : Ij ad SC) (σ : St) (a1 : Int32) (a2 : Int32) (a3 : Int32) (a4 : Int32) (r : Int32 × St) (hf : f_X5_week σ a1 a2 a3 a4 = some r) : Met l yX5_week wsX5_week rm_X5_week (PC D cA ad SC [.ref (ad 0), .int a1, .int a2, .int a3, .int a4] σ) (Qi D cA ad SC r) 0 0 (Aw ad SC) := by
  rw [f_X5_week] at hf
  refine k_head (own := RX5) (ws := wsX5_week) (cc := cX5_week) (nL := 7) (ret := (some .int)) pn_X5 rfl rfl hij (Nat.le_of_ble_eq_true rfl) (fun p e s m below meth c ls X hW hl => ?_)
  have hl : lv_has ls 7 [(0, .ref (ad 0)), (1, .int a1), (2, .int a2), (3, .int a3), (4, .int a4)] := hl
  obtain ⟨hx, hb, hml, hown, hts, hr, hlk, hK, hij⟩ := id X
  refine lv_iload_n hx hb dX5_week_0 rfl (lv_at hl 1 rfl) ?_
  obtain ⟨r1, z1, hf⟩ := bnd_e hf
  refine r_cSiR X hW (c_X5_isNoShelf l D cA ad hij σ a1 r1 z1) gX5_week_X5_isNoShelf rfl ⟨rfl, rfl⟩ hd_X5_isNoShelf ⟨Nat.le_of_ble_eq_true rfl, Nat.le_of_ble_eq_true rfl⟩ rfl (Nat.le_of_ble_eq_true rfl) hl.1 dX5_week_1 (fun H locs hW => ?_)
  refine lv_if_ne (tgt := 29) hx hb dX5_week_4 (by decide) (fun c2 => ?_) (fun c2 => ?_)
  · have hf := ie_e hf c2
    refine lv_iconst (v := (-1)) hx hb dX5_week_29 (by decide) ?_
    exact r_iret X hW rfl rfl hf dX5_week_30
  · have hf := it_e hf c2
    refine lv_iload_n hx hb dX5_week_7 rfl (lv_at hl 2 rfl) ?_
    obtain ⟨r3, z3, hf⟩ := bnd_e hf
    refine r_cSiR X hW (c_X5_isNoBans l D cA ad hij σ a2 r3 z3) gX5_week_X5_isNoBans rfl ⟨rfl, rfl⟩ hd_X5_isNoBans ⟨Nat.le_of_ble_eq_true rfl, Nat.le_of_ble_eq_true rfl⟩ rfl (Nat.le_of_ble_eq_true rfl) hl.1 dX5_week_8 (fun H locs hW => ?_)
    refine lv_if_ne (tgt := 29) hx hb dX5_week_11 (by decide) (fun c4 => ?_) (fun c4 => ?_)
    · have hf := ie_e hf c4
      refine lv_iconst (v := (-1)) hx hb dX5_week_29 (by decide) ?_
      exact r_iret X hW rfl rfl hf dX5_week_30
    · have hf := it_e hf c4
      refine lv_iload_n hx hb dX5_week_14 rfl (lv_at hl 3 rfl) ?_
      obtain ⟨r5, z5, hf⟩ := bnd_e hf
      refine r_cSiR X hW (c_X5_isNoPercent l D cA ad hij σ a3 r5 z5) gX5_week_X5_isNoPercent rfl ⟨rfl, rfl⟩ hd_X5_isNoPercent ⟨Nat.le_of_ble_eq_true rfl, Nat.le_of_ble_eq_true rfl⟩ rfl (Nat.le_of_ble_eq_true rfl) hl.1 dX5_week_15 (fun H locs hW => ?_)
      refine lv_if_ne (tgt := 29) hx hb dX5_week_18 (by decide) (fun c6 => ?_) (fun c6 => ?_)
      · have hf := ie_e hf c6
        refine lv_iconst (v := (-1)) hx hb dX5_week_29 (by decide) ?_
        exact r_iret X hW rfl rfl hf dX5_week_30
      · have hf := it_e hf c6
        refine lv_iload hx hb dX5_week_21 (lv_at hl 4 rfl) ?_
        obtain ⟨r7, z7, hf⟩ := bnd_e hf
        refine r_cSiR X hW (c_X5_isNoHalf l D cA ad hij σ a4 r7 z7) gX5_week_X5_isNoHalf rfl ⟨rfl, rfl⟩ hd_X5_isNoHalf ⟨Nat.le_of_ble_eq_true rfl, Nat.le_of_ble_eq_true rfl⟩ rfl (Nat.le_of_ble_eq_true rfl) hl.1 dX5_week_23 (fun H locs hW => ?_)
        refine lv_if_eq (tgt := 31) hx hb dX5_week_26 (by decide) (fun c8 => ?_) (fun c8 => ?_)
        · have hf := it_e hf c8
          refine lv_aload_n hx hb dX5_week_31 rfl (lv_at hl 0 rfl) ?_
          refine get_5_0 X hW kC_0 iC_0 inX5_week_5 (List.mem_of_getElem? (i := 1) rfl) dX5_week_32 ?_
          refine get_1_1 X hW kC_1 iC_1 inX5_week_1 (List.mem_of_getElem? (i := 2) rfl) dX5_week_35 ?_
          refine lv_if_ne (tgt := 44) hx hb dX5_week_38 (by decide) (fun c9 => ?_) (fun c9 => ?_)
          · have hf := ie_e hf c9
            refine lv_aload_n hx hb dX5_week_44 rfl (lv_at hl 0 rfl) ?_
            refine lv_iload_n hx hb dX5_week_45 rfl (lv_at hl 1 rfl) ?_
            obtain ⟨r10, z10, hf⟩ := bnd_e hf
            refine r_cViR X hW kC_0 iC_0 rfl (c_X5_bytesRefusal l D cA ad hij σ a1 r10 z10) gX5_week_X5_bytesRefusal rfl ⟨rfl, rfl⟩ hd_X5_bytesRefusal ⟨Nat.le_of_ble_eq_true rfl, Nat.le_of_ble_eq_true rfl⟩ rfl (Nat.le_of_ble_eq_true rfl) hl.1 dX5_week_46 (fun H locs hW => ?_)
            refine lv_istore (lv' := [(5, .int r10), (0, .ref (ad 0)), (1, .int a1), (2, .int a2), (3, .int a3), (4, .int a4)]) hx hb dX5_week_49 hl (by decide) rfl (fun ls hl => ?_)
            refine lv_iload hx hb dX5_week_51 (lv_at hl 0 rfl) ?_
            refine lv_if_eq (tgt := 59) hx hb dX5_week_53 (by decide) (fun c11 => ?_) (fun c11 => ?_)
            · have hf := it_e hf c11
              refine lv_aload_n hx hb dX5_week_59 rfl (lv_at hl 1 rfl) ?_
              refine get_5_7 X hW kC_0 iC_0 inX5_week_5 (List.mem_of_getElem? (i := 3) rfl) dX5_week_60 ?_
              refine lv_iload_n hx hb dX5_week_63 rfl (lv_at hl 2 rfl) ?_
              obtain ⟨x12, hf⟩ := chk_e hf
              refine r_aald (j := 126 + 2 * a1.toNatClampNeg) X hW kC_125 iC_125 nC_125 (by decide) rfl x12 rfl dX5_week_64 ?_
              obtain ⟨v113, e13, hf⟩ := nw_e hf
              refine tR _ e13 ?_
              refine lv_astore (lv' := [(6, .ref (ad v113)), (5, .int r10), (0, .ref (ad 0)), (1, .int a1), (2, .int a2), (3, .int a3), (4, .int a4)]) hx hb dX5_week_65 hl (by decide) rfl (fun ls hl => ?_)
              refine lv_aload hx hb dX5_week_67 (lv_at hl 0 rfl) ?_
              obtain ⟨r14, z14, hf⟩ := bnd_e hf
              refine r_cSiR X hW (c_X5_isRowOfDishes l D cA ad hij σ v113 r14 z14) gX5_week_X5_isRowOfDishes rfl ⟨rfl, rfl⟩ hd_X5_isRowOfDishes ⟨Nat.le_of_ble_eq_true rfl, Nat.le_of_ble_eq_true rfl⟩ rfl (Nat.le_of_ble_eq_true rfl) hl.1 dX5_week_69 (fun H locs hW => ?_)
              refine lv_if_ne (tgt := 78) hx hb dX5_week_72 (by decide) (fun c15 => ?_) (fun c15 => ?_)
              · have hf := ie_e hf c15
                refine lv_aload_n hx hb dX5_week_78 rfl (lv_at hl 2 rfl) ?_
                refine get_5_4 X hW kC_0 iC_0 inX5_week_5 (List.mem_of_getElem? (i := 4) rfl) dX5_week_79 ?_
                refine lv_aload_n hx hb dX5_week_82 rfl (lv_at hl 2 rfl) ?_
                refine get_5_0 X hW kC_0 iC_0 inX5_week_5 (List.mem_of_getElem? (i := 1) rfl) dX5_week_83 ?_
                refine lv_iload_n hx hb dX5_week_86 rfl (lv_at hl 4 rfl) ?_
                refine lv_iload_n hx hb dX5_week_87 rfl (lv_at hl 5 rfl) ?_
                obtain ⟨r16, z16, hf⟩ := bnd_e hf
                refine r_cVv X hW kC_97 iC_97 rfl (c_X2_thinkOf l D cA ad hij σ 1 a2 a3 r16 z16) gX5_week_X2_thinkOf rfl ⟨rfl, rfl⟩ hd_X2_thinkOf ⟨Nat.le_of_ble_eq_true rfl, Nat.le_of_ble_eq_true rfl⟩ rfl (Nat.le_of_ble_eq_true rfl) hl.1 dX5_week_88 (fun H locs hW => ?_)
                refine lv_aload_n hx hb dX5_week_91 rfl (lv_at hl 2 rfl) ?_
                refine get_5_4 X hW kC_0 iC_0 inX5_week_5 (List.mem_of_getElem? (i := 4) rfl) dX5_week_92 ?_
                refine lv_aload hx hb dX5_week_95 (lv_at hl 0 rfl) ?_
                obtain ⟨r17, z17, hf⟩ := bnd_e hf
                refine r_cVv X hW kC_97 iC_97 rfl (c_X2_countWays l D cA ad hij r16 v113 r17 z17) gX5_week_X2_countWays rfl ⟨rfl, rfl⟩ hd_X2_countWays ⟨Nat.le_of_ble_eq_true rfl, Nat.le_of_ble_eq_true rfl⟩ rfl (Nat.le_of_ble_eq_true rfl) hl.1 dX5_week_97 (fun H locs hW => ?_)
                refine lv_iload hx hb dX5_week_100 (lv_at hl 6 rfl) ?_
                refine lv_if_ne (tgt := 115) hx hb dX5_week_102 (by decide) (fun c18 => ?_) (fun c18 => ?_)
                · have hf := ie_e hf c18
                  refine lv_aload_n hx hb dX5_week_115 rfl (lv_at hl 2 rfl) ?_
                  refine get_5_4 X hW kC_0 iC_0 inX5_week_5 (List.mem_of_getElem? (i := 4) rfl) dX5_week_116 ?_
                  refine get_2_6 X hW kC_97 iC_97 inX5_week_2 (List.mem_of_getElem? (i := 6) rfl) dX5_week_119 ?_
                  exact r_iret X hW rfl rfl hf dX5_week_122
                · have hf := it_e hf c18
                  refine lv_aload_n hx hb dX5_week_105 rfl (lv_at hl 2 rfl) ?_
                  refine get_5_4 X hW kC_0 iC_0 inX5_week_5 (List.mem_of_getElem? (i := 4) rfl) dX5_week_106 ?_
                  refine get_2_5 X hW kC_97 iC_97 inX5_week_2 (List.mem_of_getElem? (i := 5) rfl) dX5_week_109 ?_
                  refine lv_goto (tgt := 122) hx hb dX5_week_112 (by decide) ?_
                  exact r_iret X hW rfl rfl hf dX5_week_122
              · have hf := it_e hf c15
                refine lv_bipush (v := (-13)) hx hb dX5_week_75 (by decide) ?_
                exact r_iret X hW rfl rfl hf dX5_week_77
            · have hf := ie_e hf c11
              refine lv_iload hx hb dX5_week_56 (lv_at hl 0 rfl) ?_
              exact r_iret X hW rfl rfl hf dX5_week_58
          · have hf := it_e hf c9
            refine lv_bipush (v := (-3)) hx hb dX5_week_41 (by decide) ?_
            exact r_iret X hW rfl rfl hf dX5_week_43
        · have hf := ie_e hf c8
          refine lv_iconst (v := (-1)) hx hb dX5_week_29 (by decide) ?_
          exact r_iret X hW rfl rfl hf dX5_week_30

abbrev rm_X5_firstBringing : Room := { frames := 3, cells := 0, slots := 0, locals := 73 }
theorem hd_X5_firstBringing : yX5_firstBringing.cls = RX5 ∧ yX5_firstBringing.cls ≠ "java/lang/invoke/MethodHandle" ∧ yX5_firstBringing.cls ≠ "java/lang/invoke/VarHandle" ∧ (parseMethodDescriptor yX5_firstBringing.desc).map (fun d => d.parameters.length) = some 5 := by decide +kernel
theorem inX5_firstBringing_5 : ∀ w ∈ wsX50, w ∈ wsX5_firstBringing := fun _ h => List.mem_cons_of_mem _ (List.mem_append_left _ (List.mem_append_right _ h))
theorem inX5_firstBringing_0 : ∀ w ∈ wsX00, w ∈ wsX5_firstBringing := fun _ h => List.mem_cons_of_mem _ (List.mem_append_right _ h)
section S_X5_firstBringing
variable {p : Program} {l : Launch} {e : Env} {s : State} {m : MethodId} {args : Array Value} {below : List Frame} {meth : Method} {c : Code} {D : va_G} {cA : Nat → ClassId} {ad : Nat → Nat} {r : Int32 × St}
noncomputable def f_X5_firstBringing_10 (k50 : Int32 → St → Option (Int32 × St)) (k59 : St → Option (Int32 × St)) : Nat → Nat → Int32 → Int32 → Int32 → Int32 → Int32 → Int32 → St → Option (Int32 × St)
  | 0, _, _, _, _, _, _, _, _ => none
  | n + 1, v1, v2, v3, v4, v5, v6, v7, σ => (if v6 ≤ v7 then k59 σ else bnd (f_X0_become σ 122 v1) fun r3 => bnd (f_X0_takeCode r3 122 v7 v5 v4) fun r4 => bnd (f_X0_isOver r4 122 v2 v3) fun r5 => (if r5 = 0 then nw (v7 + 1 : Int32) fun v107 => f_X5_firstBringing_10 k50 k59 n v1 v2 v3 v4 v5 v6 v107 r4 else k50 v7 r4))
set_option maxHeartbeats 4000000 in
set_option maxRecDepth 100000 in
theorem b_X5_firstBringing_10 {k50 : Int32 → St → Option (Int32 × St)} {k59 : St → Option (Int32 × St)} (X : Cx RX5 wsX5_firstBringing cX5_firstBringing 8 (some .int) D cA ad SC p s m args meth c) (h50 : ∀ (w0 : Int32) (σ : St) (H : Heap) (locs : List Loc) (ls : Array Slot), k50 w0 σ = some r → Rn D cA ad SC s.heap σ H locs → lv_has ls 8 [(7, .int w0)] → W p l e rm_X5_firstBringing s m args below meth c H locs 0 0 (MQ below (Qi D cA ad SC r) args s 0 0 (Aw ad SC)) (F0 m 50 ls [])) (h59 : ∀  (σ : St) (H : Heap) (locs : List Loc) (ls : Array Slot), k59 σ = some r → Rn D cA ad SC s.heap σ H locs → lv_has ls 8 [] → W p l e rm_X5_firstBringing s m args below meth c H locs 0 0 (MQ below (Qi D cA ad SC r) args s 0 0 (Aw ad SC)) (F0 m 59 ls [])) : ∀ (n : Nat) (v1 : Nat) (v2 : Int32) (v3 : Int32) (v4 : Int32) (v5 : Int32) (v6 : Int32) (v7 : Int32) (σ : St) (H : Heap) (locs : List Loc) (ls : Array Slot), f_X5_firstBringing_10 k50 k59 n v1 v2 v3 v4 v5 v6 v7 σ = some r → Rn D cA ad SC s.heap σ H locs → lv_has ls 8 [(0, .ref (ad 0)), (1, .ref (ad v1)), (2, .int v2), (3, .int v3), (4, .int v4), (5, .int v5), (6, .int v6), (7, .int v7)] → W p l e rm_X5_firstBringing s m args below meth c H locs 0 0 (MQ below (Qi D cA ad SC r) args s 0 0 (Aw ad SC)) (F0 m 10 ls []) := by
  obtain ⟨hx, hb, hml, hown, hts, hr, hlk, hK, hij⟩ := id X
  intro n
  induction n with
  | zero =>
    intro v1 v2 v3 v4 v5 v6 v7 σ H locs ls hf
    exact nomatch (show (none : Option (Int32 × St)) = some r from hf)
  | succ n ih =>
    intro v1 v2 v3 v4 v5 v6 v7 σ H locs ls hf hW hl
    rw [f_X5_firstBringing_10] at hf
    refine lv_iload hx hb dX5_firstBringing_10 (lv_at hl 7 rfl) ?_
    refine lv_iload hx hb dX5_firstBringing_12 (lv_at hl 6 rfl) ?_
    refine lv_icmp_ge (tgt := 59) hx hb dX5_firstBringing_14 (by decide) (fun c2 => ?_) (fun c2 => ?_)
    · have hf := it_e hf c2
      exact h59 σ _ _ _ hf hW (lv_sub hl [] rfl)
    · have hf := ie_e hf c2
      refine lv_aload_n hx hb dX5_firstBringing_17 rfl (lv_at hl 0 rfl) ?_
      refine get_5_5 X hW kC_0 iC_0 inX5_firstBringing_5 (List.mem_of_getElem? (i := 1) rfl) dX5_firstBringing_18 ?_
      refine lv_aload_n hx hb dX5_firstBringing_21 rfl (lv_at hl 1 rfl) ?_
      obtain ⟨r3, z3, hf⟩ := bnd_e hf
      refine r_cVv X hW kC_122 iC_122 rfl (c_X0_become l D cA ad hij σ 122 v1 r3 z3) gX5_firstBringing_X0_become rfl ⟨rfl, rfl⟩ hd_X0_become ⟨Nat.le_of_ble_eq_true rfl, Nat.le_of_ble_eq_true rfl⟩ rfl (Nat.le_of_ble_eq_true rfl) hl.1 dX5_firstBringing_22 (fun H locs hW => ?_)
      refine lv_aload_n hx hb dX5_firstBringing_25 rfl (lv_at hl 0 rfl) ?_
      refine get_5_5 X hW kC_0 iC_0 inX5_firstBringing_5 (List.mem_of_getElem? (i := 1) rfl) dX5_firstBringing_26 ?_
      refine lv_iload hx hb dX5_firstBringing_29 (lv_at hl 7 rfl) ?_
      refine lv_iload hx hb dX5_firstBringing_31 (lv_at hl 5 rfl) ?_
      refine lv_iload hx hb dX5_firstBringing_33 (lv_at hl 4 rfl) ?_
      obtain ⟨r4, z4, hf⟩ := bnd_e hf
      refine r_cVv X hW kC_122 iC_122 rfl (c_X0_takeCode l D cA ad hij r3 122 v7 v5 v4 r4 z4) gX5_firstBringing_X0_takeCode rfl ⟨rfl, rfl⟩ hd_X0_takeCode ⟨Nat.le_of_ble_eq_true rfl, Nat.le_of_ble_eq_true rfl⟩ rfl (Nat.le_of_ble_eq_true rfl) hl.1 dX5_firstBringing_35 (fun H locs hW => ?_)
      refine lv_aload_n hx hb dX5_firstBringing_38 rfl (lv_at hl 0 rfl) ?_
      refine get_5_5 X hW kC_0 iC_0 inX5_firstBringing_5 (List.mem_of_getElem? (i := 1) rfl) dX5_firstBringing_39 ?_
      refine lv_iload_n hx hb dX5_firstBringing_42 rfl (lv_at hl 2 rfl) ?_
      refine lv_iload_n hx hb dX5_firstBringing_43 rfl (lv_at hl 3 rfl) ?_
      obtain ⟨r5, z5, hf⟩ := bnd_e hf
      refine r_cViR X hW kC_122 iC_122 rfl (c_X0_isOver l D cA ad hij r4 122 v2 v3 r5 z5) gX5_firstBringing_X0_isOver rfl ⟨rfl, rfl⟩ hd_X0_isOver ⟨Nat.le_of_ble_eq_true rfl, Nat.le_of_ble_eq_true rfl⟩ rfl (Nat.le_of_ble_eq_true rfl) hl.1 dX5_firstBringing_44 (fun H locs hW => ?_)
      refine lv_if_eq (tgt := 53) hx hb dX5_firstBringing_47 (by decide) (fun c6 => ?_) (fun c6 => ?_)
      · have hf := it_e hf c6
        obtain ⟨v107, e7, hf⟩ := nw_e hf
        refine lv_iinc (v := v107) (lv' := [(7, .int v107), (0, .ref (ad 0)), (1, .ref (ad v1)), (2, .int v2), (3, .int v3), (4, .int v4), (5, .int v5), (6, .int v6)]) hx hb dX5_firstBringing_53 hl (k := 7) rfl (by rw [e7]; rfl) (by decide) rfl (fun ls hl => ?_)
        refine lv_goto (tgt := 10) hx hb dX5_firstBringing_56 (by decide) ?_
        exact ih v1 v2 v3 v4 v5 v6 v107 r4 _ _ _ hf hW (lv_sub hl [1, 2, 3, 4, 5, 6, 7, 0] rfl)
      · have hf := ie_e hf c6
        exact h50 v7 r4 _ _ _ hf hW (lv_sub hl [7] rfl)
end S_X5_firstBringing
noncomputable def f_X5_firstBringing (σ : St) (a1 : Nat) (a2 : Int32) (a3 : Int32) (a4 : Int32) (a5 : Int32) : Option (Int32 × St) := bnd (f_X5_codesOf a5) fun r1 => f_X5_firstBringing_10 (fun (w8_0 : Int32) (σ9 : St) => some (w8_0, σ9)) (fun  (σ10 : St) => some ((-4), σ10)) fu a1 a2 a3 a4 a5 r1 0 σ
set_option maxHeartbeats 4000000 in
set_option maxRecDepth 100000 in
theorem c_X5_firstBringing (l : Launch) (D : va_G) (cA : Nat → ClassId) (ad : Nat → Nat) (hij : Ij ad SC) (σ : St) (a1 : Nat) (a2 : Int32) (a3 : Int32) (a4 : Int32) (a5 : Int32) (r : Int32 × St) (hf : f_X5_firstBringing σ a1 a2 a3 a4 a5 = some r) : Met l yX5_firstBringing wsX5_firstBringing rm_X5_firstBringing (PC D cA ad SC [.ref (ad 0), .ref (ad a1), .int a2, .int a3, .int a4, .int a5] σ) (Qi D cA ad SC r) 0 0 (Aw ad SC) := by
  rw [f_X5_firstBringing] at hf
  refine k_head (own := RX5) (ws := wsX5_firstBringing) (cc := cX5_firstBringing) (nL := 8) (ret := (some .int)) pn_X5 rfl rfl hij (Nat.le_of_ble_eq_true rfl) (fun p e s m below meth c ls X hW hl => ?_)
  have hl : lv_has ls 8 [(0, .ref (ad 0)), (1, .ref (ad a1)), (2, .int a2), (3, .int a3), (4, .int a4), (5, .int a5)] := hl
  obtain ⟨hx, hb, hml, hown, hts, hr, hlk, hK, hij⟩ := id X
  refine lv_iload hx hb dX5_firstBringing_0 (lv_at hl 5 rfl) ?_
  obtain ⟨r1, z1, hf⟩ := bnd_e hf
  refine r_cSiR X hW (c_X5_codesOf l D cA ad hij σ a5 r1 z1) gX5_firstBringing_X5_codesOf rfl ⟨rfl, rfl⟩ hd_X5_codesOf ⟨Nat.le_of_ble_eq_true rfl, Nat.le_of_ble_eq_true rfl⟩ rfl (Nat.le_of_ble_eq_true rfl) hl.1 dX5_firstBringing_2 (fun H locs hW => ?_)
  refine lv_istore (lv' := [(6, .int r1), (0, .ref (ad 0)), (1, .ref (ad a1)), (2, .int a2), (3, .int a3), (4, .int a4), (5, .int a5)]) hx hb dX5_firstBringing_5 hl (by decide) rfl (fun ls hl => ?_)
  refine lv_iconst (v := 0) hx hb dX5_firstBringing_7 (by decide) ?_
  refine lv_istore (lv' := [(7, .int 0), (6, .int r1), (0, .ref (ad 0)), (1, .ref (ad a1)), (2, .int a2), (3, .int a3), (4, .int a4), (5, .int a5)]) hx hb dX5_firstBringing_8 hl (by decide) rfl (fun ls hl => ?_)
  refine b_X5_firstBringing_10 X (fun w8_0 σ9 H locs ls hf hW hl => ?_) (fun σ10 H locs ls hf hW hl => ?_) fu a1 a2 a3 a4 a5 r1 0 σ _ _ _ hf hW (lv_sub hl [2, 3, 4, 5, 6, 7, 1, 0] rfl)
  · refine lv_iload hx hb dX5_firstBringing_50 (lv_at hl 0 rfl) ?_
    exact r_iret X hW rfl rfl hf dX5_firstBringing_52
  · refine lv_bipush (v := (-4)) hx hb dX5_firstBringing_59 (by decide) ?_
    exact r_iret X hW rfl rfl hf dX5_firstBringing_61

abbrev rm_X5_bring : Room := { frames := 4, cells := 0, slots := 0, locals := 100 }
theorem hd_X5_bring : yX5_bring.cls = RX5 ∧ yX5_bring.cls ≠ "java/lang/invoke/MethodHandle" ∧ yX5_bring.cls ≠ "java/lang/invoke/VarHandle" ∧ (parseMethodDescriptor yX5_bring.desc).map (fun d => d.parameters.length) = some 5 := by decide +kernel
theorem inX5_bring_5 : ∀ w ∈ wsX50, w ∈ wsX5_bring := fun _ h => List.mem_cons_of_mem _ (List.mem_append_left _ (List.mem_append_left _ (List.mem_append_left _ (List.mem_append_right _ h))))
theorem inX5_bring_1 : ∀ w ∈ wsX10, w ∈ wsX5_bring := fun _ h => List.mem_cons_of_mem _ (List.mem_append_left _ (List.mem_append_left _ (List.mem_append_right _ h)))
theorem inX5_bring_3 : ∀ w ∈ wsX30, w ∈ wsX5_bring := fun _ h => List.mem_cons_of_mem _ (List.mem_append_left _ (List.mem_append_right _ h))
theorem inX5_bring_0 : ∀ w ∈ wsX00, w ∈ wsX5_bring := fun _ h => List.mem_cons_of_mem _ (List.mem_append_right _ h)
section S_X5_bring
variable {p : Program} {l : Launch} {e : Env} {s : State} {m : MethodId} {args : Array Value} {below : List Frame} {meth : Method} {c : Code} {D : va_G} {cA : Nat → ClassId} {ad : Nat → Nat} {r : Int32 × St}
noncomputable def f_X5_bring_60 (k98 : Int32 → Int32 → Int32 → St → Option (Int32 × St)) (k122 : St → Option (Int32 × St)) : Nat → Int32 → Int32 → Int32 → Int32 → Nat → Int32 → St → Option (Int32 × St)
  | 0, _, _, _, _, _, _, _ => none
  | n + 1, v2, v3, v4, v5, v6, v7, σ => (if 3 < v7 then k122 σ else chk (kOK SC v6 0) <| (if 12 < ((σ.1 v6 2) + v7) then k122 σ else bnd (f_X5_firstBringing σ v6 v2 v3 v4 v7) fun r17 => nw (r17.1 : Int32) fun v118 => (if v118 < 0 then nw (v7 + 1 : Int32) fun v120 => f_X5_bring_60 k98 k122 n v2 v3 v4 v5 v6 v120 r17.2 else k98 v5 v7 v118 r17.2)))
set_option maxHeartbeats 4000000 in
set_option maxRecDepth 100000 in
theorem b_X5_bring_60 {k98 : Int32 → Int32 → Int32 → St → Option (Int32 × St)} {k122 : St → Option (Int32 × St)} (X : Cx RX5 wsX5_bring cX5_bring 9 (some .int) D cA ad SC p s m args meth c) (h98 : ∀ (w0 : Int32) (w1 : Int32) (w2 : Int32) (σ : St) (H : Heap) (locs : List Loc) (ls : Array Slot), k98 w0 w1 w2 σ = some r → Rn D cA ad SC s.heap σ H locs → lv_has ls 9 [(5, .int w0), (7, .int w1), (8, .int w2)] → W p l e rm_X5_bring s m args below meth c H locs 0 0 (MQ below (Qi D cA ad SC r) args s 0 0 (Aw ad SC)) (F0 m 98 ls [])) (h122 : ∀  (σ : St) (H : Heap) (locs : List Loc) (ls : Array Slot), k122 σ = some r → Rn D cA ad SC s.heap σ H locs → lv_has ls 9 [] → W p l e rm_X5_bring s m args below meth c H locs 0 0 (MQ below (Qi D cA ad SC r) args s 0 0 (Aw ad SC)) (F0 m 122 ls [])) : ∀ (n : Nat) (v2 : Int32) (v3 : Int32) (v4 : Int32) (v5 : Int32) (v6 : Nat) (v7 : Int32) (σ : St) (H : Heap) (locs : List Loc) (ls : Array Slot), f_X5_bring_60 k98 k122 n v2 v3 v4 v5 v6 v7 σ = some r → Rn D cA ad SC s.heap σ H locs → lv_has ls 9 [(0, .ref (ad 0)), (2, .int v2), (3, .int v3), (4, .int v4), (5, .int v5), (6, .ref (ad v6)), (7, .int v7)] → W p l e rm_X5_bring s m args below meth c H locs 0 0 (MQ below (Qi D cA ad SC r) args s 0 0 (Aw ad SC)) (F0 m 60 ls []) := by
  obtain ⟨hx, hb, hml, hown, hts, hr, hlk, hK, hij⟩ := id X
  intro n
  induction n with
  | zero =>
    intro v2 v3 v4 v5 v6 v7 σ H locs ls hf
    exact nomatch (show (none : Option (Int32 × St)) = some r from hf)
  | succ n ih =>
    intro v2 v3 v4 v5 v6 v7 σ H locs ls hf hW hl
    rw [f_X5_bring_60] at hf
    refine lv_iload hx hb dX5_bring_60 (lv_at hl 6 rfl) ?_
    refine lv_iconst (v := 3) hx hb dX5_bring_62 (by decide) ?_
    refine lv_icmp_gt (tgt := 122) hx hb dX5_bring_63 (by decide) (fun c14 => ?_) (fun c14 => ?_)
    · have hf := it_e hf c14
      exact h122 σ _ _ _ hf hW (lv_sub hl [] rfl)
    · have hf := ie_e hf c14
      refine lv_aload hx hb dX5_bring_66 (lv_at hl 5 rfl) ?_
      obtain ⟨q15, hf⟩ := chk_e hf
      obtain ⟨i15, k15⟩ := kOK_e q15
      refine get_0_2 X hW k15 i15 inX5_bring_0 (List.mem_of_getElem? (i := 4) rfl) dX5_bring_68 ?_
      refine lv_iload hx hb dX5_bring_71 (lv_at hl 6 rfl) ?_
      refine lv_iadd hx hb dX5_bring_73 ?_
      refine lv_bipush (v := 12) hx hb dX5_bring_74 (by decide) ?_
      refine lv_icmp_gt (tgt := 122) hx hb dX5_bring_76 (by decide) (fun c16 => ?_) (fun c16 => ?_)
      · have hf := it_e hf c16
        exact h122 σ _ _ _ hf hW (lv_sub hl [] rfl)
      · have hf := ie_e hf c16
        refine lv_aload_n hx hb dX5_bring_79 rfl (lv_at hl 0 rfl) ?_
        refine lv_aload hx hb dX5_bring_80 (lv_at hl 5 rfl) ?_
        refine lv_iload_n hx hb dX5_bring_82 rfl (lv_at hl 1 rfl) ?_
        refine lv_iload_n hx hb dX5_bring_83 rfl (lv_at hl 2 rfl) ?_
        refine lv_iload hx hb dX5_bring_84 (lv_at hl 3 rfl) ?_
        refine lv_iload hx hb dX5_bring_86 (lv_at hl 6 rfl) ?_
        obtain ⟨r17, z17, hf⟩ := bnd_e hf
        refine r_cVi X hW kC_0 iC_0 rfl (c_X5_firstBringing l D cA ad hij σ v6 v2 v3 v4 v7 r17 z17) gX5_bring_X5_firstBringing rfl ⟨rfl, rfl⟩ hd_X5_firstBringing ⟨Nat.le_of_ble_eq_true rfl, Nat.le_of_ble_eq_true rfl⟩ rfl (Nat.le_of_ble_eq_true rfl) hl.1 dX5_bring_88 (fun H locs hW => ?_)
        obtain ⟨v118, e18, hf⟩ := nw_e hf
        refine tI _ e18 ?_
        refine lv_istore (lv' := [(8, .int v118), (0, .ref (ad 0)), (2, .int v2), (3, .int v3), (4, .int v4), (5, .int v5), (6, .ref (ad v6)), (7, .int v7)]) hx hb dX5_bring_91 hl (by decide) rfl (fun ls hl => ?_)
        refine lv_iload hx hb dX5_bring_93 (lv_at hl 0 rfl) ?_
        refine lv_if_lt (tgt := 116) hx hb dX5_bring_95 (by decide) (fun c19 => ?_) (fun c19 => ?_)
        · have hf := it_e hf c19
          obtain ⟨v120, e20, hf⟩ := nw_e hf
          refine lv_iinc (v := v120) (lv' := [(7, .int v120), (8, .int v118), (0, .ref (ad 0)), (2, .int v2), (3, .int v3), (4, .int v4), (5, .int v5), (6, .ref (ad v6))]) hx hb dX5_bring_116 hl (k := 7) rfl (by rw [e20]; rfl) (by decide) rfl (fun ls hl => ?_)
          refine lv_goto (tgt := 60) hx hb dX5_bring_119 (by decide) ?_
          exact ih v2 v3 v4 v5 v6 v120 r17.2 _ _ _ hf hW (lv_sub hl [2, 3, 4, 5, 6, 7, 0] rfl)
        · have hf := ie_e hf c19
          exact h98 v5 v7 v118 r17.2 _ _ _ hf hW (lv_sub hl [5, 7, 0] rfl)
end S_X5_bring
noncomputable def f_X5_bring (σ : St) (a1 : Int32) (a2 : Int32) (a3 : Int32) (a4 : Int32) (a5 : Int32) : Option (Int32 × St) := bnd (f_X1_has σ 1 a1) fun r1 => (if r1 = 0 then some ((-1), σ) else bnd (f_X5_isNoTaste a2) fun r3 => (if r3 = 0 then bnd (f_X5_isNoPercent a3) fun r5 => (if r5 = 0 then bnd (f_X5_isNoFigure a4) fun r7 => (if r7 = 0 then bnd (f_X5_isNoHalf a5) fun r9 => (if r9 = 0 then chk (inb a1 6) <| chk (kOK SC (3 + 5 * a1.toNatClampNeg) 3) <| nw (3 + 5 * a1.toNatClampNeg + 1 : Nat) fun v113 => f_X5_bring_60 (fun (w21_0 : Int32) (w22_1 : Int32) (w23_2 : Int32) (σ24 : St) => (if w21_0 = 0 then some (w22_1, σ24) else bnd (f_X5_firstKind w23_2 w22_1) fun r26 => some (r26, σ24))) (fun  (σ27 : St) => some ((-4), σ27)) fu a2 a3 a4 a5 v113 0 σ else some ((-1), σ)) else some ((-1), σ)) else some ((-1), σ)) else some ((-1), σ)))
set_option maxHeartbeats 4000000 in
set_option maxRecDepth 100000 in
theorem c_X5_bring (l : Launch) (D : va_G) (cA : Nat → ClassId) (ad : Nat → Nat) (hij : Ij ad SC) (σ : St) (a1 : Int32) (a2 : Int32) (a3 : Int32) (a4 : Int32) (a5 : Int32) (r : Int32 × St) (hf : f_X5_bring σ a1 a2 a3 a4 a5 = some r) : Met l yX5_bring wsX5_bring rm_X5_bring (PC D cA ad SC [.ref (ad 0), .int a1, .int a2, .int a3, .int a4, .int a5] σ) (Qi D cA ad SC r) 0 0 (Aw ad SC) := by
  rw [f_X5_bring] at hf
  refine k_head (own := RX5) (ws := wsX5_bring) (cc := cX5_bring) (nL := 9) (ret := (some .int)) pn_X5 rfl rfl hij (Nat.le_of_ble_eq_true rfl) (fun p e s m below meth c ls X hW hl => ?_)
  have hl : lv_has ls 9 [(0, .ref (ad 0)), (1, .int a1), (2, .int a2), (3, .int a3), (4, .int a4), (5, .int a5)] := hl
  obtain ⟨hx, hb, hml, hown, hts, hr, hlk, hK, hij⟩ := id X
  refine lv_aload_n hx hb dX5_bring_0 rfl (lv_at hl 0 rfl) ?_
  refine get_5_0 X hW kC_0 iC_0 inX5_bring_5 (List.mem_of_getElem? (i := 1) rfl) dX5_bring_1 ?_
  refine lv_iload_n hx hb dX5_bring_4 rfl (lv_at hl 1 rfl) ?_
  obtain ⟨r1, z1, hf⟩ := bnd_e hf
  refine r_cViR X hW kC_1 iC_1 rfl (c_X1_has l D cA ad hij σ 1 a1 r1 z1) gX5_bring_X1_has rfl ⟨rfl, rfl⟩ hd_X1_has ⟨Nat.le_of_ble_eq_true rfl, Nat.le_of_ble_eq_true rfl⟩ rfl (Nat.le_of_ble_eq_true rfl) hl.1 dX5_bring_5 (fun H locs hW => ?_)
  refine lv_if_eq (tgt := 41) hx hb dX5_bring_8 (by decide) (fun c2 => ?_) (fun c2 => ?_)
  · have hf := it_e hf c2
    refine lv_iconst (v := (-1)) hx hb dX5_bring_41 (by decide) ?_
    exact r_iret X hW rfl rfl hf dX5_bring_42
  · have hf := ie_e hf c2
    refine lv_iload_n hx hb dX5_bring_11 rfl (lv_at hl 2 rfl) ?_
    obtain ⟨r3, z3, hf⟩ := bnd_e hf
    refine r_cSiR X hW (c_X5_isNoTaste l D cA ad hij σ a2 r3 z3) gX5_bring_X5_isNoTaste rfl ⟨rfl, rfl⟩ hd_X5_isNoTaste ⟨Nat.le_of_ble_eq_true rfl, Nat.le_of_ble_eq_true rfl⟩ rfl (Nat.le_of_ble_eq_true rfl) hl.1 dX5_bring_12 (fun H locs hW => ?_)
    refine lv_if_ne (tgt := 41) hx hb dX5_bring_15 (by decide) (fun c4 => ?_) (fun c4 => ?_)
    · have hf := ie_e hf c4
      refine lv_iconst (v := (-1)) hx hb dX5_bring_41 (by decide) ?_
      exact r_iret X hW rfl rfl hf dX5_bring_42
    · have hf := it_e hf c4
      refine lv_iload_n hx hb dX5_bring_18 rfl (lv_at hl 3 rfl) ?_
      obtain ⟨r5, z5, hf⟩ := bnd_e hf
      refine r_cSiR X hW (c_X5_isNoPercent l D cA ad hij σ a3 r5 z5) gX5_bring_X5_isNoPercent rfl ⟨rfl, rfl⟩ hd_X5_isNoPercent ⟨Nat.le_of_ble_eq_true rfl, Nat.le_of_ble_eq_true rfl⟩ rfl (Nat.le_of_ble_eq_true rfl) hl.1 dX5_bring_19 (fun H locs hW => ?_)
      refine lv_if_ne (tgt := 41) hx hb dX5_bring_22 (by decide) (fun c6 => ?_) (fun c6 => ?_)
      · have hf := ie_e hf c6
        refine lv_iconst (v := (-1)) hx hb dX5_bring_41 (by decide) ?_
        exact r_iret X hW rfl rfl hf dX5_bring_42
      · have hf := it_e hf c6
        refine lv_iload hx hb dX5_bring_25 (lv_at hl 4 rfl) ?_
        obtain ⟨r7, z7, hf⟩ := bnd_e hf
        refine r_cSiR X hW (c_X5_isNoFigure l D cA ad hij σ a4 r7 z7) gX5_bring_X5_isNoFigure rfl ⟨rfl, rfl⟩ hd_X5_isNoFigure ⟨Nat.le_of_ble_eq_true rfl, Nat.le_of_ble_eq_true rfl⟩ rfl (Nat.le_of_ble_eq_true rfl) hl.1 dX5_bring_27 (fun H locs hW => ?_)
        refine lv_if_ne (tgt := 41) hx hb dX5_bring_30 (by decide) (fun c8 => ?_) (fun c8 => ?_)
        · have hf := ie_e hf c8
          refine lv_iconst (v := (-1)) hx hb dX5_bring_41 (by decide) ?_
          exact r_iret X hW rfl rfl hf dX5_bring_42
        · have hf := it_e hf c8
          refine lv_iload hx hb dX5_bring_33 (lv_at hl 5 rfl) ?_
          obtain ⟨r9, z9, hf⟩ := bnd_e hf
          refine r_cSiR X hW (c_X5_isNoHalf l D cA ad hij σ a5 r9 z9) gX5_bring_X5_isNoHalf rfl ⟨rfl, rfl⟩ hd_X5_isNoHalf ⟨Nat.le_of_ble_eq_true rfl, Nat.le_of_ble_eq_true rfl⟩ rfl (Nat.le_of_ble_eq_true rfl) hl.1 dX5_bring_35 (fun H locs hW => ?_)
          refine lv_if_eq (tgt := 43) hx hb dX5_bring_38 (by decide) (fun c10 => ?_) (fun c10 => ?_)
          · have hf := it_e hf c10
            refine lv_aload_n hx hb dX5_bring_43 rfl (lv_at hl 0 rfl) ?_
            refine get_5_0 X hW kC_0 iC_0 inX5_bring_5 (List.mem_of_getElem? (i := 1) rfl) dX5_bring_44 ?_
            refine get_1_0 X hW kC_1 iC_1 inX5_bring_1 (List.mem_of_getElem? (i := 2) rfl) dX5_bring_47 ?_
            refine lv_iload_n hx hb dX5_bring_50 rfl (lv_at hl 1 rfl) ?_
            obtain ⟨x11, hf⟩ := chk_e hf
            refine r_aald (j := 3 + 5 * a1.toNatClampNeg) X hW kC_2 iC_2 nC_2 (by decide) rfl x11 rfl dX5_bring_51 ?_
            obtain ⟨q12, hf⟩ := chk_e hf
            obtain ⟨i12, k12⟩ := kOK_e q12
            refine get_3_0 X hW k12 i12 inX5_bring_3 (List.mem_of_getElem? (i := 3) rfl) dX5_bring_52 ?_
            obtain ⟨v113, e13, hf⟩ := nw_e hf
            refine tR _ e13 ?_
            refine lv_astore (lv' := [(6, .ref (ad v113)), (0, .ref (ad 0)), (1, .int a1), (2, .int a2), (3, .int a3), (4, .int a4), (5, .int a5)]) hx hb dX5_bring_55 hl (by decide) rfl (fun ls hl => ?_)
            refine lv_iconst (v := 0) hx hb dX5_bring_57 (by decide) ?_
            refine lv_istore (lv' := [(7, .int 0), (6, .ref (ad v113)), (0, .ref (ad 0)), (1, .int a1), (2, .int a2), (3, .int a3), (4, .int a4), (5, .int a5)]) hx hb dX5_bring_58 hl (by decide) rfl (fun ls hl => ?_)
            refine b_X5_bring_60 X (fun w21_0 w22_1 w23_2 σ24 H locs ls hf hW hl => ?_) (fun σ27 H locs ls hf hW hl => ?_) fu a2 a3 a4 a5 v113 0 σ _ _ _ hf hW (lv_sub hl [2, 4, 5, 6, 7, 1, 0] rfl)
            · refine lv_iload hx hb dX5_bring_98 (lv_at hl 0 rfl) ?_
              refine lv_if_ne (tgt := 108) hx hb dX5_bring_100 (by decide) (fun c25 => ?_) (fun c25 => ?_)
              · have hf := ie_e hf c25
                refine lv_iload hx hb dX5_bring_108 (lv_at hl 2 rfl) ?_
                refine lv_iload hx hb dX5_bring_110 (lv_at hl 1 rfl) ?_
                obtain ⟨r26, z26, hf⟩ := bnd_e hf
                refine r_cSiR X hW (c_X5_firstKind l D cA ad hij σ24 w23_2 w22_1 r26 z26) gX5_bring_X5_firstKind rfl ⟨rfl, rfl⟩ hd_X5_firstKind ⟨Nat.le_of_ble_eq_true rfl, Nat.le_of_ble_eq_true rfl⟩ rfl (Nat.le_of_ble_eq_true rfl) hl.1 dX5_bring_112 (fun H locs hW => ?_)
                exact r_iret X hW rfl rfl hf dX5_bring_115
              · have hf := it_e hf c25
                refine lv_iload hx hb dX5_bring_103 (lv_at hl 1 rfl) ?_
                refine lv_goto (tgt := 115) hx hb dX5_bring_105 (by decide) ?_
                exact r_iret X hW rfl rfl hf dX5_bring_115
            · refine lv_bipush (v := (-4)) hx hb dX5_bring_122 (by decide) ?_
              exact r_iret X hW rfl rfl hf dX5_bring_124
          · have hf := ie_e hf c10
            refine lv_iconst (v := (-1)) hx hb dX5_bring_41 (by decide) ?_
            exact r_iret X hW rfl rfl hf dX5_bring_42

abbrev rm_X5_mayHave : Room := { frames := 3, cells := 0, slots := 0, locals := 73 }
theorem hd_X5_mayHave : yX5_mayHave.cls = RX5 ∧ yX5_mayHave.cls ≠ "java/lang/invoke/MethodHandle" ∧ yX5_mayHave.cls ≠ "java/lang/invoke/VarHandle" ∧ (parseMethodDescriptor yX5_mayHave.desc).map (fun d => d.parameters.length) = some 4 := by decide +kernel
theorem inX5_mayHave_5 : ∀ w ∈ wsX50, w ∈ wsX5_mayHave := fun _ h => List.mem_cons_of_mem _ (List.mem_append_left _ (List.mem_append_left _ (List.mem_append_left _ (List.mem_append_right _ h))))
theorem inX5_mayHave_1 : ∀ w ∈ wsX10, w ∈ wsX5_mayHave := fun _ h => List.mem_cons_of_mem _ (List.mem_append_left _ (List.mem_append_left _ (List.mem_append_right _ h)))
theorem inX5_mayHave_3 : ∀ w ∈ wsX30, w ∈ wsX5_mayHave := fun _ h => List.mem_cons_of_mem _ (List.mem_append_left _ (List.mem_append_right _ h))
theorem inX5_mayHave_0 : ∀ w ∈ wsX00, w ∈ wsX5_mayHave := fun _ h => List.mem_cons_of_mem _ (List.mem_append_right _ h)
section S_X5_mayHave
variable {p : Program} {l : Launch} {e : Env} {s : State} {m : MethodId} {args : Array Value} {below : List Frame} {meth : Method} {c : Code} {D : va_G} {cA : Nat → ClassId} {ad : Nat → Nat} {r : Int32 × St}
noncomputable def f_X5_mayHave_126 (k68 : Int32 → Int32 → Int32 → Nat → Int32 → Int32 → Int32 → Int32 → St → Option (Int32 × St)) (v2 : Int32) (v3 : Int32) (v4 : Int32) (v5 : Nat) (v6 : Int32) (v7 : Int32) (v8 : Int32) (v9 : Int32) (σ : St) : Option (Int32 × St) := nw (v9 + 1 : Int32) fun v119 => k68 v2 v3 v4 v5 v6 v7 v8 v119 σ
set_option maxHeartbeats 4000000 in
set_option maxRecDepth 100000 in
theorem b_X5_mayHave_126 {k68 : Int32 → Int32 → Int32 → Nat → Int32 → Int32 → Int32 → Int32 → St → Option (Int32 × St)} (X : Cx RX5 wsX5_mayHave cX5_mayHave 10 (some .int) D cA ad SC p s m args meth c) (h68 : ∀ (w0 : Int32) (w1 : Int32) (w2 : Int32) (w3 : Nat) (w4 : Int32) (w5 : Int32) (w6 : Int32) (w7 : Int32) (σ : St) (H : Heap) (locs : List Loc) (ls : Array Slot), k68 w0 w1 w2 w3 w4 w5 w6 w7 σ = some r → Rn D cA ad SC s.heap σ H locs → lv_has ls 10 [(0, .ref (ad 0)), (2, .int w0), (3, .int w1), (4, .int w2), (5, .ref (ad w3)), (6, .int w4), (7, .int w5), (8, .int w6), (9, .int w7)] → W p l e rm_X5_mayHave s m args below meth c H locs 0 0 (MQ below (Qi D cA ad SC r) args s 0 0 (Aw ad SC)) (F0 m 68 ls [])) : ∀ (v2 : Int32) (v3 : Int32) (v4 : Int32) (v5 : Nat) (v6 : Int32) (v7 : Int32) (v8 : Int32) (v9 : Int32) (σ : St) (H : Heap) (locs : List Loc) (ls : Array Slot), f_X5_mayHave_126 k68 v2 v3 v4 v5 v6 v7 v8 v9 σ = some r → Rn D cA ad SC s.heap σ H locs → lv_has ls 10 [(0, .ref (ad 0)), (2, .int v2), (3, .int v3), (4, .int v4), (5, .ref (ad v5)), (6, .int v6), (7, .int v7), (8, .int v8), (9, .int v9)] → W p l e rm_X5_mayHave s m args below meth c H locs 0 0 (MQ below (Qi D cA ad SC r) args s 0 0 (Aw ad SC)) (F0 m 126 ls []) := by
  obtain ⟨hx, hb, hml, hown, hts, hr, hlk, hK, hij⟩ := id X
  intro v2 v3 v4 v5 v6 v7 v8 v9 σ H locs ls hf hW hl
  rw [f_X5_mayHave_126] at hf
  obtain ⟨v119, e19, hf⟩ := nw_e hf
  refine lv_iinc (v := v119) (lv' := [(9, .int v119), (0, .ref (ad 0)), (2, .int v2), (3, .int v3), (4, .int v4), (5, .ref (ad v5)), (6, .int v6), (7, .int v7), (8, .int v8)]) hx hb dX5_mayHave_126 hl (k := 8) rfl (by rw [e19]; rfl) (by decide) rfl (fun ls hl => ?_)
  refine lv_goto (tgt := 68) hx hb dX5_mayHave_129 (by decide) ?_
  exact h68 v2 v3 v4 v5 v6 v7 v8 v119 σ _ _ _ hf hW (lv_sub hl [1, 2, 3, 4, 5, 6, 7, 8, 0] rfl)
noncomputable def f_X5_mayHave_121 (k68 : Int32 → Int32 → Int32 → Nat → Int32 → Int32 → Int32 → Int32 → St → Option (Int32 × St)) (v2 : Int32) (v3 : Int32) (v4 : Int32) (v5 : Nat) (v6 : Int32) (v8 : Int32) (v9 : Int32) (s0 : Int32) (σ : St) : Option (Int32 × St) := nw (v6 + 1 : Int32) fun v130 => f_X5_mayHave_126 k68 v2 v3 v4 v5 v130 s0 v8 v9 σ
set_option maxHeartbeats 4000000 in
set_option maxRecDepth 100000 in
theorem b_X5_mayHave_121 {k68 : Int32 → Int32 → Int32 → Nat → Int32 → Int32 → Int32 → Int32 → St → Option (Int32 × St)} (X : Cx RX5 wsX5_mayHave cX5_mayHave 10 (some .int) D cA ad SC p s m args meth c) (h68 : ∀ (w0 : Int32) (w1 : Int32) (w2 : Int32) (w3 : Nat) (w4 : Int32) (w5 : Int32) (w6 : Int32) (w7 : Int32) (σ : St) (H : Heap) (locs : List Loc) (ls : Array Slot), k68 w0 w1 w2 w3 w4 w5 w6 w7 σ = some r → Rn D cA ad SC s.heap σ H locs → lv_has ls 10 [(0, .ref (ad 0)), (2, .int w0), (3, .int w1), (4, .int w2), (5, .ref (ad w3)), (6, .int w4), (7, .int w5), (8, .int w6), (9, .int w7)] → W p l e rm_X5_mayHave s m args below meth c H locs 0 0 (MQ below (Qi D cA ad SC r) args s 0 0 (Aw ad SC)) (F0 m 68 ls [])) : ∀ (v2 : Int32) (v3 : Int32) (v4 : Int32) (v5 : Nat) (v6 : Int32) (v8 : Int32) (v9 : Int32) (s0 : Int32) (σ : St) (H : Heap) (locs : List Loc) (ls : Array Slot), f_X5_mayHave_121 k68 v2 v3 v4 v5 v6 v8 v9 s0 σ = some r → Rn D cA ad SC s.heap σ H locs → lv_has ls 10 [(0, .ref (ad 0)), (2, .int v2), (3, .int v3), (4, .int v4), (5, .ref (ad v5)), (6, .int v6), (8, .int v8), (9, .int v9)] → W p l e rm_X5_mayHave s m args below meth c H locs 0 0 (MQ below (Qi D cA ad SC r) args s 0 0 (Aw ad SC)) (F0 m 121 ls [.int s0]) := by
  obtain ⟨hx, hb, hml, hown, hts, hr, hlk, hK, hij⟩ := id X
  intro v2 v3 v4 v5 v6 v8 v9 s0 σ H locs ls hf hW hl
  rw [f_X5_mayHave_121] at hf
  refine lv_istore (lv' := [(7, .int s0), (0, .ref (ad 0)), (2, .int v2), (3, .int v3), (4, .int v4), (5, .ref (ad v5)), (6, .int v6), (8, .int v8), (9, .int v9)]) hx hb dX5_mayHave_121 hl (by decide) rfl (fun ls hl => ?_)
  obtain ⟨v130, e30, hf⟩ := nw_e hf
  refine lv_iinc (v := v130) (lv' := [(6, .int v130), (7, .int s0), (0, .ref (ad 0)), (2, .int v2), (3, .int v3), (4, .int v4), (5, .ref (ad v5)), (8, .int v8), (9, .int v9)]) hx hb dX5_mayHave_123 hl (k := 6) rfl (by rw [e30]; rfl) (by decide) rfl (fun ls hl => ?_)
  exact b_X5_mayHave_126 X h68 v2 v3 v4 v5 v130 s0 v8 v9 σ _ _ _ hf hW (lv_sub hl [2, 3, 4, 5, 6, 0, 1, 7, 8] rfl)
noncomputable def f_X5_mayHave_68 (k132 : Int32 → Int32 → Int32 → St → Option (Int32 × St)) : Nat → Int32 → Int32 → Int32 → Nat → Int32 → Int32 → Int32 → Int32 → St → Option (Int32 × St)
  | 0, _, _, _, _, _, _, _, _, _ => none
  | n + 1, v2, v3, v4, v5, v6, v7, v8, v9, σ => (if v8 ≤ v9 then k132 v4 v6 v7 σ else bnd (f_X0_clear σ 122) fun r15 => bnd (f_X0_takeCode r15 122 v9 v2 v3) fun r16 => bnd (f_X0_isLike r16 122 v5) fun r17 => (if r17 = 0 then f_X5_mayHave_126 (fun (w20_0 : Int32) (w21_1 : Int32) (w22_2 : Int32) (w23_3 : Nat) (w24_4 : Int32) (w25_5 : Int32) (w26_6 : Int32) (w27_7 : Int32) (σ28 : St) => f_X5_mayHave_68 k132 n w20_0 w21_1 w22_2 w23_3 w24_4 w25_5 w26_6 w27_7 σ28) v2 v3 v4 v5 v6 v7 v8 v9 r16 else (if v6 = 0 then bnd (f_X5_digitsOf v9 v2) fun r40 => f_X5_mayHave_121 (fun (w41_0 : Int32) (w42_1 : Int32) (w43_2 : Int32) (w44_3 : Nat) (w45_4 : Int32) (w46_5 : Int32) (w47_6 : Int32) (w48_7 : Int32) (σ49 : St) => f_X5_mayHave_68 k132 n w41_0 w42_1 w43_2 w44_3 w45_4 w46_5 w47_6 w48_7 σ49) v2 v3 v4 v5 v6 v8 v9 r40 r16 else f_X5_mayHave_121 (fun (w31_0 : Int32) (w32_1 : Int32) (w33_2 : Int32) (w34_3 : Nat) (w35_4 : Int32) (w36_5 : Int32) (w37_6 : Int32) (w38_7 : Int32) (σ39 : St) => f_X5_mayHave_68 k132 n w31_0 w32_1 w33_2 w34_3 w35_4 w36_5 w37_6 w38_7 σ39) v2 v3 v4 v5 v6 v8 v9 v7 r16)))
set_option maxHeartbeats 4000000 in
set_option maxRecDepth 100000 in
theorem b_X5_mayHave_68 {k132 : Int32 → Int32 → Int32 → St → Option (Int32 × St)} (X : Cx RX5 wsX5_mayHave cX5_mayHave 10 (some .int) D cA ad SC p s m args meth c) (h132 : ∀ (w0 : Int32) (w1 : Int32) (w2 : Int32) (σ : St) (H : Heap) (locs : List Loc) (ls : Array Slot), k132 w0 w1 w2 σ = some r → Rn D cA ad SC s.heap σ H locs → lv_has ls 10 [(4, .int w0), (6, .int w1), (7, .int w2)] → W p l e rm_X5_mayHave s m args below meth c H locs 0 0 (MQ below (Qi D cA ad SC r) args s 0 0 (Aw ad SC)) (F0 m 132 ls [])) : ∀ (n : Nat) (v2 : Int32) (v3 : Int32) (v4 : Int32) (v5 : Nat) (v6 : Int32) (v7 : Int32) (v8 : Int32) (v9 : Int32) (σ : St) (H : Heap) (locs : List Loc) (ls : Array Slot), f_X5_mayHave_68 k132 n v2 v3 v4 v5 v6 v7 v8 v9 σ = some r → Rn D cA ad SC s.heap σ H locs → lv_has ls 10 [(0, .ref (ad 0)), (2, .int v2), (3, .int v3), (4, .int v4), (5, .ref (ad v5)), (6, .int v6), (7, .int v7), (8, .int v8), (9, .int v9)] → W p l e rm_X5_mayHave s m args below meth c H locs 0 0 (MQ below (Qi D cA ad SC r) args s 0 0 (Aw ad SC)) (F0 m 68 ls []) := by
  obtain ⟨hx, hb, hml, hown, hts, hr, hlk, hK, hij⟩ := id X
  intro n
  induction n with
  | zero =>
    intro v2 v3 v4 v5 v6 v7 v8 v9 σ H locs ls hf
    exact nomatch (show (none : Option (Int32 × St)) = some r from hf)
  | succ n ih =>
    intro v2 v3 v4 v5 v6 v7 v8 v9 σ H locs ls hf hW hl
    rw [f_X5_mayHave_68] at hf
    refine lv_iload hx hb dX5_mayHave_68 (lv_at hl 8 rfl) ?_
    refine lv_iload hx hb dX5_mayHave_70 (lv_at hl 7 rfl) ?_
    refine lv_icmp_ge (tgt := 132) hx hb dX5_mayHave_72 (by decide) (fun c14 => ?_) (fun c14 => ?_)
    · have hf := it_e hf c14
      exact h132 v4 v6 v7 σ _ _ _ hf hW (lv_sub hl [3, 5, 6] rfl)
    · have hf := ie_e hf c14
      refine lv_aload_n hx hb dX5_mayHave_75 rfl (lv_at hl 0 rfl) ?_
      refine get_5_5 X hW kC_0 iC_0 inX5_mayHave_5 (List.mem_of_getElem? (i := 4) rfl) dX5_mayHave_76 ?_
      obtain ⟨r15, z15, hf⟩ := bnd_e hf
      refine r_cVv X hW kC_122 iC_122 rfl (c_X0_clear l D cA ad hij σ 122 r15 z15) gX5_mayHave_X0_clear rfl ⟨rfl, rfl⟩ hd_X0_clear ⟨Nat.le_of_ble_eq_true rfl, Nat.le_of_ble_eq_true rfl⟩ rfl (Nat.le_of_ble_eq_true rfl) hl.1 dX5_mayHave_79 (fun H locs hW => ?_)
      refine lv_aload_n hx hb dX5_mayHave_82 rfl (lv_at hl 0 rfl) ?_
      refine get_5_5 X hW kC_0 iC_0 inX5_mayHave_5 (List.mem_of_getElem? (i := 4) rfl) dX5_mayHave_83 ?_
      refine lv_iload hx hb dX5_mayHave_86 (lv_at hl 8 rfl) ?_
      refine lv_iload_n hx hb dX5_mayHave_88 rfl (lv_at hl 1 rfl) ?_
      refine lv_iload_n hx hb dX5_mayHave_89 rfl (lv_at hl 2 rfl) ?_
      obtain ⟨r16, z16, hf⟩ := bnd_e hf
      refine r_cVv X hW kC_122 iC_122 rfl (c_X0_takeCode l D cA ad hij r15 122 v9 v2 v3 r16 z16) gX5_mayHave_X0_takeCode rfl ⟨rfl, rfl⟩ hd_X0_takeCode ⟨Nat.le_of_ble_eq_true rfl, Nat.le_of_ble_eq_true rfl⟩ rfl (Nat.le_of_ble_eq_true rfl) hl.1 dX5_mayHave_90 (fun H locs hW => ?_)
      refine lv_aload_n hx hb dX5_mayHave_93 rfl (lv_at hl 0 rfl) ?_
      refine get_5_5 X hW kC_0 iC_0 inX5_mayHave_5 (List.mem_of_getElem? (i := 4) rfl) dX5_mayHave_94 ?_
      refine lv_aload hx hb dX5_mayHave_97 (lv_at hl 4 rfl) ?_
      obtain ⟨r17, z17, hf⟩ := bnd_e hf
      refine r_cViR X hW kC_122 iC_122 rfl (c_X0_isLike l D cA ad hij r16 122 v5 r17 z17) gX5_mayHave_X0_isLike rfl ⟨rfl, rfl⟩ hd_X0_isLike ⟨Nat.le_of_ble_eq_true rfl, Nat.le_of_ble_eq_true rfl⟩ rfl (Nat.le_of_ble_eq_true rfl) hl.1 dX5_mayHave_99 (fun H locs hW => ?_)
      refine lv_if_eq (tgt := 126) hx hb dX5_mayHave_102 (by decide) (fun c18 => ?_) (fun c18 => ?_)
      · have hf := it_e hf c18
        refine b_X5_mayHave_126 X (fun w20_0 w21_1 w22_2 w23_3 w24_4 w25_5 w26_6 w27_7 σ28 H locs ls hf hW hl => ?_) v2 v3 v4 v5 v6 v7 v8 v9 r16 _ _ _ hf hW (lv_sub hl [0, 1, 2, 3, 4, 5, 6, 7, 8] rfl)
        · exact ih w20_0 w21_1 w22_2 w23_3 w24_4 w25_5 w26_6 w27_7 σ28 _ _ _ hf hW (lv_sub hl [0, 1, 2, 3, 4, 5, 6, 7, 8] rfl)
      · have hf := ie_e hf c18
        refine lv_iload hx hb dX5_mayHave_105 (lv_at hl 5 rfl) ?_
        refine lv_if_ne (tgt := 119) hx hb dX5_mayHave_107 (by decide) (fun c29 => ?_) (fun c29 => ?_)
        · have hf := ie_e hf c29
          refine lv_iload hx hb dX5_mayHave_119 (lv_at hl 6 rfl) ?_
          refine b_X5_mayHave_121 X (fun w31_0 w32_1 w33_2 w34_3 w35_4 w36_5 w37_6 w38_7 σ39 H locs ls hf hW hl => ?_) v2 v3 v4 v5 v6 v8 v9 v7 r16 _ _ _ hf hW (lv_sub hl [0, 1, 2, 3, 4, 5, 7, 8] rfl)
          · exact ih w31_0 w32_1 w33_2 w34_3 w35_4 w36_5 w37_6 w38_7 σ39 _ _ _ hf hW (lv_sub hl [0, 1, 2, 3, 4, 5, 6, 7, 8] rfl)
        · have hf := it_e hf c29
          refine lv_iload hx hb dX5_mayHave_110 (lv_at hl 8 rfl) ?_
          refine lv_iload_n hx hb dX5_mayHave_112 rfl (lv_at hl 1 rfl) ?_
          obtain ⟨r40, z40, hf⟩ := bnd_e hf
          refine r_cSiR X hW (c_X5_digitsOf l D cA ad hij r16 v9 v2 r40 z40) gX5_mayHave_X5_digitsOf rfl ⟨rfl, rfl⟩ hd_X5_digitsOf ⟨Nat.le_of_ble_eq_true rfl, Nat.le_of_ble_eq_true rfl⟩ rfl (Nat.le_of_ble_eq_true rfl) hl.1 dX5_mayHave_113 (fun H locs hW => ?_)
          refine lv_goto (tgt := 121) hx hb dX5_mayHave_116 (by decide) ?_
          refine b_X5_mayHave_121 X (fun w41_0 w42_1 w43_2 w44_3 w45_4 w46_5 w47_6 w48_7 σ49 H locs ls hf hW hl => ?_) v2 v3 v4 v5 v6 v8 v9 r40 r16 _ _ _ hf hW (lv_sub hl [0, 1, 2, 3, 4, 5, 7, 8] rfl)
          · exact ih w41_0 w42_1 w43_2 w44_3 w45_4 w46_5 w47_6 w48_7 σ49 _ _ _ hf hW (lv_sub hl [0, 1, 2, 3, 4, 5, 6, 7, 8] rfl)
end S_X5_mayHave
noncomputable def f_X5_mayHave (σ : St) (a1 : Int32) (a2 : Int32) (a3 : Int32) (a4 : Int32) : Option (Int32 × St) := bnd (f_X1_has σ 1 a1) fun r1 => (if r1 = 0 then some ((-1), σ) else (if a2 < 1 then some ((-1), σ) else (if 3 < a2 then some ((-1), σ) else bnd (f_X5_isNoFigure a3) fun r5 => (if r5 = 0 then bnd (f_X5_isNoHalf a4) fun r7 => (if r7 = 0 then chk (inb a1 6) <| chk (kOK SC (3 + 5 * a1.toNatClampNeg) 3) <| nw (3 + 5 * a1.toNatClampNeg + 1 : Nat) fun v111 => nw ((-4) : Int32) fun v112 => bnd (f_X5_codesOf a2) fun r13 => f_X5_mayHave_68 (fun (w50_0 : Int32) (w51_1 : Int32) (w52_2 : Int32) (σ53 : St) => (if w50_0 = 0 then some (w51_1, σ53) else some (w52_2, σ53))) fu a2 a3 a4 v111 0 v112 r13 0 σ else some ((-1), σ)) else some ((-1), σ)))))
set_option maxHeartbeats 4000000 in
set_option maxRecDepth 100000 in
theorem c_X5_mayHave (l : Launch) (D : va_G) (cA : Nat → ClassId) (ad : Nat → Nat) (hij : Ij ad SC) (σ : St) (a1 : Int32) (a2 : Int32) (a3 : Int32) (a4 : Int32) (r : Int32 × St) (hf : f_X5_mayHave σ a1 a2 a3 a4 = some r) : Met l yX5_mayHave wsX5_mayHave rm_X5_mayHave (PC D cA ad SC [.ref (ad 0), .int a1, .int a2, .int a3, .int a4] σ) (Qi D cA ad SC r) 0 0 (Aw ad SC) := by
  rw [f_X5_mayHave] at hf
  refine k_head (own := RX5) (ws := wsX5_mayHave) (cc := cX5_mayHave) (nL := 10) (ret := (some .int)) pn_X5 rfl rfl hij (Nat.le_of_ble_eq_true rfl) (fun p e s m below meth c ls X hW hl => ?_)
  have hl : lv_has ls 10 [(0, .ref (ad 0)), (1, .int a1), (2, .int a2), (3, .int a3), (4, .int a4)] := hl
  obtain ⟨hx, hb, hml, hown, hts, hr, hlk, hK, hij⟩ := id X
  refine lv_aload_n hx hb dX5_mayHave_0 rfl (lv_at hl 0 rfl) ?_
  refine get_5_0 X hW kC_0 iC_0 inX5_mayHave_5 (List.mem_of_getElem? (i := 1) rfl) dX5_mayHave_1 ?_
  refine lv_iload_n hx hb dX5_mayHave_4 rfl (lv_at hl 1 rfl) ?_
  obtain ⟨r1, z1, hf⟩ := bnd_e hf
  refine r_cViR X hW kC_1 iC_1 rfl (c_X1_has l D cA ad hij σ 1 a1 r1 z1) gX5_mayHave_X1_has rfl ⟨rfl, rfl⟩ hd_X1_has ⟨Nat.le_of_ble_eq_true rfl, Nat.le_of_ble_eq_true rfl⟩ rfl (Nat.le_of_ble_eq_true rfl) hl.1 dX5_mayHave_5 (fun H locs hW => ?_)
  refine lv_if_eq (tgt := 36) hx hb dX5_mayHave_8 (by decide) (fun c2 => ?_) (fun c2 => ?_)
  · have hf := it_e hf c2
    refine lv_iconst (v := (-1)) hx hb dX5_mayHave_36 (by decide) ?_
    exact r_iret X hW rfl rfl hf dX5_mayHave_37
  · have hf := ie_e hf c2
    refine lv_iload_n hx hb dX5_mayHave_11 rfl (lv_at hl 2 rfl) ?_
    refine lv_iconst (v := 1) hx hb dX5_mayHave_12 (by decide) ?_
    refine lv_icmp_lt (tgt := 36) hx hb dX5_mayHave_13 (by decide) (fun c3 => ?_) (fun c3 => ?_)
    · have hf := it_e hf c3
      refine lv_iconst (v := (-1)) hx hb dX5_mayHave_36 (by decide) ?_
      exact r_iret X hW rfl rfl hf dX5_mayHave_37
    · have hf := ie_e hf c3
      refine lv_iload_n hx hb dX5_mayHave_16 rfl (lv_at hl 2 rfl) ?_
      refine lv_iconst (v := 3) hx hb dX5_mayHave_17 (by decide) ?_
      refine lv_icmp_gt (tgt := 36) hx hb dX5_mayHave_18 (by decide) (fun c4 => ?_) (fun c4 => ?_)
      · have hf := it_e hf c4
        refine lv_iconst (v := (-1)) hx hb dX5_mayHave_36 (by decide) ?_
        exact r_iret X hW rfl rfl hf dX5_mayHave_37
      · have hf := ie_e hf c4
        refine lv_iload_n hx hb dX5_mayHave_21 rfl (lv_at hl 3 rfl) ?_
        obtain ⟨r5, z5, hf⟩ := bnd_e hf
        refine r_cSiR X hW (c_X5_isNoFigure l D cA ad hij σ a3 r5 z5) gX5_mayHave_X5_isNoFigure rfl ⟨rfl, rfl⟩ hd_X5_isNoFigure ⟨Nat.le_of_ble_eq_true rfl, Nat.le_of_ble_eq_true rfl⟩ rfl (Nat.le_of_ble_eq_true rfl) hl.1 dX5_mayHave_22 (fun H locs hW => ?_)
        refine lv_if_ne (tgt := 36) hx hb dX5_mayHave_25 (by decide) (fun c6 => ?_) (fun c6 => ?_)
        · have hf := ie_e hf c6
          refine lv_iconst (v := (-1)) hx hb dX5_mayHave_36 (by decide) ?_
          exact r_iret X hW rfl rfl hf dX5_mayHave_37
        · have hf := it_e hf c6
          refine lv_iload hx hb dX5_mayHave_28 (lv_at hl 4 rfl) ?_
          obtain ⟨r7, z7, hf⟩ := bnd_e hf
          refine r_cSiR X hW (c_X5_isNoHalf l D cA ad hij σ a4 r7 z7) gX5_mayHave_X5_isNoHalf rfl ⟨rfl, rfl⟩ hd_X5_isNoHalf ⟨Nat.le_of_ble_eq_true rfl, Nat.le_of_ble_eq_true rfl⟩ rfl (Nat.le_of_ble_eq_true rfl) hl.1 dX5_mayHave_30 (fun H locs hW => ?_)
          refine lv_if_eq (tgt := 38) hx hb dX5_mayHave_33 (by decide) (fun c8 => ?_) (fun c8 => ?_)
          · have hf := it_e hf c8
            refine lv_aload_n hx hb dX5_mayHave_38 rfl (lv_at hl 0 rfl) ?_
            refine get_5_0 X hW kC_0 iC_0 inX5_mayHave_5 (List.mem_of_getElem? (i := 1) rfl) dX5_mayHave_39 ?_
            refine get_1_0 X hW kC_1 iC_1 inX5_mayHave_1 (List.mem_of_getElem? (i := 2) rfl) dX5_mayHave_42 ?_
            refine lv_iload_n hx hb dX5_mayHave_45 rfl (lv_at hl 1 rfl) ?_
            obtain ⟨x9, hf⟩ := chk_e hf
            refine r_aald (j := 3 + 5 * a1.toNatClampNeg) X hW kC_2 iC_2 nC_2 (by decide) rfl x9 rfl dX5_mayHave_46 ?_
            obtain ⟨q10, hf⟩ := chk_e hf
            obtain ⟨i10, k10⟩ := kOK_e q10
            refine get_3_0 X hW k10 i10 inX5_mayHave_3 (List.mem_of_getElem? (i := 3) rfl) dX5_mayHave_47 ?_
            obtain ⟨v111, e11, hf⟩ := nw_e hf
            refine tR _ e11 ?_
            refine lv_astore (lv' := [(5, .ref (ad v111)), (0, .ref (ad 0)), (1, .int a1), (2, .int a2), (3, .int a3), (4, .int a4)]) hx hb dX5_mayHave_50 hl (by decide) rfl (fun ls hl => ?_)
            refine lv_iconst (v := 0) hx hb dX5_mayHave_52 (by decide) ?_
            refine lv_istore (lv' := [(6, .int 0), (5, .ref (ad v111)), (0, .ref (ad 0)), (1, .int a1), (2, .int a2), (3, .int a3), (4, .int a4)]) hx hb dX5_mayHave_53 hl (by decide) rfl (fun ls hl => ?_)
            refine lv_bipush (v := (-4)) hx hb dX5_mayHave_55 (by decide) ?_
            obtain ⟨v112, e12, hf⟩ := nw_e hf
            refine tI _ e12 ?_
            refine lv_istore (lv' := [(7, .int v112), (6, .int 0), (5, .ref (ad v111)), (0, .ref (ad 0)), (1, .int a1), (2, .int a2), (3, .int a3), (4, .int a4)]) hx hb dX5_mayHave_57 hl (by decide) rfl (fun ls hl => ?_)
            refine lv_iload_n hx hb dX5_mayHave_59 rfl (lv_at hl 5 rfl) ?_
            obtain ⟨r13, z13, hf⟩ := bnd_e hf
            refine r_cSiR X hW (c_X5_codesOf l D cA ad hij σ a2 r13 z13) gX5_mayHave_X5_codesOf rfl ⟨rfl, rfl⟩ hd_X5_codesOf ⟨Nat.le_of_ble_eq_true rfl, Nat.le_of_ble_eq_true rfl⟩ rfl (Nat.le_of_ble_eq_true rfl) hl.1 dX5_mayHave_60 (fun H locs hW => ?_)
            refine lv_istore (lv' := [(8, .int r13), (7, .int v112), (6, .int 0), (5, .ref (ad v111)), (0, .ref (ad 0)), (1, .int a1), (2, .int a2), (3, .int a3), (4, .int a4)]) hx hb dX5_mayHave_63 hl (by decide) rfl (fun ls hl => ?_)
            refine lv_iconst (v := 0) hx hb dX5_mayHave_65 (by decide) ?_
            refine lv_istore (lv' := [(9, .int 0), (8, .int r13), (7, .int v112), (6, .int 0), (5, .ref (ad v111)), (0, .ref (ad 0)), (1, .int a1), (2, .int a2), (3, .int a3), (4, .int a4)]) hx hb dX5_mayHave_66 hl (by decide) rfl (fun ls hl => ?_)
            refine b_X5_mayHave_68 X (fun w50_0 w51_1 w52_2 σ53 H locs ls hf hW hl => ?_) fu a2 a3 a4 v111 0 v112 r13 0 σ _ _ _ hf hW (lv_sub hl [5, 7, 8, 9, 4, 3, 2, 1, 0] rfl)
            · refine lv_iload hx hb dX5_mayHave_132 (lv_at hl 0 rfl) ?_
              refine lv_if_ne (tgt := 142) hx hb dX5_mayHave_134 (by decide) (fun c54 => ?_) (fun c54 => ?_)
              · have hf := ie_e hf c54
                refine lv_iload hx hb dX5_mayHave_142 (lv_at hl 2 rfl) ?_
                exact r_iret X hW rfl rfl hf dX5_mayHave_144
              · have hf := it_e hf c54
                refine lv_iload hx hb dX5_mayHave_137 (lv_at hl 1 rfl) ?_
                refine lv_goto (tgt := 144) hx hb dX5_mayHave_139 (by decide) ?_
                exact r_iret X hW rfl rfl hf dX5_mayHave_144
          · have hf := ie_e hf c8
            refine lv_iconst (v := (-1)) hx hb dX5_mayHave_36 (by decide) ?_
            exact r_iret X hW rfl rfl hf dX5_mayHave_37
