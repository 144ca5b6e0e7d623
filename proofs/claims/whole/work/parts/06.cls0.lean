abbrev rm_X5_rowRefusal : Room := { frames := 1, cells := 0, slots := 0, locals := 20 }
theorem hd_X5_rowRefusal : yX5_rowRefusal.cls = RX5 ∧ yX5_rowRefusal.cls ≠ "java/lang/invoke/MethodHandle" ∧ yX5_rowRefusal.cls ≠ "java/lang/invoke/VarHandle" ∧ (parseMethodDescriptor yX5_rowRefusal.desc).map (fun d => d.parameters.length) = some 1 := by decide +kernel
theorem inX5_rowRefusal_5 : ∀ w ∈ wsX50, w ∈ wsX5_rowRefusal := fun _ h => List.mem_cons_of_mem _ (List.mem_append_left _ (List.mem_append_right _ h))
theorem inX5_rowRefusal_4 : ∀ w ∈ wsX40, w ∈ wsX5_rowRefusal := fun _ h => List.mem_cons_of_mem _ (List.mem_append_right _ h)
section S_X5_rowRefusal
variable {p : Program} {l : Launch} {e : Env} {s : State} {m : MethodId} {args : Array Value} {below : List Frame} {meth : Method} {c : Code} {D : va_G} {cA : Nat → ClassId} {ad : Nat → Nat} {r : Int32}
end S_X5_rowRefusal
noncomputable def f_X5_rowRefusal (σ : St) (a1 : Int32) : Option (Int32) := bnd (f_X5_isNoShelf a1) fun r1 => (if r1 = 0 then chk (inb a1 8) <| chk (kOK SC (126 + 2 * a1.toNatClampNeg) 4) <| bnd (f_X4_holdsNothing σ (126 + 2 * a1.toNatClampNeg)) fun r4 => (if r4 = 0 then bnd (f_X4_holdsRow σ (126 + 2 * a1.toNatClampNeg)) fun r7 => (if r7 = 0 then some ((-12)) else some 0) else some ((-11))) else some ((-1)))
set_option maxHeartbeats 4000000 in
set_option maxRecDepth 100000 in
theorem c_X5_rowRefusal (l : Launch) (D : va_G) (cA : Nat → ClassId) (ad : Nat → Nat) (hij : Ij ad SC) (σ : St) (a1 : Int32) (r : Int32) (hf : f_X5_rowRefusal σ a1 = some r) : Met l yX5_rowRefusal wsX5_rowRefusal rm_X5_rowRefusal (PC D cA ad SC [.ref (ad 0), .int a1] σ) (Qi D cA ad SC (r, σ)) 0 0 (Aw ad SC) := by
  rw [f_X5_rowRefusal] at hf
  refine k_head (own := RX5) (ws := wsX5_rowRefusal) (cc := cX5_rowRefusal) (nL := 2) (ret := (some .int)) pn_X5 rfl rfl hij (Nat.le_of_ble_eq_true rfl) (fun p e s m below meth c ls X hW hl => ?_)
  have hl : lv_has ls 2 [(0, .ref (ad 0)), (1, .int a1)] := hl
  obtain ⟨hx, hb, hml, hown, hts, hr, hlk, hK, hij⟩ := id X
  refine lv_iload_n hx hb dX5_rowRefusal_0 rfl (lv_at hl 1 rfl) ?_
  obtain ⟨r1, z1, hf⟩ := bnd_e hf
  refine r_cSiR X hW (c_X5_isNoShelf l D cA ad hij σ a1 r1 z1) gX5_rowRefusal_X5_isNoShelf rfl ⟨rfl, rfl⟩ hd_X5_isNoShelf ⟨Nat.le_of_ble_eq_true rfl, Nat.le_of_ble_eq_true rfl⟩ rfl (Nat.le_of_ble_eq_true rfl) hl.1 dX5_rowRefusal_1 (fun H locs hW => ?_)
  refine lv_if_eq (tgt := 9) hx hb dX5_rowRefusal_4 (by decide) (fun c2 => ?_) (fun c2 => ?_)
  · have hf := it_e hf c2
    refine lv_aload_n hx hb dX5_rowRefusal_9 rfl (lv_at hl 0 rfl) ?_
    refine get_5_7 X hW kC_0 iC_0 inX5_rowRefusal_5 (List.mem_of_getElem? (i := 1) rfl) dX5_rowRefusal_10 ?_
    refine lv_iload_n hx hb dX5_rowRefusal_13 rfl (lv_at hl 1 rfl) ?_
    obtain ⟨x3, hf⟩ := chk_e hf
    refine r_aald (j := 126 + 2 * a1.toNatClampNeg) X hW kC_125 iC_125 nC_125 (by decide) rfl x3 rfl dX5_rowRefusal_14 ?_
    obtain ⟨q5, hf⟩ := chk_e hf
    obtain ⟨i5, k5⟩ := kOK_e q5
    obtain ⟨r4, z4, hf⟩ := bnd_e hf
    refine r_cViR X hW k5 i5 rfl (c_X4_holdsNothing l D cA ad hij σ (126 + 2 * a1.toNatClampNeg) r4 z4) gX5_rowRefusal_X4_holdsNothing rfl ⟨rfl, rfl⟩ hd_X4_holdsNothing ⟨Nat.le_of_ble_eq_true rfl, Nat.le_of_ble_eq_true rfl⟩ rfl (Nat.le_of_ble_eq_true rfl) hl.1 dX5_rowRefusal_15 (fun H locs hW => ?_)
    refine lv_if_eq (tgt := 24) hx hb dX5_rowRefusal_18 (by decide) (fun c6 => ?_) (fun c6 => ?_)
    · have hf := it_e hf c6
      refine lv_aload_n hx hb dX5_rowRefusal_24 rfl (lv_at hl 0 rfl) ?_
      refine get_5_7 X hW kC_0 iC_0 inX5_rowRefusal_5 (List.mem_of_getElem? (i := 1) rfl) dX5_rowRefusal_25 ?_
      refine lv_iload_n hx hb dX5_rowRefusal_28 rfl (lv_at hl 1 rfl) ?_
      refine r_aald (j := 126 + 2 * a1.toNatClampNeg) X hW kC_125 iC_125 nC_125 (by decide) rfl x3 rfl dX5_rowRefusal_29 ?_
      obtain ⟨r7, z7, hf⟩ := bnd_e hf
      refine r_cViR X hW k5 i5 rfl (c_X4_holdsRow l D cA ad hij σ (126 + 2 * a1.toNatClampNeg) r7 z7) gX5_rowRefusal_X4_holdsRow rfl ⟨rfl, rfl⟩ hd_X4_holdsRow ⟨Nat.le_of_ble_eq_true rfl, Nat.le_of_ble_eq_true rfl⟩ rfl (Nat.le_of_ble_eq_true rfl) hl.1 dX5_rowRefusal_30 (fun H locs hW => ?_)
      refine lv_if_eq (tgt := 40) hx hb dX5_rowRefusal_33 (by decide) (fun c8 => ?_) (fun c8 => ?_)
      · have hf := it_e hf c8
        refine lv_bipush (v := (-12)) hx hb dX5_rowRefusal_40 (by decide) ?_
        exact r_iretR X hW rfl rfl hf dX5_rowRefusal_42
      · have hf := ie_e hf c8
        refine lv_iconst (v := 0) hx hb dX5_rowRefusal_36 (by decide) ?_
        refine lv_goto (tgt := 42) hx hb dX5_rowRefusal_37 (by decide) ?_
        exact r_iretR X hW rfl rfl hf dX5_rowRefusal_42
    · have hf := ie_e hf c6
      refine lv_bipush (v := (-11)) hx hb dX5_rowRefusal_21 (by decide) ?_
      exact r_iretR X hW rfl rfl hf dX5_rowRefusal_23
  · have hf := ie_e hf c2
    refine lv_iconst (v := (-1)) hx hb dX5_rowRefusal_7 (by decide) ?_
    exact r_iretR X hW rfl rfl hf dX5_rowRefusal_8

abbrev rm_X5_bytesRefusal : Room := { frames := 2, cells := 0, slots := 0, locals := 41 }
theorem hd_X5_bytesRefusal : yX5_bytesRefusal.cls = RX5 ∧ yX5_bytesRefusal.cls ≠ "java/lang/invoke/MethodHandle" ∧ yX5_bytesRefusal.cls ≠ "java/lang/invoke/VarHandle" ∧ (parseMethodDescriptor yX5_bytesRefusal.desc).map (fun d => d.parameters.length) = some 1 := by decide +kernel
theorem inX5_bytesRefusal_5 : ∀ w ∈ wsX50, w ∈ wsX5_bytesRefusal := fun _ h => List.mem_cons_of_mem _ (List.mem_append_left _ (List.mem_append_right _ h))
theorem inX5_bytesRefusal_4 : ∀ w ∈ wsX40, w ∈ wsX5_bytesRefusal := fun _ h => List.mem_cons_of_mem _ (List.mem_append_right _ h)
section S_X5_bytesRefusal
variable {p : Program} {l : Launch} {e : Env} {s : State} {m : MethodId} {args : Array Value} {below : List Frame} {meth : Method} {c : Code} {D : va_G} {cA : Nat → ClassId} {ad : Nat → Nat} {r : Int32}
end S_X5_bytesRefusal
noncomputable def f_X5_bytesRefusal (σ : St) (a1 : Int32) : Option (Int32) := bnd (f_X5_rowRefusal σ a1) fun r1 => (if r1 = 0 then chk (inb a1 8) <| chk (kOK SC (126 + 2 * a1.toNatClampNeg) 4) <| (if (σ.1 (126 + 2 * a1.toNatClampNeg) 3) = 0 then some 0 else some ((-12))) else some r1)
set_option maxHeartbeats 4000000 in
set_option maxRecDepth 100000 in
theorem c_X5_bytesRefusal (l : Launch) (D : va_G) (cA : Nat → ClassId) (ad : Nat → Nat) (hij : Ij ad SC) (σ : St) (a1 : Int32) (r : Int32) (hf : f_X5_bytesRefusal σ a1 = some r) : Met l yX5_bytesRefusal wsX5_bytesRefusal rm_X5_bytesRefusal (PC D cA ad SC [.ref (ad 0), .int a1] σ) (Qi D cA ad SC (r, σ)) 0 0 (Aw ad SC) := by
  rw [f_X5_bytesRefusal] at hf
  refine k_head (own := RX5) (ws := wsX5_bytesRefusal) (cc := cX5_bytesRefusal) (nL := 3) (ret := (some .int)) pn_X5 rfl rfl hij (Nat.le_of_ble_eq_true rfl) (fun p e s m below meth c ls X hW hl => ?_)
  have hl : lv_has ls 3 [(0, .ref (ad 0)), (1, .int a1)] := hl
  obtain ⟨hx, hb, hml, hown, hts, hr, hlk, hK, hij⟩ := id X
  refine lv_aload_n hx hb dX5_bytesRefusal_0 rfl (lv_at hl 0 rfl) ?_
  refine lv_iload_n hx hb dX5_bytesRefusal_1 rfl (lv_at hl 1 rfl) ?_
  obtain ⟨r1, z1, hf⟩ := bnd_e hf
  refine r_cViR X hW kC_0 iC_0 rfl (c_X5_rowRefusal l D cA ad hij σ a1 r1 z1) gX5_bytesRefusal_X5_rowRefusal rfl ⟨rfl, rfl⟩ hd_X5_rowRefusal ⟨Nat.le_of_ble_eq_true rfl, Nat.le_of_ble_eq_true rfl⟩ rfl (Nat.le_of_ble_eq_true rfl) hl.1 dX5_bytesRefusal_2 (fun H locs hW => ?_)
  refine lv_istore_n (lv' := [(2, .int r1), (0, .ref (ad 0)), (1, .int a1)]) hx hb dX5_bytesRefusal_5 rfl hl (by decide) rfl (fun ls hl => ?_)
  refine lv_iload_n hx hb dX5_bytesRefusal_6 rfl (lv_at hl 0 rfl) ?_
  refine lv_if_eq (tgt := 12) hx hb dX5_bytesRefusal_7 (by decide) (fun c2 => ?_) (fun c2 => ?_)
  · have hf := it_e hf c2
    refine lv_aload_n hx hb dX5_bytesRefusal_12 rfl (lv_at hl 1 rfl) ?_
    refine get_5_7 X hW kC_0 iC_0 inX5_bytesRefusal_5 (List.mem_of_getElem? (i := 1) rfl) dX5_bytesRefusal_13 ?_
    refine lv_iload_n hx hb dX5_bytesRefusal_16 rfl (lv_at hl 2 rfl) ?_
    obtain ⟨x3, hf⟩ := chk_e hf
    refine r_aald (j := 126 + 2 * a1.toNatClampNeg) X hW kC_125 iC_125 nC_125 (by decide) rfl x3 rfl dX5_bytesRefusal_17 ?_
    obtain ⟨q4, hf⟩ := chk_e hf
    obtain ⟨i4, k4⟩ := kOK_e q4
    refine get_4_3 X hW k4 i4 inX5_bytesRefusal_4 (List.mem_of_getElem? (i := 2) rfl) dX5_bytesRefusal_18 ?_
    refine lv_if_ne (tgt := 28) hx hb dX5_bytesRefusal_21 (by decide) (fun c5 => ?_) (fun c5 => ?_)
    · have hf := ie_e hf c5
      refine lv_bipush (v := (-12)) hx hb dX5_bytesRefusal_28 (by decide) ?_
      exact r_iretR X hW rfl rfl hf dX5_bytesRefusal_30
    · have hf := it_e hf c5
      refine lv_iconst (v := 0) hx hb dX5_bytesRefusal_24 (by decide) ?_
      refine lv_goto (tgt := 30) hx hb dX5_bytesRefusal_25 (by decide) ?_
      exact r_iretR X hW rfl rfl hf dX5_bytesRefusal_30
  · have hf := ie_e hf c2
    refine lv_iload_n hx hb dX5_bytesRefusal_10 rfl (lv_at hl 0 rfl) ?_
    exact r_iretR X hW rfl rfl hf dX5_bytesRefusal_11

abbrev rm_X5_kitchen : Room := { frames := 5, cells := 0, slots := 0, locals := 147 }
theorem hd_X5_kitchen : yX5_kitchen.cls = RX5 ∧ yX5_kitchen.cls ≠ "java/lang/invoke/MethodHandle" ∧ yX5_kitchen.cls ≠ "java/lang/invoke/VarHandle" ∧ (parseMethodDescriptor yX5_kitchen.desc).map (fun d => d.parameters.length) = some 1 := by decide +kernel
theorem inX5_kitchen_5 : ∀ w ∈ wsX50, w ∈ wsX5_kitchen := fun _ h => List.mem_cons_of_mem _ (List.mem_append_left _ (List.mem_append_left _ (List.mem_append_left _ (List.mem_append_left _ (List.mem_append_right _ h)))))
theorem inX5_kitchen_4 : ∀ w ∈ wsX40, w ∈ wsX5_kitchen := fun _ h => List.mem_cons_of_mem _ (List.mem_append_left _ (List.mem_append_left _ (List.mem_append_left _ (List.mem_append_right _ h))))
theorem inX5_kitchen_1 : ∀ w ∈ wsX10, w ∈ wsX5_kitchen := fun _ h => List.mem_cons_of_mem _ (List.mem_append_left _ (List.mem_append_left _ (List.mem_append_right _ h)))
theorem inX5_kitchen_3 : ∀ w ∈ wsX30, w ∈ wsX5_kitchen := fun _ h => List.mem_cons_of_mem _ (List.mem_append_left _ (List.mem_append_right _ h))
theorem inX5_kitchen_0 : ∀ w ∈ wsX00, w ∈ wsX5_kitchen := fun _ h => List.mem_cons_of_mem _ (List.mem_append_right _ h)
section S_X5_kitchen
variable {p : Program} {l : Launch} {e : Env} {s : State} {m : MethodId} {args : Array Value} {below : List Frame} {meth : Method} {c : Code} {D : va_G} {cA : Nat → ClassId} {ad : Nat → Nat} {r : Int32 × St}
noncomputable def f_X5_kitchen_54 (k83 : Int32 → St → Option (Int32 × St)) (k114 : Int32 → St → Option (Int32 × St)) : Nat → Nat → Int32 → Int32 → St → Option (Int32 × St)
  | 0, _, _, _, _ => none
  | n + 1, v3, v5, v6, σ => chk (kOK SC v3 4) <| (if (σ.1 v3 4) ≤ v6 then k114 v5 σ else (if 100 ≤ v5 then k114 v5 σ else bnd (f_X1_carryOut σ 33 v3 v6) fun r11 => (if r11.1 = 0 then k83 v6 r11.2 else bnd (f_X4_elementOr r11.2 v3 v6 ((-4))) fun r13 => bnd (f_X1_digitsBehind r13) fun r14 => nw (v6 + (2 + r14) : Int32) fun v115 => nw (v5 + 1 : Int32) fun v116 => f_X5_kitchen_54 k83 k114 n v3 v116 v115 r11.2)))
set_option maxHeartbeats 4000000 in
set_option maxRecDepth 100000 in
theorem b_X5_kitchen_54 {k83 : Int32 → St → Option (Int32 × St)} {k114 : Int32 → St → Option (Int32 × St)} (X : Cx RX5 wsX5_kitchen cX5_kitchen 7 (some .int) D cA ad SC p s m args meth c) (h83 : ∀ (w0 : Int32) (σ : St) (H : Heap) (locs : List Loc) (ls : Array Slot), k83 w0 σ = some r → Rn D cA ad SC s.heap σ H locs → lv_has ls 7 [(6, .int w0)] → W p l e rm_X5_kitchen s m args below meth c H locs 0 0 (MQ below (Qi D cA ad SC r) args s 0 0 (Aw ad SC)) (F0 m 83 ls [])) (h114 : ∀ (w0 : Int32) (σ : St) (H : Heap) (locs : List Loc) (ls : Array Slot), k114 w0 σ = some r → Rn D cA ad SC s.heap σ H locs → lv_has ls 7 [(0, .ref (ad 0)), (5, .int w0)] → W p l e rm_X5_kitchen s m args below meth c H locs 0 0 (MQ below (Qi D cA ad SC r) args s 0 0 (Aw ad SC)) (F0 m 114 ls [])) : ∀ (n : Nat) (v3 : Nat) (v5 : Int32) (v6 : Int32) (σ : St) (H : Heap) (locs : List Loc) (ls : Array Slot), f_X5_kitchen_54 k83 k114 n v3 v5 v6 σ = some r → Rn D cA ad SC s.heap σ H locs → lv_has ls 7 [(0, .ref (ad 0)), (3, .ref (ad v3)), (5, .int v5), (6, .int v6)] → W p l e rm_X5_kitchen s m args below meth c H locs 0 0 (MQ below (Qi D cA ad SC r) args s 0 0 (Aw ad SC)) (F0 m 54 ls []) := by
  obtain ⟨hx, hb, hml, hown, hts, hr, hlk, hK, hij⟩ := id X
  intro n
  induction n with
  | zero =>
    intro v3 v5 v6 σ H locs ls hf
    exact nomatch (show (none : Option (Int32 × St)) = some r from hf)
  | succ n ih =>
    intro v3 v5 v6 σ H locs ls hf hW hl
    rw [f_X5_kitchen_54] at hf
    refine lv_iload hx hb dX5_kitchen_54 (lv_at hl 3 rfl) ?_
    refine lv_aload_n hx hb dX5_kitchen_56 rfl (lv_at hl 1 rfl) ?_
    obtain ⟨q8, hf⟩ := chk_e hf
    obtain ⟨i8, k8⟩ := kOK_e q8
    refine get_4_4 X hW k8 i8 inX5_kitchen_4 (List.mem_of_getElem? (i := 4) rfl) dX5_kitchen_57 ?_
    refine lv_icmp_ge (tgt := 114) hx hb dX5_kitchen_60 (by decide) (fun c9 => ?_) (fun c9 => ?_)
    · have hf := it_e hf c9
      exact h114 v5 σ _ _ _ hf hW (lv_sub hl [0, 2] rfl)
    · have hf := ie_e hf c9
      refine lv_iload hx hb dX5_kitchen_63 (lv_at hl 2 rfl) ?_
      refine lv_bipush (v := 100) hx hb dX5_kitchen_65 (by decide) ?_
      refine lv_icmp_ge (tgt := 114) hx hb dX5_kitchen_67 (by decide) (fun c10 => ?_) (fun c10 => ?_)
      · have hf := it_e hf c10
        exact h114 v5 σ _ _ _ hf hW (lv_sub hl [0, 2] rfl)
      · have hf := ie_e hf c10
        refine lv_aload_n hx hb dX5_kitchen_70 rfl (lv_at hl 0 rfl) ?_
        refine get_5_1 X hW kC_0 iC_0 inX5_kitchen_5 (List.mem_of_getElem? (i := 2) rfl) dX5_kitchen_71 ?_
        refine lv_aload_n hx hb dX5_kitchen_74 rfl (lv_at hl 1 rfl) ?_
        refine lv_iload hx hb dX5_kitchen_75 (lv_at hl 3 rfl) ?_
        obtain ⟨r11, z11, hf⟩ := bnd_e hf
        refine r_cVi X hW kC_33 iC_33 rfl (c_X1_carryOut l D cA ad hij σ 33 v3 v6 r11 z11) gX5_kitchen_X1_carryOut rfl ⟨rfl, rfl⟩ hd_X1_carryOut ⟨Nat.le_of_ble_eq_true rfl, Nat.le_of_ble_eq_true rfl⟩ rfl (Nat.le_of_ble_eq_true rfl) hl.1 dX5_kitchen_77 (fun H locs hW => ?_)
        refine lv_if_ne (tgt := 90) hx hb dX5_kitchen_80 (by decide) (fun c12 => ?_) (fun c12 => ?_)
        · have hf := ie_e hf c12
          refine lv_iload hx hb dX5_kitchen_90 (lv_at hl 3 rfl) ?_
          refine lv_iconst (v := 2) hx hb dX5_kitchen_92 (by decide) ?_
          refine lv_aload_n hx hb dX5_kitchen_93 rfl (lv_at hl 1 rfl) ?_
          refine lv_iload hx hb dX5_kitchen_94 (lv_at hl 3 rfl) ?_
          refine lv_bipush (v := (-4)) hx hb dX5_kitchen_96 (by decide) ?_
          obtain ⟨r13, z13, hf⟩ := bnd_e hf
          refine r_cViR X hW k8 i8 rfl (c_X4_elementOr l D cA ad hij r11.2 v3 v6 ((-4)) r13 z13) gX5_kitchen_X4_elementOr rfl ⟨rfl, rfl⟩ hd_X4_elementOr ⟨Nat.le_of_ble_eq_true rfl, Nat.le_of_ble_eq_true rfl⟩ rfl (Nat.le_of_ble_eq_true rfl) hl.1 dX5_kitchen_98 (fun H locs hW => ?_)
          obtain ⟨r14, z14, hf⟩ := bnd_e hf
          refine r_cSiR X hW (c_X1_digitsBehind l D cA ad hij r11.2 r13 r14 z14) gX5_kitchen_X1_digitsBehind rfl ⟨rfl, rfl⟩ hd_X1_digitsBehind ⟨Nat.le_of_ble_eq_true rfl, Nat.le_of_ble_eq_true rfl⟩ rfl (Nat.le_of_ble_eq_true rfl) hl.1 dX5_kitchen_101 (fun H locs hW => ?_)
          refine lv_iadd hx hb dX5_kitchen_104 ?_
          refine lv_iadd hx hb dX5_kitchen_105 ?_
          obtain ⟨v115, e15, hf⟩ := nw_e hf
          refine tI _ e15 ?_
          refine lv_istore (lv' := [(6, .int v115), (0, .ref (ad 0)), (3, .ref (ad v3)), (5, .int v5)]) hx hb dX5_kitchen_106 hl (by decide) rfl (fun ls hl => ?_)
          obtain ⟨v116, e16, hf⟩ := nw_e hf
          refine lv_iinc (v := v116) (lv' := [(5, .int v116), (6, .int v115), (0, .ref (ad 0)), (3, .ref (ad v3))]) hx hb dX5_kitchen_108 hl (k := 3) rfl (by rw [e16]; rfl) (by decide) rfl (fun ls hl => ?_)
          refine lv_goto (tgt := 54) hx hb dX5_kitchen_111 (by decide) ?_
          exact ih v3 v116 v115 r11.2 _ _ _ hf hW (lv_sub hl [2, 3, 0, 1] rfl)
        · have hf := it_e hf c12
          exact h83 v6 r11.2 _ _ _ hf hW (lv_sub hl [3] rfl)
noncomputable def f_X5_kitchen_114 (v5 : Int32) (σ : St) : Option (Int32 × St) := bnd (f_X1_become σ 1 33) fun r21 => some (v5, r21)
set_option maxHeartbeats 4000000 in
set_option maxRecDepth 100000 in
theorem b_X5_kitchen_114 (X : Cx RX5 wsX5_kitchen cX5_kitchen 7 (some .int) D cA ad SC p s m args meth c) : ∀ (v5 : Int32) (σ : St) (H : Heap) (locs : List Loc) (ls : Array Slot), f_X5_kitchen_114 v5 σ = some r → Rn D cA ad SC s.heap σ H locs → lv_has ls 7 [(0, .ref (ad 0)), (5, .int v5)] → W p l e rm_X5_kitchen s m args below meth c H locs 0 0 (MQ below (Qi D cA ad SC r) args s 0 0 (Aw ad SC)) (F0 m 114 ls []) := by
  obtain ⟨hx, hb, hml, hown, hts, hr, hlk, hK, hij⟩ := id X
  intro v5 σ H locs ls hf hW hl
  rw [f_X5_kitchen_114] at hf
  refine lv_aload_n hx hb dX5_kitchen_114 rfl (lv_at hl 0 rfl) ?_
  refine get_5_0 X hW kC_0 iC_0 inX5_kitchen_5 (List.mem_of_getElem? (i := 3) rfl) dX5_kitchen_115 ?_
  refine lv_aload_n hx hb dX5_kitchen_118 rfl (lv_at hl 0 rfl) ?_
  refine get_5_1 X hW kC_0 iC_0 inX5_kitchen_5 (List.mem_of_getElem? (i := 2) rfl) dX5_kitchen_119 ?_
  obtain ⟨r21, z21, hf⟩ := bnd_e hf
  refine r_cVv X hW kC_1 iC_1 rfl (c_X1_become l D cA ad hij σ 1 33 r21 z21) gX5_kitchen_X1_become rfl ⟨rfl, rfl⟩ hd_X1_become ⟨Nat.le_of_ble_eq_true rfl, Nat.le_of_ble_eq_true rfl⟩ rfl (Nat.le_of_ble_eq_true rfl) hl.1 dX5_kitchen_122 (fun H locs hW => ?_)
  refine lv_iload hx hb dX5_kitchen_125 (lv_at hl 1 rfl) ?_
  exact r_iret X hW rfl rfl hf dX5_kitchen_127
end S_X5_kitchen
noncomputable def f_X5_kitchen (σ : St) (a1 : Int32) : Option (Int32 × St) := bnd (f_X5_bytesRefusal σ a1) fun r1 => (if r1 = 0 then chk (inb a1 8) <| nw (126 + 2 * a1.toNatClampNeg : Nat) fun v104 => bnd (f_X1_brokenAt σ v104) fun r5 => (if r5 < 0 then bnd (f_X1_become σ 33 1) fun r7 => f_X5_kitchen_54 (fun (w17_0 : Int32) (σ18 : St) => some (((-2000)) - w17_0, σ18)) (fun (w19_0 : Int32) (σ20 : St) => f_X5_kitchen_114 w19_0 σ20) fu v104 0 0 r7 else some (((-1000)) - r5, σ)) else some (r1, σ))
set_option maxHeartbeats 4000000 in
set_option maxRecDepth 100000 in
theorem c_X5_kitchen (l : Launch) (D : va_G) (cA : Nat → ClassId) (ad : Nat → Nat) (hij : Ij ad SC) (σ : St) (a1 : Int32) (r : Int32 × St) (hf : f_X5_kitchen σ a1 = some r) : Met l yX5_kitchen wsX5_kitchen rm_X5_kitchen (PC D cA ad SC [.ref (ad 0), .int a1] σ) (Qi D cA ad SC r) 0 0 (Aw ad SC) := by
  rw [f_X5_kitchen] at hf
  refine k_head (own := RX5) (ws := wsX5_kitchen) (cc := cX5_kitchen) (nL := 7) (ret := (some .int)) pn_X5 rfl rfl hij (Nat.le_of_ble_eq_true rfl) (fun p e s m below meth c ls X hW hl => ?_)
  have hl : lv_has ls 7 [(0, .ref (ad 0)), (1, .int a1)] := hl
  obtain ⟨hx, hb, hml, hown, hts, hr, hlk, hK, hij⟩ := id X
  refine lv_aload_n hx hb dX5_kitchen_0 rfl (lv_at hl 0 rfl) ?_
  refine lv_iload_n hx hb dX5_kitchen_1 rfl (lv_at hl 1 rfl) ?_
  obtain ⟨r1, z1, hf⟩ := bnd_e hf
  refine r_cViR X hW kC_0 iC_0 rfl (c_X5_bytesRefusal l D cA ad hij σ a1 r1 z1) gX5_kitchen_X5_bytesRefusal rfl ⟨rfl, rfl⟩ hd_X5_bytesRefusal ⟨Nat.le_of_ble_eq_true rfl, Nat.le_of_ble_eq_true rfl⟩ rfl (Nat.le_of_ble_eq_true rfl) hl.1 dX5_kitchen_2 (fun H locs hW => ?_)
  refine lv_istore_n (lv' := [(2, .int r1), (0, .ref (ad 0)), (1, .int a1)]) hx hb dX5_kitchen_5 rfl hl (by decide) rfl (fun ls hl => ?_)
  refine lv_iload_n hx hb dX5_kitchen_6 rfl (lv_at hl 0 rfl) ?_
  refine lv_if_eq (tgt := 12) hx hb dX5_kitchen_7 (by decide) (fun c2 => ?_) (fun c2 => ?_)
  · have hf := it_e hf c2
    refine lv_aload_n hx hb dX5_kitchen_12 rfl (lv_at hl 1 rfl) ?_
    refine get_5_7 X hW kC_0 iC_0 inX5_kitchen_5 (List.mem_of_getElem? (i := 1) rfl) dX5_kitchen_13 ?_
    refine lv_iload_n hx hb dX5_kitchen_16 rfl (lv_at hl 2 rfl) ?_
    obtain ⟨x3, hf⟩ := chk_e hf
    refine r_aald (j := 126 + 2 * a1.toNatClampNeg) X hW kC_125 iC_125 nC_125 (by decide) rfl x3 rfl dX5_kitchen_17 ?_
    obtain ⟨v104, e4, hf⟩ := nw_e hf
    refine tR _ e4 ?_
    refine lv_astore_n (lv' := [(3, .ref (ad v104)), (2, .int r1), (0, .ref (ad 0)), (1, .int a1)]) hx hb dX5_kitchen_18 rfl hl (by decide) rfl (fun ls hl => ?_)
    refine lv_aload_n hx hb dX5_kitchen_19 rfl (lv_at hl 0 rfl) ?_
    obtain ⟨r5, z5, hf⟩ := bnd_e hf
    refine r_cSiR X hW (c_X1_brokenAt l D cA ad hij σ v104 r5 z5) gX5_kitchen_X1_brokenAt rfl ⟨rfl, rfl⟩ hd_X1_brokenAt ⟨Nat.le_of_ble_eq_true rfl, Nat.le_of_ble_eq_true rfl⟩ rfl (Nat.le_of_ble_eq_true rfl) hl.1 dX5_kitchen_20 (fun H locs hW => ?_)
    refine lv_istore (lv' := [(4, .int r5), (3, .ref (ad v104)), (2, .int r1), (0, .ref (ad 0)), (1, .int a1)]) hx hb dX5_kitchen_23 hl (by decide) rfl (fun ls hl => ?_)
    refine lv_iload hx hb dX5_kitchen_25 (lv_at hl 0 rfl) ?_
    refine lv_if_lt (tgt := 37) hx hb dX5_kitchen_27 (by decide) (fun c6 => ?_) (fun c6 => ?_)
    · have hf := it_e hf c6
      refine lv_aload_n hx hb dX5_kitchen_37 rfl (lv_at hl 3 rfl) ?_
      refine get_5_1 X hW kC_0 iC_0 inX5_kitchen_5 (List.mem_of_getElem? (i := 2) rfl) dX5_kitchen_38 ?_
      refine lv_aload_n hx hb dX5_kitchen_41 rfl (lv_at hl 3 rfl) ?_
      refine get_5_0 X hW kC_0 iC_0 inX5_kitchen_5 (List.mem_of_getElem? (i := 3) rfl) dX5_kitchen_42 ?_
      obtain ⟨r7, z7, hf⟩ := bnd_e hf
      refine r_cVv X hW kC_33 iC_33 rfl (c_X1_become l D cA ad hij σ 33 1 r7 z7) gX5_kitchen_X1_become rfl ⟨rfl, rfl⟩ hd_X1_become ⟨Nat.le_of_ble_eq_true rfl, Nat.le_of_ble_eq_true rfl⟩ rfl (Nat.le_of_ble_eq_true rfl) hl.1 dX5_kitchen_45 (fun H locs hW => ?_)
      refine lv_iconst (v := 0) hx hb dX5_kitchen_48 (by decide) ?_
      refine lv_istore (lv' := [(5, .int 0), (4, .int r5), (3, .ref (ad v104)), (2, .int r1), (0, .ref (ad 0)), (1, .int a1)]) hx hb dX5_kitchen_49 hl (by decide) rfl (fun ls hl => ?_)
      refine lv_iconst (v := 0) hx hb dX5_kitchen_51 (by decide) ?_
      refine lv_istore (lv' := [(6, .int 0), (5, .int 0), (4, .int r5), (3, .ref (ad v104)), (2, .int r1), (0, .ref (ad 0)), (1, .int a1)]) hx hb dX5_kitchen_52 hl (by decide) rfl (fun ls hl => ?_)
      refine b_X5_kitchen_54 X (fun w17_0 σ18 H locs ls hf hW hl => ?_) (fun w19_0 σ20 H locs ls hf hW hl => ?_) fu v104 0 0 r7 _ _ _ hf hW (lv_sub hl [5, 3, 1, 0] rfl)
      · refine lv_sipush (v := (-2000)) hx hb dX5_kitchen_83 (by decide) ?_
        refine lv_iload hx hb dX5_kitchen_86 (lv_at hl 0 rfl) ?_
        refine lv_isub hx hb dX5_kitchen_88 ?_
        exact r_iret X hW rfl rfl hf dX5_kitchen_89
      · exact b_X5_kitchen_114 X w19_0 σ20 _ _ _ hf hW (lv_sub hl [0, 1] rfl)
    · have hf := ie_e hf c6
      refine lv_sipush (v := (-1000)) hx hb dX5_kitchen_30 (by decide) ?_
      refine lv_iload hx hb dX5_kitchen_33 (lv_at hl 0 rfl) ?_
      refine lv_isub hx hb dX5_kitchen_35 ?_
      exact r_iret X hW rfl rfl hf dX5_kitchen_36
  · have hf := ie_e hf c2
    refine lv_iload_n hx hb dX5_kitchen_10 rfl (lv_at hl 0 rfl) ?_
    exact r_iret X hW rfl rfl hf dX5_kitchen_11

abbrev rm_X5_pot : Room := { frames := 2, cells := 0, slots := 0, locals := 41 }
theorem hd_X5_pot : yX5_pot.cls = RX5 ∧ yX5_pot.cls ≠ "java/lang/invoke/MethodHandle" ∧ yX5_pot.cls ≠ "java/lang/invoke/VarHandle" ∧ (parseMethodDescriptor yX5_pot.desc).map (fun d => d.parameters.length) = some 0 := by decide +kernel
theorem inX5_pot_5 : ∀ w ∈ wsX50, w ∈ wsX5_pot := fun _ h => List.mem_cons_of_mem _ (List.mem_append_left _ (List.mem_append_left _ (List.mem_append_left _ (List.mem_append_right _ h))))
theorem inX5_pot_1 : ∀ w ∈ wsX10, w ∈ wsX5_pot := fun _ h => List.mem_cons_of_mem _ (List.mem_append_left _ (List.mem_append_left _ (List.mem_append_right _ h)))
theorem inX5_pot_3 : ∀ w ∈ wsX30, w ∈ wsX5_pot := fun _ h => List.mem_cons_of_mem _ (List.mem_append_left _ (List.mem_append_right _ h))
theorem inX5_pot_0 : ∀ w ∈ wsX00, w ∈ wsX5_pot := fun _ h => List.mem_cons_of_mem _ (List.mem_append_right _ h)
section S_X5_pot
variable {p : Program} {l : Launch} {e : Env} {s : State} {m : MethodId} {args : Array Value} {below : List Frame} {meth : Method} {c : Code} {D : va_G} {cA : Nat → ClassId} {ad : Nat → Nat} {r : Int32 × St}
end S_X5_pot
noncomputable def f_X5_pot (σ : St) : Option (Int32 × St) := bnd (f_X1_addPot σ 1) fun r1 => (if r1.1 = 0 then some ((-2), r1.2) else some ((r1.2.1 1 1) - 1, r1.2))
set_option maxHeartbeats 4000000 in
set_option maxRecDepth 100000 in
theorem c_X5_pot (l : Launch) (D : va_G) (cA : Nat → ClassId) (ad : Nat → Nat) (hij : Ij ad SC) (σ : St) (r : Int32 × St) (hf : f_X5_pot σ = some r) : Met l yX5_pot wsX5_pot rm_X5_pot (PC D cA ad SC [.ref (ad 0)] σ) (Qi D cA ad SC r) 0 0 (Aw ad SC) := by
  rw [f_X5_pot] at hf
  refine k_head (own := RX5) (ws := wsX5_pot) (cc := cX5_pot) (nL := 1) (ret := (some .int)) pn_X5 rfl rfl hij (Nat.le_of_ble_eq_true rfl) (fun p e s m below meth c ls X hW hl => ?_)
  have hl : lv_has ls 1 [(0, .ref (ad 0))] := hl
  obtain ⟨hx, hb, hml, hown, hts, hr, hlk, hK, hij⟩ := id X
  refine lv_aload_n hx hb dX5_pot_0 rfl (lv_at hl 0 rfl) ?_
  refine get_5_0 X hW kC_0 iC_0 inX5_pot_5 (List.mem_of_getElem? (i := 1) rfl) dX5_pot_1 ?_
  obtain ⟨r1, z1, hf⟩ := bnd_e hf
  refine r_cVi X hW kC_1 iC_1 rfl (c_X1_addPot l D cA ad hij σ 1 r1 z1) gX5_pot_X1_addPot rfl ⟨rfl, rfl⟩ hd_X1_addPot ⟨Nat.le_of_ble_eq_true rfl, Nat.le_of_ble_eq_true rfl⟩ rfl (Nat.le_of_ble_eq_true rfl) hl.1 dX5_pot_4 (fun H locs hW => ?_)
  refine lv_if_eq (tgt := 22) hx hb dX5_pot_7 (by decide) (fun c2 => ?_) (fun c2 => ?_)
  · have hf := it_e hf c2
    refine lv_bipush (v := (-2)) hx hb dX5_pot_22 (by decide) ?_
    exact r_iret X hW rfl rfl hf dX5_pot_24
  · have hf := ie_e hf c2
    refine lv_aload_n hx hb dX5_pot_10 rfl (lv_at hl 0 rfl) ?_
    refine get_5_0 X hW kC_0 iC_0 inX5_pot_5 (List.mem_of_getElem? (i := 1) rfl) dX5_pot_11 ?_
    refine get_1_1 X hW kC_1 iC_1 inX5_pot_1 (List.mem_of_getElem? (i := 2) rfl) dX5_pot_14 ?_
    refine lv_iconst (v := 1) hx hb dX5_pot_17 (by decide) ?_
    refine lv_isub hx hb dX5_pot_18 ?_
    refine lv_goto (tgt := 24) hx hb dX5_pot_19 (by decide) ?_
    exact r_iret X hW rfl rfl hf dX5_pot_24

abbrev rm_X5_dishRefusal : Room := { frames := 1, cells := 0, slots := 0, locals := 20 }
theorem hd_X5_dishRefusal : yX5_dishRefusal.cls = RX5 ∧ yX5_dishRefusal.cls ≠ "java/lang/invoke/MethodHandle" ∧ yX5_dishRefusal.cls ≠ "java/lang/invoke/VarHandle" ∧ (parseMethodDescriptor yX5_dishRefusal.desc).map (fun d => d.parameters.length) = some 1 := by decide +kernel
theorem inX5_dishRefusal_5 : ∀ w ∈ wsX50, w ∈ wsX5_dishRefusal := fun _ h => List.mem_cons_of_mem _ (List.mem_append_left _ (List.mem_append_right _ h))
theorem inX5_dishRefusal_4 : ∀ w ∈ wsX40, w ∈ wsX5_dishRefusal := fun _ h => List.mem_cons_of_mem _ (List.mem_append_right _ h)
section S_X5_dishRefusal
variable {p : Program} {l : Launch} {e : Env} {s : State} {m : MethodId} {args : Array Value} {below : List Frame} {meth : Method} {c : Code} {D : va_G} {cA : Nat → ClassId} {ad : Nat → Nat} {r : Int32}
end S_X5_dishRefusal
noncomputable def f_X5_dishRefusal (σ : St) (a1 : Int32) : Option (Int32) := bnd (f_X5_isNoShelf a1) fun r1 => (if r1 = 0 then chk (inb a1 8) <| chk (kOK SC (126 + 2 * a1.toNatClampNeg) 4) <| bnd (f_X4_holdsNothing σ (126 + 2 * a1.toNatClampNeg)) fun r4 => (if r4 = 0 then bnd (f_X4_holdsRow σ (126 + 2 * a1.toNatClampNeg)) fun r7 => (if r7 = 0 then some 0 else some ((-12))) else some ((-11))) else some ((-1)))
set_option maxHeartbeats 4000000 in
set_option maxRecDepth 100000 in
theorem c_X5_dishRefusal (l : Launch) (D : va_G) (cA : Nat → ClassId) (ad : Nat → Nat) (hij : Ij ad SC) (σ : St) (a1 : Int32) (r : Int32) (hf : f_X5_dishRefusal σ a1 = some r) : Met l yX5_dishRefusal wsX5_dishRefusal rm_X5_dishRefusal (PC D cA ad SC [.ref (ad 0), .int a1] σ) (Qi D cA ad SC (r, σ)) 0 0 (Aw ad SC) := by
  rw [f_X5_dishRefusal] at hf
  refine k_head (own := RX5) (ws := wsX5_dishRefusal) (cc := cX5_dishRefusal) (nL := 2) (ret := (some .int)) pn_X5 rfl rfl hij (Nat.le_of_ble_eq_true rfl) (fun p e s m below meth c ls X hW hl => ?_)
  have hl : lv_has ls 2 [(0, .ref (ad 0)), (1, .int a1)] := hl
  obtain ⟨hx, hb, hml, hown, hts, hr, hlk, hK, hij⟩ := id X
  refine lv_iload_n hx hb dX5_dishRefusal_0 rfl (lv_at hl 1 rfl) ?_
  obtain ⟨r1, z1, hf⟩ := bnd_e hf
  refine r_cSiR X hW (c_X5_isNoShelf l D cA ad hij σ a1 r1 z1) gX5_dishRefusal_X5_isNoShelf rfl ⟨rfl, rfl⟩ hd_X5_isNoShelf ⟨Nat.le_of_ble_eq_true rfl, Nat.le_of_ble_eq_true rfl⟩ rfl (Nat.le_of_ble_eq_true rfl) hl.1 dX5_dishRefusal_1 (fun H locs hW => ?_)
  refine lv_if_eq (tgt := 9) hx hb dX5_dishRefusal_4 (by decide) (fun c2 => ?_) (fun c2 => ?_)
  · have hf := it_e hf c2
    refine lv_aload_n hx hb dX5_dishRefusal_9 rfl (lv_at hl 0 rfl) ?_
    refine get_5_7 X hW kC_0 iC_0 inX5_dishRefusal_5 (List.mem_of_getElem? (i := 1) rfl) dX5_dishRefusal_10 ?_
    refine lv_iload_n hx hb dX5_dishRefusal_13 rfl (lv_at hl 1 rfl) ?_
    obtain ⟨x3, hf⟩ := chk_e hf
    refine r_aald (j := 126 + 2 * a1.toNatClampNeg) X hW kC_125 iC_125 nC_125 (by decide) rfl x3 rfl dX5_dishRefusal_14 ?_
    obtain ⟨q5, hf⟩ := chk_e hf
    obtain ⟨i5, k5⟩ := kOK_e q5
    obtain ⟨r4, z4, hf⟩ := bnd_e hf
    refine r_cViR X hW k5 i5 rfl (c_X4_holdsNothing l D cA ad hij σ (126 + 2 * a1.toNatClampNeg) r4 z4) gX5_dishRefusal_X4_holdsNothing rfl ⟨rfl, rfl⟩ hd_X4_holdsNothing ⟨Nat.le_of_ble_eq_true rfl, Nat.le_of_ble_eq_true rfl⟩ rfl (Nat.le_of_ble_eq_true rfl) hl.1 dX5_dishRefusal_15 (fun H locs hW => ?_)
    refine lv_if_eq (tgt := 24) hx hb dX5_dishRefusal_18 (by decide) (fun c6 => ?_) (fun c6 => ?_)
    · have hf := it_e hf c6
      refine lv_aload_n hx hb dX5_dishRefusal_24 rfl (lv_at hl 0 rfl) ?_
      refine get_5_7 X hW kC_0 iC_0 inX5_dishRefusal_5 (List.mem_of_getElem? (i := 1) rfl) dX5_dishRefusal_25 ?_
      refine lv_iload_n hx hb dX5_dishRefusal_28 rfl (lv_at hl 1 rfl) ?_
      refine r_aald (j := 126 + 2 * a1.toNatClampNeg) X hW kC_125 iC_125 nC_125 (by decide) rfl x3 rfl dX5_dishRefusal_29 ?_
      obtain ⟨r7, z7, hf⟩ := bnd_e hf
      refine r_cViR X hW k5 i5 rfl (c_X4_holdsRow l D cA ad hij σ (126 + 2 * a1.toNatClampNeg) r7 z7) gX5_dishRefusal_X4_holdsRow rfl ⟨rfl, rfl⟩ hd_X4_holdsRow ⟨Nat.le_of_ble_eq_true rfl, Nat.le_of_ble_eq_true rfl⟩ rfl (Nat.le_of_ble_eq_true rfl) hl.1 dX5_dishRefusal_30 (fun H locs hW => ?_)
      refine lv_if_eq (tgt := 41) hx hb dX5_dishRefusal_33 (by decide) (fun c8 => ?_) (fun c8 => ?_)
      · have hf := it_e hf c8
        refine lv_iconst (v := 0) hx hb dX5_dishRefusal_41 (by decide) ?_
        exact r_iretR X hW rfl rfl hf dX5_dishRefusal_42
      · have hf := ie_e hf c8
        refine lv_bipush (v := (-12)) hx hb dX5_dishRefusal_36 (by decide) ?_
        refine lv_goto (tgt := 42) hx hb dX5_dishRefusal_38 (by decide) ?_
        exact r_iretR X hW rfl rfl hf dX5_dishRefusal_42
    · have hf := ie_e hf c6
      refine lv_bipush (v := (-11)) hx hb dX5_dishRefusal_21 (by decide) ?_
      exact r_iretR X hW rfl rfl hf dX5_dishRefusal_23
  · have hf := ie_e hf c2
    refine lv_iconst (v := (-1)) hx hb dX5_dishRefusal_7 (by decide) ?_
    exact r_iretR X hW rfl rfl hf dX5_dishRefusal_8

abbrev rm_X5_cook : Room := { frames := 3, cells := 0, slots := 0, locals := 71 }
theorem hd_X5_cook : yX5_cook.cls = RX5 ∧ yX5_cook.cls ≠ "java/lang/invoke/MethodHandle" ∧ yX5_cook.cls ≠ "java/lang/invoke/VarHandle" ∧ (parseMethodDescriptor yX5_cook.desc).map (fun d => d.parameters.length) = some 2 := by decide +kernel
theorem inX5_cook_5 : ∀ w ∈ wsX50, w ∈ wsX5_cook := fun _ h => List.mem_cons_of_mem _ (List.mem_append_left _ (List.mem_append_left _ (List.mem_append_left _ (List.mem_append_left _ (List.mem_append_right _ h)))))
theorem inX5_cook_1 : ∀ w ∈ wsX10, w ∈ wsX5_cook := fun _ h => List.mem_cons_of_mem _ (List.mem_append_left _ (List.mem_append_left _ (List.mem_append_left _ (List.mem_append_right _ h))))
theorem inX5_cook_4 : ∀ w ∈ wsX40, w ∈ wsX5_cook := fun _ h => List.mem_cons_of_mem _ (List.mem_append_left _ (List.mem_append_left _ (List.mem_append_right _ h)))
theorem inX5_cook_3 : ∀ w ∈ wsX30, w ∈ wsX5_cook := fun _ h => List.mem_cons_of_mem _ (List.mem_append_left _ (List.mem_append_right _ h))
theorem inX5_cook_0 : ∀ w ∈ wsX00, w ∈ wsX5_cook := fun _ h => List.mem_cons_of_mem _ (List.mem_append_right _ h)
section S_X5_cook
variable {p : Program} {l : Launch} {e : Env} {s : State} {m : MethodId} {args : Array Value} {below : List Frame} {meth : Method} {c : Code} {D : va_G} {cA : Nat → ClassId} {ad : Nat → Nat} {r : Int32 × St}
end S_X5_cook
noncomputable def f_X5_cook (σ : St) (a1 : Int32) (a2 : Int32) : Option (Int32 × St) := bnd (f_X1_has σ 1 a2) fun r1 => (if r1 = 0 then some ((-1), σ) else bnd (f_X5_dishRefusal σ a1) fun r3 => (if r3 = 0 then chk (inb a2 6) <| nw (3 + 5 * a2.toNatClampNeg : Nat) fun v106 => chk (inb a1 8) <| chk (kOK SC (126 + 2 * a1.toNatClampNeg) 4) <| chk (kOK SC v106 3) <| bnd (f_X3_cookIn σ v106 (σ.1 (126 + 2 * a1.toNatClampNeg) 1) (σ.1 (126 + 2 * a1.toNatClampNeg) 2)) fun r9 => (if r9.1 = 0 then some ((-2), r9.2) else chk (kOK SC (v106 + 1) 0) <| some (r9.2.1 (v106 + 1) 2, r9.2)) else some (r3, σ)))
set_option maxHeartbeats 4000000 in
set_option maxRecDepth 100000 in
theorem c_X5_cook (l : Launch) (D : va_G) (cA : Nat → ClassId) (ad : Nat → Nat) (hij : Ij ad SC) (σ : St) (a1 : Int32) (a2 : Int32) (r : Int32 × St) (hf : f_X5_cook σ a1 a2 = some r) : Met l yX5_cook wsX5_cook rm_X5_cook (PC D cA ad SC [.ref (ad 0), .int a1, .int a2] σ) (Qi D cA ad SC r) 0 0 (Aw ad SC) := by
  rw [f_X5_cook] at hf
  refine k_head (own := RX5) (ws := wsX5_cook) (cc := cX5_cook) (nL := 5) (ret := (some .int)) pn_X5 rfl rfl hij (Nat.le_of_ble_eq_true rfl) (fun p e s m below meth c ls X hW hl => ?_)
  have hl : lv_has ls 5 [(0, .ref (ad 0)), (1, .int a1), (2, .int a2)] := hl
  obtain ⟨hx, hb, hml, hown, hts, hr, hlk, hK, hij⟩ := id X
  refine lv_aload_n hx hb dX5_cook_0 rfl (lv_at hl 0 rfl) ?_
  refine get_5_0 X hW kC_0 iC_0 inX5_cook_5 (List.mem_of_getElem? (i := 1) rfl) dX5_cook_1 ?_
  refine lv_iload_n hx hb dX5_cook_4 rfl (lv_at hl 2 rfl) ?_
  obtain ⟨r1, z1, hf⟩ := bnd_e hf
  refine r_cViR X hW kC_1 iC_1 rfl (c_X1_has l D cA ad hij σ 1 a2 r1 z1) gX5_cook_X1_has rfl ⟨rfl, rfl⟩ hd_X1_has ⟨Nat.le_of_ble_eq_true rfl, Nat.le_of_ble_eq_true rfl⟩ rfl (Nat.le_of_ble_eq_true rfl) hl.1 dX5_cook_5 (fun H locs hW => ?_)
  refine lv_if_ne (tgt := 13) hx hb dX5_cook_8 (by decide) (fun c2 => ?_) (fun c2 => ?_)
  · have hf := ie_e hf c2
    refine lv_aload_n hx hb dX5_cook_13 rfl (lv_at hl 0 rfl) ?_
    refine lv_iload_n hx hb dX5_cook_14 rfl (lv_at hl 1 rfl) ?_
    obtain ⟨r3, z3, hf⟩ := bnd_e hf
    refine r_cViR X hW kC_0 iC_0 rfl (c_X5_dishRefusal l D cA ad hij σ a1 r3 z3) gX5_cook_X5_dishRefusal rfl ⟨rfl, rfl⟩ hd_X5_dishRefusal ⟨Nat.le_of_ble_eq_true rfl, Nat.le_of_ble_eq_true rfl⟩ rfl (Nat.le_of_ble_eq_true rfl) hl.1 dX5_cook_15 (fun H locs hW => ?_)
    refine lv_istore_n (lv' := [(3, .int r3), (0, .ref (ad 0)), (1, .int a1), (2, .int a2)]) hx hb dX5_cook_18 rfl hl (by decide) rfl (fun ls hl => ?_)
    refine lv_iload_n hx hb dX5_cook_19 rfl (lv_at hl 0 rfl) ?_
    refine lv_if_eq (tgt := 25) hx hb dX5_cook_20 (by decide) (fun c4 => ?_) (fun c4 => ?_)
    · have hf := it_e hf c4
      refine lv_aload_n hx hb dX5_cook_25 rfl (lv_at hl 1 rfl) ?_
      refine get_5_0 X hW kC_0 iC_0 inX5_cook_5 (List.mem_of_getElem? (i := 1) rfl) dX5_cook_26 ?_
      refine get_1_0 X hW kC_1 iC_1 inX5_cook_1 (List.mem_of_getElem? (i := 2) rfl) dX5_cook_29 ?_
      refine lv_iload_n hx hb dX5_cook_32 rfl (lv_at hl 3 rfl) ?_
      obtain ⟨x5, hf⟩ := chk_e hf
      refine r_aald (j := 3 + 5 * a2.toNatClampNeg) X hW kC_2 iC_2 nC_2 (by decide) rfl x5 rfl dX5_cook_33 ?_
      obtain ⟨v106, e6, hf⟩ := nw_e hf
      refine tR _ e6 ?_
      refine lv_astore (lv' := [(4, .ref (ad v106)), (3, .int r3), (0, .ref (ad 0)), (1, .int a1), (2, .int a2)]) hx hb dX5_cook_34 hl (by decide) rfl (fun ls hl => ?_)
      refine lv_aload hx hb dX5_cook_36 (lv_at hl 0 rfl) ?_
      refine lv_aload_n hx hb dX5_cook_38 rfl (lv_at hl 2 rfl) ?_
      refine get_5_7 X hW kC_0 iC_0 inX5_cook_5 (List.mem_of_getElem? (i := 3) rfl) dX5_cook_39 ?_
      refine lv_iload_n hx hb dX5_cook_42 rfl (lv_at hl 3 rfl) ?_
      obtain ⟨x7, hf⟩ := chk_e hf
      refine r_aald (j := 126 + 2 * a1.toNatClampNeg) X hW kC_125 iC_125 nC_125 (by decide) rfl x7 rfl dX5_cook_43 ?_
      obtain ⟨q8, hf⟩ := chk_e hf
      obtain ⟨i8, k8⟩ := kOK_e q8
      refine get_4_1 X hW k8 i8 inX5_cook_4 (List.mem_of_getElem? (i := 4) rfl) dX5_cook_44 ?_
      refine lv_aload_n hx hb dX5_cook_47 rfl (lv_at hl 2 rfl) ?_
      refine get_5_7 X hW kC_0 iC_0 inX5_cook_5 (List.mem_of_getElem? (i := 3) rfl) dX5_cook_48 ?_
      refine lv_iload_n hx hb dX5_cook_51 rfl (lv_at hl 3 rfl) ?_
      refine r_aald (j := 126 + 2 * a1.toNatClampNeg) X hW kC_125 iC_125 nC_125 (by decide) rfl x7 rfl dX5_cook_52 ?_
      refine get_4_2 X hW k8 i8 inX5_cook_4 (List.mem_of_getElem? (i := 5) rfl) dX5_cook_53 ?_
      obtain ⟨q10, hf⟩ := chk_e hf
      obtain ⟨i10, k10⟩ := kOK_e q10
      obtain ⟨r9, z9, hf⟩ := bnd_e hf
      refine r_cVi X hW k10 i10 rfl (c_X3_cookIn l D cA ad hij σ v106 (σ.1 (126 + 2 * a1.toNatClampNeg) 1) (σ.1 (126 + 2 * a1.toNatClampNeg) 2) r9 z9) gX5_cook_X3_cookIn rfl ⟨rfl, rfl⟩ hd_X3_cookIn ⟨Nat.le_of_ble_eq_true rfl, Nat.le_of_ble_eq_true rfl⟩ rfl (Nat.le_of_ble_eq_true rfl) hl.1 dX5_cook_56 (fun H locs hW => ?_)
      refine lv_if_eq (tgt := 73) hx hb dX5_cook_59 (by decide) (fun c11 => ?_) (fun c11 => ?_)
      · have hf := it_e hf c11
        refine lv_bipush (v := (-2)) hx hb dX5_cook_73 (by decide) ?_
        exact r_iret X hW rfl rfl hf dX5_cook_75
      · have hf := ie_e hf c11
        refine lv_aload hx hb dX5_cook_62 (lv_at hl 0 rfl) ?_
        refine get_3_0 X hW k10 i10 inX5_cook_3 (List.mem_of_getElem? (i := 6) rfl) dX5_cook_64 ?_
        obtain ⟨q12, hf⟩ := chk_e hf
        obtain ⟨i12, k12⟩ := kOK_e q12
        refine get_0_2 X hW k12 i12 inX5_cook_0 (List.mem_of_getElem? (i := 7) rfl) dX5_cook_67 ?_
        refine lv_goto (tgt := 75) hx hb dX5_cook_70 (by decide) ?_
        exact r_iret X hW rfl rfl hf dX5_cook_75
    · have hf := ie_e hf c4
      refine lv_iload_n hx hb dX5_cook_23 rfl (lv_at hl 0 rfl) ?_
      exact r_iret X hW rfl rfl hf dX5_cook_24
  · have hf := it_e hf c2
    refine lv_iconst (v := (-1)) hx hb dX5_cook_11 (by decide) ?_
    exact r_iret X hW rfl rfl hf dX5_cook_12

abbrev rm_X5_dish : Room := { frames := 1, cells := 0, slots := 0, locals := 21 }
theorem hd_X5_dish : yX5_dish.cls = RX5 ∧ yX5_dish.cls ≠ "java/lang/invoke/MethodHandle" ∧ yX5_dish.cls ≠ "java/lang/invoke/VarHandle" ∧ (parseMethodDescriptor yX5_dish.desc).map (fun d => d.parameters.length) = some 3 := by decide +kernel
theorem inX5_dish_5 : ∀ w ∈ wsX50, w ∈ wsX5_dish := fun _ h => List.mem_cons_of_mem _ (List.mem_append_left _ (List.mem_append_left _ (List.mem_append_left _ (List.mem_append_right _ h))))
theorem inX5_dish_1 : ∀ w ∈ wsX10, w ∈ wsX5_dish := fun _ h => List.mem_cons_of_mem _ (List.mem_append_left _ (List.mem_append_left _ (List.mem_append_right _ h)))
theorem inX5_dish_3 : ∀ w ∈ wsX30, w ∈ wsX5_dish := fun _ h => List.mem_cons_of_mem _ (List.mem_append_left _ (List.mem_append_right _ h))
theorem inX5_dish_0 : ∀ w ∈ wsX00, w ∈ wsX5_dish := fun _ h => List.mem_cons_of_mem _ (List.mem_append_right _ h)
section S_X5_dish
variable {p : Program} {l : Launch} {e : Env} {s : State} {m : MethodId} {args : Array Value} {below : List Frame} {meth : Method} {c : Code} {D : va_G} {cA : Nat → ClassId} {ad : Nat → Nat} {r : Int32}
end S_X5_dish
noncomputable def f_X5_dish (σ : St) (a1 : Int32) (a2 : Int32) (a3 : Int32) : Option (Int32) := bnd (f_X1_has σ 1 a1) fun r1 => (if r1 = 0 then some ((-1)) else (if a2 < 0 then some ((-1)) else bnd (f_X5_isNoHalf a3) fun r4 => (if r4 = 0 then chk (inb a1 6) <| nw (3 + 5 * a1.toNatClampNeg : Nat) fun v107 => chk (kOK SC v107 3) <| bnd (f_X3_hasDish σ v107 a2) fun r8 => (if r8 = 0 then some ((-4)) else (if a3 = 0 then bnd (f_X3_kindOf σ v107 a2) fun r13 => some r13 else bnd (f_X3_figureOf σ v107 a2) fun r12 => some r12)) else some ((-1)))))
set_option maxHeartbeats 4000000 in
set_option maxRecDepth 100000 in
theorem c_X5_dish (l : Launch) (D : va_G) (cA : Nat → ClassId) (ad : Nat → Nat) (hij : Ij ad SC) (σ : St) (a1 : Int32) (a2 : Int32) (a3 : Int32) (r : Int32) (hf : f_X5_dish σ a1 a2 a3 = some r) : Met l yX5_dish wsX5_dish rm_X5_dish (PC D cA ad SC [.ref (ad 0), .int a1, .int a2, .int a3] σ) (Qi D cA ad SC (r, σ)) 0 0 (Aw ad SC) := by
  rw [f_X5_dish] at hf
  refine k_head (own := RX5) (ws := wsX5_dish) (cc := cX5_dish) (nL := 5) (ret := (some .int)) pn_X5 rfl rfl hij (Nat.le_of_ble_eq_true rfl) (fun p e s m below meth c ls X hW hl => ?_)
  have hl : lv_has ls 5 [(0, .ref (ad 0)), (1, .int a1), (2, .int a2), (3, .int a3)] := hl
  obtain ⟨hx, hb, hml, hown, hts, hr, hlk, hK, hij⟩ := id X
  refine lv_aload_n hx hb dX5_dish_0 rfl (lv_at hl 0 rfl) ?_
  refine get_5_0 X hW kC_0 iC_0 inX5_dish_5 (List.mem_of_getElem? (i := 1) rfl) dX5_dish_1 ?_
  refine lv_iload_n hx hb dX5_dish_4 rfl (lv_at hl 1 rfl) ?_
  obtain ⟨r1, z1, hf⟩ := bnd_e hf
  refine r_cViR X hW kC_1 iC_1 rfl (c_X1_has l D cA ad hij σ 1 a1 r1 z1) gX5_dish_X1_has rfl ⟨rfl, rfl⟩ hd_X1_has ⟨Nat.le_of_ble_eq_true rfl, Nat.le_of_ble_eq_true rfl⟩ rfl (Nat.le_of_ble_eq_true rfl) hl.1 dX5_dish_5 (fun H locs hW => ?_)
  refine lv_if_eq (tgt := 22) hx hb dX5_dish_8 (by decide) (fun c2 => ?_) (fun c2 => ?_)
  · have hf := it_e hf c2
    refine lv_iconst (v := (-1)) hx hb dX5_dish_22 (by decide) ?_
    exact r_iretR X hW rfl rfl hf dX5_dish_23
  · have hf := ie_e hf c2
    refine lv_iload_n hx hb dX5_dish_11 rfl (lv_at hl 2 rfl) ?_
    refine lv_if_lt (tgt := 22) hx hb dX5_dish_12 (by decide) (fun c3 => ?_) (fun c3 => ?_)
    · have hf := it_e hf c3
      refine lv_iconst (v := (-1)) hx hb dX5_dish_22 (by decide) ?_
      exact r_iretR X hW rfl rfl hf dX5_dish_23
    · have hf := ie_e hf c3
      refine lv_iload_n hx hb dX5_dish_15 rfl (lv_at hl 3 rfl) ?_
      obtain ⟨r4, z4, hf⟩ := bnd_e hf
      refine r_cSiR X hW (c_X5_isNoHalf l D cA ad hij σ a3 r4 z4) gX5_dish_X5_isNoHalf rfl ⟨rfl, rfl⟩ hd_X5_isNoHalf ⟨Nat.le_of_ble_eq_true rfl, Nat.le_of_ble_eq_true rfl⟩ rfl (Nat.le_of_ble_eq_true rfl) hl.1 dX5_dish_16 (fun H locs hW => ?_)
      refine lv_if_eq (tgt := 24) hx hb dX5_dish_19 (by decide) (fun c5 => ?_) (fun c5 => ?_)
      · have hf := it_e hf c5
        refine lv_aload_n hx hb dX5_dish_24 rfl (lv_at hl 0 rfl) ?_
        refine get_5_0 X hW kC_0 iC_0 inX5_dish_5 (List.mem_of_getElem? (i := 1) rfl) dX5_dish_25 ?_
        refine get_1_0 X hW kC_1 iC_1 inX5_dish_1 (List.mem_of_getElem? (i := 2) rfl) dX5_dish_28 ?_
        refine lv_iload_n hx hb dX5_dish_31 rfl (lv_at hl 1 rfl) ?_
        obtain ⟨x6, hf⟩ := chk_e hf
        refine r_aald (j := 3 + 5 * a1.toNatClampNeg) X hW kC_2 iC_2 nC_2 (by decide) rfl x6 rfl dX5_dish_32 ?_
        obtain ⟨v107, e7, hf⟩ := nw_e hf
        refine tR _ e7 ?_
        refine lv_astore (lv' := [(4, .ref (ad v107)), (0, .ref (ad 0)), (1, .int a1), (2, .int a2), (3, .int a3)]) hx hb dX5_dish_33 hl (by decide) rfl (fun ls hl => ?_)
        refine lv_aload hx hb dX5_dish_35 (lv_at hl 0 rfl) ?_
        refine lv_iload_n hx hb dX5_dish_37 rfl (lv_at hl 3 rfl) ?_
        obtain ⟨q9, hf⟩ := chk_e hf
        obtain ⟨i9, k9⟩ := kOK_e q9
        obtain ⟨r8, z8, hf⟩ := bnd_e hf
        refine r_cViR X hW k9 i9 rfl (c_X3_hasDish l D cA ad hij σ v107 a2 r8 z8) gX5_dish_X3_hasDish rfl ⟨rfl, rfl⟩ hd_X3_hasDish ⟨Nat.le_of_ble_eq_true rfl, Nat.le_of_ble_eq_true rfl⟩ rfl (Nat.le_of_ble_eq_true rfl) hl.1 dX5_dish_38 (fun H locs hW => ?_)
        refine lv_if_ne (tgt := 47) hx hb dX5_dish_41 (by decide) (fun c10 => ?_) (fun c10 => ?_)
        · have hf := ie_e hf c10
          refine lv_iload_n hx hb dX5_dish_47 rfl (lv_at hl 4 rfl) ?_
          refine lv_if_ne (tgt := 60) hx hb dX5_dish_48 (by decide) (fun c11 => ?_) (fun c11 => ?_)
          · have hf := ie_e hf c11
            refine lv_aload hx hb dX5_dish_60 (lv_at hl 0 rfl) ?_
            refine lv_iload_n hx hb dX5_dish_62 rfl (lv_at hl 3 rfl) ?_
            obtain ⟨r12, z12, hf⟩ := bnd_e hf
            refine r_cViR X hW k9 i9 rfl (c_X3_figureOf l D cA ad hij σ v107 a2 r12 z12) gX5_dish_X3_figureOf rfl ⟨rfl, rfl⟩ hd_X3_figureOf ⟨Nat.le_of_ble_eq_true rfl, Nat.le_of_ble_eq_true rfl⟩ rfl (Nat.le_of_ble_eq_true rfl) hl.1 dX5_dish_63 (fun H locs hW => ?_)
            exact r_iretR X hW rfl rfl hf dX5_dish_66
          · have hf := it_e hf c11
            refine lv_aload hx hb dX5_dish_51 (lv_at hl 0 rfl) ?_
            refine lv_iload_n hx hb dX5_dish_53 rfl (lv_at hl 3 rfl) ?_
            obtain ⟨r13, z13, hf⟩ := bnd_e hf
            refine r_cViR X hW k9 i9 rfl (c_X3_kindOf l D cA ad hij σ v107 a2 r13 z13) gX5_dish_X3_kindOf rfl ⟨rfl, rfl⟩ hd_X3_kindOf ⟨Nat.le_of_ble_eq_true rfl, Nat.le_of_ble_eq_true rfl⟩ rfl (Nat.le_of_ble_eq_true rfl) hl.1 dX5_dish_54 (fun H locs hW => ?_)
            refine lv_goto (tgt := 66) hx hb dX5_dish_57 (by decide) ?_
            exact r_iretR X hW rfl rfl hf dX5_dish_66
        · have hf := it_e hf c10
          refine lv_bipush (v := (-4)) hx hb dX5_dish_44 (by decide) ?_
          exact r_iretR X hW rfl rfl hf dX5_dish_46
      · have hf := ie_e hf c5
        refine lv_iconst (v := (-1)) hx hb dX5_dish_22 (by decide) ?_
        exact r_iretR X hW rfl rfl hf dX5_dish_23

abbrev rm_X5_dishes : Room := { frames := 1, cells := 0, slots := 0, locals := 21 }
theorem hd_X5_dishes : yX5_dishes.cls = RX5 ∧ yX5_dishes.cls ≠ "java/lang/invoke/MethodHandle" ∧ yX5_dishes.cls ≠ "java/lang/invoke/VarHandle" ∧ (parseMethodDescriptor yX5_dishes.desc).map (fun d => d.parameters.length) = some 1 := by decide +kernel
theorem inX5_dishes_5 : ∀ w ∈ wsX50, w ∈ wsX5_dishes := fun _ h => List.mem_cons_of_mem _ (List.mem_append_left _ (List.mem_append_left _ (List.mem_append_left _ (List.mem_append_right _ h))))
theorem inX5_dishes_1 : ∀ w ∈ wsX10, w ∈ wsX5_dishes := fun _ h => List.mem_cons_of_mem _ (List.mem_append_left _ (List.mem_append_left _ (List.mem_append_right _ h)))
theorem inX5_dishes_3 : ∀ w ∈ wsX30, w ∈ wsX5_dishes := fun _ h => List.mem_cons_of_mem _ (List.mem_append_left _ (List.mem_append_right _ h))
theorem inX5_dishes_0 : ∀ w ∈ wsX00, w ∈ wsX5_dishes := fun _ h => List.mem_cons_of_mem _ (List.mem_append_right _ h)
section S_X5_dishes
variable {p : Program} {l : Launch} {e : Env} {s : State} {m : MethodId} {args : Array Value} {below : List Frame} {meth : Method} {c : Code} {D : va_G} {cA : Nat → ClassId} {ad : Nat → Nat} {r : Int32}
end S_X5_dishes
noncomputable def f_X5_dishes (σ : St) (a1 : Int32) : Option (Int32) := bnd (f_X1_has σ 1 a1) fun r1 => (if r1 = 0 then some ((-1)) else chk (inb a1 6) <| chk (kOK SC (3 + 5 * a1.toNatClampNeg) 3) <| chk (kOK SC (3 + 5 * a1.toNatClampNeg + 1) 0) <| some (σ.1 (3 + 5 * a1.toNatClampNeg + 1) 2))
set_option maxHeartbeats 4000000 in
set_option maxRecDepth 100000 in
theorem c_X5_dishes (l : Launch) (D : va_G) (cA : Nat → ClassId) (ad : Nat → Nat) (hij : Ij ad SC) (σ : St) (a1 : Int32) (r : Int32) (hf : f_X5_dishes σ a1 = some r) : Met l yX5_dishes wsX5_dishes rm_X5_dishes (PC D cA ad SC [.ref (ad 0), .int a1] σ) (Qi D cA ad SC (r, σ)) 0 0 (Aw ad SC) := by
  rw [f_X5_dishes] at hf
  refine k_head (own := RX5) (ws := wsX5_dishes) (cc := cX5_dishes) (nL := 2) (ret := (some .int)) pn_X5 rfl rfl hij (Nat.le_of_ble_eq_true rfl) (fun p e s m below meth c ls X hW hl => ?_)
  have hl : lv_has ls 2 [(0, .ref (ad 0)), (1, .int a1)] := hl
  obtain ⟨hx, hb, hml, hown, hts, hr, hlk, hK, hij⟩ := id X
  refine lv_aload_n hx hb dX5_dishes_0 rfl (lv_at hl 0 rfl) ?_
  refine get_5_0 X hW kC_0 iC_0 inX5_dishes_5 (List.mem_of_getElem? (i := 1) rfl) dX5_dishes_1 ?_
  refine lv_iload_n hx hb dX5_dishes_4 rfl (lv_at hl 1 rfl) ?_
  obtain ⟨r1, z1, hf⟩ := bnd_e hf
  refine r_cViR X hW kC_1 iC_1 rfl (c_X1_has l D cA ad hij σ 1 a1 r1 z1) gX5_dishes_X1_has rfl ⟨rfl, rfl⟩ hd_X1_has ⟨Nat.le_of_ble_eq_true rfl, Nat.le_of_ble_eq_true rfl⟩ rfl (Nat.le_of_ble_eq_true rfl) hl.1 dX5_dishes_5 (fun H locs hW => ?_)
  refine lv_if_eq (tgt := 29) hx hb dX5_dishes_8 (by decide) (fun c2 => ?_) (fun c2 => ?_)
  · have hf := it_e hf c2
    refine lv_iconst (v := (-1)) hx hb dX5_dishes_29 (by decide) ?_
    exact r_iretR X hW rfl rfl hf dX5_dishes_30
  · have hf := ie_e hf c2
    refine lv_aload_n hx hb dX5_dishes_11 rfl (lv_at hl 0 rfl) ?_
    refine get_5_0 X hW kC_0 iC_0 inX5_dishes_5 (List.mem_of_getElem? (i := 1) rfl) dX5_dishes_12 ?_
    refine get_1_0 X hW kC_1 iC_1 inX5_dishes_1 (List.mem_of_getElem? (i := 2) rfl) dX5_dishes_15 ?_
    refine lv_iload_n hx hb dX5_dishes_18 rfl (lv_at hl 1 rfl) ?_
    obtain ⟨x3, hf⟩ := chk_e hf
    refine r_aald (j := 3 + 5 * a1.toNatClampNeg) X hW kC_2 iC_2 nC_2 (by decide) rfl x3 rfl dX5_dishes_19 ?_
    obtain ⟨q4, hf⟩ := chk_e hf
    obtain ⟨i4, k4⟩ := kOK_e q4
    refine get_3_0 X hW k4 i4 inX5_dishes_3 (List.mem_of_getElem? (i := 3) rfl) dX5_dishes_20 ?_
    obtain ⟨q5, hf⟩ := chk_e hf
    obtain ⟨i5, k5⟩ := kOK_e q5
    refine get_0_2 X hW k5 i5 inX5_dishes_0 (List.mem_of_getElem? (i := 4) rfl) dX5_dishes_23 ?_
    refine lv_goto (tgt := 30) hx hb dX5_dishes_26 (by decide) ?_
    exact r_iretR X hW rfl rfl hf dX5_dishes_30

abbrev rm_X5_taste : Room := { frames := 1, cells := 0, slots := 0, locals := 29 }
theorem hd_X5_taste : yX5_taste.cls = RX5 ∧ yX5_taste.cls ≠ "java/lang/invoke/MethodHandle" ∧ yX5_taste.cls ≠ "java/lang/invoke/VarHandle" ∧ (parseMethodDescriptor yX5_taste.desc).map (fun d => d.parameters.length) = some 3 := by decide +kernel
theorem inX5_taste_5 : ∀ w ∈ wsX50, w ∈ wsX5_taste := fun _ h => List.mem_cons_of_mem _ (List.mem_append_left _ (List.mem_append_left _ (List.mem_append_left _ (List.mem_append_right _ h))))
theorem inX5_taste_1 : ∀ w ∈ wsX10, w ∈ wsX5_taste := fun _ h => List.mem_cons_of_mem _ (List.mem_append_left _ (List.mem_append_left _ (List.mem_append_right _ h)))
theorem inX5_taste_3 : ∀ w ∈ wsX30, w ∈ wsX5_taste := fun _ h => List.mem_cons_of_mem _ (List.mem_append_left _ (List.mem_append_right _ h))
theorem inX5_taste_0 : ∀ w ∈ wsX00, w ∈ wsX5_taste := fun _ h => List.mem_cons_of_mem _ (List.mem_append_right _ h)
section S_X5_taste
variable {p : Program} {l : Launch} {e : Env} {s : State} {m : MethodId} {args : Array Value} {below : List Frame} {meth : Method} {c : Code} {D : va_G} {cA : Nat → ClassId} {ad : Nat → Nat} {r : Int64}
end S_X5_taste
noncomputable def f_X5_taste (σ : St) (a1 : Int32) (a2 : Int32) (a3 : Int32) : Option (Int64) := bnd (f_X1_has σ 1 a1) fun r1 => (if r1 = 0 then some ((-1000000001)) else bnd (f_X5_isNoTaste a2) fun r3 => (if r3 = 0 then bnd (f_X5_isNoHalf a3) fun r5 => (if r5 = 0 then chk (inb a1 6) <| chk (kOK SC (3 + 5 * a1.toNatClampNeg) 3) <| nw (3 + 5 * a1.toNatClampNeg + 1 : Nat) fun v109 => chk (kOK SC v109 0) <| chk (aOK SC (v109 + 1) 21 4) <| chk (inb a2 4) <| bnd (f_X5_inLeastTerms (σ.2 (v109 + 1) a2.toNatClampNeg) (σ.2 v109 1) a3) fun r13 => some r13 else some ((-1000000001))) else some ((-1000000001))))
set_option maxHeartbeats 4000000 in
set_option maxRecDepth 100000 in
theorem c_X5_taste (l : Launch) (D : va_G) (cA : Nat → ClassId) (ad : Nat → Nat) (hij : Ij ad SC) (σ : St) (a1 : Int32) (a2 : Int32) (a3 : Int32) (r : Int64) (hf : f_X5_taste σ a1 a2 a3 = some r) : Met l yX5_taste wsX5_taste rm_X5_taste (PC D cA ad SC [.ref (ad 0), .int a1, .int a2, .int a3] σ) (Ql D cA ad SC (r, σ)) 0 0 (Aw ad SC) := by
  rw [f_X5_taste] at hf
  refine k_head (own := RX5) (ws := wsX5_taste) (cc := cX5_taste) (nL := 5) (ret := (some .long)) pn_X5 rfl rfl hij (Nat.le_of_ble_eq_true rfl) (fun p e s m below meth c ls X hW hl => ?_)
  have hl : lv_has ls 5 [(0, .ref (ad 0)), (1, .int a1), (2, .int a2), (3, .int a3)] := hl
  obtain ⟨hx, hb, hml, hown, hts, hr, hlk, hK, hij⟩ := id X
  refine lv_aload_n hx hb dX5_taste_0 rfl (lv_at hl 0 rfl) ?_
  refine get_5_0 X hW kC_0 iC_0 inX5_taste_5 (List.mem_of_getElem? (i := 1) rfl) dX5_taste_1 ?_
  refine lv_iload_n hx hb dX5_taste_4 rfl (lv_at hl 1 rfl) ?_
  obtain ⟨r1, z1, hf⟩ := bnd_e hf
  refine r_cViR X hW kC_1 iC_1 rfl (c_X1_has l D cA ad hij σ 1 a1 r1 z1) gX5_taste_X1_has rfl ⟨rfl, rfl⟩ hd_X1_has ⟨Nat.le_of_ble_eq_true rfl, Nat.le_of_ble_eq_true rfl⟩ rfl (Nat.le_of_ble_eq_true rfl) hl.1 dX5_taste_5 (fun H locs hW => ?_)
  refine lv_if_eq (tgt := 25) hx hb dX5_taste_8 (by decide) (fun c2 => ?_) (fun c2 => ?_)
  · have hf := it_e hf c2
    refine lv_ldc2 (v := (-1000000001)) hx hb hown (hts _ (List.mem_of_getElem? (i := 2) rfl)) dX5_taste_25 ?_
    exact r_lretR X hW rfl hf dX5_taste_28
  · have hf := ie_e hf c2
    refine lv_iload_n hx hb dX5_taste_11 rfl (lv_at hl 2 rfl) ?_
    obtain ⟨r3, z3, hf⟩ := bnd_e hf
    refine r_cSiR X hW (c_X5_isNoTaste l D cA ad hij σ a2 r3 z3) gX5_taste_X5_isNoTaste rfl ⟨rfl, rfl⟩ hd_X5_isNoTaste ⟨Nat.le_of_ble_eq_true rfl, Nat.le_of_ble_eq_true rfl⟩ rfl (Nat.le_of_ble_eq_true rfl) hl.1 dX5_taste_12 (fun H locs hW => ?_)
    refine lv_if_ne (tgt := 25) hx hb dX5_taste_15 (by decide) (fun c4 => ?_) (fun c4 => ?_)
    · have hf := ie_e hf c4
      refine lv_ldc2 (v := (-1000000001)) hx hb hown (hts _ (List.mem_of_getElem? (i := 2) rfl)) dX5_taste_25 ?_
      exact r_lretR X hW rfl hf dX5_taste_28
    · have hf := it_e hf c4
      refine lv_iload_n hx hb dX5_taste_18 rfl (lv_at hl 3 rfl) ?_
      obtain ⟨r5, z5, hf⟩ := bnd_e hf
      refine r_cSiR X hW (c_X5_isNoHalf l D cA ad hij σ a3 r5 z5) gX5_taste_X5_isNoHalf rfl ⟨rfl, rfl⟩ hd_X5_isNoHalf ⟨Nat.le_of_ble_eq_true rfl, Nat.le_of_ble_eq_true rfl⟩ rfl (Nat.le_of_ble_eq_true rfl) hl.1 dX5_taste_19 (fun H locs hW => ?_)
      refine lv_if_eq (tgt := 29) hx hb dX5_taste_22 (by decide) (fun c6 => ?_) (fun c6 => ?_)
      · have hf := it_e hf c6
        refine lv_aload_n hx hb dX5_taste_29 rfl (lv_at hl 0 rfl) ?_
        refine get_5_0 X hW kC_0 iC_0 inX5_taste_5 (List.mem_of_getElem? (i := 1) rfl) dX5_taste_30 ?_
        refine get_1_0 X hW kC_1 iC_1 inX5_taste_1 (List.mem_of_getElem? (i := 3) rfl) dX5_taste_33 ?_
        refine lv_iload_n hx hb dX5_taste_36 rfl (lv_at hl 1 rfl) ?_
        obtain ⟨x7, hf⟩ := chk_e hf
        refine r_aald (j := 3 + 5 * a1.toNatClampNeg) X hW kC_2 iC_2 nC_2 (by decide) rfl x7 rfl dX5_taste_37 ?_
        obtain ⟨q8, hf⟩ := chk_e hf
        obtain ⟨i8, k8⟩ := kOK_e q8
        refine get_3_0 X hW k8 i8 inX5_taste_3 (List.mem_of_getElem? (i := 4) rfl) dX5_taste_38 ?_
        obtain ⟨v109, e9, hf⟩ := nw_e hf
        refine tR _ e9 ?_
        refine lv_astore (lv' := [(4, .ref (ad v109)), (0, .ref (ad 0)), (1, .int a1), (2, .int a2), (3, .int a3)]) hx hb dX5_taste_41 hl (by decide) rfl (fun ls hl => ?_)
        refine lv_aload hx hb dX5_taste_43 (lv_at hl 0 rfl) ?_
        obtain ⟨q10, hf⟩ := chk_e hf
        obtain ⟨i10, k10⟩ := kOK_e q10
        refine get_0_0 X hW k10 i10 inX5_taste_0 (List.mem_of_getElem? (i := 5) rfl) dX5_taste_45 ?_
        refine lv_iload_n hx hb dX5_taste_48 rfl (lv_at hl 3 rfl) ?_
        obtain ⟨q11, hf⟩ := chk_e hf
        obtain ⟨i11, k11, n11⟩ := aOK_e q11
        obtain ⟨x12, hf⟩ := chk_e hf
        refine r_lald X hW k11 i11 n11 x12 dX5_taste_49 ?_
        refine lv_aload hx hb dX5_taste_50 (lv_at hl 0 rfl) ?_
        refine get_0_1 X hW k10 i10 inX5_taste_0 (List.mem_of_getElem? (i := 6) rfl) dX5_taste_52 ?_
        refine lv_iload_n hx hb dX5_taste_55 rfl (lv_at hl 4 rfl) ?_
        obtain ⟨r13, z13, hf⟩ := bnd_e hf
        refine r_cSlR X hW (c_X5_inLeastTerms l D cA ad hij σ (σ.2 (v109 + 1) a2.toNatClampNeg) (σ.2 v109 1) a3 r13 z13) gX5_taste_X5_inLeastTerms rfl ⟨rfl, rfl⟩ hd_X5_inLeastTerms ⟨Nat.le_of_ble_eq_true rfl, Nat.le_of_ble_eq_true rfl⟩ rfl (Nat.le_of_ble_eq_true rfl) hl.1 dX5_taste_56 (fun H locs hW => ?_)
        exact r_lretR X hW rfl hf dX5_taste_59
      · have hf := ie_e hf c6
        refine lv_ldc2 (v := (-1000000001)) hx hb hown (hts _ (List.mem_of_getElem? (i := 2) rfl)) dX5_taste_25 ?_
        exact r_lretR X hW rfl hf dX5_taste_28

abbrev rm_X5_all : Room := { frames := 1, cells := 0, slots := 0, locals := 29 }
theorem hd_X5_all : yX5_all.cls = RX5 ∧ yX5_all.cls ≠ "java/lang/invoke/MethodHandle" ∧ yX5_all.cls ≠ "java/lang/invoke/VarHandle" ∧ (parseMethodDescriptor yX5_all.desc).map (fun d => d.parameters.length) = some 2 := by decide +kernel
theorem inX5_all_5 : ∀ w ∈ wsX50, w ∈ wsX5_all := fun _ h => List.mem_cons_of_mem _ (List.mem_append_left _ (List.mem_append_left _ (List.mem_append_left _ (List.mem_append_right _ h))))
theorem inX5_all_1 : ∀ w ∈ wsX10, w ∈ wsX5_all := fun _ h => List.mem_cons_of_mem _ (List.mem_append_left _ (List.mem_append_left _ (List.mem_append_right _ h)))
theorem inX5_all_3 : ∀ w ∈ wsX30, w ∈ wsX5_all := fun _ h => List.mem_cons_of_mem _ (List.mem_append_left _ (List.mem_append_right _ h))
theorem inX5_all_0 : ∀ w ∈ wsX00, w ∈ wsX5_all := fun _ h => List.mem_cons_of_mem _ (List.mem_append_right _ h)
section S_X5_all
variable {p : Program} {l : Launch} {e : Env} {s : State} {m : MethodId} {args : Array Value} {below : List Frame} {meth : Method} {c : Code} {D : va_G} {cA : Nat → ClassId} {ad : Nat → Nat} {r : Int64}
end S_X5_all
noncomputable def f_X5_all (σ : St) (a1 : Int32) (a2 : Int32) : Option (Int64) := bnd (f_X1_has σ 1 a1) fun r1 => (if r1 = 0 then some ((-1000000001)) else bnd (f_X5_isNoHalf a2) fun r3 => (if r3 = 0 then chk (inb a1 6) <| chk (kOK SC (3 + 5 * a1.toNatClampNeg) 3) <| nw (3 + 5 * a1.toNatClampNeg + 1 : Nat) fun v107 => chk (kOK SC v107 0) <| bnd (f_X0_totalAbove σ v107) fun r8 => bnd (f_X5_inLeastTerms r8 (σ.2 v107 1) a2) fun r10 => some r10 else some ((-1000000001))))
set_option maxHeartbeats 4000000 in
set_option maxRecDepth 100000 in
theorem c_X5_all (l : Launch) (D : va_G) (cA : Nat → ClassId) (ad : Nat → Nat) (hij : Ij ad SC) (σ : St) (a1 : Int32) (a2 : Int32) (r : Int64) (hf : f_X5_all σ a1 a2 = some r) : Met l yX5_all wsX5_all rm_X5_all (PC D cA ad SC [.ref (ad 0), .int a1, .int a2] σ) (Ql D cA ad SC (r, σ)) 0 0 (Aw ad SC) := by
  rw [f_X5_all] at hf
  refine k_head (own := RX5) (ws := wsX5_all) (cc := cX5_all) (nL := 4) (ret := (some .long)) pn_X5 rfl rfl hij (Nat.le_of_ble_eq_true rfl) (fun p e s m below meth c ls X hW hl => ?_)
  have hl : lv_has ls 4 [(0, .ref (ad 0)), (1, .int a1), (2, .int a2)] := hl
  obtain ⟨hx, hb, hml, hown, hts, hr, hlk, hK, hij⟩ := id X
  refine lv_aload_n hx hb dX5_all_0 rfl (lv_at hl 0 rfl) ?_
  refine get_5_0 X hW kC_0 iC_0 inX5_all_5 (List.mem_of_getElem? (i := 1) rfl) dX5_all_1 ?_
  refine lv_iload_n hx hb dX5_all_4 rfl (lv_at hl 1 rfl) ?_
  obtain ⟨r1, z1, hf⟩ := bnd_e hf
  refine r_cViR X hW kC_1 iC_1 rfl (c_X1_has l D cA ad hij σ 1 a1 r1 z1) gX5_all_X1_has rfl ⟨rfl, rfl⟩ hd_X1_has ⟨Nat.le_of_ble_eq_true rfl, Nat.le_of_ble_eq_true rfl⟩ rfl (Nat.le_of_ble_eq_true rfl) hl.1 dX5_all_5 (fun H locs hW => ?_)
  refine lv_if_eq (tgt := 18) hx hb dX5_all_8 (by decide) (fun c2 => ?_) (fun c2 => ?_)
  · have hf := it_e hf c2
    refine lv_ldc2 (v := (-1000000001)) hx hb hown (hts _ (List.mem_of_getElem? (i := 2) rfl)) dX5_all_18 ?_
    exact r_lretR X hW rfl hf dX5_all_21
  · have hf := ie_e hf c2
    refine lv_iload_n hx hb dX5_all_11 rfl (lv_at hl 2 rfl) ?_
    obtain ⟨r3, z3, hf⟩ := bnd_e hf
    refine r_cSiR X hW (c_X5_isNoHalf l D cA ad hij σ a2 r3 z3) gX5_all_X5_isNoHalf rfl ⟨rfl, rfl⟩ hd_X5_isNoHalf ⟨Nat.le_of_ble_eq_true rfl, Nat.le_of_ble_eq_true rfl⟩ rfl (Nat.le_of_ble_eq_true rfl) hl.1 dX5_all_12 (fun H locs hW => ?_)
    refine lv_if_eq (tgt := 22) hx hb dX5_all_15 (by decide) (fun c4 => ?_) (fun c4 => ?_)
    · have hf := it_e hf c4
      refine lv_aload_n hx hb dX5_all_22 rfl (lv_at hl 0 rfl) ?_
      refine get_5_0 X hW kC_0 iC_0 inX5_all_5 (List.mem_of_getElem? (i := 1) rfl) dX5_all_23 ?_
      refine get_1_0 X hW kC_1 iC_1 inX5_all_1 (List.mem_of_getElem? (i := 3) rfl) dX5_all_26 ?_
      refine lv_iload_n hx hb dX5_all_29 rfl (lv_at hl 1 rfl) ?_
      obtain ⟨x5, hf⟩ := chk_e hf
      refine r_aald (j := 3 + 5 * a1.toNatClampNeg) X hW kC_2 iC_2 nC_2 (by decide) rfl x5 rfl dX5_all_30 ?_
      obtain ⟨q6, hf⟩ := chk_e hf
      obtain ⟨i6, k6⟩ := kOK_e q6
      refine get_3_0 X hW k6 i6 inX5_all_3 (List.mem_of_getElem? (i := 4) rfl) dX5_all_31 ?_
      obtain ⟨v107, e7, hf⟩ := nw_e hf
      refine tR _ e7 ?_
      refine lv_astore_n (lv' := [(3, .ref (ad v107)), (0, .ref (ad 0)), (1, .int a1), (2, .int a2)]) hx hb dX5_all_34 rfl hl (by decide) rfl (fun ls hl => ?_)
      refine lv_aload_n hx hb dX5_all_35 rfl (lv_at hl 0 rfl) ?_
      obtain ⟨q9, hf⟩ := chk_e hf
      obtain ⟨i9, k9⟩ := kOK_e q9
      obtain ⟨r8, z8, hf⟩ := bnd_e hf
      refine r_cVlR X hW k9 i9 rfl (c_X0_totalAbove l D cA ad hij σ v107 r8 z8) gX5_all_X0_totalAbove rfl ⟨rfl, rfl⟩ hd_X0_totalAbove ⟨Nat.le_of_ble_eq_true rfl, Nat.le_of_ble_eq_true rfl⟩ rfl (Nat.le_of_ble_eq_true rfl) hl.1 dX5_all_36 (fun H locs hW => ?_)
      refine lv_aload_n hx hb dX5_all_39 rfl (lv_at hl 0 rfl) ?_
      refine get_0_1 X hW k9 i9 inX5_all_0 (List.mem_of_getElem? (i := 5) rfl) dX5_all_40 ?_
      refine lv_iload_n hx hb dX5_all_43 rfl (lv_at hl 3 rfl) ?_
      obtain ⟨r10, z10, hf⟩ := bnd_e hf
      refine r_cSlR X hW (c_X5_inLeastTerms l D cA ad hij σ r8 (σ.2 v107 1) a2 r10 z10) gX5_all_X5_inLeastTerms rfl ⟨rfl, rfl⟩ hd_X5_inLeastTerms ⟨Nat.le_of_ble_eq_true rfl, Nat.le_of_ble_eq_true rfl⟩ rfl (Nat.le_of_ble_eq_true rfl) hl.1 dX5_all_44 (fun H locs hW => ?_)
      exact r_lretR X hW rfl hf dX5_all_47
    · have hf := ie_e hf c4
      refine lv_ldc2 (v := (-1000000001)) hx hb hown (hts _ (List.mem_of_getElem? (i := 2) rfl)) dX5_all_18 ?_
      exact r_lretR X hW rfl hf dX5_all_21

abbrev rm_X5_portion : Room := { frames := 2, cells := 0, slots := 0, locals := 46 }
theorem hd_X5_portion : yX5_portion.cls = RX5 ∧ yX5_portion.cls ≠ "java/lang/invoke/MethodHandle" ∧ yX5_portion.cls ≠ "java/lang/invoke/VarHandle" ∧ (parseMethodDescriptor yX5_portion.desc).map (fun d => d.parameters.length) = some 2 := by decide +kernel
theorem inX5_portion_5 : ∀ w ∈ wsX50, w ∈ wsX5_portion := fun _ h => List.mem_cons_of_mem _ (List.mem_append_left _ (List.mem_append_left _ (List.mem_append_left _ (List.mem_append_right _ h))))
theorem inX5_portion_1 : ∀ w ∈ wsX10, w ∈ wsX5_portion := fun _ h => List.mem_cons_of_mem _ (List.mem_append_left _ (List.mem_append_left _ (List.mem_append_right _ h)))
theorem inX5_portion_3 : ∀ w ∈ wsX30, w ∈ wsX5_portion := fun _ h => List.mem_cons_of_mem _ (List.mem_append_left _ (List.mem_append_right _ h))
theorem inX5_portion_0 : ∀ w ∈ wsX00, w ∈ wsX5_portion := fun _ h => List.mem_cons_of_mem _ (List.mem_append_right _ h)
section S_X5_portion
variable {p : Program} {l : Launch} {e : Env} {s : State} {m : MethodId} {args : Array Value} {below : List Frame} {meth : Method} {c : Code} {D : va_G} {cA : Nat → ClassId} {ad : Nat → Nat} {r : Int32}
end S_X5_portion
noncomputable def f_X5_portion (σ : St) (a1 : Int32) (a2 : Int32) : Option (Int32) := bnd (f_X1_has σ 1 a1) fun r1 => (if r1 = 0 then some ((-1)) else bnd (f_X5_isNoTaste a2) fun r3 => (if r3 = 0 then chk (inb a1 6) <| chk (kOK SC (3 + 5 * a1.toNatClampNeg) 3) <| chk (kOK SC (3 + 5 * a1.toNatClampNeg + 1) 0) <| bnd (f_X0_portionOf σ (3 + 5 * a1.toNatClampNeg + 1) a2) fun r7 => some r7 else some ((-1))))
set_option maxHeartbeats 4000000 in
set_option maxRecDepth 100000 in
theorem c_X5_portion (l : Launch) (D : va_G) (cA : Nat → ClassId) (ad : Nat → Nat) (hij : Ij ad SC) (σ : St) (a1 : Int32) (a2 : Int32) (r : Int32) (hf : f_X5_portion σ a1 a2 = some r) : Met l yX5_portion wsX5_portion rm_X5_portion (PC D cA ad SC [.ref (ad 0), .int a1, .int a2] σ) (Qi D cA ad SC (r, σ)) 0 0 (Aw ad SC) := by
  rw [f_X5_portion] at hf
  refine k_head (own := RX5) (ws := wsX5_portion) (cc := cX5_portion) (nL := 3) (ret := (some .int)) pn_X5 rfl rfl hij (Nat.le_of_ble_eq_true rfl) (fun p e s m below meth c ls X hW hl => ?_)
  have hl : lv_has ls 3 [(0, .ref (ad 0)), (1, .int a1), (2, .int a2)] := hl
  obtain ⟨hx, hb, hml, hown, hts, hr, hlk, hK, hij⟩ := id X
  refine lv_aload_n hx hb dX5_portion_0 rfl (lv_at hl 0 rfl) ?_
  refine get_5_0 X hW kC_0 iC_0 inX5_portion_5 (List.mem_of_getElem? (i := 1) rfl) dX5_portion_1 ?_
  refine lv_iload_n hx hb dX5_portion_4 rfl (lv_at hl 1 rfl) ?_
  obtain ⟨r1, z1, hf⟩ := bnd_e hf
  refine r_cViR X hW kC_1 iC_1 rfl (c_X1_has l D cA ad hij σ 1 a1 r1 z1) gX5_portion_X1_has rfl ⟨rfl, rfl⟩ hd_X1_has ⟨Nat.le_of_ble_eq_true rfl, Nat.le_of_ble_eq_true rfl⟩ rfl (Nat.le_of_ble_eq_true rfl) hl.1 dX5_portion_5 (fun H locs hW => ?_)
  refine lv_if_eq (tgt := 18) hx hb dX5_portion_8 (by decide) (fun c2 => ?_) (fun c2 => ?_)
  · have hf := it_e hf c2
    refine lv_iconst (v := (-1)) hx hb dX5_portion_18 (by decide) ?_
    exact r_iretR X hW rfl rfl hf dX5_portion_19
  · have hf := ie_e hf c2
    refine lv_iload_n hx hb dX5_portion_11 rfl (lv_at hl 2 rfl) ?_
    obtain ⟨r3, z3, hf⟩ := bnd_e hf
    refine r_cSiR X hW (c_X5_isNoTaste l D cA ad hij σ a2 r3 z3) gX5_portion_X5_isNoTaste rfl ⟨rfl, rfl⟩ hd_X5_isNoTaste ⟨Nat.le_of_ble_eq_true rfl, Nat.le_of_ble_eq_true rfl⟩ rfl (Nat.le_of_ble_eq_true rfl) hl.1 dX5_portion_12 (fun H locs hW => ?_)
    refine lv_if_eq (tgt := 20) hx hb dX5_portion_15 (by decide) (fun c4 => ?_) (fun c4 => ?_)
    · have hf := it_e hf c4
      refine lv_aload_n hx hb dX5_portion_20 rfl (lv_at hl 0 rfl) ?_
      refine get_5_0 X hW kC_0 iC_0 inX5_portion_5 (List.mem_of_getElem? (i := 1) rfl) dX5_portion_21 ?_
      refine get_1_0 X hW kC_1 iC_1 inX5_portion_1 (List.mem_of_getElem? (i := 2) rfl) dX5_portion_24 ?_
      refine lv_iload_n hx hb dX5_portion_27 rfl (lv_at hl 1 rfl) ?_
      obtain ⟨x5, hf⟩ := chk_e hf
      refine r_aald (j := 3 + 5 * a1.toNatClampNeg) X hW kC_2 iC_2 nC_2 (by decide) rfl x5 rfl dX5_portion_28 ?_
      obtain ⟨q6, hf⟩ := chk_e hf
      obtain ⟨i6, k6⟩ := kOK_e q6
      refine get_3_0 X hW k6 i6 inX5_portion_3 (List.mem_of_getElem? (i := 3) rfl) dX5_portion_29 ?_
      refine lv_iload_n hx hb dX5_portion_32 rfl (lv_at hl 2 rfl) ?_
      obtain ⟨q8, hf⟩ := chk_e hf
      obtain ⟨i8, k8⟩ := kOK_e q8
      obtain ⟨r7, z7, hf⟩ := bnd_e hf
      refine r_cViR X hW k8 i8 rfl (c_X0_portionOf l D cA ad hij σ (3 + 5 * a1.toNatClampNeg + 1) a2 r7 z7) gX5_portion_X0_portionOf rfl ⟨rfl, rfl⟩ hd_X0_portionOf ⟨Nat.le_of_ble_eq_true rfl, Nat.le_of_ble_eq_true rfl⟩ rfl (Nat.le_of_ble_eq_true rfl) hl.1 dX5_portion_33 (fun H locs hW => ?_)
      exact r_iretR X hW rfl rfl hf dX5_portion_36
    · have hf := ie_e hf c4
      refine lv_iconst (v := (-1)) hx hb dX5_portion_18 (by decide) ?_
      exact r_iretR X hW rfl rfl hf dX5_portion_19

abbrev rm_X5_over : Room := { frames := 2, cells := 0, slots := 0, locals := 45 }
theorem hd_X5_over : yX5_over.cls = RX5 ∧ yX5_over.cls ≠ "java/lang/invoke/MethodHandle" ∧ yX5_over.cls ≠ "java/lang/invoke/VarHandle" ∧ (parseMethodDescriptor yX5_over.desc).map (fun d => d.parameters.length) = some 3 := by decide +kernel
theorem inX5_over_5 : ∀ w ∈ wsX50, w ∈ wsX5_over := fun _ h => List.mem_cons_of_mem _ (List.mem_append_left _ (List.mem_append_left _ (List.mem_append_left _ (List.mem_append_right _ h))))
theorem inX5_over_1 : ∀ w ∈ wsX10, w ∈ wsX5_over := fun _ h => List.mem_cons_of_mem _ (List.mem_append_left _ (List.mem_append_left _ (List.mem_append_right _ h)))
theorem inX5_over_3 : ∀ w ∈ wsX30, w ∈ wsX5_over := fun _ h => List.mem_cons_of_mem _ (List.mem_append_left _ (List.mem_append_right _ h))
theorem inX5_over_0 : ∀ w ∈ wsX00, w ∈ wsX5_over := fun _ h => List.mem_cons_of_mem _ (List.mem_append_right _ h)
section S_X5_over
variable {p : Program} {l : Launch} {e : Env} {s : State} {m : MethodId} {args : Array Value} {below : List Frame} {meth : Method} {c : Code} {D : va_G} {cA : Nat → ClassId} {ad : Nat → Nat} {r : Int32}
end S_X5_over
noncomputable def f_X5_over (σ : St) (a1 : Int32) (a2 : Int32) (a3 : Int32) : Option (Int32) := bnd (f_X1_has σ 1 a1) fun r1 => (if r1 = 0 then some ((-1)) else bnd (f_X5_isNoTaste a2) fun r3 => (if r3 = 0 then bnd (f_X5_isNoPercent a3) fun r5 => (if r5 = 0 then chk (inb a1 6) <| chk (kOK SC (3 + 5 * a1.toNatClampNeg) 3) <| chk (kOK SC (3 + 5 * a1.toNatClampNeg + 1) 0) <| bnd (f_X0_isOver σ (3 + 5 * a1.toNatClampNeg + 1) a2 a3) fun r9 => (if r9 = 0 then some 0 else some 1) else some ((-1))) else some ((-1))))
set_option maxHeartbeats 4000000 in
set_option maxRecDepth 100000 in
theorem c_X5_over (l : Launch) (D : va_G) (cA : Nat → ClassId) (ad : Nat → Nat) (hij : Ij ad SC) (σ : St) (a1 : Int32) (a2 : Int32) (a3 : Int32) (r : Int32) (hf : f_X5_over σ a1 a2 a3 = some r) : Met l yX5_over wsX5_over rm_X5_over (PC D cA ad SC [.ref (ad 0), .int a1, .int a2, .int a3] σ) (Qi D cA ad SC (r, σ)) 0 0 (Aw ad SC) := by
  rw [f_X5_over] at hf
  refine k_head (own := RX5) (ws := wsX5_over) (cc := cX5_over) (nL := 4) (ret := (some .int)) pn_X5 rfl rfl hij (Nat.le_of_ble_eq_true rfl) (fun p e s m below meth c ls X hW hl => ?_)
  have hl : lv_has ls 4 [(0, .ref (ad 0)), (1, .int a1), (2, .int a2), (3, .int a3)] := hl
  obtain ⟨hx, hb, hml, hown, hts, hr, hlk, hK, hij⟩ := id X
  refine lv_aload_n hx hb dX5_over_0 rfl (lv_at hl 0 rfl) ?_
  refine get_5_0 X hW kC_0 iC_0 inX5_over_5 (List.mem_of_getElem? (i := 1) rfl) dX5_over_1 ?_
  refine lv_iload_n hx hb dX5_over_4 rfl (lv_at hl 1 rfl) ?_
  obtain ⟨r1, z1, hf⟩ := bnd_e hf
  refine r_cViR X hW kC_1 iC_1 rfl (c_X1_has l D cA ad hij σ 1 a1 r1 z1) gX5_over_X1_has rfl ⟨rfl, rfl⟩ hd_X1_has ⟨Nat.le_of_ble_eq_true rfl, Nat.le_of_ble_eq_true rfl⟩ rfl (Nat.le_of_ble_eq_true rfl) hl.1 dX5_over_5 (fun H locs hW => ?_)
  refine lv_if_eq (tgt := 25) hx hb dX5_over_8 (by decide) (fun c2 => ?_) (fun c2 => ?_)
  · have hf := it_e hf c2
    refine lv_iconst (v := (-1)) hx hb dX5_over_25 (by decide) ?_
    exact r_iretR X hW rfl rfl hf dX5_over_26
  · have hf := ie_e hf c2
    refine lv_iload_n hx hb dX5_over_11 rfl (lv_at hl 2 rfl) ?_
    obtain ⟨r3, z3, hf⟩ := bnd_e hf
    refine r_cSiR X hW (c_X5_isNoTaste l D cA ad hij σ a2 r3 z3) gX5_over_X5_isNoTaste rfl ⟨rfl, rfl⟩ hd_X5_isNoTaste ⟨Nat.le_of_ble_eq_true rfl, Nat.le_of_ble_eq_true rfl⟩ rfl (Nat.le_of_ble_eq_true rfl) hl.1 dX5_over_12 (fun H locs hW => ?_)
    refine lv_if_ne (tgt := 25) hx hb dX5_over_15 (by decide) (fun c4 => ?_) (fun c4 => ?_)
    · have hf := ie_e hf c4
      refine lv_iconst (v := (-1)) hx hb dX5_over_25 (by decide) ?_
      exact r_iretR X hW rfl rfl hf dX5_over_26
    · have hf := it_e hf c4
      refine lv_iload_n hx hb dX5_over_18 rfl (lv_at hl 3 rfl) ?_
      obtain ⟨r5, z5, hf⟩ := bnd_e hf
      refine r_cSiR X hW (c_X5_isNoPercent l D cA ad hij σ a3 r5 z5) gX5_over_X5_isNoPercent rfl ⟨rfl, rfl⟩ hd_X5_isNoPercent ⟨Nat.le_of_ble_eq_true rfl, Nat.le_of_ble_eq_true rfl⟩ rfl (Nat.le_of_ble_eq_true rfl) hl.1 dX5_over_19 (fun H locs hW => ?_)
      refine lv_if_eq (tgt := 27) hx hb dX5_over_22 (by decide) (fun c6 => ?_) (fun c6 => ?_)
      · have hf := it_e hf c6
        refine lv_aload_n hx hb dX5_over_27 rfl (lv_at hl 0 rfl) ?_
        refine get_5_0 X hW kC_0 iC_0 inX5_over_5 (List.mem_of_getElem? (i := 1) rfl) dX5_over_28 ?_
        refine get_1_0 X hW kC_1 iC_1 inX5_over_1 (List.mem_of_getElem? (i := 2) rfl) dX5_over_31 ?_
        refine lv_iload_n hx hb dX5_over_34 rfl (lv_at hl 1 rfl) ?_
        obtain ⟨x7, hf⟩ := chk_e hf
        refine r_aald (j := 3 + 5 * a1.toNatClampNeg) X hW kC_2 iC_2 nC_2 (by decide) rfl x7 rfl dX5_over_35 ?_
        obtain ⟨q8, hf⟩ := chk_e hf
        obtain ⟨i8, k8⟩ := kOK_e q8
        refine get_3_0 X hW k8 i8 inX5_over_3 (List.mem_of_getElem? (i := 3) rfl) dX5_over_36 ?_
        refine lv_iload_n hx hb dX5_over_39 rfl (lv_at hl 2 rfl) ?_
        refine lv_iload_n hx hb dX5_over_40 rfl (lv_at hl 3 rfl) ?_
        obtain ⟨q10, hf⟩ := chk_e hf
        obtain ⟨i10, k10⟩ := kOK_e q10
        obtain ⟨r9, z9, hf⟩ := bnd_e hf
        refine r_cViR X hW k10 i10 rfl (c_X0_isOver l D cA ad hij σ (3 + 5 * a1.toNatClampNeg + 1) a2 a3 r9 z9) gX5_over_X0_isOver rfl ⟨rfl, rfl⟩ hd_X0_isOver ⟨Nat.le_of_ble_eq_true rfl, Nat.le_of_ble_eq_true rfl⟩ rfl (Nat.le_of_ble_eq_true rfl) hl.1 dX5_over_41 (fun H locs hW => ?_)
        refine lv_if_eq (tgt := 51) hx hb dX5_over_44 (by decide) (fun c11 => ?_) (fun c11 => ?_)
        · have hf := it_e hf c11
          refine lv_iconst (v := 0) hx hb dX5_over_51 (by decide) ?_
          exact r_iretR X hW rfl rfl hf dX5_over_52
        · have hf := ie_e hf c11
          refine lv_iconst (v := 1) hx hb dX5_over_47 (by decide) ?_
          refine lv_goto (tgt := 52) hx hb dX5_over_48 (by decide) ?_
          exact r_iretR X hW rfl rfl hf dX5_over_52
      · have hf := ie_e hf c6
        refine lv_iconst (v := (-1)) hx hb dX5_over_25 (by decide) ?_
        exact r_iretR X hW rfl rfl hf dX5_over_26

abbrev rm_X5_part : Room := { frames := 2, cells := 0, slots := 0, locals := 47 }
theorem hd_X5_part : yX5_part.cls = RX5 ∧ yX5_part.cls ≠ "java/lang/invoke/MethodHandle" ∧ yX5_part.cls ≠ "java/lang/invoke/VarHandle" ∧ (parseMethodDescriptor yX5_part.desc).map (fun d => d.parameters.length) = some 3 := by decide +kernel
theorem inX5_part_5 : ∀ w ∈ wsX50, w ∈ wsX5_part := fun _ h => List.mem_cons_of_mem _ (List.mem_append_left _ (List.mem_append_left _ (List.mem_append_left _ (List.mem_append_right _ h))))
theorem inX5_part_1 : ∀ w ∈ wsX10, w ∈ wsX5_part := fun _ h => List.mem_cons_of_mem _ (List.mem_append_left _ (List.mem_append_left _ (List.mem_append_right _ h)))
theorem inX5_part_3 : ∀ w ∈ wsX30, w ∈ wsX5_part := fun _ h => List.mem_cons_of_mem _ (List.mem_append_left _ (List.mem_append_right _ h))
theorem inX5_part_0 : ∀ w ∈ wsX00, w ∈ wsX5_part := fun _ h => List.mem_cons_of_mem _ (List.mem_append_right _ h)
section S_X5_part
variable {p : Program} {l : Launch} {e : Env} {s : State} {m : MethodId} {args : Array Value} {below : List Frame} {meth : Method} {c : Code} {D : va_G} {cA : Nat → ClassId} {ad : Nat → Nat} {r : Int64}
end S_X5_part
noncomputable def f_X5_part (σ : St) (a1 : Int32) (a2 : Int32) (a3 : Int32) : Option (Int64) := bnd (f_X1_has σ 1 a1) fun r1 => (if r1 = 0 then some ((-1000000001)) else bnd (f_X5_isNoHalf a3) fun r3 => (if r3 = 0 then chk (inb a1 6) <| chk (kOK SC (3 + 5 * a1.toNatClampNeg) 3) <| bnd (f_X3_hasDish σ (3 + 5 * a1.toNatClampNeg) a2) fun r6 => (if r6 = 0 then some ((-1000000001)) else bnd (f_X3_leftAbove σ (3 + 5 * a1.toNatClampNeg) a2) fun r9 => bnd (f_X5_powerOfNine a2) fun r10 => bnd (f_X5_inLeastTerms r9 r10 a3) fun r11 => some r11) else some ((-1000000001))))
set_option maxHeartbeats 4000000 in
set_option maxRecDepth 100000 in
theorem c_X5_part (l : Launch) (D : va_G) (cA : Nat → ClassId) (ad : Nat → Nat) (hij : Ij ad SC) (σ : St) (a1 : Int32) (a2 : Int32) (a3 : Int32) (r : Int64) (hf : f_X5_part σ a1 a2 a3 = some r) : Met l yX5_part wsX5_part rm_X5_part (PC D cA ad SC [.ref (ad 0), .int a1, .int a2, .int a3] σ) (Ql D cA ad SC (r, σ)) 0 0 (Aw ad SC) := by
  rw [f_X5_part] at hf
  refine k_head (own := RX5) (ws := wsX5_part) (cc := cX5_part) (nL := 4) (ret := (some .long)) pn_X5 rfl rfl hij (Nat.le_of_ble_eq_true rfl) (fun p e s m below meth c ls X hW hl => ?_)
  have hl : lv_has ls 4 [(0, .ref (ad 0)), (1, .int a1), (2, .int a2), (3, .int a3)] := hl
  obtain ⟨hx, hb, hml, hown, hts, hr, hlk, hK, hij⟩ := id X
  refine lv_aload_n hx hb dX5_part_0 rfl (lv_at hl 0 rfl) ?_
  refine get_5_0 X hW kC_0 iC_0 inX5_part_5 (List.mem_of_getElem? (i := 1) rfl) dX5_part_1 ?_
  refine lv_iload_n hx hb dX5_part_4 rfl (lv_at hl 1 rfl) ?_
  obtain ⟨r1, z1, hf⟩ := bnd_e hf
  refine r_cViR X hW kC_1 iC_1 rfl (c_X1_has l D cA ad hij σ 1 a1 r1 z1) gX5_part_X1_has rfl ⟨rfl, rfl⟩ hd_X1_has ⟨Nat.le_of_ble_eq_true rfl, Nat.le_of_ble_eq_true rfl⟩ rfl (Nat.le_of_ble_eq_true rfl) hl.1 dX5_part_5 (fun H locs hW => ?_)
  refine lv_if_eq (tgt := 34) hx hb dX5_part_8 (by decide) (fun c2 => ?_) (fun c2 => ?_)
  · have hf := it_e hf c2
    refine lv_ldc2 (v := (-1000000001)) hx hb hown (hts _ (List.mem_of_getElem? (i := 3) rfl)) dX5_part_34 ?_
    exact r_lretR X hW rfl hf dX5_part_37
  · have hf := ie_e hf c2
    refine lv_iload_n hx hb dX5_part_11 rfl (lv_at hl 3 rfl) ?_
    obtain ⟨r3, z3, hf⟩ := bnd_e hf
    refine r_cSiR X hW (c_X5_isNoHalf l D cA ad hij σ a3 r3 z3) gX5_part_X5_isNoHalf rfl ⟨rfl, rfl⟩ hd_X5_isNoHalf ⟨Nat.le_of_ble_eq_true rfl, Nat.le_of_ble_eq_true rfl⟩ rfl (Nat.le_of_ble_eq_true rfl) hl.1 dX5_part_12 (fun H locs hW => ?_)
    refine lv_if_ne (tgt := 34) hx hb dX5_part_15 (by decide) (fun c4 => ?_) (fun c4 => ?_)
    · have hf := ie_e hf c4
      refine lv_ldc2 (v := (-1000000001)) hx hb hown (hts _ (List.mem_of_getElem? (i := 3) rfl)) dX5_part_34 ?_
      exact r_lretR X hW rfl hf dX5_part_37
    · have hf := it_e hf c4
      refine lv_aload_n hx hb dX5_part_18 rfl (lv_at hl 0 rfl) ?_
      refine get_5_0 X hW kC_0 iC_0 inX5_part_5 (List.mem_of_getElem? (i := 1) rfl) dX5_part_19 ?_
      refine get_1_0 X hW kC_1 iC_1 inX5_part_1 (List.mem_of_getElem? (i := 2) rfl) dX5_part_22 ?_
      refine lv_iload_n hx hb dX5_part_25 rfl (lv_at hl 1 rfl) ?_
      obtain ⟨x5, hf⟩ := chk_e hf
      refine r_aald (j := 3 + 5 * a1.toNatClampNeg) X hW kC_2 iC_2 nC_2 (by decide) rfl x5 rfl dX5_part_26 ?_
      refine lv_iload_n hx hb dX5_part_27 rfl (lv_at hl 2 rfl) ?_
      obtain ⟨q7, hf⟩ := chk_e hf
      obtain ⟨i7, k7⟩ := kOK_e q7
      obtain ⟨r6, z6, hf⟩ := bnd_e hf
      refine r_cViR X hW k7 i7 rfl (c_X3_hasDish l D cA ad hij σ (3 + 5 * a1.toNatClampNeg) a2 r6 z6) gX5_part_X3_hasDish rfl ⟨rfl, rfl⟩ hd_X3_hasDish ⟨Nat.le_of_ble_eq_true rfl, Nat.le_of_ble_eq_true rfl⟩ rfl (Nat.le_of_ble_eq_true rfl) hl.1 dX5_part_28 (fun H locs hW => ?_)
      refine lv_if_ne (tgt := 38) hx hb dX5_part_31 (by decide) (fun c8 => ?_) (fun c8 => ?_)
      · have hf := ie_e hf c8
        refine lv_aload_n hx hb dX5_part_38 rfl (lv_at hl 0 rfl) ?_
        refine get_5_0 X hW kC_0 iC_0 inX5_part_5 (List.mem_of_getElem? (i := 1) rfl) dX5_part_39 ?_
        refine get_1_0 X hW kC_1 iC_1 inX5_part_1 (List.mem_of_getElem? (i := 2) rfl) dX5_part_42 ?_
        refine lv_iload_n hx hb dX5_part_45 rfl (lv_at hl 1 rfl) ?_
        refine r_aald (j := 3 + 5 * a1.toNatClampNeg) X hW kC_2 iC_2 nC_2 (by decide) rfl x5 rfl dX5_part_46 ?_
        refine lv_iload_n hx hb dX5_part_47 rfl (lv_at hl 2 rfl) ?_
        obtain ⟨r9, z9, hf⟩ := bnd_e hf
        refine r_cVlR X hW k7 i7 rfl (c_X3_leftAbove l D cA ad hij σ (3 + 5 * a1.toNatClampNeg) a2 r9 z9) gX5_part_X3_leftAbove rfl ⟨rfl, rfl⟩ hd_X3_leftAbove ⟨Nat.le_of_ble_eq_true rfl, Nat.le_of_ble_eq_true rfl⟩ rfl (Nat.le_of_ble_eq_true rfl) hl.1 dX5_part_48 (fun H locs hW => ?_)
        refine lv_iload_n hx hb dX5_part_51 rfl (lv_at hl 2 rfl) ?_
        obtain ⟨r10, z10, hf⟩ := bnd_e hf
        refine r_cSlR X hW (c_X5_powerOfNine l D cA ad hij σ a2 r10 z10) gX5_part_X5_powerOfNine rfl ⟨rfl, rfl⟩ hd_X5_powerOfNine ⟨Nat.le_of_ble_eq_true rfl, Nat.le_of_ble_eq_true rfl⟩ rfl (Nat.le_of_ble_eq_true rfl) hl.1 dX5_part_52 (fun H locs hW => ?_)
        refine lv_iload_n hx hb dX5_part_55 rfl (lv_at hl 3 rfl) ?_
        obtain ⟨r11, z11, hf⟩ := bnd_e hf
        refine r_cSlR X hW (c_X5_inLeastTerms l D cA ad hij σ r9 r10 a3 r11 z11) gX5_part_X5_inLeastTerms rfl ⟨rfl, rfl⟩ hd_X5_inLeastTerms ⟨Nat.le_of_ble_eq_true rfl, Nat.le_of_ble_eq_true rfl⟩ rfl (Nat.le_of_ble_eq_true rfl) hl.1 dX5_part_56 (fun H locs hW => ?_)
        exact r_lretR X hW rfl hf dX5_part_59
      · have hf := it_e hf c8
        refine lv_ldc2 (v := (-1000000001)) hx hb hown (hts _ (List.mem_of_getElem? (i := 3) rfl)) dX5_part_34 ?_
        exact r_lretR X hW rfl hf dX5_part_37
