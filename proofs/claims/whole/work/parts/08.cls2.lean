abbrev rm_X5_mostAlike : Room := { frames := 2, cells := 0, slots := 0, locals := 46 }
theorem hd_X5_mostAlike : yX5_mostAlike.cls = RX5 ∧ yX5_mostAlike.cls ≠ "java/lang/invoke/MethodHandle" ∧ yX5_mostAlike.cls ≠ "java/lang/invoke/VarHandle" ∧ (parseMethodDescriptor yX5_mostAlike.desc).map (fun d => d.parameters.length) = some 1 := by decide +kernel
theorem inX5_mostAlike_5 : ∀ w ∈ wsX50, w ∈ wsX5_mostAlike := fun _ h => List.mem_cons_of_mem _ (List.mem_append_left _ (List.mem_append_left _ (List.mem_append_left _ (List.mem_append_right _ h))))
theorem inX5_mostAlike_1 : ∀ w ∈ wsX10, w ∈ wsX5_mostAlike := fun _ h => List.mem_cons_of_mem _ (List.mem_append_left _ (List.mem_append_left _ (List.mem_append_right _ h)))
theorem inX5_mostAlike_3 : ∀ w ∈ wsX30, w ∈ wsX5_mostAlike := fun _ h => List.mem_cons_of_mem _ (List.mem_append_left _ (List.mem_append_right _ h))
theorem inX5_mostAlike_0 : ∀ w ∈ wsX00, w ∈ wsX5_mostAlike := fun _ h => List.mem_cons_of_mem _ (List.mem_append_right _ h)
section S_X5_mostAlike
variable {p : Program} {l : Launch} {e : Env} {s : State} {m : MethodId} {args : Array Value} {below : List Frame} {meth : Method} {c : Code} {D : va_G} {cA : Nat → ClassId} {ad : Nat → Nat} {r : Int32 × St}
noncomputable def f_X5_mostAlike_2 (k41 : St → Option (Int32 × St)) : Nat → Int32 → Int32 → St → Option (Int32 × St)
  | 0, _, _, _ => none
  | n + 1, v1, v2, σ => (if (σ.1 1 1) ≤ v2 then k41 σ else chk (inb v2 6) <| chk (kOK SC (3 + 5 * v2.toNatClampNeg) 3) <| chk (kOK SC (3 + 5 * v2.toNatClampNeg + 1) 0) <| bnd (f_X0_portionOf σ (3 + 5 * v2.toNatClampNeg + 1) v1) fun r4 => nw (uI σ 124 v2.toNatClampNeg r4) fun σ6 => nw (v2 + 1 : Int32) fun v107 => f_X5_mostAlike_2 k41 n v1 v107 σ6)
set_option maxHeartbeats 4000000 in
set_option maxRecDepth 100000 in
theorem b_X5_mostAlike_2 {k41 : St → Option (Int32 × St)} (X : Cx RX5 wsX5_mostAlike cX5_mostAlike 6 (some .int) D cA ad SC p s m args meth c) (h41 : ∀  (σ : St) (H : Heap) (locs : List Loc) (ls : Array Slot), k41 σ = some r → Rn D cA ad SC s.heap σ H locs → lv_has ls 6 [(0, .ref (ad 0))] → W p l e rm_X5_mostAlike s m args below meth c H locs 0 0 (MQ below (Qi D cA ad SC r) args s 0 0 (Aw ad SC)) (F0 m 41 ls [])) : ∀ (n : Nat) (v1 : Int32) (v2 : Int32) (σ : St) (H : Heap) (locs : List Loc) (ls : Array Slot), f_X5_mostAlike_2 k41 n v1 v2 σ = some r → Rn D cA ad SC s.heap σ H locs → lv_has ls 6 [(0, .ref (ad 0)), (1, .int v1), (2, .int v2)] → W p l e rm_X5_mostAlike s m args below meth c H locs 0 0 (MQ below (Qi D cA ad SC r) args s 0 0 (Aw ad SC)) (F0 m 2 ls []) := by
  obtain ⟨hx, hb, hml, hown, hts, hr, hlk, hK, hij⟩ := id X
  intro n
  induction n with
  | zero =>
    intro v1 v2 σ H locs ls hf
    exact nomatch (show (none : Option (Int32 × St)) = some r from hf)
  | succ n ih =>
    intro v1 v2 σ H locs ls hf hW hl
    rw [f_X5_mostAlike_2] at hf
    refine lv_iload_n hx hb dX5_mostAlike_2 rfl (lv_at hl 2 rfl) ?_
    refine lv_aload_n hx hb dX5_mostAlike_3 rfl (lv_at hl 0 rfl) ?_
    refine get_5_0 X hW kC_0 iC_0 inX5_mostAlike_5 (List.mem_of_getElem? (i := 1) rfl) dX5_mostAlike_4 ?_
    refine get_1_1 X hW kC_1 iC_1 inX5_mostAlike_1 (List.mem_of_getElem? (i := 2) rfl) dX5_mostAlike_7 ?_
    refine lv_icmp_ge (tgt := 41) hx hb dX5_mostAlike_10 (by decide) (fun c1 => ?_) (fun c1 => ?_)
    · have hf := it_e hf c1
      exact h41 σ _ _ _ hf hW (lv_sub hl [0] rfl)
    · have hf := ie_e hf c1
      refine lv_aload_n hx hb dX5_mostAlike_13 rfl (lv_at hl 0 rfl) ?_
      refine get_5_6 X hW kC_0 iC_0 inX5_mostAlike_5 (List.mem_of_getElem? (i := 3) rfl) dX5_mostAlike_14 ?_
      refine lv_iload_n hx hb dX5_mostAlike_17 rfl (lv_at hl 2 rfl) ?_
      refine lv_aload_n hx hb dX5_mostAlike_18 rfl (lv_at hl 0 rfl) ?_
      refine get_5_0 X hW kC_0 iC_0 inX5_mostAlike_5 (List.mem_of_getElem? (i := 1) rfl) dX5_mostAlike_19 ?_
      refine get_1_0 X hW kC_1 iC_1 inX5_mostAlike_1 (List.mem_of_getElem? (i := 4) rfl) dX5_mostAlike_22 ?_
      refine lv_iload_n hx hb dX5_mostAlike_25 rfl (lv_at hl 2 rfl) ?_
      obtain ⟨x2, hf⟩ := chk_e hf
      refine r_aald (j := 3 + 5 * v2.toNatClampNeg) X hW kC_2 iC_2 nC_2 (by decide) rfl x2 rfl dX5_mostAlike_26 ?_
      obtain ⟨q3, hf⟩ := chk_e hf
      obtain ⟨i3, k3⟩ := kOK_e q3
      refine get_3_0 X hW k3 i3 inX5_mostAlike_3 (List.mem_of_getElem? (i := 5) rfl) dX5_mostAlike_27 ?_
      refine lv_iload_n hx hb dX5_mostAlike_30 rfl (lv_at hl 1 rfl) ?_
      obtain ⟨q5, hf⟩ := chk_e hf
      obtain ⟨i5, k5⟩ := kOK_e q5
      obtain ⟨r4, z4, hf⟩ := bnd_e hf
      refine r_cViR X hW k5 i5 rfl (c_X0_portionOf l D cA ad hij σ (3 + 5 * v2.toNatClampNeg + 1) v1 r4 z4) gX5_mostAlike_X0_portionOf rfl ⟨rfl, rfl⟩ hd_X0_portionOf ⟨Nat.le_of_ble_eq_true rfl, Nat.le_of_ble_eq_true rfl⟩ rfl (Nat.le_of_ble_eq_true rfl) hl.1 dX5_mostAlike_31 (fun H locs hW => ?_)
      obtain ⟨σ6, e6, hf⟩ := nw_e hf
      refine r_iast X hW kC_124 iC_124 nC_124 x2 e6 dX5_mostAlike_34 (fun H locs hW => ?_)
      obtain ⟨v107, e7, hf⟩ := nw_e hf
      refine lv_iinc (v := v107) (lv' := [(2, .int v107), (0, .ref (ad 0)), (1, .int v1)]) hx hb dX5_mostAlike_35 hl (k := 2) rfl (by rw [e7]; rfl) (by decide) rfl (fun ls hl => ?_)
      refine lv_goto (tgt := 2) hx hb dX5_mostAlike_38 (by decide) ?_
      exact ih v1 v107 σ6 _ _ _ hf hW (lv_sub hl [1, 2, 0] rfl)
noncomputable def f_X5_mostAlike_97 (k62 : Int32 → Int32 → Int32 → Int32 → St → Option (Int32 × St)) (v2 : Int32) (v3 : Int32) (v5 : Int32) (s0 : Int32) (s1 : Int32) (σ : St) : Option (Int32 × St) := nw (s0 + s1 : Int32) fun v114 => nw (v5 + 1 : Int32) fun v115 => k62 v2 v3 v114 v115 σ
set_option maxHeartbeats 4000000 in
set_option maxRecDepth 100000 in
theorem b_X5_mostAlike_97 {k62 : Int32 → Int32 → Int32 → Int32 → St → Option (Int32 × St)} (X : Cx RX5 wsX5_mostAlike cX5_mostAlike 6 (some .int) D cA ad SC p s m args meth c) (h62 : ∀ (w0 : Int32) (w1 : Int32) (w2 : Int32) (w3 : Int32) (σ : St) (H : Heap) (locs : List Loc) (ls : Array Slot), k62 w0 w1 w2 w3 σ = some r → Rn D cA ad SC s.heap σ H locs → lv_has ls 6 [(0, .ref (ad 0)), (2, .int w0), (3, .int w1), (4, .int w2), (5, .int w3)] → W p l e rm_X5_mostAlike s m args below meth c H locs 0 0 (MQ below (Qi D cA ad SC r) args s 0 0 (Aw ad SC)) (F0 m 62 ls [])) : ∀ (v2 : Int32) (v3 : Int32) (v5 : Int32) (s0 : Int32) (s1 : Int32) (σ : St) (H : Heap) (locs : List Loc) (ls : Array Slot), f_X5_mostAlike_97 k62 v2 v3 v5 s0 s1 σ = some r → Rn D cA ad SC s.heap σ H locs → lv_has ls 6 [(0, .ref (ad 0)), (2, .int v2), (3, .int v3), (5, .int v5)] → W p l e rm_X5_mostAlike s m args below meth c H locs 0 0 (MQ below (Qi D cA ad SC r) args s 0 0 (Aw ad SC)) (F0 m 97 ls [.int s1, .int s0]) := by
  obtain ⟨hx, hb, hml, hown, hts, hr, hlk, hK, hij⟩ := id X
  intro v2 v3 v5 s0 s1 σ H locs ls hf hW hl
  rw [f_X5_mostAlike_97] at hf
  refine lv_iadd hx hb dX5_mostAlike_97 ?_
  obtain ⟨v114, e14, hf⟩ := nw_e hf
  refine tI _ e14 ?_
  refine lv_istore (lv' := [(4, .int v114), (0, .ref (ad 0)), (2, .int v2), (3, .int v3), (5, .int v5)]) hx hb dX5_mostAlike_98 hl (by decide) rfl (fun ls hl => ?_)
  obtain ⟨v115, e15, hf⟩ := nw_e hf
  refine lv_iinc (v := v115) (lv' := [(5, .int v115), (4, .int v114), (0, .ref (ad 0)), (2, .int v2), (3, .int v3)]) hx hb dX5_mostAlike_100 hl (k := 4) rfl (by rw [e15]; rfl) (by decide) rfl (fun ls hl => ?_)
  refine lv_goto (tgt := 62) hx hb dX5_mostAlike_103 (by decide) ?_
  exact h62 v2 v3 v114 v115 σ _ _ _ hf hW (lv_sub hl [2, 3, 4, 1, 0] rfl)
noncomputable def f_X5_mostAlike_62 (k106 : Int32 → Int32 → Int32 → St → Option (Int32 × St)) : Nat → Int32 → Int32 → Int32 → Int32 → St → Option (Int32 × St)
  | 0, _, _, _, _, _ => none
  | n + 1, v2, v3, v4, v5, σ => (if (σ.1 1 1) ≤ v5 then k106 v2 v3 v4 σ else chk (inb v5 6) <| chk (inb v3 6) <| (if (σ.1 124 v5.toNatClampNeg) = (σ.1 124 v3.toNatClampNeg) then f_X5_mostAlike_97 (fun (w21_0 : Int32) (w22_1 : Int32) (w23_2 : Int32) (w24_3 : Int32) (σ25 : St) => f_X5_mostAlike_62 k106 n w21_0 w22_1 w23_2 w24_3 σ25) v2 v3 v5 v4 1 σ else f_X5_mostAlike_97 (fun (w16_0 : Int32) (w17_1 : Int32) (w18_2 : Int32) (w19_3 : Int32) (σ20 : St) => f_X5_mostAlike_62 k106 n w16_0 w17_1 w18_2 w19_3 σ20) v2 v3 v5 v4 0 σ))
set_option maxHeartbeats 4000000 in
set_option maxRecDepth 100000 in
theorem b_X5_mostAlike_62 {k106 : Int32 → Int32 → Int32 → St → Option (Int32 × St)} (X : Cx RX5 wsX5_mostAlike cX5_mostAlike 6 (some .int) D cA ad SC p s m args meth c) (h106 : ∀ (w0 : Int32) (w1 : Int32) (w2 : Int32) (σ : St) (H : Heap) (locs : List Loc) (ls : Array Slot), k106 w0 w1 w2 σ = some r → Rn D cA ad SC s.heap σ H locs → lv_has ls 6 [(0, .ref (ad 0)), (2, .int w0), (3, .int w1), (4, .int w2)] → W p l e rm_X5_mostAlike s m args below meth c H locs 0 0 (MQ below (Qi D cA ad SC r) args s 0 0 (Aw ad SC)) (F0 m 106 ls [])) : ∀ (n : Nat) (v2 : Int32) (v3 : Int32) (v4 : Int32) (v5 : Int32) (σ : St) (H : Heap) (locs : List Loc) (ls : Array Slot), f_X5_mostAlike_62 k106 n v2 v3 v4 v5 σ = some r → Rn D cA ad SC s.heap σ H locs → lv_has ls 6 [(0, .ref (ad 0)), (2, .int v2), (3, .int v3), (4, .int v4), (5, .int v5)] → W p l e rm_X5_mostAlike s m args below meth c H locs 0 0 (MQ below (Qi D cA ad SC r) args s 0 0 (Aw ad SC)) (F0 m 62 ls []) := by
  obtain ⟨hx, hb, hml, hown, hts, hr, hlk, hK, hij⟩ := id X
  intro n
  induction n with
  | zero =>
    intro v2 v3 v4 v5 σ H locs ls hf
    exact nomatch (show (none : Option (Int32 × St)) = some r from hf)
  | succ n ih =>
    intro v2 v3 v4 v5 σ H locs ls hf hW hl
    rw [f_X5_mostAlike_62] at hf
    refine lv_iload hx hb dX5_mostAlike_62 (lv_at hl 4 rfl) ?_
    refine lv_aload_n hx hb dX5_mostAlike_64 rfl (lv_at hl 0 rfl) ?_
    refine get_5_0 X hW kC_0 iC_0 inX5_mostAlike_5 (List.mem_of_getElem? (i := 1) rfl) dX5_mostAlike_65 ?_
    refine get_1_1 X hW kC_1 iC_1 inX5_mostAlike_1 (List.mem_of_getElem? (i := 2) rfl) dX5_mostAlike_68 ?_
    refine lv_icmp_ge (tgt := 106) hx hb dX5_mostAlike_71 (by decide) (fun c10 => ?_) (fun c10 => ?_)
    · have hf := it_e hf c10
      exact h106 v2 v3 v4 σ _ _ _ hf hW (lv_sub hl [0, 1, 2, 3] rfl)
    · have hf := ie_e hf c10
      refine lv_iload hx hb dX5_mostAlike_74 (lv_at hl 3 rfl) ?_
      refine lv_aload_n hx hb dX5_mostAlike_76 rfl (lv_at hl 0 rfl) ?_
      refine get_5_6 X hW kC_0 iC_0 inX5_mostAlike_5 (List.mem_of_getElem? (i := 3) rfl) dX5_mostAlike_77 ?_
      refine lv_iload hx hb dX5_mostAlike_80 (lv_at hl 4 rfl) ?_
      obtain ⟨x11, hf⟩ := chk_e hf
      refine r_iald X hW kC_124 iC_124 nC_124 x11 dX5_mostAlike_82 ?_
      refine lv_aload_n hx hb dX5_mostAlike_83 rfl (lv_at hl 0 rfl) ?_
      refine get_5_6 X hW kC_0 iC_0 inX5_mostAlike_5 (List.mem_of_getElem? (i := 3) rfl) dX5_mostAlike_84 ?_
      refine lv_iload_n hx hb dX5_mostAlike_87 rfl (lv_at hl 2 rfl) ?_
      obtain ⟨x12, hf⟩ := chk_e hf
      refine r_iald X hW kC_124 iC_124 nC_124 x12 dX5_mostAlike_88 ?_
      refine lv_icmp_ne (tgt := 96) hx hb dX5_mostAlike_89 (by decide) (fun c13 => ?_) (fun c13 => ?_)
      · have hf := ie_e hf c13
        refine lv_iconst (v := 0) hx hb dX5_mostAlike_96 (by decide) ?_
        refine b_X5_mostAlike_97 X (fun w16_0 w17_1 w18_2 w19_3 σ20 H locs ls hf hW hl => ?_) v2 v3 v5 v4 0 σ _ _ _ hf hW (lv_sub hl [0, 1, 2, 4] rfl)
        · exact ih w16_0 w17_1 w18_2 w19_3 σ20 _ _ _ hf hW (lv_sub hl [0, 1, 2, 3, 4] rfl)
      · have hf := it_e hf c13
        refine lv_iconst (v := 1) hx hb dX5_mostAlike_92 (by decide) ?_
        refine lv_goto (tgt := 97) hx hb dX5_mostAlike_93 (by decide) ?_
        refine b_X5_mostAlike_97 X (fun w21_0 w22_1 w23_2 w24_3 σ25 H locs ls hf hW hl => ?_) v2 v3 v5 v4 1 σ _ _ _ hf hW (lv_sub hl [0, 1, 2, 4] rfl)
        · exact ih w21_0 w22_1 w23_2 w24_3 σ25 _ _ _ hf hW (lv_sub hl [0, 1, 2, 3, 4] rfl)
noncomputable def f_X5_mostAlike_45 (k119 : Int32 → St → Option (Int32 × St)) : Nat → Int32 → Int32 → St → Option (Int32 × St)
  | 0, _, _, _ => none
  | n + 1, v2, v3, σ => (if (σ.1 1 1) ≤ v3 then k119 v2 σ else f_X5_mostAlike_62 (fun (w26_0 : Int32) (w27_1 : Int32) (w28_2 : Int32) (σ29 : St) => nw (if w26_0 < w28_2 then w28_2 else w26_0 : Int32) fun v130 => nw (w27_1 + 1 : Int32) fun v131 => f_X5_mostAlike_45 k119 n v130 v131 σ29) fu v2 v3 0 0 σ)
set_option maxHeartbeats 4000000 in
set_option maxRecDepth 100000 in
theorem b_X5_mostAlike_45 {k119 : Int32 → St → Option (Int32 × St)} (X : Cx RX5 wsX5_mostAlike cX5_mostAlike 6 (some .int) D cA ad SC p s m args meth c) (h119 : ∀ (w0 : Int32) (σ : St) (H : Heap) (locs : List Loc) (ls : Array Slot), k119 w0 σ = some r → Rn D cA ad SC s.heap σ H locs → lv_has ls 6 [(2, .int w0)] → W p l e rm_X5_mostAlike s m args below meth c H locs 0 0 (MQ below (Qi D cA ad SC r) args s 0 0 (Aw ad SC)) (F0 m 119 ls [])) : ∀ (n : Nat) (v2 : Int32) (v3 : Int32) (σ : St) (H : Heap) (locs : List Loc) (ls : Array Slot), f_X5_mostAlike_45 k119 n v2 v3 σ = some r → Rn D cA ad SC s.heap σ H locs → lv_has ls 6 [(0, .ref (ad 0)), (2, .int v2), (3, .int v3)] → W p l e rm_X5_mostAlike s m args below meth c H locs 0 0 (MQ below (Qi D cA ad SC r) args s 0 0 (Aw ad SC)) (F0 m 45 ls []) := by
  obtain ⟨hx, hb, hml, hown, hts, hr, hlk, hK, hij⟩ := id X
  intro n
  induction n with
  | zero =>
    intro v2 v3 σ H locs ls hf
    exact nomatch (show (none : Option (Int32 × St)) = some r from hf)
  | succ n ih =>
    intro v2 v3 σ H locs ls hf hW hl
    rw [f_X5_mostAlike_45] at hf
    refine lv_iload_n hx hb dX5_mostAlike_45 rfl (lv_at hl 2 rfl) ?_
    refine lv_aload_n hx hb dX5_mostAlike_46 rfl (lv_at hl 0 rfl) ?_
    refine get_5_0 X hW kC_0 iC_0 inX5_mostAlike_5 (List.mem_of_getElem? (i := 1) rfl) dX5_mostAlike_47 ?_
    refine get_1_1 X hW kC_1 iC_1 inX5_mostAlike_1 (List.mem_of_getElem? (i := 2) rfl) dX5_mostAlike_50 ?_
    refine lv_icmp_ge (tgt := 119) hx hb dX5_mostAlike_53 (by decide) (fun c9 => ?_) (fun c9 => ?_)
    · have hf := it_e hf c9
      exact h119 v2 σ _ _ _ hf hW (lv_sub hl [1] rfl)
    · have hf := ie_e hf c9
      refine lv_iconst (v := 0) hx hb dX5_mostAlike_56 (by decide) ?_
      refine lv_istore (lv' := [(4, .int 0), (0, .ref (ad 0)), (2, .int v2), (3, .int v3)]) hx hb dX5_mostAlike_57 hl (by decide) rfl (fun ls hl => ?_)
      refine lv_iconst (v := 0) hx hb dX5_mostAlike_59 (by decide) ?_
      refine lv_istore (lv' := [(5, .int 0), (4, .int 0), (0, .ref (ad 0)), (2, .int v2), (3, .int v3)]) hx hb dX5_mostAlike_60 hl (by decide) rfl (fun ls hl => ?_)
      refine b_X5_mostAlike_62 X (fun w26_0 w27_1 w28_2 σ29 H locs ls hf hW hl => ?_) fu v2 v3 0 0 σ _ _ _ hf hW (lv_sub hl [2, 3, 4, 1, 0] rfl)
      · refine lv_iload_n hx hb dX5_mostAlike_106 rfl (lv_at hl 1 rfl) ?_
        refine lv_iload hx hb dX5_mostAlike_107 (lv_at hl 3 rfl) ?_
        obtain ⟨v130, e30, hf⟩ := nw_e hf
        refine r_max X hl.1 (List.mem_of_getElem? (i := 6) rfl) (List.mem_of_getElem? (i := 7) rfl) (List.mem_of_getElem? (i := 8) rfl) (List.mem_of_getElem? (i := 9) rfl) ⟨Nat.le_of_ble_eq_true rfl, Nat.le_of_ble_eq_true rfl⟩ dX5_mostAlike_109 ?_
        refine tI _ e30 ?_
        refine lv_istore_n (lv' := [(2, .int v130), (0, .ref (ad 0)), (3, .int w27_1), (4, .int w28_2)]) hx hb dX5_mostAlike_112 rfl hl (by decide) rfl (fun ls hl => ?_)
        obtain ⟨v131, e31, hf⟩ := nw_e hf
        refine lv_iinc (v := v131) (lv' := [(3, .int v131), (2, .int v130), (0, .ref (ad 0)), (4, .int w28_2)]) hx hb dX5_mostAlike_113 hl (k := 2) rfl (by rw [e31]; rfl) (by decide) rfl (fun ls hl => ?_)
        refine lv_goto (tgt := 45) hx hb dX5_mostAlike_116 (by decide) ?_
        exact ih v130 v131 σ29 _ _ _ hf hW (lv_sub hl [2, 1, 0] rfl)
end S_X5_mostAlike
noncomputable def f_X5_mostAlike (σ : St) (a1 : Int32) : Option (Int32 × St) := f_X5_mostAlike_2 (fun  (σ8 : St) => f_X5_mostAlike_45 (fun (w32_0 : Int32) (σ33 : St) => some (w32_0, σ33)) fu 0 0 σ8) fu a1 0 σ
set_option maxHeartbeats 4000000 in
set_option maxRecDepth 100000 in
theorem c_X5_mostAlike (l : Launch) (D : va_G) (cA : Nat → ClassId) (ad : Nat → Nat) (hij : Ij ad SC) (σ : St) (a1 : Int32) (r : Int32 × St) (hf : f_X5_mostAlike σ a1 = some r) : Met l yX5_mostAlike wsX5_mostAlike rm_X5_mostAlike (PC D cA ad SC [.ref (ad 0), .int a1] σ) (Qi D cA ad SC r) 0 0 (Aw ad SC) := by
  rw [f_X5_mostAlike] at hf
  refine k_head (own := RX5) (ws := wsX5_mostAlike) (cc := cX5_mostAlike) (nL := 6) (ret := (some .int)) pn_X5 rfl rfl hij (Nat.le_of_ble_eq_true rfl) (fun p e s m below meth c ls X hW hl => ?_)
  have hl : lv_has ls 6 [(0, .ref (ad 0)), (1, .int a1)] := hl
  obtain ⟨hx, hb, hml, hown, hts, hr, hlk, hK, hij⟩ := id X
  refine lv_iconst (v := 0) hx hb dX5_mostAlike_0 (by decide) ?_
  refine lv_istore_n (lv' := [(2, .int 0), (0, .ref (ad 0)), (1, .int a1)]) hx hb dX5_mostAlike_1 rfl hl (by decide) rfl (fun ls hl => ?_)
  refine b_X5_mostAlike_2 X (fun σ8 H locs ls hf hW hl => ?_) fu a1 0 σ _ _ _ hf hW (lv_sub hl [1, 2, 0] rfl)
  · refine lv_iconst (v := 0) hx hb dX5_mostAlike_41 (by decide) ?_
    refine lv_istore_n (lv' := [(2, .int 0), (0, .ref (ad 0))]) hx hb dX5_mostAlike_42 rfl hl (by decide) rfl (fun ls hl => ?_)
    refine lv_iconst (v := 0) hx hb dX5_mostAlike_43 (by decide) ?_
    refine lv_istore_n (lv' := [(3, .int 0), (2, .int 0), (0, .ref (ad 0))]) hx hb dX5_mostAlike_44 rfl hl (by decide) rfl (fun ls hl => ?_)
    refine b_X5_mostAlike_45 X (fun w32_0 σ33 H locs ls hf hW hl => ?_) fu 0 0 σ8 _ _ _ hf hW (lv_sub hl [2, 1, 0] rfl)
    · refine lv_iload_n hx hb dX5_mostAlike_119 rfl (lv_at hl 0 rfl) ?_
      exact r_iret X hW rfl rfl hf dX5_mostAlike_120

abbrev rm_X5_tells : Room := { frames := 3, cells := 0, slots := 0, locals := 71 }
theorem hd_X5_tells : yX5_tells.cls = RX5 ∧ yX5_tells.cls ≠ "java/lang/invoke/MethodHandle" ∧ yX5_tells.cls ≠ "java/lang/invoke/VarHandle" ∧ (parseMethodDescriptor yX5_tells.desc).map (fun d => d.parameters.length) = some 1 := by decide +kernel
theorem inX5_tells_5 : ∀ w ∈ wsX50, w ∈ wsX5_tells := fun _ h => List.mem_cons_of_mem _ (List.mem_append_left _ (List.mem_append_left _ (List.mem_append_left _ (List.mem_append_right _ h))))
theorem inX5_tells_1 : ∀ w ∈ wsX10, w ∈ wsX5_tells := fun _ h => List.mem_cons_of_mem _ (List.mem_append_left _ (List.mem_append_left _ (List.mem_append_right _ h)))
theorem inX5_tells_3 : ∀ w ∈ wsX30, w ∈ wsX5_tells := fun _ h => List.mem_cons_of_mem _ (List.mem_append_left _ (List.mem_append_right _ h))
theorem inX5_tells_0 : ∀ w ∈ wsX00, w ∈ wsX5_tells := fun _ h => List.mem_cons_of_mem _ (List.mem_append_right _ h)
section S_X5_tells
variable {p : Program} {l : Launch} {e : Env} {s : State} {m : MethodId} {args : Array Value} {below : List Frame} {meth : Method} {c : Code} {D : va_G} {cA : Nat → ClassId} {ad : Nat → Nat} {r : Int32 × St}
noncomputable def f_X5_tells_59 (k33 : Int32 → Int32 → Int32 → Int32 → St → Option (Int32 × St)) (v1 : Int32) (v2 : Int32) (v3 : Int32) (v4 : Int32) (σ : St) : Option (Int32 × St) := nw (v4 + 1 : Int32) fun v110 => k33 v1 v2 v3 v110 σ
set_option maxHeartbeats 4000000 in
set_option maxRecDepth 100000 in
theorem b_X5_tells_59 {k33 : Int32 → Int32 → Int32 → Int32 → St → Option (Int32 × St)} (X : Cx RX5 wsX5_tells cX5_tells 6 (some .int) D cA ad SC p s m args meth c) (h33 : ∀ (w0 : Int32) (w1 : Int32) (w2 : Int32) (w3 : Int32) (σ : St) (H : Heap) (locs : List Loc) (ls : Array Slot), k33 w0 w1 w2 w3 σ = some r → Rn D cA ad SC s.heap σ H locs → lv_has ls 6 [(0, .ref (ad 0)), (1, .int w0), (2, .int w1), (3, .int w2), (4, .int w3)] → W p l e rm_X5_tells s m args below meth c H locs 0 0 (MQ below (Qi D cA ad SC r) args s 0 0 (Aw ad SC)) (F0 m 33 ls [])) : ∀ (v1 : Int32) (v2 : Int32) (v3 : Int32) (v4 : Int32) (σ : St) (H : Heap) (locs : List Loc) (ls : Array Slot), f_X5_tells_59 k33 v1 v2 v3 v4 σ = some r → Rn D cA ad SC s.heap σ H locs → lv_has ls 6 [(0, .ref (ad 0)), (1, .int v1), (2, .int v2), (3, .int v3), (4, .int v4)] → W p l e rm_X5_tells s m args below meth c H locs 0 0 (MQ below (Qi D cA ad SC r) args s 0 0 (Aw ad SC)) (F0 m 59 ls []) := by
  obtain ⟨hx, hb, hml, hown, hts, hr, hlk, hK, hij⟩ := id X
  intro v1 v2 v3 v4 σ H locs ls hf hW hl
  rw [f_X5_tells_59] at hf
  obtain ⟨v110, e10, hf⟩ := nw_e hf
  refine lv_iinc (v := v110) (lv' := [(4, .int v110), (0, .ref (ad 0)), (1, .int v1), (2, .int v2), (3, .int v3)]) hx hb dX5_tells_59 hl (k := 4) rfl (by rw [e10]; rfl) (by decide) rfl (fun ls hl => ?_)
  refine lv_goto (tgt := 33) hx hb dX5_tells_62 (by decide) ?_
  exact h33 v1 v2 v3 v110 σ _ _ _ hf hW (lv_sub hl [1, 2, 3, 4, 0] rfl)
noncomputable def f_X5_tells_33 (k65 : Int32 → Int32 → Int32 → St → Option (Int32 × St)) : Nat → Int32 → Int32 → Int32 → Int32 → St → Option (Int32 × St)
  | 0, _, _, _, _, _ => none
  | n + 1, v1, v2, v3, v4, σ => (if 4 ≤ v4 then k65 v1 v2 v3 σ else bnd (f_X5_mostAlike σ v4) fun r7 => nw (r7.1 : Int32) fun v108 => (if v3 ≤ v108 then f_X5_tells_59 (fun (w11_0 : Int32) (w12_1 : Int32) (w13_2 : Int32) (w14_3 : Int32) (σ15 : St) => f_X5_tells_33 k65 n w11_0 w12_1 w13_2 w14_3 σ15) v1 v2 v3 v4 r7.2 else f_X5_tells_59 (fun (w16_0 : Int32) (w17_1 : Int32) (w18_2 : Int32) (w19_3 : Int32) (σ20 : St) => f_X5_tells_33 k65 n w16_0 w17_1 w18_2 w19_3 σ20) v1 v4 v108 v4 r7.2))
set_option maxHeartbeats 4000000 in
set_option maxRecDepth 100000 in
theorem b_X5_tells_33 {k65 : Int32 → Int32 → Int32 → St → Option (Int32 × St)} (X : Cx RX5 wsX5_tells cX5_tells 6 (some .int) D cA ad SC p s m args meth c) (h65 : ∀ (w0 : Int32) (w1 : Int32) (w2 : Int32) (σ : St) (H : Heap) (locs : List Loc) (ls : Array Slot), k65 w0 w1 w2 σ = some r → Rn D cA ad SC s.heap σ H locs → lv_has ls 6 [(1, .int w0), (2, .int w1), (3, .int w2)] → W p l e rm_X5_tells s m args below meth c H locs 0 0 (MQ below (Qi D cA ad SC r) args s 0 0 (Aw ad SC)) (F0 m 65 ls [])) : ∀ (n : Nat) (v1 : Int32) (v2 : Int32) (v3 : Int32) (v4 : Int32) (σ : St) (H : Heap) (locs : List Loc) (ls : Array Slot), f_X5_tells_33 k65 n v1 v2 v3 v4 σ = some r → Rn D cA ad SC s.heap σ H locs → lv_has ls 6 [(0, .ref (ad 0)), (1, .int v1), (2, .int v2), (3, .int v3), (4, .int v4)] → W p l e rm_X5_tells s m args below meth c H locs 0 0 (MQ below (Qi D cA ad SC r) args s 0 0 (Aw ad SC)) (F0 m 33 ls []) := by
  obtain ⟨hx, hb, hml, hown, hts, hr, hlk, hK, hij⟩ := id X
  intro n
  induction n with
  | zero =>
    intro v1 v2 v3 v4 σ H locs ls hf
    exact nomatch (show (none : Option (Int32 × St)) = some r from hf)
  | succ n ih =>
    intro v1 v2 v3 v4 σ H locs ls hf hW hl
    rw [f_X5_tells_33] at hf
    refine lv_iload hx hb dX5_tells_33 (lv_at hl 4 rfl) ?_
    refine lv_iconst (v := 4) hx hb dX5_tells_35 (by decide) ?_
    refine lv_icmp_ge (tgt := 65) hx hb dX5_tells_36 (by decide) (fun c6 => ?_) (fun c6 => ?_)
    · have hf := it_e hf c6
      exact h65 v1 v2 v3 σ _ _ _ hf hW (lv_sub hl [1, 2, 3] rfl)
    · have hf := ie_e hf c6
      refine lv_aload_n hx hb dX5_tells_39 rfl (lv_at hl 0 rfl) ?_
      refine lv_iload hx hb dX5_tells_40 (lv_at hl 4 rfl) ?_
      obtain ⟨r7, z7, hf⟩ := bnd_e hf
      refine r_cVi X hW kC_0 iC_0 rfl (c_X5_mostAlike l D cA ad hij σ v4 r7 z7) gX5_tells_X5_mostAlike rfl ⟨rfl, rfl⟩ hd_X5_mostAlike ⟨Nat.le_of_ble_eq_true rfl, Nat.le_of_ble_eq_true rfl⟩ rfl (Nat.le_of_ble_eq_true rfl) hl.1 dX5_tells_42 (fun H locs hW => ?_)
      obtain ⟨v108, e8, hf⟩ := nw_e hf
      refine tI _ e8 ?_
      refine lv_istore (lv' := [(5, .int v108), (0, .ref (ad 0)), (1, .int v1), (2, .int v2), (3, .int v3), (4, .int v4)]) hx hb dX5_tells_45 hl (by decide) rfl (fun ls hl => ?_)
      refine lv_iload hx hb dX5_tells_47 (lv_at hl 0 rfl) ?_
      refine lv_iload_n hx hb dX5_tells_49 rfl (lv_at hl 4 rfl) ?_
      refine lv_icmp_ge (tgt := 59) hx hb dX5_tells_50 (by decide) (fun c9 => ?_) (fun c9 => ?_)
      · have hf := it_e hf c9
        refine b_X5_tells_59 X (fun w11_0 w12_1 w13_2 w14_3 σ15 H locs ls hf hW hl => ?_) v1 v2 v3 v4 r7.2 _ _ _ hf hW (lv_sub hl [1, 2, 3, 4, 5] rfl)
        · exact ih w11_0 w12_1 w13_2 w14_3 σ15 _ _ _ hf hW (lv_sub hl [0, 1, 2, 3, 4] rfl)
      · have hf := ie_e hf c9
        refine lv_iload hx hb dX5_tells_53 (lv_at hl 0 rfl) ?_
        refine lv_istore_n (lv' := [(3, .int v108), (5, .int v108), (0, .ref (ad 0)), (1, .int v1), (2, .int v2), (4, .int v4)]) hx hb dX5_tells_55 rfl hl (by decide) rfl (fun ls hl => ?_)
        refine lv_iload hx hb dX5_tells_56 (lv_at hl 5 rfl) ?_
        refine lv_istore_n (lv' := [(2, .int v4), (3, .int v108), (5, .int v108), (0, .ref (ad 0)), (1, .int v1), (4, .int v4)]) hx hb dX5_tells_58 rfl hl (by decide) rfl (fun ls hl => ?_)
        refine b_X5_tells_59 X (fun w16_0 w17_1 w18_2 w19_3 σ20 H locs ls hf hW hl => ?_) v1 v4 v108 v4 r7.2 _ _ _ hf hW (lv_sub hl [3, 4, 0, 1, 5] rfl)
        · exact ih w16_0 w17_1 w18_2 w19_3 σ20 _ _ _ hf hW (lv_sub hl [0, 1, 2, 3, 4] rfl)
end S_X5_tells
noncomputable def f_X5_tells (σ : St) (a1 : Int32) : Option (Int32 × St) := bnd (f_X5_isNoHalf a1) fun r1 => (if r1 = 0 then (if (σ.1 1 1) = 0 then some ((-4), σ) else bnd (f_X5_mostAlike σ 0) fun r4 => nw (r4.1 : Int32) fun v105 => f_X5_tells_33 (fun (w21_0 : Int32) (w22_1 : Int32) (w23_2 : Int32) (σ24 : St) => (if w21_0 = 0 then some (w22_1, σ24) else some (w23_2, σ24))) fu a1 0 v105 1 r4.2) else some ((-1), σ))
set_option maxHeartbeats 4000000 in
set_option maxRecDepth 100000 in
theorem c_X5_tells (l : Launch) (D : va_G) (cA : Nat → ClassId) (ad : Nat → Nat) (hij : Ij ad SC) (σ : St) (a1 : Int32) (r : Int32 × St) (hf : f_X5_tells σ a1 = some r) : Met l yX5_tells wsX5_tells rm_X5_tells (PC D cA ad SC [.ref (ad 0), .int a1] σ) (Qi D cA ad SC r) 0 0 (Aw ad SC) := by
  rw [f_X5_tells] at hf
  refine k_head (own := RX5) (ws := wsX5_tells) (cc := cX5_tells) (nL := 6) (ret := (some .int)) pn_X5 rfl rfl hij (Nat.le_of_ble_eq_true rfl) (fun p e s m below meth c ls X hW hl => ?_)
  have hl : lv_has ls 6 [(0, .ref (ad 0)), (1, .int a1)] := hl
  obtain ⟨hx, hb, hml, hown, hts, hr, hlk, hK, hij⟩ := id X
  refine lv_iload_n hx hb dX5_tells_0 rfl (lv_at hl 1 rfl) ?_
  obtain ⟨r1, z1, hf⟩ := bnd_e hf
  refine r_cSiR X hW (c_X5_isNoHalf l D cA ad hij σ a1 r1 z1) gX5_tells_X5_isNoHalf rfl ⟨rfl, rfl⟩ hd_X5_isNoHalf ⟨Nat.le_of_ble_eq_true rfl, Nat.le_of_ble_eq_true rfl⟩ rfl (Nat.le_of_ble_eq_true rfl) hl.1 dX5_tells_1 (fun H locs hW => ?_)
  refine lv_if_eq (tgt := 9) hx hb dX5_tells_4 (by decide) (fun c2 => ?_) (fun c2 => ?_)
  · have hf := it_e hf c2
    refine lv_aload_n hx hb dX5_tells_9 rfl (lv_at hl 0 rfl) ?_
    refine get_5_0 X hW kC_0 iC_0 inX5_tells_5 (List.mem_of_getElem? (i := 1) rfl) dX5_tells_10 ?_
    refine get_1_1 X hW kC_1 iC_1 inX5_tells_1 (List.mem_of_getElem? (i := 2) rfl) dX5_tells_13 ?_
    refine lv_if_ne (tgt := 22) hx hb dX5_tells_16 (by decide) (fun c3 => ?_) (fun c3 => ?_)
    · have hf := ie_e hf c3
      refine lv_iconst (v := 0) hx hb dX5_tells_22 (by decide) ?_
      refine lv_istore_n (lv' := [(2, .int 0), (0, .ref (ad 0)), (1, .int a1)]) hx hb dX5_tells_23 rfl hl (by decide) rfl (fun ls hl => ?_)
      refine lv_aload_n hx hb dX5_tells_24 rfl (lv_at hl 1 rfl) ?_
      refine lv_iconst (v := 0) hx hb dX5_tells_25 (by decide) ?_
      obtain ⟨r4, z4, hf⟩ := bnd_e hf
      refine r_cVi X hW kC_0 iC_0 rfl (c_X5_mostAlike l D cA ad hij σ 0 r4 z4) gX5_tells_X5_mostAlike rfl ⟨rfl, rfl⟩ hd_X5_mostAlike ⟨Nat.le_of_ble_eq_true rfl, Nat.le_of_ble_eq_true rfl⟩ rfl (Nat.le_of_ble_eq_true rfl) hl.1 dX5_tells_26 (fun H locs hW => ?_)
      obtain ⟨v105, e5, hf⟩ := nw_e hf
      refine tI _ e5 ?_
      refine lv_istore_n (lv' := [(3, .int v105), (2, .int 0), (0, .ref (ad 0)), (1, .int a1)]) hx hb dX5_tells_29 rfl hl (by decide) rfl (fun ls hl => ?_)
      refine lv_iconst (v := 1) hx hb dX5_tells_30 (by decide) ?_
      refine lv_istore (lv' := [(4, .int 1), (3, .int v105), (2, .int 0), (0, .ref (ad 0)), (1, .int a1)]) hx hb dX5_tells_31 hl (by decide) rfl (fun ls hl => ?_)
      refine b_X5_tells_33 X (fun w21_0 w22_1 w23_2 σ24 H locs ls hf hW hl => ?_) fu a1 0 v105 1 r4.2 _ _ _ hf hW (lv_sub hl [3, 4, 2, 1, 0] rfl)
      · refine lv_iload_n hx hb dX5_tells_65 rfl (lv_at hl 0 rfl) ?_
        refine lv_if_ne (tgt := 73) hx hb dX5_tells_66 (by decide) (fun c25 => ?_) (fun c25 => ?_)
        · have hf := ie_e hf c25
          refine lv_iload_n hx hb dX5_tells_73 rfl (lv_at hl 2 rfl) ?_
          exact r_iret X hW rfl rfl hf dX5_tells_74
        · have hf := it_e hf c25
          refine lv_iload_n hx hb dX5_tells_69 rfl (lv_at hl 1 rfl) ?_
          refine lv_goto (tgt := 74) hx hb dX5_tells_70 (by decide) ?_
          exact r_iret X hW rfl rfl hf dX5_tells_74
    · have hf := it_e hf c3
      refine lv_bipush (v := (-4)) hx hb dX5_tells_19 (by decide) ?_
      exact r_iret X hW rfl rfl hf dX5_tells_21
  · have hf := ie_e hf c2
    refine lv_iconst (v := (-1)) hx hb dX5_tells_7 (by decide) ?_
    exact r_iret X hW rfl rfl hf dX5_tells_8

abbrev rm_X5_lent : Room := { frames := 2, cells := 0, slots := 0, locals := 49 }
theorem hd_X5_lent : yX5_lent.cls = RX5 ∧ yX5_lent.cls ≠ "java/lang/invoke/MethodHandle" ∧ yX5_lent.cls ≠ "java/lang/invoke/VarHandle" ∧ (parseMethodDescriptor yX5_lent.desc).map (fun d => d.parameters.length) = some 2 := by decide +kernel
theorem inX5_lent_5 : ∀ w ∈ wsX50, w ∈ wsX5_lent := fun _ h => List.mem_cons_of_mem _ (List.mem_append_left _ (List.mem_append_left _ (List.mem_append_left _ (List.mem_append_left _ (List.mem_append_right _ h)))))
theorem inX5_lent_4 : ∀ w ∈ wsX40, w ∈ wsX5_lent := fun _ h => List.mem_cons_of_mem _ (List.mem_append_left _ (List.mem_append_left _ (List.mem_append_left _ (List.mem_append_right _ h))))
theorem inX5_lent_1 : ∀ w ∈ wsX10, w ∈ wsX5_lent := fun _ h => List.mem_cons_of_mem _ (List.mem_append_left _ (List.mem_append_left _ (List.mem_append_right _ h)))
theorem inX5_lent_3 : ∀ w ∈ wsX30, w ∈ wsX5_lent := fun _ h => List.mem_cons_of_mem _ (List.mem_append_left _ (List.mem_append_right _ h))
theorem inX5_lent_0 : ∀ w ∈ wsX00, w ∈ wsX5_lent := fun _ h => List.mem_cons_of_mem _ (List.mem_append_right _ h)
section S_X5_lent
variable {p : Program} {l : Launch} {e : Env} {s : State} {m : MethodId} {args : Array Value} {below : List Frame} {meth : Method} {c : Code} {D : va_G} {cA : Nat → ClassId} {ad : Nat → Nat} {r : Int32 × St}
end S_X5_lent
noncomputable def f_X5_lent (σ : St) (a1 : Int32) (a2 : Int32) : Option (Int32 × St) := bnd (f_X1_has σ 1 a2) fun r1 => (if r1 = 0 then some ((-1000000001), σ) else bnd (f_X5_dishRefusal σ a1) fun r3 => (if r3 = 0 then chk (inb a1 8) <| chk (kOK SC (126 + 2 * a1.toNatClampNeg) 4) <| nw (σ.1 (126 + 2 * a1.toNatClampNeg) 1 : Int32) fun v107 => nw (σ.1 (126 + 2 * a1.toNatClampNeg) 2 : Int32) fun v108 => nw (v108 - v108 / 4 * 4 : Int32) fun v109 => chk (inb a2 6) <| chk (kOK SC (3 + 5 * a2.toNatClampNeg) 3) <| bnd (f_X0_become σ 122 (3 + 5 * a2.toNatClampNeg + 1)) fun r12 => bnd (f_X0_takeIn r12 122 v107 v108) fun r13 => bnd (f_X0_portionOf r13 122 v109) fun r14 => bnd (f_X0_clear r13 122) fun r15 => bnd (f_X0_takeIn r15 122 v107 v108) fun r16 => bnd (f_X0_portionOf r16 122 v109) fun r17 => some (r14 - r17, r16) else some (((-1000000000)) + r3, σ)))
set_option maxHeartbeats 4000000 in
set_option maxRecDepth 100000 in
theorem c_X5_lent (l : Launch) (D : va_G) (cA : Nat → ClassId) (ad : Nat → Nat) (hij : Ij ad SC) (σ : St) (a1 : Int32) (a2 : Int32) (r : Int32 × St) (hf : f_X5_lent σ a1 a2 = some r) : Met l yX5_lent wsX5_lent rm_X5_lent (PC D cA ad SC [.ref (ad 0), .int a1, .int a2] σ) (Qi D cA ad SC r) 0 0 (Aw ad SC) := by
  rw [f_X5_lent] at hf
  refine k_head (own := RX5) (ws := wsX5_lent) (cc := cX5_lent) (nL := 8) (ret := (some .int)) pn_X5 rfl rfl hij (Nat.le_of_ble_eq_true rfl) (fun p e s m below meth c ls X hW hl => ?_)
  have hl : lv_has ls 8 [(0, .ref (ad 0)), (1, .int a1), (2, .int a2)] := hl
  obtain ⟨hx, hb, hml, hown, hts, hr, hlk, hK, hij⟩ := id X
  refine lv_aload_n hx hb dX5_lent_0 rfl (lv_at hl 0 rfl) ?_
  refine get_5_0 X hW kC_0 iC_0 inX5_lent_5 (List.mem_of_getElem? (i := 1) rfl) dX5_lent_1 ?_
  refine lv_iload_n hx hb dX5_lent_4 rfl (lv_at hl 2 rfl) ?_
  obtain ⟨r1, z1, hf⟩ := bnd_e hf
  refine r_cViR X hW kC_1 iC_1 rfl (c_X1_has l D cA ad hij σ 1 a2 r1 z1) gX5_lent_X1_has rfl ⟨rfl, rfl⟩ hd_X1_has ⟨Nat.le_of_ble_eq_true rfl, Nat.le_of_ble_eq_true rfl⟩ rfl (Nat.le_of_ble_eq_true rfl) hl.1 dX5_lent_5 (fun H locs hW => ?_)
  refine lv_if_ne (tgt := 14) hx hb dX5_lent_8 (by decide) (fun c2 => ?_) (fun c2 => ?_)
  · have hf := ie_e hf c2
    refine lv_aload_n hx hb dX5_lent_14 rfl (lv_at hl 0 rfl) ?_
    refine lv_iload_n hx hb dX5_lent_15 rfl (lv_at hl 1 rfl) ?_
    obtain ⟨r3, z3, hf⟩ := bnd_e hf
    refine r_cViR X hW kC_0 iC_0 rfl (c_X5_dishRefusal l D cA ad hij σ a1 r3 z3) gX5_lent_X5_dishRefusal rfl ⟨rfl, rfl⟩ hd_X5_dishRefusal ⟨Nat.le_of_ble_eq_true rfl, Nat.le_of_ble_eq_true rfl⟩ rfl (Nat.le_of_ble_eq_true rfl) hl.1 dX5_lent_16 (fun H locs hW => ?_)
    refine lv_istore_n (lv' := [(3, .int r3), (0, .ref (ad 0)), (1, .int a1), (2, .int a2)]) hx hb dX5_lent_19 rfl hl (by decide) rfl (fun ls hl => ?_)
    refine lv_iload_n hx hb dX5_lent_20 rfl (lv_at hl 0 rfl) ?_
    refine lv_if_eq (tgt := 29) hx hb dX5_lent_21 (by decide) (fun c4 => ?_) (fun c4 => ?_)
    · have hf := it_e hf c4
      refine lv_aload_n hx hb dX5_lent_29 rfl (lv_at hl 1 rfl) ?_
      refine get_5_7 X hW kC_0 iC_0 inX5_lent_5 (List.mem_of_getElem? (i := 4) rfl) dX5_lent_30 ?_
      refine lv_iload_n hx hb dX5_lent_33 rfl (lv_at hl 2 rfl) ?_
      obtain ⟨x5, hf⟩ := chk_e hf
      refine r_aald (j := 126 + 2 * a1.toNatClampNeg) X hW kC_125 iC_125 nC_125 (by decide) rfl x5 rfl dX5_lent_34 ?_
      obtain ⟨q6, hf⟩ := chk_e hf
      obtain ⟨i6, k6⟩ := kOK_e q6
      refine get_4_1 X hW k6 i6 inX5_lent_4 (List.mem_of_getElem? (i := 5) rfl) dX5_lent_35 ?_
      obtain ⟨v107, e7, hf⟩ := nw_e hf
      refine tI _ e7 ?_
      refine lv_istore (lv' := [(4, .int v107), (3, .int r3), (0, .ref (ad 0)), (1, .int a1), (2, .int a2)]) hx hb dX5_lent_38 hl (by decide) rfl (fun ls hl => ?_)
      refine lv_aload_n hx hb dX5_lent_40 rfl (lv_at hl 2 rfl) ?_
      refine get_5_7 X hW kC_0 iC_0 inX5_lent_5 (List.mem_of_getElem? (i := 4) rfl) dX5_lent_41 ?_
      refine lv_iload_n hx hb dX5_lent_44 rfl (lv_at hl 3 rfl) ?_
      refine r_aald (j := 126 + 2 * a1.toNatClampNeg) X hW kC_125 iC_125 nC_125 (by decide) rfl x5 rfl dX5_lent_45 ?_
      refine get_4_2 X hW k6 i6 inX5_lent_4 (List.mem_of_getElem? (i := 6) rfl) dX5_lent_46 ?_
      obtain ⟨v108, e8, hf⟩ := nw_e hf
      refine tI _ e8 ?_
      refine lv_istore (lv' := [(5, .int v108), (4, .int v107), (3, .int r3), (0, .ref (ad 0)), (1, .int a1), (2, .int a2)]) hx hb dX5_lent_49 hl (by decide) rfl (fun ls hl => ?_)
      refine lv_iload hx hb dX5_lent_51 (lv_at hl 0 rfl) ?_
      refine lv_iconst (v := 4) hx hb dX5_lent_53 (by decide) ?_
      refine lv_irem hx hb dX5_lent_54 (by decide) ?_
      obtain ⟨v109, e9, hf⟩ := nw_e hf
      refine tI _ e9 ?_
      refine lv_istore (lv' := [(6, .int v109), (5, .int v108), (4, .int v107), (3, .int r3), (0, .ref (ad 0)), (1, .int a1), (2, .int a2)]) hx hb dX5_lent_55 hl (by decide) rfl (fun ls hl => ?_)
      refine lv_aload_n hx hb dX5_lent_57 rfl (lv_at hl 4 rfl) ?_
      refine get_5_5 X hW kC_0 iC_0 inX5_lent_5 (List.mem_of_getElem? (i := 7) rfl) dX5_lent_58 ?_
      refine lv_aload_n hx hb dX5_lent_61 rfl (lv_at hl 4 rfl) ?_
      refine get_5_0 X hW kC_0 iC_0 inX5_lent_5 (List.mem_of_getElem? (i := 1) rfl) dX5_lent_62 ?_
      refine get_1_0 X hW kC_1 iC_1 inX5_lent_1 (List.mem_of_getElem? (i := 8) rfl) dX5_lent_65 ?_
      refine lv_iload_n hx hb dX5_lent_68 rfl (lv_at hl 6 rfl) ?_
      obtain ⟨x10, hf⟩ := chk_e hf
      refine r_aald (j := 3 + 5 * a2.toNatClampNeg) X hW kC_2 iC_2 nC_2 (by decide) rfl x10 rfl dX5_lent_69 ?_
      obtain ⟨q11, hf⟩ := chk_e hf
      obtain ⟨i11, k11⟩ := kOK_e q11
      refine get_3_0 X hW k11 i11 inX5_lent_3 (List.mem_of_getElem? (i := 9) rfl) dX5_lent_70 ?_
      obtain ⟨r12, z12, hf⟩ := bnd_e hf
      refine r_cVv X hW kC_122 iC_122 rfl (c_X0_become l D cA ad hij σ 122 (3 + 5 * a2.toNatClampNeg + 1) r12 z12) gX5_lent_X0_become rfl ⟨rfl, rfl⟩ hd_X0_become ⟨Nat.le_of_ble_eq_true rfl, Nat.le_of_ble_eq_true rfl⟩ rfl (Nat.le_of_ble_eq_true rfl) hl.1 dX5_lent_73 (fun H locs hW => ?_)
      refine lv_aload_n hx hb dX5_lent_76 rfl (lv_at hl 4 rfl) ?_
      refine get_5_5 X hW kC_0 iC_0 inX5_lent_5 (List.mem_of_getElem? (i := 7) rfl) dX5_lent_77 ?_
      refine lv_iload hx hb dX5_lent_80 (lv_at hl 2 rfl) ?_
      refine lv_iload hx hb dX5_lent_82 (lv_at hl 1 rfl) ?_
      obtain ⟨r13, z13, hf⟩ := bnd_e hf
      refine r_cVv X hW kC_122 iC_122 rfl (c_X0_takeIn l D cA ad hij r12 122 v107 v108 r13 z13) gX5_lent_X0_takeIn rfl ⟨rfl, rfl⟩ hd_X0_takeIn ⟨Nat.le_of_ble_eq_true rfl, Nat.le_of_ble_eq_true rfl⟩ rfl (Nat.le_of_ble_eq_true rfl) hl.1 dX5_lent_84 (fun H locs hW => ?_)
      refine lv_aload_n hx hb dX5_lent_87 rfl (lv_at hl 4 rfl) ?_
      refine get_5_5 X hW kC_0 iC_0 inX5_lent_5 (List.mem_of_getElem? (i := 7) rfl) dX5_lent_88 ?_
      refine lv_iload hx hb dX5_lent_91 (lv_at hl 0 rfl) ?_
      obtain ⟨r14, z14, hf⟩ := bnd_e hf
      refine r_cViR X hW kC_122 iC_122 rfl (c_X0_portionOf l D cA ad hij r13 122 v109 r14 z14) gX5_lent_X0_portionOf rfl ⟨rfl, rfl⟩ hd_X0_portionOf ⟨Nat.le_of_ble_eq_true rfl, Nat.le_of_ble_eq_true rfl⟩ rfl (Nat.le_of_ble_eq_true rfl) hl.1 dX5_lent_93 (fun H locs hW => ?_)
      refine lv_istore (lv' := [(7, .int r14), (6, .int v109), (5, .int v108), (4, .int v107), (3, .int r3), (0, .ref (ad 0)), (1, .int a1), (2, .int a2)]) hx hb dX5_lent_96 hl (by decide) rfl (fun ls hl => ?_)
      refine lv_aload_n hx hb dX5_lent_98 rfl (lv_at hl 5 rfl) ?_
      refine get_5_5 X hW kC_0 iC_0 inX5_lent_5 (List.mem_of_getElem? (i := 7) rfl) dX5_lent_99 ?_
      obtain ⟨r15, z15, hf⟩ := bnd_e hf
      refine r_cVv X hW kC_122 iC_122 rfl (c_X0_clear l D cA ad hij r13 122 r15 z15) gX5_lent_X0_clear rfl ⟨rfl, rfl⟩ hd_X0_clear ⟨Nat.le_of_ble_eq_true rfl, Nat.le_of_ble_eq_true rfl⟩ rfl (Nat.le_of_ble_eq_true rfl) hl.1 dX5_lent_102 (fun H locs hW => ?_)
      refine lv_aload_n hx hb dX5_lent_105 rfl (lv_at hl 5 rfl) ?_
      refine get_5_5 X hW kC_0 iC_0 inX5_lent_5 (List.mem_of_getElem? (i := 7) rfl) dX5_lent_106 ?_
      refine lv_iload hx hb dX5_lent_109 (lv_at hl 3 rfl) ?_
      refine lv_iload hx hb dX5_lent_111 (lv_at hl 2 rfl) ?_
      obtain ⟨r16, z16, hf⟩ := bnd_e hf
      refine r_cVv X hW kC_122 iC_122 rfl (c_X0_takeIn l D cA ad hij r15 122 v107 v108 r16 z16) gX5_lent_X0_takeIn rfl ⟨rfl, rfl⟩ hd_X0_takeIn ⟨Nat.le_of_ble_eq_true rfl, Nat.le_of_ble_eq_true rfl⟩ rfl (Nat.le_of_ble_eq_true rfl) hl.1 dX5_lent_113 (fun H locs hW => ?_)
      refine lv_iload hx hb dX5_lent_116 (lv_at hl 0 rfl) ?_
      refine lv_aload_n hx hb dX5_lent_118 rfl (lv_at hl 5 rfl) ?_
      refine get_5_5 X hW kC_0 iC_0 inX5_lent_5 (List.mem_of_getElem? (i := 7) rfl) dX5_lent_119 ?_
      refine lv_iload hx hb dX5_lent_122 (lv_at hl 1 rfl) ?_
      obtain ⟨r17, z17, hf⟩ := bnd_e hf
      refine r_cViR X hW kC_122 iC_122 rfl (c_X0_portionOf l D cA ad hij r16 122 v109 r17 z17) gX5_lent_X0_portionOf rfl ⟨rfl, rfl⟩ hd_X0_portionOf ⟨Nat.le_of_ble_eq_true rfl, Nat.le_of_ble_eq_true rfl⟩ rfl (Nat.le_of_ble_eq_true rfl) hl.1 dX5_lent_124 (fun H locs hW => ?_)
      refine lv_isub hx hb dX5_lent_127 ?_
      exact r_iret X hW rfl rfl hf dX5_lent_128
    · have hf := ie_e hf c4
      refine lv_ldc (v := (-1000000000)) hx hb hown (hts _ (List.mem_of_getElem? (i := 3) rfl)) dX5_lent_24 ?_
      refine lv_iload_n hx hb dX5_lent_26 rfl (lv_at hl 0 rfl) ?_
      refine lv_iadd hx hb dX5_lent_27 ?_
      exact r_iret X hW rfl rfl hf dX5_lent_28
  · have hf := it_e hf c2
    refine lv_ldc (v := (-1000000001)) hx hb hown (hts _ (List.mem_of_getElem? (i := 2) rfl)) dX5_lent_11 ?_
    exact r_iret X hW rfl rfl hf dX5_lent_13

abbrev rm_X5_gone : Room := { frames := 1, cells := 0, slots := 0, locals := 23 }
theorem hd_X5_gone : yX5_gone.cls = RX5 ∧ yX5_gone.cls ≠ "java/lang/invoke/MethodHandle" ∧ yX5_gone.cls ≠ "java/lang/invoke/VarHandle" ∧ (parseMethodDescriptor yX5_gone.desc).map (fun d => d.parameters.length) = some 3 := by decide +kernel
section S_X5_gone
variable {p : Program} {l : Launch} {e : Env} {s : State} {m : MethodId} {args : Array Value} {below : List Frame} {meth : Method} {c : Code} {D : va_G} {cA : Nat → ClassId} {ad : Nat → Nat} {r : Int32}
noncomputable def f_X5_gone_32 (k78 : Int32 → Option (Int32)) : Nat → Int32 → Int32 → Int64 → Int64 → Int32 → Option (Int32)
  | 0, _, _, _, _, _ => none
  | n + 1, v1, v3, v4, v6, v8 => (if 12 ≤ v8 then k78 v8 else (if (lg_cmp (100 * v4) (v3.toInt64 * v6)) < 0 then k78 v8 else bnd (f_X5_keepsOf v1) fun r9 => nw (v4 * r9.toInt64 : Int64) fun v110 => nw (v6 * 9 : Int64) fun v111 => nw (v8 + 1 : Int32) fun v112 => f_X5_gone_32 k78 n v1 v3 v110 v111 v112))
set_option maxHeartbeats 4000000 in
set_option maxRecDepth 100000 in
theorem b_X5_gone_32 {σ : St} {k78 : Int32 → Option (Int32)} (X : Cx RX5 wsX5_gone cX5_gone 9 (some .int) D cA ad SC p s m args meth c) (h78 : ∀ (w0 : Int32) (H : Heap) (locs : List Loc) (ls : Array Slot), k78 w0 = some r → Rn D cA ad SC s.heap σ H locs → lv_has ls 9 [(8, .int w0)] → W p l e rm_X5_gone s m args below meth c H locs 0 0 (MQ below (Qi D cA ad SC (r, σ)) args s 0 0 (Aw ad SC)) (F0 m 78 ls [])) : ∀ (n : Nat) (v1 : Int32) (v3 : Int32) (v4 : Int64) (v6 : Int64) (v8 : Int32) (H : Heap) (locs : List Loc) (ls : Array Slot), f_X5_gone_32 k78 n v1 v3 v4 v6 v8 = some r → Rn D cA ad SC s.heap σ H locs → lv_has ls 9 [(1, .int v1), (3, .int v3), (4, .long v4), (6, .long v6), (8, .int v8)] → W p l e rm_X5_gone s m args below meth c H locs 0 0 (MQ below (Qi D cA ad SC (r, σ)) args s 0 0 (Aw ad SC)) (F0 m 32 ls []) := by
  obtain ⟨hx, hb, hml, hown, hts, hr, hlk, hK, hij⟩ := id X
  intro n
  induction n with
  | zero =>
    intro v1 v3 v4 v6 v8 H locs ls hf
    exact nomatch (show (none : Option (Int32)) = some r from hf)
  | succ n ih =>
    intro v1 v3 v4 v6 v8 H locs ls hf hW hl
    rw [f_X5_gone_32] at hf
    refine lv_iload hx hb dX5_gone_32 (lv_at hl 4 rfl) ?_
    refine lv_bipush (v := 12) hx hb dX5_gone_34 (by decide) ?_
    refine lv_icmp_ge (tgt := 78) hx hb dX5_gone_36 (by decide) (fun c7 => ?_) (fun c7 => ?_)
    · have hf := it_e hf c7
      exact h78 v8 _ _ _ hf hW (lv_sub hl [4] rfl)
    · have hf := ie_e hf c7
      refine lv_ldc2 (v := 100) hx hb hown (hts _ (List.mem_of_getElem? (i := 1) rfl)) dX5_gone_39 ?_
      refine lv_lload hx hb dX5_gone_42 (lv_at hl 2 rfl) ?_
      refine lv_lmul hx hb dX5_gone_44 ?_
      refine lv_iload_n hx hb dX5_gone_45 rfl (lv_at hl 1 rfl) ?_
      refine lv_i2l hx hb dX5_gone_46 rfl ?_
      refine lv_lload hx hb dX5_gone_47 (lv_at hl 3 rfl) ?_
      refine lv_lmul hx hb dX5_gone_49 ?_
      refine W.lcmp hx hb dX5_gone_50 ?_
      refine lv_if_lt (tgt := 78) hx hb dX5_gone_51 (by decide) (fun c8 => ?_) (fun c8 => ?_)
      · have hf := it_e hf c8
        exact h78 v8 _ _ _ hf hW (lv_sub hl [4] rfl)
      · have hf := ie_e hf c8
        refine lv_lload hx hb dX5_gone_54 (lv_at hl 2 rfl) ?_
        refine lv_iload_n hx hb dX5_gone_56 rfl (lv_at hl 0 rfl) ?_
        obtain ⟨r9, z9, hf⟩ := bnd_e hf
        refine r_cSiR X hW (c_X5_keepsOf l D cA ad hij σ v1 r9 z9) gX5_gone_X5_keepsOf rfl ⟨rfl, rfl⟩ hd_X5_keepsOf ⟨Nat.le_of_ble_eq_true rfl, Nat.le_of_ble_eq_true rfl⟩ rfl (Nat.le_of_ble_eq_true rfl) hl.1 dX5_gone_57 (fun H locs hW => ?_)
        refine lv_i2l hx hb dX5_gone_60 rfl ?_
        refine lv_lmul hx hb dX5_gone_61 ?_
        obtain ⟨v110, e10, hf⟩ := nw_e hf
        refine tL _ e10 ?_
        refine lv_lstore (lv' := [(4, .long v110), (1, .int v1), (3, .int v3), (6, .long v6), (8, .int v8)]) hx hb dX5_gone_62 hl (by decide) rfl (fun ls hl => ?_)
        refine lv_lload hx hb dX5_gone_64 (lv_at hl 3 rfl) ?_
        refine lv_ldc2 (v := 9) hx hb hown (hts _ (List.mem_of_getElem? (i := 2) rfl)) dX5_gone_66 ?_
        refine lv_lmul hx hb dX5_gone_69 ?_
        obtain ⟨v111, e11, hf⟩ := nw_e hf
        refine tL _ e11 ?_
        refine lv_lstore (lv' := [(6, .long v111), (4, .long v110), (1, .int v1), (3, .int v3), (8, .int v8)]) hx hb dX5_gone_70 hl (by decide) rfl (fun ls hl => ?_)
        obtain ⟨v112, e12, hf⟩ := nw_e hf
        refine lv_iinc (v := v112) (lv' := [(8, .int v112), (6, .long v111), (4, .long v110), (1, .int v1), (3, .int v3)]) hx hb dX5_gone_72 hl (k := 4) rfl (by rw [e12]; rfl) (by decide) rfl (fun ls hl => ?_)
        refine lv_goto (tgt := 32) hx hb dX5_gone_75 (by decide) ?_
        exact ih v1 v3 v110 v111 v112 _ _ _ hf hW (lv_sub hl [3, 4, 2, 1, 0] rfl)
end S_X5_gone
noncomputable def f_X5_gone (a1 : Int32) (a2 : Int32) (a3 : Int32) : Option (Int32) := bnd (f_X5_isNoKind a1) fun r1 => (if r1 = 0 then bnd (f_X5_isNoFigure a2) fun r3 => (if r3 = 0 then bnd (f_X5_isNoHundredth a3) fun r5 => (if r5 = 0 then f_X5_gone_32 (fun (w13_0 : Int32) => some w13_0) fu a1 a3 1 1 0 else some ((-1))) else some ((-1))) else some ((-1)))
set_option maxHeartbeats 4000000 in
set_option maxRecDepth 100000 in
theorem c_X5_gone (l : Launch) (D : va_G) (cA : Nat → ClassId) (ad : Nat → Nat) (hij : Ij ad SC) (σ : St) (a1 : Int32) (a2 : Int32) (a3 : Int32) (r : Int32) (hf : f_X5_gone a1 a2 a3 = some r) : Met l yX5_gone wsX5_gone rm_X5_gone (PC D cA ad SC [.ref (ad 0), .int a1, .int a2, .int a3] σ) (Qi D cA ad SC (r, σ)) 0 0 (Aw ad SC) := by
  rw [f_X5_gone] at hf
  refine k_head (own := RX5) (ws := wsX5_gone) (cc := cX5_gone) (nL := 9) (ret := (some .int)) pn_X5 rfl rfl hij (Nat.le_of_ble_eq_true rfl) (fun p e s m below meth c ls X hW hl => ?_)
  have hl : lv_has ls 9 [(0, .ref (ad 0)), (1, .int a1), (2, .int a2), (3, .int a3)] := hl
  obtain ⟨hx, hb, hml, hown, hts, hr, hlk, hK, hij⟩ := id X
  refine lv_iload_n hx hb dX5_gone_0 rfl (lv_at hl 1 rfl) ?_
  obtain ⟨r1, z1, hf⟩ := bnd_e hf
  refine r_cSiR X hW (c_X5_isNoKind l D cA ad hij σ a1 r1 z1) gX5_gone_X5_isNoKind rfl ⟨rfl, rfl⟩ hd_X5_isNoKind ⟨Nat.le_of_ble_eq_true rfl, Nat.le_of_ble_eq_true rfl⟩ rfl (Nat.le_of_ble_eq_true rfl) hl.1 dX5_gone_1 (fun H locs hW => ?_)
  refine lv_if_ne (tgt := 21) hx hb dX5_gone_4 (by decide) (fun c2 => ?_) (fun c2 => ?_)
  · have hf := ie_e hf c2
    refine lv_iconst (v := (-1)) hx hb dX5_gone_21 (by decide) ?_
    exact r_iretR X hW rfl rfl hf dX5_gone_22
  · have hf := it_e hf c2
    refine lv_iload_n hx hb dX5_gone_7 rfl (lv_at hl 2 rfl) ?_
    obtain ⟨r3, z3, hf⟩ := bnd_e hf
    refine r_cSiR X hW (c_X5_isNoFigure l D cA ad hij σ a2 r3 z3) gX5_gone_X5_isNoFigure rfl ⟨rfl, rfl⟩ hd_X5_isNoFigure ⟨Nat.le_of_ble_eq_true rfl, Nat.le_of_ble_eq_true rfl⟩ rfl (Nat.le_of_ble_eq_true rfl) hl.1 dX5_gone_8 (fun H locs hW => ?_)
    refine lv_if_ne (tgt := 21) hx hb dX5_gone_11 (by decide) (fun c4 => ?_) (fun c4 => ?_)
    · have hf := ie_e hf c4
      refine lv_iconst (v := (-1)) hx hb dX5_gone_21 (by decide) ?_
      exact r_iretR X hW rfl rfl hf dX5_gone_22
    · have hf := it_e hf c4
      refine lv_iload_n hx hb dX5_gone_14 rfl (lv_at hl 3 rfl) ?_
      obtain ⟨r5, z5, hf⟩ := bnd_e hf
      refine r_cSiR X hW (c_X5_isNoHundredth l D cA ad hij σ a3 r5 z5) gX5_gone_X5_isNoHundredth rfl ⟨rfl, rfl⟩ hd_X5_isNoHundredth ⟨Nat.le_of_ble_eq_true rfl, Nat.le_of_ble_eq_true rfl⟩ rfl (Nat.le_of_ble_eq_true rfl) hl.1 dX5_gone_15 (fun H locs hW => ?_)
      refine lv_if_eq (tgt := 23) hx hb dX5_gone_18 (by decide) (fun c6 => ?_) (fun c6 => ?_)
      · have hf := it_e hf c6
        refine lv_lconst (v := 1) hx hb dX5_gone_23 (by decide) ?_
        refine lv_lstore (lv' := [(4, .long 1), (0, .ref (ad 0)), (1, .int a1), (2, .int a2), (3, .int a3)]) hx hb dX5_gone_24 hl (by decide) rfl (fun ls hl => ?_)
        refine lv_lconst (v := 1) hx hb dX5_gone_26 (by decide) ?_
        refine lv_lstore (lv' := [(6, .long 1), (4, .long 1), (0, .ref (ad 0)), (1, .int a1), (2, .int a2), (3, .int a3)]) hx hb dX5_gone_27 hl (by decide) rfl (fun ls hl => ?_)
        refine lv_iconst (v := 0) hx hb dX5_gone_29 (by decide) ?_
        refine lv_istore (lv' := [(8, .int 0), (6, .long 1), (4, .long 1), (0, .ref (ad 0)), (1, .int a1), (2, .int a2), (3, .int a3)]) hx hb dX5_gone_30 hl (by decide) rfl (fun ls hl => ?_)
        refine b_X5_gone_32 X (fun w13_0 H locs ls hf hW hl => ?_) fu a1 a3 1 1 0 _ _ _ hf hW (lv_sub hl [4, 6, 2, 1, 0] rfl)
        · refine lv_iload hx hb dX5_gone_78 (lv_at hl 0 rfl) ?_
          exact r_iretR X hW rfl rfl hf dX5_gone_80
      · have hf := ie_e hf c6
        refine lv_iconst (v := (-1)) hx hb dX5_gone_21 (by decide) ?_
        exact r_iretR X hW rfl rfl hf dX5_gone_22

abbrev rm_X5_seeded : Room := { frames := 2, cells := 0, slots := 0, locals := 49 }
theorem hd_X5_seeded : yX5_seeded.cls = RX5 ∧ yX5_seeded.cls ≠ "java/lang/invoke/MethodHandle" ∧ yX5_seeded.cls ≠ "java/lang/invoke/VarHandle" ∧ (parseMethodDescriptor yX5_seeded.desc).map (fun d => d.parameters.length) = some 3 := by decide +kernel
theorem inX5_seeded_5 : ∀ w ∈ wsX50, w ∈ wsX5_seeded := fun _ h => List.mem_cons_of_mem _ (List.mem_append_left _ (List.mem_append_right _ h))
theorem inX5_seeded_0 : ∀ w ∈ wsX00, w ∈ wsX5_seeded := fun _ h => List.mem_cons_of_mem _ (List.mem_append_right _ h)
section S_X5_seeded
variable {p : Program} {l : Launch} {e : Env} {s : State} {m : MethodId} {args : Array Value} {below : List Frame} {meth : Method} {c : Code} {D : va_G} {cA : Nat → ClassId} {ad : Nat → Nat} {r : Int32 × St}
noncomputable def f_X5_seeded_33 (k86 : Int32 → St → Option (Int32 × St)) : Nat → Int32 → Int32 → Int32 → Int32 → St → Option (Int32 × St)
  | 0, _, _, _, _, _ => none
  | n + 1, v1, v3, v4, v5, σ => (if v1 ≤ v5 then k86 v3 σ else bnd (f_X5_nextSeed v4) fun r7 => bnd (f_X5_drawOf r7) fun r8 => nw (r8 - r8 / 8 * 8 : Int32) fun v109 => bnd (f_X5_nextSeed r7) fun r10 => bnd (f_X5_drawOf r10) fun r11 => bnd (f_X0_takeIn σ 122 v109 (r11 - r11 / 10 * 10)) fun r12 => nw (v5 + 1 : Int32) fun v113 => f_X5_seeded_33 k86 n v1 v3 r10 v113 r12)
set_option maxHeartbeats 4000000 in
set_option maxRecDepth 100000 in
theorem b_X5_seeded_33 {k86 : Int32 → St → Option (Int32 × St)} (X : Cx RX5 wsX5_seeded cX5_seeded 7 (some .int) D cA ad SC p s m args meth c) (h86 : ∀ (w0 : Int32) (σ : St) (H : Heap) (locs : List Loc) (ls : Array Slot), k86 w0 σ = some r → Rn D cA ad SC s.heap σ H locs → lv_has ls 7 [(0, .ref (ad 0)), (3, .int w0)] → W p l e rm_X5_seeded s m args below meth c H locs 0 0 (MQ below (Qi D cA ad SC r) args s 0 0 (Aw ad SC)) (F0 m 86 ls [])) : ∀ (n : Nat) (v1 : Int32) (v3 : Int32) (v4 : Int32) (v5 : Int32) (σ : St) (H : Heap) (locs : List Loc) (ls : Array Slot), f_X5_seeded_33 k86 n v1 v3 v4 v5 σ = some r → Rn D cA ad SC s.heap σ H locs → lv_has ls 7 [(0, .ref (ad 0)), (1, .int v1), (3, .int v3), (4, .int v4), (5, .int v5)] → W p l e rm_X5_seeded s m args below meth c H locs 0 0 (MQ below (Qi D cA ad SC r) args s 0 0 (Aw ad SC)) (F0 m 33 ls []) := by
  obtain ⟨hx, hb, hml, hown, hts, hr, hlk, hK, hij⟩ := id X
  intro n
  induction n with
  | zero =>
    intro v1 v3 v4 v5 σ H locs ls hf
    exact nomatch (show (none : Option (Int32 × St)) = some r from hf)
  | succ n ih =>
    intro v1 v3 v4 v5 σ H locs ls hf hW hl
    rw [f_X5_seeded_33] at hf
    refine lv_iload hx hb dX5_seeded_33 (lv_at hl 4 rfl) ?_
    refine lv_iload_n hx hb dX5_seeded_35 rfl (lv_at hl 1 rfl) ?_
    refine lv_icmp_ge (tgt := 86) hx hb dX5_seeded_36 (by decide) (fun c6 => ?_) (fun c6 => ?_)
    · have hf := it_e hf c6
      exact h86 v3 σ _ _ _ hf hW (lv_sub hl [0, 2] rfl)
    · have hf := ie_e hf c6
      refine lv_iload hx hb dX5_seeded_39 (lv_at hl 3 rfl) ?_
      obtain ⟨r7, z7, hf⟩ := bnd_e hf
      refine r_cSiR X hW (c_X5_nextSeed l D cA ad hij σ v4 r7 z7) gX5_seeded_X5_nextSeed rfl ⟨rfl, rfl⟩ hd_X5_nextSeed ⟨Nat.le_of_ble_eq_true rfl, Nat.le_of_ble_eq_true rfl⟩ rfl (Nat.le_of_ble_eq_true rfl) hl.1 dX5_seeded_41 (fun H locs hW => ?_)
      refine lv_istore (lv' := [(4, .int r7), (0, .ref (ad 0)), (1, .int v1), (3, .int v3), (5, .int v5)]) hx hb dX5_seeded_44 hl (by decide) rfl (fun ls hl => ?_)
      refine lv_iload hx hb dX5_seeded_46 (lv_at hl 0 rfl) ?_
      obtain ⟨r8, z8, hf⟩ := bnd_e hf
      refine r_cSiR X hW (c_X5_drawOf l D cA ad hij σ r7 r8 z8) gX5_seeded_X5_drawOf rfl ⟨rfl, rfl⟩ hd_X5_drawOf ⟨Nat.le_of_ble_eq_true rfl, Nat.le_of_ble_eq_true rfl⟩ rfl (Nat.le_of_ble_eq_true rfl) hl.1 dX5_seeded_48 (fun H locs hW => ?_)
      refine lv_bipush (v := 8) hx hb dX5_seeded_51 (by decide) ?_
      refine lv_irem hx hb dX5_seeded_53 (by decide) ?_
      obtain ⟨v109, e9, hf⟩ := nw_e hf
      refine tI _ e9 ?_
      refine lv_istore (lv' := [(6, .int v109), (4, .int r7), (0, .ref (ad 0)), (1, .int v1), (3, .int v3), (5, .int v5)]) hx hb dX5_seeded_54 hl (by decide) rfl (fun ls hl => ?_)
      refine lv_iload hx hb dX5_seeded_56 (lv_at hl 1 rfl) ?_
      obtain ⟨r10, z10, hf⟩ := bnd_e hf
      refine r_cSiR X hW (c_X5_nextSeed l D cA ad hij σ r7 r10 z10) gX5_seeded_X5_nextSeed rfl ⟨rfl, rfl⟩ hd_X5_nextSeed ⟨Nat.le_of_ble_eq_true rfl, Nat.le_of_ble_eq_true rfl⟩ rfl (Nat.le_of_ble_eq_true rfl) hl.1 dX5_seeded_58 (fun H locs hW => ?_)
      refine lv_istore (lv' := [(4, .int r10), (6, .int v109), (0, .ref (ad 0)), (1, .int v1), (3, .int v3), (5, .int v5)]) hx hb dX5_seeded_61 hl (by decide) rfl (fun ls hl => ?_)
      refine lv_aload_n hx hb dX5_seeded_63 rfl (lv_at hl 2 rfl) ?_
      refine get_5_5 X hW kC_0 iC_0 inX5_seeded_5 (List.mem_of_getElem? (i := 1) rfl) dX5_seeded_64 ?_
      refine lv_iload hx hb dX5_seeded_67 (lv_at hl 1 rfl) ?_
      refine lv_iload hx hb dX5_seeded_69 (lv_at hl 0 rfl) ?_
      obtain ⟨r11, z11, hf⟩ := bnd_e hf
      refine r_cSiR X hW (c_X5_drawOf l D cA ad hij σ r10 r11 z11) gX5_seeded_X5_drawOf rfl ⟨rfl, rfl⟩ hd_X5_drawOf ⟨Nat.le_of_ble_eq_true rfl, Nat.le_of_ble_eq_true rfl⟩ rfl (Nat.le_of_ble_eq_true rfl) hl.1 dX5_seeded_71 (fun H locs hW => ?_)
      refine lv_bipush (v := 10) hx hb dX5_seeded_74 (by decide) ?_
      refine lv_irem hx hb dX5_seeded_76 (by decide) ?_
      obtain ⟨r12, z12, hf⟩ := bnd_e hf
      refine r_cVv X hW kC_122 iC_122 rfl (c_X0_takeIn l D cA ad hij σ 122 v109 (r11 - r11 / 10 * 10) r12 z12) gX5_seeded_X0_takeIn rfl ⟨rfl, rfl⟩ hd_X0_takeIn ⟨Nat.le_of_ble_eq_true rfl, Nat.le_of_ble_eq_true rfl⟩ rfl (Nat.le_of_ble_eq_true rfl) hl.1 dX5_seeded_77 (fun H locs hW => ?_)
      obtain ⟨v113, e13, hf⟩ := nw_e hf
      refine lv_iinc (v := v113) (lv' := [(5, .int v113), (4, .int r10), (6, .int v109), (0, .ref (ad 0)), (1, .int v1), (3, .int v3)]) hx hb dX5_seeded_80 hl (k := 5) rfl (by rw [e13]; rfl) (by decide) rfl (fun ls hl => ?_)
      refine lv_goto (tgt := 33) hx hb dX5_seeded_83 (by decide) ?_
      exact ih v1 v3 r10 v113 r12 _ _ _ hf hW (lv_sub hl [3, 4, 5, 1, 0] rfl)
end S_X5_seeded
noncomputable def f_X5_seeded (σ : St) (a1 : Int32) (a2 : Int32) (a3 : Int32) : Option (Int32 × St) := (if a1 < 1 then some ((-1), σ) else (if 12 < a1 then some ((-1), σ) else bnd (f_X5_isNoTaste a3) fun r3 => (if r3 = 0 then bnd (f_X0_clear σ 122) fun r5 => f_X5_seeded_33 (fun (w14_0 : Int32) (σ15 : St) => bnd (f_X0_portionOf σ15 122 w14_0) fun r16 => some (r16, σ15)) fu a1 a3 a2 0 r5 else some ((-1), σ))))
set_option maxHeartbeats 4000000 in
set_option maxRecDepth 100000 in
theorem c_X5_seeded (l : Launch) (D : va_G) (cA : Nat → ClassId) (ad : Nat → Nat) (hij : Ij ad SC) (σ : St) (a1 : Int32) (a2 : Int32) (a3 : Int32) (r : Int32 × St) (hf : f_X5_seeded σ a1 a2 a3 = some r) : Met l yX5_seeded wsX5_seeded rm_X5_seeded (PC D cA ad SC [.ref (ad 0), .int a1, .int a2, .int a3] σ) (Qi D cA ad SC r) 0 0 (Aw ad SC) := by
  rw [f_X5_seeded] at hf
  refine k_head (own := RX5) (ws := wsX5_seeded) (cc := cX5_seeded) (nL := 7) (ret := (some .int)) pn_X5 rfl rfl hij (Nat.le_of_ble_eq_true rfl) (fun p e s m below meth c ls X hW hl => ?_)
  have hl : lv_has ls 7 [(0, .ref (ad 0)), (1, .int a1), (2, .int a2), (3, .int a3)] := hl
  obtain ⟨hx, hb, hml, hown, hts, hr, hlk, hK, hij⟩ := id X
  refine lv_iload_n hx hb dX5_seeded_0 rfl (lv_at hl 1 rfl) ?_
  refine lv_iconst (v := 1) hx hb dX5_seeded_1 (by decide) ?_
  refine lv_icmp_lt (tgt := 18) hx hb dX5_seeded_2 (by decide) (fun c1 => ?_) (fun c1 => ?_)
  · have hf := it_e hf c1
    refine lv_iconst (v := (-1)) hx hb dX5_seeded_18 (by decide) ?_
    exact r_iret X hW rfl rfl hf dX5_seeded_19
  · have hf := ie_e hf c1
    refine lv_iload_n hx hb dX5_seeded_5 rfl (lv_at hl 1 rfl) ?_
    refine lv_bipush (v := 12) hx hb dX5_seeded_6 (by decide) ?_
    refine lv_icmp_gt (tgt := 18) hx hb dX5_seeded_8 (by decide) (fun c2 => ?_) (fun c2 => ?_)
    · have hf := it_e hf c2
      refine lv_iconst (v := (-1)) hx hb dX5_seeded_18 (by decide) ?_
      exact r_iret X hW rfl rfl hf dX5_seeded_19
    · have hf := ie_e hf c2
      refine lv_iload_n hx hb dX5_seeded_11 rfl (lv_at hl 3 rfl) ?_
      obtain ⟨r3, z3, hf⟩ := bnd_e hf
      refine r_cSiR X hW (c_X5_isNoTaste l D cA ad hij σ a3 r3 z3) gX5_seeded_X5_isNoTaste rfl ⟨rfl, rfl⟩ hd_X5_isNoTaste ⟨Nat.le_of_ble_eq_true rfl, Nat.le_of_ble_eq_true rfl⟩ rfl (Nat.le_of_ble_eq_true rfl) hl.1 dX5_seeded_12 (fun H locs hW => ?_)
      refine lv_if_eq (tgt := 20) hx hb dX5_seeded_15 (by decide) (fun c4 => ?_) (fun c4 => ?_)
      · have hf := it_e hf c4
        refine lv_aload_n hx hb dX5_seeded_20 rfl (lv_at hl 0 rfl) ?_
        refine get_5_5 X hW kC_0 iC_0 inX5_seeded_5 (List.mem_of_getElem? (i := 1) rfl) dX5_seeded_21 ?_
        obtain ⟨r5, z5, hf⟩ := bnd_e hf
        refine r_cVv X hW kC_122 iC_122 rfl (c_X0_clear l D cA ad hij σ 122 r5 z5) gX5_seeded_X0_clear rfl ⟨rfl, rfl⟩ hd_X0_clear ⟨Nat.le_of_ble_eq_true rfl, Nat.le_of_ble_eq_true rfl⟩ rfl (Nat.le_of_ble_eq_true rfl) hl.1 dX5_seeded_24 (fun H locs hW => ?_)
        refine lv_iload_n hx hb dX5_seeded_27 rfl (lv_at hl 2 rfl) ?_
        refine lv_istore (lv' := [(4, .int a2), (0, .ref (ad 0)), (1, .int a1), (2, .int a2), (3, .int a3)]) hx hb dX5_seeded_28 hl (by decide) rfl (fun ls hl => ?_)
        refine lv_iconst (v := 0) hx hb dX5_seeded_30 (by decide) ?_
        refine lv_istore (lv' := [(5, .int 0), (4, .int a2), (0, .ref (ad 0)), (1, .int a1), (2, .int a2), (3, .int a3)]) hx hb dX5_seeded_31 hl (by decide) rfl (fun ls hl => ?_)
        refine b_X5_seeded_33 X (fun w14_0 σ15 H locs ls hf hW hl => ?_) fu a1 a3 a2 0 r5 _ _ _ hf hW (lv_sub hl [2, 3, 5, 1, 0] rfl)
        · refine lv_aload_n hx hb dX5_seeded_86 rfl (lv_at hl 0 rfl) ?_
          refine get_5_5 X hW kC_0 iC_0 inX5_seeded_5 (List.mem_of_getElem? (i := 1) rfl) dX5_seeded_87 ?_
          refine lv_iload_n hx hb dX5_seeded_90 rfl (lv_at hl 1 rfl) ?_
          obtain ⟨r16, z16, hf⟩ := bnd_e hf
          refine r_cViR X hW kC_122 iC_122 rfl (c_X0_portionOf l D cA ad hij σ15 122 w14_0 r16 z16) gX5_seeded_X0_portionOf rfl ⟨rfl, rfl⟩ hd_X0_portionOf ⟨Nat.le_of_ble_eq_true rfl, Nat.le_of_ble_eq_true rfl⟩ rfl (Nat.le_of_ble_eq_true rfl) hl.1 dX5_seeded_91 (fun H locs hW => ?_)
          exact r_iret X hW rfl rfl hf dX5_seeded_94
      · have hf := ie_e hf c4
        refine lv_iconst (v := (-1)) hx hb dX5_seeded_18 (by decide) ?_
        exact r_iret X hW rfl rfl hf dX5_seeded_19

abbrev rm_X5_judge : Room := { frames := 2, cells := 0, slots := 0, locals := 46 }
theorem hd_X5_judge : yX5_judge.cls = RX5 ∧ yX5_judge.cls ≠ "java/lang/invoke/MethodHandle" ∧ yX5_judge.cls ≠ "java/lang/invoke/VarHandle" ∧ (parseMethodDescriptor yX5_judge.desc).map (fun d => d.parameters.length) = some 1 := by decide +kernel
theorem inX5_judge_5 : ∀ w ∈ wsX50, w ∈ wsX5_judge := fun _ h => List.mem_cons_of_mem _ (List.mem_append_left _ (List.mem_append_left _ (List.mem_append_left _ (List.mem_append_left _ (List.mem_append_right _ h)))))
theorem inX5_judge_1 : ∀ w ∈ wsX10, w ∈ wsX5_judge := fun _ h => List.mem_cons_of_mem _ (List.mem_append_left _ (List.mem_append_left _ (List.mem_append_left _ (List.mem_append_right _ h))))
theorem inX5_judge_4 : ∀ w ∈ wsX40, w ∈ wsX5_judge := fun _ h => List.mem_cons_of_mem _ (List.mem_append_left _ (List.mem_append_left _ (List.mem_append_right _ h)))
theorem inX5_judge_3 : ∀ w ∈ wsX30, w ∈ wsX5_judge := fun _ h => List.mem_cons_of_mem _ (List.mem_append_left _ (List.mem_append_right _ h))
theorem inX5_judge_0 : ∀ w ∈ wsX00, w ∈ wsX5_judge := fun _ h => List.mem_cons_of_mem _ (List.mem_append_right _ h)
section S_X5_judge
variable {p : Program} {l : Launch} {e : Env} {s : State} {m : MethodId} {args : Array Value} {below : List Frame} {meth : Method} {c : Code} {D : va_G} {cA : Nat → ClassId} {ad : Nat → Nat} {r : Int32}
noncomputable def f_X5_judge_103 (σ : St) (k50 : Nat → Int32 → Int32 → Int32 → Int32 → Option (Int32)) (v3 : Nat) (v4 : Int32) (v5 : Int32) (v6 : Int32) (v7 : Int32) : Option (Int32) := nw (v7 + 1 : Int32) fun v115 => k50 v3 v4 v5 v6 v115
set_option maxHeartbeats 4000000 in
set_option maxRecDepth 100000 in
theorem b_X5_judge_103 {σ : St} {k50 : Nat → Int32 → Int32 → Int32 → Int32 → Option (Int32)} (X : Cx RX5 wsX5_judge cX5_judge 9 (some .int) D cA ad SC p s m args meth c) (h50 : ∀ (w0 : Nat) (w1 : Int32) (w2 : Int32) (w3 : Int32) (w4 : Int32) (H : Heap) (locs : List Loc) (ls : Array Slot), k50 w0 w1 w2 w3 w4 = some r → Rn D cA ad SC s.heap σ H locs → lv_has ls 9 [(0, .ref (ad 0)), (3, .ref (ad w0)), (4, .int w1), (5, .int w2), (6, .int w3), (7, .int w4)] → W p l e rm_X5_judge s m args below meth c H locs 0 0 (MQ below (Qi D cA ad SC (r, σ)) args s 0 0 (Aw ad SC)) (F0 m 50 ls [])) : ∀ (v3 : Nat) (v4 : Int32) (v5 : Int32) (v6 : Int32) (v7 : Int32) (H : Heap) (locs : List Loc) (ls : Array Slot), f_X5_judge_103 σ k50 v3 v4 v5 v6 v7 = some r → Rn D cA ad SC s.heap σ H locs → lv_has ls 9 [(0, .ref (ad 0)), (3, .ref (ad v3)), (4, .int v4), (5, .int v5), (6, .int v6), (7, .int v7)] → W p l e rm_X5_judge s m args below meth c H locs 0 0 (MQ below (Qi D cA ad SC (r, σ)) args s 0 0 (Aw ad SC)) (F0 m 103 ls []) := by
  obtain ⟨hx, hb, hml, hown, hts, hr, hlk, hK, hij⟩ := id X
  intro v3 v4 v5 v6 v7 H locs ls hf hW hl
  rw [f_X5_judge_103] at hf
  obtain ⟨v115, e15, hf⟩ := nw_e hf
  refine lv_iinc (v := v115) (lv' := [(7, .int v115), (0, .ref (ad 0)), (3, .ref (ad v3)), (4, .int v4), (5, .int v5), (6, .int v6)]) hx hb dX5_judge_103 hl (k := 5) rfl (by rw [e15]; rfl) (by decide) rfl (fun ls hl => ?_)
  refine lv_goto (tgt := 50) hx hb dX5_judge_106 (by decide) ?_
  exact h50 v3 v4 v5 v6 v115 _ _ _ hf hW (lv_sub hl [1, 2, 3, 4, 5, 0] rfl)
noncomputable def f_X5_judge_50 (σ : St) (k100 : Int32 → Option (Int32)) (k109 : Nat → Int32 → Int32 → Option (Int32)) : Nat → Nat → Int32 → Int32 → Int32 → Int32 → Option (Int32)
  | 0, _, _, _, _, _ => none
  | n + 1, v3, v4, v5, v6, v7 => (if v5 ≤ v7 then k109 v3 v4 v5 else chk (kOK SC v3 4) <| chk (aOK SC (v3 + 1) 20 100) <| chk (inb v7 100) <| nw (σ.1 (v3 + 1) v7.toNatClampNeg : Int32) fun v113 => (if v113 = v6 then f_X5_judge_103 σ (fun (w16_0 : Nat) (w17_1 : Int32) (w18_2 : Int32) (w19_3 : Int32) (w20_4 : Int32) => f_X5_judge_50 σ k100 k109 n w16_0 w17_1 w18_2 w19_3 w20_4) v3 v4 v5 v6 v7 else chk (inb (v7 / 4) 6) <| chk (kOK SC (3 + 5 * (v7 / 4).toNatClampNeg) 3) <| chk (kOK SC ((3 + 5 * (v7 / 4).toNatClampNeg) + 1) 0) <| bnd (f_X0_portionOf σ ((3 + 5 * (v7 / 4).toNatClampNeg) + 1) (v7 - v7 / 4 * 4)) fun r23 => (if v113 = r23 then f_X5_judge_103 σ (fun (w26_0 : Nat) (w27_1 : Int32) (w28_2 : Int32) (w29_3 : Int32) (w30_4 : Int32) => f_X5_judge_50 σ k100 k109 n w26_0 w27_1 w28_2 w29_3 w30_4) v3 v4 v5 v6 v7 else k100 v7)))
set_option maxHeartbeats 4000000 in
set_option maxRecDepth 100000 in
theorem b_X5_judge_50 {σ : St} {k100 : Int32 → Option (Int32)} {k109 : Nat → Int32 → Int32 → Option (Int32)} (X : Cx RX5 wsX5_judge cX5_judge 9 (some .int) D cA ad SC p s m args meth c) (h100 : ∀ (w0 : Int32) (H : Heap) (locs : List Loc) (ls : Array Slot), k100 w0 = some r → Rn D cA ad SC s.heap σ H locs → lv_has ls 9 [(7, .int w0)] → W p l e rm_X5_judge s m args below meth c H locs 0 0 (MQ below (Qi D cA ad SC (r, σ)) args s 0 0 (Aw ad SC)) (F0 m 100 ls [])) (h109 : ∀ (w0 : Nat) (w1 : Int32) (w2 : Int32) (H : Heap) (locs : List Loc) (ls : Array Slot), k109 w0 w1 w2 = some r → Rn D cA ad SC s.heap σ H locs → lv_has ls 9 [(3, .ref (ad w0)), (4, .int w1), (5, .int w2)] → W p l e rm_X5_judge s m args below meth c H locs 0 0 (MQ below (Qi D cA ad SC (r, σ)) args s 0 0 (Aw ad SC)) (F0 m 109 ls [])) : ∀ (n : Nat) (v3 : Nat) (v4 : Int32) (v5 : Int32) (v6 : Int32) (v7 : Int32) (H : Heap) (locs : List Loc) (ls : Array Slot), f_X5_judge_50 σ k100 k109 n v3 v4 v5 v6 v7 = some r → Rn D cA ad SC s.heap σ H locs → lv_has ls 9 [(0, .ref (ad 0)), (3, .ref (ad v3)), (4, .int v4), (5, .int v5), (6, .int v6), (7, .int v7)] → W p l e rm_X5_judge s m args below meth c H locs 0 0 (MQ below (Qi D cA ad SC (r, σ)) args s 0 0 (Aw ad SC)) (F0 m 50 ls []) := by
  obtain ⟨hx, hb, hml, hown, hts, hr, hlk, hK, hij⟩ := id X
  intro n
  induction n with
  | zero =>
    intro v3 v4 v5 v6 v7 H locs ls hf
    exact nomatch (show (none : Option (Int32)) = some r from hf)
  | succ n ih =>
    intro v3 v4 v5 v6 v7 H locs ls hf hW hl
    rw [f_X5_judge_50] at hf
    refine lv_iload hx hb dX5_judge_50 (lv_at hl 5 rfl) ?_
    refine lv_iload hx hb dX5_judge_52 (lv_at hl 3 rfl) ?_
    refine lv_icmp_ge (tgt := 109) hx hb dX5_judge_54 (by decide) (fun c9 => ?_) (fun c9 => ?_)
    · have hf := it_e hf c9
      exact h109 v3 v4 v5 _ _ _ hf hW (lv_sub hl [1, 2, 3] rfl)
    · have hf := ie_e hf c9
      refine lv_aload_n hx hb dX5_judge_57 rfl (lv_at hl 1 rfl) ?_
      obtain ⟨q10, hf⟩ := chk_e hf
      obtain ⟨i10, k10⟩ := kOK_e q10
      refine get_4_5 X hW k10 i10 inX5_judge_4 (List.mem_of_getElem? (i := 9) rfl) dX5_judge_58 ?_
      refine lv_iload hx hb dX5_judge_61 (lv_at hl 5 rfl) ?_
      obtain ⟨q11, hf⟩ := chk_e hf
      obtain ⟨i11, k11, n11⟩ := aOK_e q11
      obtain ⟨x12, hf⟩ := chk_e hf
      refine r_iald X hW k11 i11 n11 x12 dX5_judge_63 ?_
      obtain ⟨v113, e13, hf⟩ := nw_e hf
      refine tI _ e13 ?_
      refine lv_istore (lv' := [(8, .int v113), (0, .ref (ad 0)), (3, .ref (ad v3)), (4, .int v4), (5, .int v5), (6, .int v6), (7, .int v7)]) hx hb dX5_judge_64 hl (by decide) rfl (fun ls hl => ?_)
      refine lv_iload hx hb dX5_judge_66 (lv_at hl 0 rfl) ?_
      refine lv_iload hx hb dX5_judge_68 (lv_at hl 5 rfl) ?_
      refine lv_icmp_eq (tgt := 103) hx hb dX5_judge_70 (by decide) (fun c14 => ?_) (fun c14 => ?_)
      · have hf := it_e hf c14
        refine b_X5_judge_103 X (fun w16_0 w17_1 w18_2 w19_3 w20_4 H locs ls hf hW hl => ?_) v3 v4 v5 v6 v7 _ _ _ hf hW (lv_sub hl [1, 2, 3, 4, 5, 6] rfl)
        · exact ih w16_0 w17_1 w18_2 w19_3 w20_4 _ _ _ hf hW (lv_sub hl [0, 1, 2, 3, 4, 5] rfl)
      · have hf := ie_e hf c14
        refine lv_iload hx hb dX5_judge_73 (lv_at hl 0 rfl) ?_
        refine lv_aload_n hx hb dX5_judge_75 rfl (lv_at hl 1 rfl) ?_
        refine get_5_0 X hW kC_0 iC_0 inX5_judge_5 (List.mem_of_getElem? (i := 2) rfl) dX5_judge_76 ?_
        refine get_1_0 X hW kC_1 iC_1 inX5_judge_1 (List.mem_of_getElem? (i := 10) rfl) dX5_judge_79 ?_
        refine lv_iload hx hb dX5_judge_82 (lv_at hl 6 rfl) ?_
        refine lv_iconst (v := 4) hx hb dX5_judge_84 (by decide) ?_
        refine lv_idiv hx hb dX5_judge_85 (by decide) ?_
        obtain ⟨x21, hf⟩ := chk_e hf
        refine r_aald (j := 3 + 5 * (v7 / 4).toNatClampNeg) X hW kC_2 iC_2 nC_2 (by decide) rfl x21 rfl dX5_judge_86 ?_
        obtain ⟨q22, hf⟩ := chk_e hf
        obtain ⟨i22, k22⟩ := kOK_e q22
        refine get_3_0 X hW k22 i22 inX5_judge_3 (List.mem_of_getElem? (i := 11) rfl) dX5_judge_87 ?_
        refine lv_iload hx hb dX5_judge_90 (lv_at hl 6 rfl) ?_
        refine lv_iconst (v := 4) hx hb dX5_judge_92 (by decide) ?_
        refine lv_irem hx hb dX5_judge_93 (by decide) ?_
        obtain ⟨q24, hf⟩ := chk_e hf
        obtain ⟨i24, k24⟩ := kOK_e q24
        obtain ⟨r23, z23, hf⟩ := bnd_e hf
        refine r_cViR X hW k24 i24 rfl (c_X0_portionOf l D cA ad hij σ ((3 + 5 * (v7 / 4).toNatClampNeg) + 1) (v7 - v7 / 4 * 4) r23 z23) gX5_judge_X0_portionOf rfl ⟨rfl, rfl⟩ hd_X0_portionOf ⟨Nat.le_of_ble_eq_true rfl, Nat.le_of_ble_eq_true rfl⟩ rfl (Nat.le_of_ble_eq_true rfl) hl.1 dX5_judge_94 (fun H locs hW => ?_)
        refine lv_icmp_eq (tgt := 103) hx hb dX5_judge_97 (by decide) (fun c25 => ?_) (fun c25 => ?_)
        · have hf := it_e hf c25
          refine b_X5_judge_103 X (fun w26_0 w27_1 w28_2 w29_3 w30_4 H locs ls hf hW hl => ?_) v3 v4 v5 v6 v7 _ _ _ hf hW (lv_sub hl [1, 2, 3, 4, 5, 6] rfl)
          · exact ih w26_0 w27_1 w28_2 w29_3 w30_4 _ _ _ hf hW (lv_sub hl [0, 1, 2, 3, 4, 5] rfl)
        · have hf := ie_e hf c25
          exact h100 v7 _ _ _ hf hW (lv_sub hl [6] rfl)
end S_X5_judge
noncomputable def f_X5_judge (σ : St) (a1 : Int32) : Option (Int32) := bnd (f_X5_rowRefusal σ a1) fun r1 => (if r1 = 0 then chk (inb a1 8) <| nw (126 + 2 * a1.toNatClampNeg : Nat) fun v104 => nw (4 * (σ.1 1 1) : Int32) fun v105 => chk (kOK SC v104 4) <| nw (if (σ.1 v104 4) < v105 then (σ.1 v104 4) else v105 : Int32) fun v107 => bnd (f_X4_leastNumber σ v104) fun r8 => f_X5_judge_50 σ (fun (w31_0 : Int32) => some w31_0) (fun (w32_0 : Nat) (w33_1 : Int32) (w34_2 : Int32) => chk (kOK SC w32_0 4) <| (if (σ.1 w32_0 4) = w33_1 then some ((-4)) else some w34_2)) fu v104 v105 v107 r8 0 else some r1)
set_option maxHeartbeats 4000000 in
set_option maxRecDepth 100000 in
theorem c_X5_judge (l : Launch) (D : va_G) (cA : Nat → ClassId) (ad : Nat → Nat) (hij : Ij ad SC) (σ : St) (a1 : Int32) (r : Int32) (hf : f_X5_judge σ a1 = some r) : Met l yX5_judge wsX5_judge rm_X5_judge (PC D cA ad SC [.ref (ad 0), .int a1] σ) (Qi D cA ad SC (r, σ)) 0 0 (Aw ad SC) := by
  rw [f_X5_judge] at hf
  refine k_head (own := RX5) (ws := wsX5_judge) (cc := cX5_judge) (nL := 9) (ret := (some .int)) pn_X5 rfl rfl hij (Nat.le_of_ble_eq_true rfl) (fun p e s m below meth c ls X hW hl => ?_)
  have hl : lv_has ls 9 [(0, .ref (ad 0)), (1, .int a1)] := hl
  obtain ⟨hx, hb, hml, hown, hts, hr, hlk, hK, hij⟩ := id X
  refine lv_aload_n hx hb dX5_judge_0 rfl (lv_at hl 0 rfl) ?_
  refine lv_iload_n hx hb dX5_judge_1 rfl (lv_at hl 1 rfl) ?_
  obtain ⟨r1, z1, hf⟩ := bnd_e hf
  refine r_cViR X hW kC_0 iC_0 rfl (c_X5_rowRefusal l D cA ad hij σ a1 r1 z1) gX5_judge_X5_rowRefusal rfl ⟨rfl, rfl⟩ hd_X5_rowRefusal ⟨Nat.le_of_ble_eq_true rfl, Nat.le_of_ble_eq_true rfl⟩ rfl (Nat.le_of_ble_eq_true rfl) hl.1 dX5_judge_2 (fun H locs hW => ?_)
  refine lv_istore_n (lv' := [(2, .int r1), (0, .ref (ad 0)), (1, .int a1)]) hx hb dX5_judge_5 rfl hl (by decide) rfl (fun ls hl => ?_)
  refine lv_iload_n hx hb dX5_judge_6 rfl (lv_at hl 0 rfl) ?_
  refine lv_if_eq (tgt := 12) hx hb dX5_judge_7 (by decide) (fun c2 => ?_) (fun c2 => ?_)
  · have hf := it_e hf c2
    refine lv_aload_n hx hb dX5_judge_12 rfl (lv_at hl 1 rfl) ?_
    refine get_5_7 X hW kC_0 iC_0 inX5_judge_5 (List.mem_of_getElem? (i := 1) rfl) dX5_judge_13 ?_
    refine lv_iload_n hx hb dX5_judge_16 rfl (lv_at hl 2 rfl) ?_
    obtain ⟨x3, hf⟩ := chk_e hf
    refine r_aald (j := 126 + 2 * a1.toNatClampNeg) X hW kC_125 iC_125 nC_125 (by decide) rfl x3 rfl dX5_judge_17 ?_
    obtain ⟨v104, e4, hf⟩ := nw_e hf
    refine tR _ e4 ?_
    refine lv_astore_n (lv' := [(3, .ref (ad v104)), (2, .int r1), (0, .ref (ad 0)), (1, .int a1)]) hx hb dX5_judge_18 rfl hl (by decide) rfl (fun ls hl => ?_)
    refine lv_iconst (v := 4) hx hb dX5_judge_19 (by decide) ?_
    refine lv_aload_n hx hb dX5_judge_20 rfl (lv_at hl 2 rfl) ?_
    refine get_5_0 X hW kC_0 iC_0 inX5_judge_5 (List.mem_of_getElem? (i := 2) rfl) dX5_judge_21 ?_
    refine get_1_1 X hW kC_1 iC_1 inX5_judge_1 (List.mem_of_getElem? (i := 3) rfl) dX5_judge_24 ?_
    refine lv_imul hx hb dX5_judge_27 ?_
    obtain ⟨v105, e5, hf⟩ := nw_e hf
    refine tI _ e5 ?_
    refine lv_istore (lv' := [(4, .int v105), (3, .ref (ad v104)), (2, .int r1), (0, .ref (ad 0)), (1, .int a1)]) hx hb dX5_judge_28 hl (by decide) rfl (fun ls hl => ?_)
    refine lv_iload hx hb dX5_judge_30 (lv_at hl 0 rfl) ?_
    refine lv_aload_n hx hb dX5_judge_32 rfl (lv_at hl 1 rfl) ?_
    obtain ⟨q6, hf⟩ := chk_e hf
    obtain ⟨i6, k6⟩ := kOK_e q6
    refine get_4_4 X hW k6 i6 inX5_judge_4 (List.mem_of_getElem? (i := 4) rfl) dX5_judge_33 ?_
    obtain ⟨v107, e7, hf⟩ := nw_e hf
    refine r_min X hl.1 (List.mem_of_getElem? (i := 5) rfl) (List.mem_of_getElem? (i := 6) rfl) (List.mem_of_getElem? (i := 7) rfl) (List.mem_of_getElem? (i := 8) rfl) ⟨Nat.le_of_ble_eq_true rfl, Nat.le_of_ble_eq_true rfl⟩ dX5_judge_36 ?_
    refine tI _ e7 ?_
    refine lv_istore (lv' := [(5, .int v107), (4, .int v105), (3, .ref (ad v104)), (2, .int r1), (0, .ref (ad 0)), (1, .int a1)]) hx hb dX5_judge_39 hl (by decide) rfl (fun ls hl => ?_)
    refine lv_aload_n hx hb dX5_judge_41 rfl (lv_at hl 2 rfl) ?_
    obtain ⟨r8, z8, hf⟩ := bnd_e hf
    refine r_cViR X hW k6 i6 rfl (c_X4_leastNumber l D cA ad hij σ v104 r8 z8) gX5_judge_X4_leastNumber rfl ⟨rfl, rfl⟩ hd_X4_leastNumber ⟨Nat.le_of_ble_eq_true rfl, Nat.le_of_ble_eq_true rfl⟩ rfl (Nat.le_of_ble_eq_true rfl) hl.1 dX5_judge_42 (fun H locs hW => ?_)
    refine lv_istore (lv' := [(6, .int r8), (5, .int v107), (4, .int v105), (3, .ref (ad v104)), (2, .int r1), (0, .ref (ad 0)), (1, .int a1)]) hx hb dX5_judge_45 hl (by decide) rfl (fun ls hl => ?_)
    refine lv_iconst (v := 0) hx hb dX5_judge_47 (by decide) ?_
    refine lv_istore (lv' := [(7, .int 0), (6, .int r8), (5, .int v107), (4, .int v105), (3, .ref (ad v104)), (2, .int r1), (0, .ref (ad 0)), (1, .int a1)]) hx hb dX5_judge_48 hl (by decide) rfl (fun ls hl => ?_)
    refine b_X5_judge_50 X (fun w31_0 H locs ls hf hW hl => ?_) (fun w32_0 w33_1 w34_2 H locs ls hf hW hl => ?_) fu v104 v105 v107 r8 0 _ _ _ hf hW (lv_sub hl [6, 4, 3, 2, 1, 0] rfl)
    · refine lv_iload hx hb dX5_judge_100 (lv_at hl 0 rfl) ?_
      exact r_iretR X hW rfl rfl hf dX5_judge_102
    · refine lv_aload_n hx hb dX5_judge_109 rfl (lv_at hl 0 rfl) ?_
      obtain ⟨q35, hf⟩ := chk_e hf
      obtain ⟨i35, k35⟩ := kOK_e q35
      refine get_4_4 X hW k35 i35 inX5_judge_4 (List.mem_of_getElem? (i := 4) rfl) dX5_judge_110 ?_
      refine lv_iload hx hb dX5_judge_113 (lv_at hl 1 rfl) ?_
      refine lv_icmp_ne (tgt := 123) hx hb dX5_judge_115 (by decide) (fun c36 => ?_) (fun c36 => ?_)
      · have hf := ie_e hf c36
        refine lv_iload hx hb dX5_judge_123 (lv_at hl 2 rfl) ?_
        exact r_iretR X hW rfl rfl hf dX5_judge_125
      · have hf := it_e hf c36
        refine lv_bipush (v := (-4)) hx hb dX5_judge_118 (by decide) ?_
        refine lv_goto (tgt := 125) hx hb dX5_judge_120 (by decide) ?_
        exact r_iretR X hW rfl rfl hf dX5_judge_125
  · have hf := ie_e hf c2
    refine lv_iload_n hx hb dX5_judge_10 rfl (lv_at hl 0 rfl) ?_
    exact r_iretR X hW rfl rfl hf dX5_judge_11

abbrev rm_X5_image : Room := { frames := 3, cells := 0, slots := 0, locals := 123 }
theorem hd_X5_image : yX5_image.cls = RX5 ∧ yX5_image.cls ≠ "java/lang/invoke/MethodHandle" ∧ yX5_image.cls ≠ "java/lang/invoke/VarHandle" ∧ (parseMethodDescriptor yX5_image.desc).map (fun d => d.parameters.length) = some 0 := by decide +kernel
theorem inX5_image_5 : ∀ w ∈ wsX50, w ∈ wsX5_image := fun _ h => List.mem_cons_of_mem _ (List.mem_append_left _ (List.mem_append_left _ (List.mem_append_left _ (List.mem_append_right _ h))))
theorem inX5_image_1 : ∀ w ∈ wsX10, w ∈ wsX5_image := fun _ h => List.mem_cons_of_mem _ (List.mem_append_left _ (List.mem_append_left _ (List.mem_append_right _ h)))
theorem inX5_image_3 : ∀ w ∈ wsX30, w ∈ wsX5_image := fun _ h => List.mem_cons_of_mem _ (List.mem_append_left _ (List.mem_append_right _ h))
theorem inX5_image_0 : ∀ w ∈ wsX00, w ∈ wsX5_image := fun _ h => List.mem_cons_of_mem _ (List.mem_append_right _ h)
section S_X5_image
variable {p : Program} {l : Launch} {e : Env} {s : State} {m : MethodId} {args : Array Value} {below : List Frame} {meth : Method} {c : Code} {D : va_G} {cA : Nat → ClassId} {ad : Nat → Nat} {r : Int32 × St}
end S_X5_image
noncomputable def f_X5_image (σ : St) : Option (Int32 × St) := bnd (f_X1_become σ 65 1) fun r1 => nw (uI r1 0 3 1) fun σ2 => some (σ2.1 1 1, σ2)
set_option maxHeartbeats 4000000 in
set_option maxRecDepth 100000 in
theorem c_X5_image (l : Launch) (D : va_G) (cA : Nat → ClassId) (ad : Nat → Nat) (hij : Ij ad SC) (σ : St) (r : Int32 × St) (hf : f_X5_image σ = some r) : Met l yX5_image wsX5_image rm_X5_image (PC D cA ad SC [.ref (ad 0)] σ) (Qi D cA ad SC r) 0 0 (Aw ad SC) := by
  rw [f_X5_image] at hf
  refine k_head (own := RX5) (ws := wsX5_image) (cc := cX5_image) (nL := 1) (ret := (some .int)) pn_X5 rfl rfl hij (Nat.le_of_ble_eq_true rfl) (fun p e s m below meth c ls X hW hl => ?_)
  have hl : lv_has ls 1 [(0, .ref (ad 0))] := hl
  obtain ⟨hx, hb, hml, hown, hts, hr, hlk, hK, hij⟩ := id X
  refine lv_aload_n hx hb dX5_image_0 rfl (lv_at hl 0 rfl) ?_
  refine get_5_2 X hW kC_0 iC_0 inX5_image_5 (List.mem_of_getElem? (i := 1) rfl) dX5_image_1 ?_
  refine lv_aload_n hx hb dX5_image_4 rfl (lv_at hl 0 rfl) ?_
  refine get_5_0 X hW kC_0 iC_0 inX5_image_5 (List.mem_of_getElem? (i := 2) rfl) dX5_image_5 ?_
  obtain ⟨r1, z1, hf⟩ := bnd_e hf
  refine r_cVv X hW kC_65 iC_65 rfl (c_X1_become l D cA ad hij σ 65 1 r1 z1) gX5_image_X1_become rfl ⟨rfl, rfl⟩ hd_X1_become ⟨Nat.le_of_ble_eq_true rfl, Nat.le_of_ble_eq_true rfl⟩ rfl (Nat.le_of_ble_eq_true rfl) hl.1 dX5_image_8 (fun H locs hW => ?_)
  refine lv_aload_n hx hb dX5_image_11 rfl (lv_at hl 0 rfl) ?_
  refine lv_iconst (v := 1) hx hb dX5_image_12 (by decide) ?_
  obtain ⟨σ2, e2, hf⟩ := nw_e hf
  refine put_5_3 X hW kC_0 iC_0 inX5_image_5 (List.mem_of_getElem? (i := 3) rfl) (by decide) e2 dX5_image_13 (fun H locs hW => ?_)
  refine lv_aload_n hx hb dX5_image_16 rfl (lv_at hl 0 rfl) ?_
  refine get_5_0 X hW kC_0 iC_0 inX5_image_5 (List.mem_of_getElem? (i := 2) rfl) dX5_image_17 ?_
  refine get_1_1 X hW kC_1 iC_1 inX5_image_1 (List.mem_of_getElem? (i := 4) rfl) dX5_image_20 ?_
  exact r_iret X hW rfl rfl hf dX5_image_23

abbrev rm_X5_restore : Room := { frames := 3, cells := 0, slots := 0, locals := 123 }
theorem hd_X5_restore : yX5_restore.cls = RX5 ∧ yX5_restore.cls ≠ "java/lang/invoke/MethodHandle" ∧ yX5_restore.cls ≠ "java/lang/invoke/VarHandle" ∧ (parseMethodDescriptor yX5_restore.desc).map (fun d => d.parameters.length) = some 0 := by decide +kernel
theorem inX5_restore_5 : ∀ w ∈ wsX50, w ∈ wsX5_restore := fun _ h => List.mem_cons_of_mem _ (List.mem_append_left _ (List.mem_append_left _ (List.mem_append_left _ (List.mem_append_right _ h))))
theorem inX5_restore_1 : ∀ w ∈ wsX10, w ∈ wsX5_restore := fun _ h => List.mem_cons_of_mem _ (List.mem_append_left _ (List.mem_append_left _ (List.mem_append_right _ h)))
theorem inX5_restore_3 : ∀ w ∈ wsX30, w ∈ wsX5_restore := fun _ h => List.mem_cons_of_mem _ (List.mem_append_left _ (List.mem_append_right _ h))
theorem inX5_restore_0 : ∀ w ∈ wsX00, w ∈ wsX5_restore := fun _ h => List.mem_cons_of_mem _ (List.mem_append_right _ h)
section S_X5_restore
variable {p : Program} {l : Launch} {e : Env} {s : State} {m : MethodId} {args : Array Value} {below : List Frame} {meth : Method} {c : Code} {D : va_G} {cA : Nat → ClassId} {ad : Nat → Nat} {r : Int32 × St}
end S_X5_restore
noncomputable def f_X5_restore (σ : St) : Option (Int32 × St) := (if (σ.1 0 3) = 0 then some ((-3), σ) else bnd (f_X1_become σ 1 65) fun r2 => some (r2.1 1 1, r2))
set_option maxHeartbeats 4000000 in
set_option maxRecDepth 100000 in
theorem c_X5_restore (l : Launch) (D : va_G) (cA : Nat → ClassId) (ad : Nat → Nat) (hij : Ij ad SC) (σ : St) (r : Int32 × St) (hf : f_X5_restore σ = some r) : Met l yX5_restore wsX5_restore rm_X5_restore (PC D cA ad SC [.ref (ad 0)] σ) (Qi D cA ad SC r) 0 0 (Aw ad SC) := by
  rw [f_X5_restore] at hf
  refine k_head (own := RX5) (ws := wsX5_restore) (cc := cX5_restore) (nL := 1) (ret := (some .int)) pn_X5 rfl rfl hij (Nat.le_of_ble_eq_true rfl) (fun p e s m below meth c ls X hW hl => ?_)
  have hl : lv_has ls 1 [(0, .ref (ad 0))] := hl
  obtain ⟨hx, hb, hml, hown, hts, hr, hlk, hK, hij⟩ := id X
  refine lv_aload_n hx hb dX5_restore_0 rfl (lv_at hl 0 rfl) ?_
  refine get_5_3 X hW kC_0 iC_0 inX5_restore_5 (List.mem_of_getElem? (i := 1) rfl) dX5_restore_1 ?_
  refine lv_if_ne (tgt := 10) hx hb dX5_restore_4 (by decide) (fun c1 => ?_) (fun c1 => ?_)
  · have hf := ie_e hf c1
    refine lv_aload_n hx hb dX5_restore_10 rfl (lv_at hl 0 rfl) ?_
    refine get_5_0 X hW kC_0 iC_0 inX5_restore_5 (List.mem_of_getElem? (i := 2) rfl) dX5_restore_11 ?_
    refine lv_aload_n hx hb dX5_restore_14 rfl (lv_at hl 0 rfl) ?_
    refine get_5_2 X hW kC_0 iC_0 inX5_restore_5 (List.mem_of_getElem? (i := 3) rfl) dX5_restore_15 ?_
    obtain ⟨r2, z2, hf⟩ := bnd_e hf
    refine r_cVv X hW kC_1 iC_1 rfl (c_X1_become l D cA ad hij σ 1 65 r2 z2) gX5_restore_X1_become rfl ⟨rfl, rfl⟩ hd_X1_become ⟨Nat.le_of_ble_eq_true rfl, Nat.le_of_ble_eq_true rfl⟩ rfl (Nat.le_of_ble_eq_true rfl) hl.1 dX5_restore_18 (fun H locs hW => ?_)
    refine lv_aload_n hx hb dX5_restore_21 rfl (lv_at hl 0 rfl) ?_
    refine get_5_0 X hW kC_0 iC_0 inX5_restore_5 (List.mem_of_getElem? (i := 2) rfl) dX5_restore_22 ?_
    refine get_1_1 X hW kC_1 iC_1 inX5_restore_1 (List.mem_of_getElem? (i := 4) rfl) dX5_restore_25 ?_
    exact r_iret X hW rfl rfl hf dX5_restore_28
  · have hf := it_e hf c1
    refine lv_bipush (v := (-3)) hx hb dX5_restore_7 (by decide) ?_
    exact r_iret X hW rfl rfl hf dX5_restore_9
