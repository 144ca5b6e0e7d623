abbrev rm_X6_count : Room := { frames := 1, cells := 0, slots := 0, locals := 24 }
theorem hd_X6_count : yX6_count.cls = RX6 ∧ yX6_count.cls ≠ "java/lang/invoke/MethodHandle" ∧ yX6_count.cls ≠ "java/lang/invoke/VarHandle" ∧ (parseMethodDescriptor yX6_count.desc).map (fun d => d.parameters.length) = some 1 := by decide +kernel
theorem inX6_count_6 : ∀ w ∈ wsX60, w ∈ wsX6_count := fun _ h => List.mem_cons_of_mem _ (List.mem_append_right _ h)
section S_X6_count
variable {p : Program} {l : Launch} {e : Env} {s : State} {m : MethodId} {args : Array Value} {below : List Frame} {meth : Method} {c : Code} {D : va_G} {cA : Nat → ClassId} {ad : Nat → Nat} {r : Int32 × St}
noncomputable def f_X6_count_92 (k56 : Int32 → Int32 → Int32 → Int32 → Int32 → Int32 → St → Option (Int32 × St)) (v1 : Int32) (v2 : Int32) (v3 : Int32) (v5 : Int32) (v6 : Int32) (s0 : Int32) (s1 : Int32) (σ : St) : Option (Int32 × St) := nw (s0 + s1 : Int32) fun v112 => nw (v6 + 1 : Int32) fun v113 => k56 v1 v2 v3 v112 v5 v113 σ
set_option maxHeartbeats 4000000 in
set_option maxRecDepth 100000 in
theorem b_X6_count_92 {k56 : Int32 → Int32 → Int32 → Int32 → Int32 → Int32 → St → Option (Int32 × St)} (X : Cx RX6 wsX6_count cX6_count 7 (some .int) D cA ad SM p s m args meth c) (h56 : ∀ (w0 : Int32) (w1 : Int32) (w2 : Int32) (w3 : Int32) (w4 : Int32) (w5 : Int32) (σ : St) (H : Heap) (locs : List Loc) (ls : Array Slot), k56 w0 w1 w2 w3 w4 w5 σ = some r → Rn D cA ad SM s.heap σ H locs → lv_has ls 7 [(0, .ref (ad 0)), (1, .int w0), (2, .int w1), (3, .int w2), (4, .int w3), (5, .int w4), (6, .int w5)] → W p l e rm_X6_count s m args below meth c H locs 0 0 (MQ below (Qi D cA ad SM r) args s 0 0 (Aw ad SM)) (F0 m 56 ls [])) : ∀ (v1 : Int32) (v2 : Int32) (v3 : Int32) (v5 : Int32) (v6 : Int32) (s0 : Int32) (s1 : Int32) (σ : St) (H : Heap) (locs : List Loc) (ls : Array Slot), f_X6_count_92 k56 v1 v2 v3 v5 v6 s0 s1 σ = some r → Rn D cA ad SM s.heap σ H locs → lv_has ls 7 [(0, .ref (ad 0)), (1, .int v1), (2, .int v2), (3, .int v3), (5, .int v5), (6, .int v6)] → W p l e rm_X6_count s m args below meth c H locs 0 0 (MQ below (Qi D cA ad SM r) args s 0 0 (Aw ad SM)) (F0 m 92 ls [.int s1, .int s0]) := by
  obtain ⟨hx, hb, hml, hown, hts, hr, hlk, hK, hij⟩ := id X
  intro v1 v2 v3 v5 v6 s0 s1 σ H locs ls hf hW hl
  rw [f_X6_count_92] at hf
  refine lv_iadd hx hb dX6_count_92 ?_
  obtain ⟨v112, e12, hf⟩ := nw_e hf
  refine tI _ e12 ?_
  refine lv_istore (lv' := [(4, .int v112), (0, .ref (ad 0)), (1, .int v1), (2, .int v2), (3, .int v3), (5, .int v5), (6, .int v6)]) hx hb dX6_count_93 hl (by decide) rfl (fun ls hl => ?_)
  obtain ⟨v113, e13, hf⟩ := nw_e hf
  refine lv_iinc (v := v113) (lv' := [(6, .int v113), (4, .int v112), (0, .ref (ad 0)), (1, .int v1), (2, .int v2), (3, .int v3), (5, .int v5)]) hx hb dX6_count_95 hl (k := 6) rfl (by rw [e13]; rfl) (by decide) rfl (fun ls hl => ?_)
  refine lv_goto (tgt := 56) hx hb dX6_count_98 (by decide) ?_
  exact h56 v1 v2 v3 v112 v5 v113 σ _ _ _ hf hW (lv_sub hl [2, 3, 4, 5, 1, 6, 0] rfl)
noncomputable def f_X6_count_56 (k101 : Int32 → Int32 → Int32 → Int32 → Int32 → St → Option (Int32 × St)) : Nat → Int32 → Int32 → Int32 → Int32 → Int32 → Int32 → St → Option (Int32 × St)
  | 0, _, _, _, _, _, _, _ => none
  | n + 1, v1, v2, v3, v4, v5, v6, σ => chk (inb v5 7) <| (if (σ.1 2 v5.toNatClampNeg) ≤ v6 then k101 v1 v2 v3 v4 v5 σ else chk (inb ((12 * v5) + v6) 84) <| (if (σ.1 3 ((12 * v5) + v6).toNatClampNeg) = 4 then f_X6_count_92 (fun (w21_0 : Int32) (w22_1 : Int32) (w23_2 : Int32) (w24_3 : Int32) (w25_4 : Int32) (w26_5 : Int32) (σ27 : St) => f_X6_count_56 k101 n w21_0 w22_1 w23_2 w24_3 w25_4 w26_5 σ27) v1 v2 v3 v5 v6 v4 1 σ else f_X6_count_92 (fun (w14_0 : Int32) (w15_1 : Int32) (w16_2 : Int32) (w17_3 : Int32) (w18_4 : Int32) (w19_5 : Int32) (σ20 : St) => f_X6_count_56 k101 n w14_0 w15_1 w16_2 w17_3 w18_4 w19_5 σ20) v1 v2 v3 v5 v6 v4 0 σ))
set_option maxHeartbeats 4000000 in
set_option maxRecDepth 100000 in
theorem b_X6_count_56 {k101 : Int32 → Int32 → Int32 → Int32 → Int32 → St → Option (Int32 × St)} (X : Cx RX6 wsX6_count cX6_count 7 (some .int) D cA ad SM p s m args meth c) (h101 : ∀ (w0 : Int32) (w1 : Int32) (w2 : Int32) (w3 : Int32) (w4 : Int32) (σ : St) (H : Heap) (locs : List Loc) (ls : Array Slot), k101 w0 w1 w2 w3 w4 σ = some r → Rn D cA ad SM s.heap σ H locs → lv_has ls 7 [(0, .ref (ad 0)), (1, .int w0), (2, .int w1), (3, .int w2), (4, .int w3), (5, .int w4)] → W p l e rm_X6_count s m args below meth c H locs 0 0 (MQ below (Qi D cA ad SM r) args s 0 0 (Aw ad SM)) (F0 m 101 ls [])) : ∀ (n : Nat) (v1 : Int32) (v2 : Int32) (v3 : Int32) (v4 : Int32) (v5 : Int32) (v6 : Int32) (σ : St) (H : Heap) (locs : List Loc) (ls : Array Slot), f_X6_count_56 k101 n v1 v2 v3 v4 v5 v6 σ = some r → Rn D cA ad SM s.heap σ H locs → lv_has ls 7 [(0, .ref (ad 0)), (1, .int v1), (2, .int v2), (3, .int v3), (4, .int v4), (5, .int v5), (6, .int v6)] → W p l e rm_X6_count s m args below meth c H locs 0 0 (MQ below (Qi D cA ad SM r) args s 0 0 (Aw ad SM)) (F0 m 56 ls []) := by
  obtain ⟨hx, hb, hml, hown, hts, hr, hlk, hK, hij⟩ := id X
  intro n
  induction n with
  | zero =>
    intro v1 v2 v3 v4 v5 v6 σ H locs ls hf
    exact nomatch (show (none : Option (Int32 × St)) = some r from hf)
  | succ n ih =>
    intro v1 v2 v3 v4 v5 v6 σ H locs ls hf hW hl
    rw [f_X6_count_56] at hf
    refine lv_iload hx hb dX6_count_56 (lv_at hl 6 rfl) ?_
    refine lv_aload_n hx hb dX6_count_58 rfl (lv_at hl 0 rfl) ?_
    refine get_6_2 X hW kM_0 iM_0 inX6_count_6 (List.mem_of_getElem? (i := 3) rfl) dX6_count_59 ?_
    refine lv_iload hx hb dX6_count_62 (lv_at hl 5 rfl) ?_
    obtain ⟨x8, hf⟩ := chk_e hf
    refine r_iald X hW kM_2 iM_2 nM_2 x8 dX6_count_64 ?_
    refine lv_icmp_ge (tgt := 101) hx hb dX6_count_65 (by decide) (fun c9 => ?_) (fun c9 => ?_)
    · have hf := it_e hf c9
      exact h101 v1 v2 v3 v4 v5 σ _ _ _ hf hW (lv_sub hl [0, 1, 2, 3, 4, 5] rfl)
    · have hf := ie_e hf c9
      refine lv_iload hx hb dX6_count_68 (lv_at hl 4 rfl) ?_
      refine lv_aload_n hx hb dX6_count_70 rfl (lv_at hl 0 rfl) ?_
      refine get_6_3 X hW kM_0 iM_0 inX6_count_6 (List.mem_of_getElem? (i := 4) rfl) dX6_count_71 ?_
      refine lv_bipush (v := 12) hx hb dX6_count_74 (by decide) ?_
      refine lv_iload hx hb dX6_count_76 (lv_at hl 5 rfl) ?_
      refine lv_imul hx hb dX6_count_78 ?_
      refine lv_iload hx hb dX6_count_79 (lv_at hl 6 rfl) ?_
      refine lv_iadd hx hb dX6_count_81 ?_
      obtain ⟨x10, hf⟩ := chk_e hf
      refine r_iald X hW kM_3 iM_3 nM_3 x10 dX6_count_82 ?_
      refine lv_iconst (v := 4) hx hb dX6_count_83 (by decide) ?_
      refine lv_icmp_ne (tgt := 91) hx hb dX6_count_84 (by decide) (fun c11 => ?_) (fun c11 => ?_)
      · have hf := ie_e hf c11
        refine lv_iconst (v := 0) hx hb dX6_count_91 (by decide) ?_
        refine b_X6_count_92 X (fun w14_0 w15_1 w16_2 w17_3 w18_4 w19_5 σ20 H locs ls hf hW hl => ?_) v1 v2 v3 v5 v6 v4 0 σ _ _ _ hf hW (lv_sub hl [0, 1, 2, 3, 5, 6] rfl)
        · exact ih w14_0 w15_1 w16_2 w17_3 w18_4 w19_5 σ20 _ _ _ hf hW (lv_sub hl [0, 1, 2, 3, 4, 5, 6] rfl)
      · have hf := it_e hf c11
        refine lv_iconst (v := 1) hx hb dX6_count_87 (by decide) ?_
        refine lv_goto (tgt := 92) hx hb dX6_count_88 (by decide) ?_
        refine b_X6_count_92 X (fun w21_0 w22_1 w23_2 w24_3 w25_4 w26_5 σ27 H locs ls hf hW hl => ?_) v1 v2 v3 v5 v6 v4 1 σ _ _ _ hf hW (lv_sub hl [0, 1, 2, 3, 5, 6] rfl)
        · exact ih w21_0 w22_1 w23_2 w24_3 w25_4 w26_5 σ27 _ _ _ hf hW (lv_sub hl [0, 1, 2, 3, 4, 5, 6] rfl)
noncomputable def f_X6_count_51 (k15 : Int32 → Int32 → Int32 → Int32 → Int32 → St → Option (Int32 × St)) (v1 : Int32) (v2 : Int32) (v4 : Int32) (v5 : Int32) (s0 : Int32) (s1 : Int32) (σ : St) : Option (Int32 × St) := nw (s0 + s1 : Int32) fun v107 => f_X6_count_56 (fun (w28_0 : Int32) (w29_1 : Int32) (w30_2 : Int32) (w31_3 : Int32) (w32_4 : Int32) (σ33 : St) => nw (w32_4 + 1 : Int32) fun v134 => k15 w28_0 w29_1 w30_2 w31_3 v134 σ33) fu v1 v2 v107 v4 v5 0 σ
set_option maxHeartbeats 4000000 in
set_option maxRecDepth 100000 in
theorem b_X6_count_51 {k15 : Int32 → Int32 → Int32 → Int32 → Int32 → St → Option (Int32 × St)} (X : Cx RX6 wsX6_count cX6_count 7 (some .int) D cA ad SM p s m args meth c) (h15 : ∀ (w0 : Int32) (w1 : Int32) (w2 : Int32) (w3 : Int32) (w4 : Int32) (σ : St) (H : Heap) (locs : List Loc) (ls : Array Slot), k15 w0 w1 w2 w3 w4 σ = some r → Rn D cA ad SM s.heap σ H locs → lv_has ls 7 [(0, .ref (ad 0)), (1, .int w0), (2, .int w1), (3, .int w2), (4, .int w3), (5, .int w4)] → W p l e rm_X6_count s m args below meth c H locs 0 0 (MQ below (Qi D cA ad SM r) args s 0 0 (Aw ad SM)) (F0 m 15 ls [])) : ∀ (v1 : Int32) (v2 : Int32) (v4 : Int32) (v5 : Int32) (s0 : Int32) (s1 : Int32) (σ : St) (H : Heap) (locs : List Loc) (ls : Array Slot), f_X6_count_51 k15 v1 v2 v4 v5 s0 s1 σ = some r → Rn D cA ad SM s.heap σ H locs → lv_has ls 7 [(0, .ref (ad 0)), (1, .int v1), (2, .int v2), (4, .int v4), (5, .int v5)] → W p l e rm_X6_count s m args below meth c H locs 0 0 (MQ below (Qi D cA ad SM r) args s 0 0 (Aw ad SM)) (F0 m 51 ls [.int s1, .int s0]) := by
  obtain ⟨hx, hb, hml, hown, hts, hr, hlk, hK, hij⟩ := id X
  intro v1 v2 v4 v5 s0 s1 σ H locs ls hf hW hl
  rw [f_X6_count_51] at hf
  refine lv_iadd hx hb dX6_count_51 ?_
  obtain ⟨v107, e7, hf⟩ := nw_e hf
  refine tI _ e7 ?_
  refine lv_istore_n (lv' := [(3, .int v107), (0, .ref (ad 0)), (1, .int v1), (2, .int v2), (4, .int v4), (5, .int v5)]) hx hb dX6_count_52 rfl hl (by decide) rfl (fun ls hl => ?_)
  refine lv_iconst (v := 0) hx hb dX6_count_53 (by decide) ?_
  refine lv_istore (lv' := [(6, .int 0), (3, .int v107), (0, .ref (ad 0)), (1, .int v1), (2, .int v2), (4, .int v4), (5, .int v5)]) hx hb dX6_count_54 hl (by decide) rfl (fun ls hl => ?_)
  refine b_X6_count_56 X (fun w28_0 w29_1 w30_2 w31_3 w32_4 σ33 H locs ls hf hW hl => ?_) fu v1 v2 v107 v4 v5 0 σ _ _ _ hf hW (lv_sub hl [2, 3, 4, 1, 5, 6, 0] rfl)
  · obtain ⟨v134, e34, hf⟩ := nw_e hf
    refine lv_iinc (v := v134) (lv' := [(5, .int v134), (0, .ref (ad 0)), (1, .int w28_0), (2, .int w29_1), (3, .int w30_2), (4, .int w31_3)]) hx hb dX6_count_101 hl (k := 5) rfl (by rw [e34]; rfl) (by decide) rfl (fun ls hl => ?_)
    refine lv_goto (tgt := 15) hx hb dX6_count_104 (by decide) ?_
    exact h15 w28_0 w29_1 w30_2 w31_3 v134 σ33 _ _ _ hf hW (lv_sub hl [1, 2, 3, 4, 5, 0] rfl)
noncomputable def f_X6_count_15 (k107 : Int32 → Int32 → Int32 → Int32 → St → Option (Int32 × St)) : Nat → Int32 → Int32 → Int32 → Int32 → Int32 → St → Option (Int32 × St)
  | 0, _, _, _, _, _, _ => none
  | n + 1, v1, v2, v3, v4, v5, σ => (if (σ.1 0 0) ≤ v5 then k107 v1 v2 v3 v4 σ else chk (inb v5 7) <| nw (v2 + (σ.1 2 v5.toNatClampNeg) : Int32) fun v104 => bnd (f_X6_allOf σ v5) fun r5 => (if (lg_cmp r5 0) = 0 then f_X6_count_51 (fun (w41_0 : Int32) (w42_1 : Int32) (w43_2 : Int32) (w44_3 : Int32) (w45_4 : Int32) (σ46 : St) => f_X6_count_15 k107 n w41_0 w42_1 w43_2 w44_3 w45_4 σ46) v1 v104 v4 v5 v3 1 σ else f_X6_count_51 (fun (w35_0 : Int32) (w36_1 : Int32) (w37_2 : Int32) (w38_3 : Int32) (w39_4 : Int32) (σ40 : St) => f_X6_count_15 k107 n w35_0 w36_1 w37_2 w38_3 w39_4 σ40) v1 v104 v4 v5 v3 0 σ))
set_option maxHeartbeats 4000000 in
set_option maxRecDepth 100000 in
theorem b_X6_count_15 {k107 : Int32 → Int32 → Int32 → Int32 → St → Option (Int32 × St)} (X : Cx RX6 wsX6_count cX6_count 7 (some .int) D cA ad SM p s m args meth c) (h107 : ∀ (w0 : Int32) (w1 : Int32) (w2 : Int32) (w3 : Int32) (σ : St) (H : Heap) (locs : List Loc) (ls : Array Slot), k107 w0 w1 w2 w3 σ = some r → Rn D cA ad SM s.heap σ H locs → lv_has ls 7 [(0, .ref (ad 0)), (1, .int w0), (2, .int w1), (3, .int w2), (4, .int w3)] → W p l e rm_X6_count s m args below meth c H locs 0 0 (MQ below (Qi D cA ad SM r) args s 0 0 (Aw ad SM)) (F0 m 107 ls [])) : ∀ (n : Nat) (v1 : Int32) (v2 : Int32) (v3 : Int32) (v4 : Int32) (v5 : Int32) (σ : St) (H : Heap) (locs : List Loc) (ls : Array Slot), f_X6_count_15 k107 n v1 v2 v3 v4 v5 σ = some r → Rn D cA ad SM s.heap σ H locs → lv_has ls 7 [(0, .ref (ad 0)), (1, .int v1), (2, .int v2), (3, .int v3), (4, .int v4), (5, .int v5)] → W p l e rm_X6_count s m args below meth c H locs 0 0 (MQ below (Qi D cA ad SM r) args s 0 0 (Aw ad SM)) (F0 m 15 ls []) := by
  obtain ⟨hx, hb, hml, hown, hts, hr, hlk, hK, hij⟩ := id X
  intro n
  induction n with
  | zero =>
    intro v1 v2 v3 v4 v5 σ H locs ls hf
    exact nomatch (show (none : Option (Int32 × St)) = some r from hf)
  | succ n ih =>
    intro v1 v2 v3 v4 v5 σ H locs ls hf hW hl
    rw [f_X6_count_15] at hf
    refine lv_iload hx hb dX6_count_15 (lv_at hl 5 rfl) ?_
    refine lv_aload_n hx hb dX6_count_17 rfl (lv_at hl 0 rfl) ?_
    refine get_6_0 X hW kM_0 iM_0 inX6_count_6 (List.mem_of_getElem? (i := 2) rfl) dX6_count_18 ?_
    refine lv_icmp_ge (tgt := 107) hx hb dX6_count_21 (by decide) (fun c2 => ?_) (fun c2 => ?_)
    · have hf := it_e hf c2
      exact h107 v1 v2 v3 v4 σ _ _ _ hf hW (lv_sub hl [0, 1, 2, 3, 4] rfl)
    · have hf := ie_e hf c2
      refine lv_iload_n hx hb dX6_count_24 rfl (lv_at hl 2 rfl) ?_
      refine lv_aload_n hx hb dX6_count_25 rfl (lv_at hl 0 rfl) ?_
      refine get_6_2 X hW kM_0 iM_0 inX6_count_6 (List.mem_of_getElem? (i := 3) rfl) dX6_count_26 ?_
      refine lv_iload hx hb dX6_count_29 (lv_at hl 5 rfl) ?_
      obtain ⟨x3, hf⟩ := chk_e hf
      refine r_iald X hW kM_2 iM_2 nM_2 x3 dX6_count_31 ?_
      refine lv_iadd hx hb dX6_count_32 ?_
      obtain ⟨v104, e4, hf⟩ := nw_e hf
      refine tI _ e4 ?_
      refine lv_istore_n (lv' := [(2, .int v104), (0, .ref (ad 0)), (1, .int v1), (3, .int v3), (4, .int v4), (5, .int v5)]) hx hb dX6_count_33 rfl hl (by decide) rfl (fun ls hl => ?_)
      refine lv_iload_n hx hb dX6_count_34 rfl (lv_at hl 3 rfl) ?_
      refine lv_aload_n hx hb dX6_count_35 rfl (lv_at hl 1 rfl) ?_
      refine lv_iload hx hb dX6_count_36 (lv_at hl 5 rfl) ?_
      obtain ⟨r5, z5, hf⟩ := bnd_e hf
      refine r_cVlR X hW kM_0 iM_0 rfl (c_X6_allOf l D cA ad hij σ v5 r5 z5) gX6_count_X6_allOf rfl ⟨rfl, rfl⟩ hd_X6_allOf ⟨Nat.le_of_ble_eq_true rfl, Nat.le_of_ble_eq_true rfl⟩ rfl (Nat.le_of_ble_eq_true rfl) hl.1 dX6_count_38 (fun H locs hW => ?_)
      refine lv_lconst (v := 0) hx hb dX6_count_41 (by decide) ?_
      refine W.lcmp hx hb dX6_count_42 ?_
      refine lv_if_ne (tgt := 50) hx hb dX6_count_43 (by decide) (fun c6 => ?_) (fun c6 => ?_)
      · have hf := ie_e hf c6
        refine lv_iconst (v := 0) hx hb dX6_count_50 (by decide) ?_
        refine b_X6_count_51 X (fun w35_0 w36_1 w37_2 w38_3 w39_4 σ40 H locs ls hf hW hl => ?_) v1 v104 v4 v5 v3 0 σ _ _ _ hf hW (lv_sub hl [1, 2, 0, 4, 5] rfl)
        · exact ih w35_0 w36_1 w37_2 w38_3 w39_4 σ40 _ _ _ hf hW (lv_sub hl [0, 1, 2, 3, 4, 5] rfl)
      · have hf := it_e hf c6
        refine lv_iconst (v := 1) hx hb dX6_count_46 (by decide) ?_
        refine lv_goto (tgt := 51) hx hb dX6_count_47 (by decide) ?_
        refine b_X6_count_51 X (fun w41_0 w42_1 w43_2 w44_3 w45_4 σ46 H locs ls hf hW hl => ?_) v1 v104 v4 v5 v3 1 σ _ _ _ hf hW (lv_sub hl [1, 2, 0, 4, 5] rfl)
        · exact ih w41_0 w42_1 w43_2 w44_3 w45_4 σ46 _ _ _ hf hW (lv_sub hl [0, 1, 2, 3, 4, 5] rfl)
end S_X6_count
noncomputable def f_X6_count (σ : St) (a1 : Int32) : Option (Int32 × St) := nw (uI σ 0 5 0) fun σ1 => f_X6_count_15 (fun (w47_0 : Int32) (w48_1 : Int32) (w49_2 : Int32) (w50_3 : Int32) (σ51 : St) => (if w47_0 = 0 then some (σ51.1 0 0, σ51) else (if w47_0 = 1 then some (w48_1, σ51) else (if w47_0 = 2 then some (w49_2, σ51) else (if w47_0 = 3 then some (w50_3, σ51) else some ((-1), σ51)))))) fu a1 0 0 0 0 σ1
set_option maxHeartbeats 4000000 in
set_option maxRecDepth 100000 in
theorem c_X6_count (l : Launch) (D : va_G) (cA : Nat → ClassId) (ad : Nat → Nat) (hij : Ij ad SM) (σ : St) (a1 : Int32) (r : Int32 × St) (hf : f_X6_count σ a1 = some r) : Met l yX6_count wsX6_count rm_X6_count (PC D cA ad SM [.ref (ad 0), .int a1] σ) (Qi D cA ad SM r) 0 0 (Aw ad SM) := by
  rw [f_X6_count] at hf
  refine k_head (own := RX6) (ws := wsX6_count) (cc := cX6_count) (nL := 7) (ret := (some .int)) pn_X6 rfl rfl hij (Nat.le_of_ble_eq_true rfl) (fun p e s m below meth c ls X hW hl => ?_)
  have hl : lv_has ls 7 [(0, .ref (ad 0)), (1, .int a1)] := hl
  obtain ⟨hx, hb, hml, hown, hts, hr, hlk, hK, hij⟩ := id X
  refine lv_aload_n hx hb dX6_count_0 rfl (lv_at hl 0 rfl) ?_
  refine lv_iconst (v := 0) hx hb dX6_count_1 (by decide) ?_
  obtain ⟨σ1, e1, hf⟩ := nw_e hf
  refine put_6_5 X hW kM_0 iM_0 inX6_count_6 (List.mem_of_getElem? (i := 1) rfl) e1 dX6_count_2 (fun H locs hW => ?_)
  refine lv_iconst (v := 0) hx hb dX6_count_5 (by decide) ?_
  refine lv_istore_n (lv' := [(2, .int 0), (0, .ref (ad 0)), (1, .int a1)]) hx hb dX6_count_6 rfl hl (by decide) rfl (fun ls hl => ?_)
  refine lv_iconst (v := 0) hx hb dX6_count_7 (by decide) ?_
  refine lv_istore_n (lv' := [(3, .int 0), (2, .int 0), (0, .ref (ad 0)), (1, .int a1)]) hx hb dX6_count_8 rfl hl (by decide) rfl (fun ls hl => ?_)
  refine lv_iconst (v := 0) hx hb dX6_count_9 (by decide) ?_
  refine lv_istore (lv' := [(4, .int 0), (3, .int 0), (2, .int 0), (0, .ref (ad 0)), (1, .int a1)]) hx hb dX6_count_10 hl (by decide) rfl (fun ls hl => ?_)
  refine lv_iconst (v := 0) hx hb dX6_count_12 (by decide) ?_
  refine lv_istore (lv' := [(5, .int 0), (4, .int 0), (3, .int 0), (2, .int 0), (0, .ref (ad 0)), (1, .int a1)]) hx hb dX6_count_13 hl (by decide) rfl (fun ls hl => ?_)
  refine b_X6_count_15 X (fun w47_0 w48_1 w49_2 w50_3 σ51 H locs ls hf hW hl => ?_) fu a1 0 0 0 0 σ1 _ _ _ hf hW (lv_sub hl [4, 5, 3, 2, 1, 0] rfl)
  · refine lv_iload_n hx hb dX6_count_107 rfl (lv_at hl 1 rfl) ?_
    refine lv_if_ne (tgt := 118) hx hb dX6_count_108 (by decide) (fun c52 => ?_) (fun c52 => ?_)
    · have hf := ie_e hf c52
      refine lv_iload_n hx hb dX6_count_118 rfl (lv_at hl 1 rfl) ?_
      refine lv_iconst (v := 1) hx hb dX6_count_119 (by decide) ?_
      refine lv_icmp_ne (tgt := 127) hx hb dX6_count_120 (by decide) (fun c53 => ?_) (fun c53 => ?_)
      · have hf := ie_e hf c53
        refine lv_iload_n hx hb dX6_count_127 rfl (lv_at hl 1 rfl) ?_
        refine lv_iconst (v := 2) hx hb dX6_count_128 (by decide) ?_
        refine lv_icmp_ne (tgt := 136) hx hb dX6_count_129 (by decide) (fun c54 => ?_) (fun c54 => ?_)
        · have hf := ie_e hf c54
          refine lv_iload_n hx hb dX6_count_136 rfl (lv_at hl 1 rfl) ?_
          refine lv_iconst (v := 3) hx hb dX6_count_137 (by decide) ?_
          refine lv_icmp_ne (tgt := 146) hx hb dX6_count_138 (by decide) (fun c55 => ?_) (fun c55 => ?_)
          · have hf := ie_e hf c55
            refine lv_iconst (v := (-1)) hx hb dX6_count_146 (by decide) ?_
            exact r_iret X hW rfl rfl hf dX6_count_147
          · have hf := it_e hf c55
            refine lv_iload hx hb dX6_count_141 (lv_at hl 4 rfl) ?_
            refine lv_goto (tgt := 147) hx hb dX6_count_143 (by decide) ?_
            exact r_iret X hW rfl rfl hf dX6_count_147
        · have hf := it_e hf c54
          refine lv_iload_n hx hb dX6_count_132 rfl (lv_at hl 3 rfl) ?_
          refine lv_goto (tgt := 147) hx hb dX6_count_133 (by decide) ?_
          exact r_iret X hW rfl rfl hf dX6_count_147
      · have hf := it_e hf c53
        refine lv_iload_n hx hb dX6_count_123 rfl (lv_at hl 2 rfl) ?_
        refine lv_goto (tgt := 147) hx hb dX6_count_124 (by decide) ?_
        exact r_iret X hW rfl rfl hf dX6_count_147
    · have hf := it_e hf c52
      refine lv_aload_n hx hb dX6_count_111 rfl (lv_at hl 0 rfl) ?_
      refine get_6_0 X hW kM_0 iM_0 inX6_count_6 (List.mem_of_getElem? (i := 2) rfl) dX6_count_112 ?_
      refine lv_goto (tgt := 147) hx hb dX6_count_115 (by decide) ?_
      exact r_iret X hW rfl rfl hf dX6_count_147

abbrev rm_X6_keep : Room := { frames := 1, cells := 0, slots := 0, locals := 25 }
theorem hd_X6_keep : yX6_keep.cls = RX6 ∧ yX6_keep.cls ≠ "java/lang/invoke/MethodHandle" ∧ yX6_keep.cls ≠ "java/lang/invoke/VarHandle" ∧ (parseMethodDescriptor yX6_keep.desc).map (fun d => d.parameters.length) = some 4 := by decide +kernel
theorem inX6_keep_6 : ∀ w ∈ wsX60, w ∈ wsX6_keep := fun _ h => List.mem_cons_of_mem _ (List.mem_append_right _ h)
section S_X6_keep
variable {p : Program} {l : Launch} {e : Env} {s : State} {m : MethodId} {args : Array Value} {below : List Frame} {meth : Method} {c : Code} {D : va_G} {cA : Nat → ClassId} {ad : Nat → Nat} {r : Int32 × St}
noncomputable def f_X6_keep_98 (s0 : Nat) (s1 : Int32) (s2 : Int32) (σ : St) : Option (Int32 × St) := chk (kOK SM s0 20) <| chk (inb s1 (SM.2.2 s0)) <| nw (uI σ s0 s1.toNatClampNeg s2) fun σ16 => some (0, σ16)
set_option maxHeartbeats 4000000 in
set_option maxRecDepth 100000 in
theorem b_X6_keep_98 (X : Cx RX6 wsX6_keep cX6_keep 5 (some .int) D cA ad SM p s m args meth c) : ∀ (s0 : Nat) (s1 : Int32) (s2 : Int32) (σ : St) (H : Heap) (locs : List Loc) (ls : Array Slot), f_X6_keep_98 s0 s1 s2 σ = some r → Rn D cA ad SM s.heap σ H locs → lv_has ls 5 [] → W p l e rm_X6_keep s m args below meth c H locs 0 0 (MQ below (Qi D cA ad SM r) args s 0 0 (Aw ad SM)) (F0 m 98 ls [.int s2, .int s1, .ref (ad s0)]) := by
  obtain ⟨hx, hb, hml, hown, hts, hr, hlk, hK, hij⟩ := id X
  intro s0 s1 s2 σ H locs ls hf hW hl
  rw [f_X6_keep_98] at hf
  obtain ⟨q14, hf⟩ := chk_e hf
  obtain ⟨i14, k14⟩ := kOK_e q14
  obtain ⟨x15, hf⟩ := chk_e hf
  obtain ⟨σ16, e16, hf⟩ := nw_e hf
  refine r_iast X hW k14 i14 rfl x15 e16 dX6_keep_98 (fun H locs hW => ?_)
  refine lv_iconst (v := 0) hx hb dX6_keep_99 (by decide) ?_
  exact r_iret X hW rfl rfl hf dX6_keep_100
noncomputable def f_X6_keep_81 (v1 : Int32) (v2 : Int32) (v4 : Int32) (s0 : Nat) (s1 : Int32) (s2 : Int32) (σ : St) : Option (Int32 × St) := chk (kOK SM s0 20) <| chk (inb s1 (SM.2.2 s0)) <| nw (uI σ s0 s1.toNatClampNeg s2) fun σ12 => (if v2 = 1 then f_X6_keep_98 18 v1 v4 σ12 else f_X6_keep_98 18 v1 0 σ12)
set_option maxHeartbeats 4000000 in
set_option maxRecDepth 100000 in
theorem b_X6_keep_81 (X : Cx RX6 wsX6_keep cX6_keep 5 (some .int) D cA ad SM p s m args meth c) : ∀ (v1 : Int32) (v2 : Int32) (v4 : Int32) (s0 : Nat) (s1 : Int32) (s2 : Int32) (σ : St) (H : Heap) (locs : List Loc) (ls : Array Slot), f_X6_keep_81 v1 v2 v4 s0 s1 s2 σ = some r → Rn D cA ad SM s.heap σ H locs → lv_has ls 5 [(0, .ref (ad 0)), (1, .int v1), (2, .int v2), (4, .int v4)] → W p l e rm_X6_keep s m args below meth c H locs 0 0 (MQ below (Qi D cA ad SM r) args s 0 0 (Aw ad SM)) (F0 m 81 ls [.int s2, .int s1, .ref (ad s0)]) := by
  obtain ⟨hx, hb, hml, hown, hts, hr, hlk, hK, hij⟩ := id X
  intro v1 v2 v4 s0 s1 s2 σ H locs ls hf hW hl
  rw [f_X6_keep_81] at hf
  obtain ⟨q10, hf⟩ := chk_e hf
  obtain ⟨i10, k10⟩ := kOK_e q10
  obtain ⟨x11, hf⟩ := chk_e hf
  obtain ⟨σ12, e12, hf⟩ := nw_e hf
  refine r_iast X hW k10 i10 rfl x11 e12 dX6_keep_81 (fun H locs hW => ?_)
  refine lv_aload_n hx hb dX6_keep_82 rfl (lv_at hl 0 rfl) ?_
  refine get_6_28 X hW kM_0 iM_0 inX6_keep_6 (List.mem_of_getElem? (i := 6) rfl) dX6_keep_83 ?_
  refine lv_iload_n hx hb dX6_keep_86 rfl (lv_at hl 1 rfl) ?_
  refine lv_iload_n hx hb dX6_keep_87 rfl (lv_at hl 2 rfl) ?_
  refine lv_iconst (v := 1) hx hb dX6_keep_88 (by decide) ?_
  refine lv_icmp_ne (tgt := 97) hx hb dX6_keep_89 (by decide) (fun c13 => ?_) (fun c13 => ?_)
  · have hf := ie_e hf c13
    refine lv_iconst (v := 0) hx hb dX6_keep_97 (by decide) ?_
    exact b_X6_keep_98 X 18 v1 0 σ12 _ _ _ hf hW (lv_sub hl [] rfl)
  · have hf := it_e hf c13
    refine lv_iload hx hb dX6_keep_92 (lv_at hl 3 rfl) ?_
    refine lv_goto (tgt := 98) hx hb dX6_keep_94 (by decide) ?_
    exact b_X6_keep_98 X 18 v1 v4 σ12 _ _ _ hf hW (lv_sub hl [] rfl)
noncomputable def f_X6_keep_59 (v1 : Int32) (v2 : Int32) (v3 : Int32) (v4 : Int32) (σ : St) : Option (Int32 × St) := chk (inb v1 8) <| nw (uI σ 16 v1.toNatClampNeg v2) fun σ8 => (if v2 = 1 then f_X6_keep_81 v1 v2 v4 17 v1 v3 σ8 else f_X6_keep_81 v1 v2 v4 17 v1 0 σ8)
set_option maxHeartbeats 4000000 in
set_option maxRecDepth 100000 in
theorem b_X6_keep_59 (X : Cx RX6 wsX6_keep cX6_keep 5 (some .int) D cA ad SM p s m args meth c) : ∀ (v1 : Int32) (v2 : Int32) (v3 : Int32) (v4 : Int32) (σ : St) (H : Heap) (locs : List Loc) (ls : Array Slot), f_X6_keep_59 v1 v2 v3 v4 σ = some r → Rn D cA ad SM s.heap σ H locs → lv_has ls 5 [(0, .ref (ad 0)), (1, .int v1), (2, .int v2), (3, .int v3), (4, .int v4)] → W p l e rm_X6_keep s m args below meth c H locs 0 0 (MQ below (Qi D cA ad SM r) args s 0 0 (Aw ad SM)) (F0 m 59 ls []) := by
  obtain ⟨hx, hb, hml, hown, hts, hr, hlk, hK, hij⟩ := id X
  intro v1 v2 v3 v4 σ H locs ls hf hW hl
  rw [f_X6_keep_59] at hf
  refine lv_aload_n hx hb dX6_keep_59 rfl (lv_at hl 0 rfl) ?_
  refine get_6_26 X hW kM_0 iM_0 inX6_keep_6 (List.mem_of_getElem? (i := 4) rfl) dX6_keep_60 ?_
  refine lv_iload_n hx hb dX6_keep_63 rfl (lv_at hl 1 rfl) ?_
  refine lv_iload_n hx hb dX6_keep_64 rfl (lv_at hl 2 rfl) ?_
  obtain ⟨x7, hf⟩ := chk_e hf
  obtain ⟨σ8, e8, hf⟩ := nw_e hf
  refine r_iast X hW kM_16 iM_16 nM_16 x7 e8 dX6_keep_65 (fun H locs hW => ?_)
  refine lv_aload_n hx hb dX6_keep_66 rfl (lv_at hl 0 rfl) ?_
  refine get_6_27 X hW kM_0 iM_0 inX6_keep_6 (List.mem_of_getElem? (i := 5) rfl) dX6_keep_67 ?_
  refine lv_iload_n hx hb dX6_keep_70 rfl (lv_at hl 1 rfl) ?_
  refine lv_iload_n hx hb dX6_keep_71 rfl (lv_at hl 2 rfl) ?_
  refine lv_iconst (v := 1) hx hb dX6_keep_72 (by decide) ?_
  refine lv_icmp_ne (tgt := 80) hx hb dX6_keep_73 (by decide) (fun c9 => ?_) (fun c9 => ?_)
  · have hf := ie_e hf c9
    refine lv_iconst (v := 0) hx hb dX6_keep_80 (by decide) ?_
    exact b_X6_keep_81 X v1 v2 v4 17 v1 0 σ8 _ _ _ hf hW (lv_sub hl [0, 1, 2, 4] rfl)
  · have hf := it_e hf c9
    refine lv_iload_n hx hb dX6_keep_76 rfl (lv_at hl 3 rfl) ?_
    refine lv_goto (tgt := 81) hx hb dX6_keep_77 (by decide) ?_
    exact b_X6_keep_81 X v1 v2 v4 17 v1 v3 σ8 _ _ _ hf hW (lv_sub hl [0, 1, 2, 4] rfl)
end S_X6_keep
noncomputable def f_X6_keep (σ : St) (a1 : Int32) (a2 : Int32) (a3 : Int32) (a4 : Int32) : Option (Int32 × St) := nw (uI σ 0 5 0) fun σ1 => bnd (f_X6_in a1.toInt64 0 7) fun r2 => (if r2 = 0 then some ((-1), σ1) else bnd (f_X6_in a2.toInt64 0 1) fun r4 => (if r4 = 0 then some ((-1), σ1) else (if a2 = 1 then bnd (f_X6_in a3.toInt64 0 7) fun r17 => (if r17 = 0 then some ((-1), σ1) else bnd (f_X6_in a4.toInt64 0 9) fun r19 => (if r19 = 0 then some ((-1), σ1) else f_X6_keep_59 a1 a2 a3 a4 σ1)) else f_X6_keep_59 a1 a2 a3 a4 σ1)))
set_option maxHeartbeats 4000000 in
set_option maxRecDepth 100000 in
theorem c_X6_keep (l : Launch) (D : va_G) (cA : Nat → ClassId) (ad : Nat → Nat) (hij : Ij ad SM) (σ : St) (a1 : Int32) (a2 : Int32) (a3 : Int32) (a4 : Int32) (r : Int32 × St) (hf : f_X6_keep σ a1 a2 a3 a4 = some r) : Met l yX6_keep wsX6_keep rm_X6_keep (PC D cA ad SM [.ref (ad 0), .int a1, .int a2, .int a3, .int a4] σ) (Qi D cA ad SM r) 0 0 (Aw ad SM) := by
  rw [f_X6_keep] at hf
  refine k_head (own := RX6) (ws := wsX6_keep) (cc := cX6_keep) (nL := 5) (ret := (some .int)) pn_X6 rfl rfl hij (Nat.le_of_ble_eq_true rfl) (fun p e s m below meth c ls X hW hl => ?_)
  have hl : lv_has ls 5 [(0, .ref (ad 0)), (1, .int a1), (2, .int a2), (3, .int a3), (4, .int a4)] := hl
  obtain ⟨hx, hb, hml, hown, hts, hr, hlk, hK, hij⟩ := id X
  refine lv_aload_n hx hb dX6_keep_0 rfl (lv_at hl 0 rfl) ?_
  refine lv_iconst (v := 0) hx hb dX6_keep_1 (by decide) ?_
  obtain ⟨σ1, e1, hf⟩ := nw_e hf
  refine put_6_5 X hW kM_0 iM_0 inX6_keep_6 (List.mem_of_getElem? (i := 1) rfl) e1 dX6_keep_2 (fun H locs hW => ?_)
  refine lv_iload_n hx hb dX6_keep_5 rfl (lv_at hl 1 rfl) ?_
  refine lv_i2l hx hb dX6_keep_6 rfl ?_
  refine lv_lconst (v := 0) hx hb dX6_keep_7 (by decide) ?_
  refine lv_ldc2 (v := 7) hx hb hown (hts _ (List.mem_of_getElem? (i := 2) rfl)) dX6_keep_8 ?_
  obtain ⟨r2, z2, hf⟩ := bnd_e hf
  refine r_cSiR X hW (c_X6_in l D cA ad hij σ1 a1.toInt64 0 7 r2 z2) gX6_keep_X6_in rfl ⟨rfl, rfl⟩ hd_X6_in ⟨Nat.le_of_ble_eq_true rfl, Nat.le_of_ble_eq_true rfl⟩ rfl (Nat.le_of_ble_eq_true rfl) hl.1 dX6_keep_11 (fun H locs hW => ?_)
  refine lv_if_eq (tgt := 57) hx hb dX6_keep_14 (by decide) (fun c3 => ?_) (fun c3 => ?_)
  · have hf := it_e hf c3
    refine lv_iconst (v := (-1)) hx hb dX6_keep_57 (by decide) ?_
    exact r_iret X hW rfl rfl hf dX6_keep_58
  · have hf := ie_e hf c3
    refine lv_iload_n hx hb dX6_keep_17 rfl (lv_at hl 2 rfl) ?_
    refine lv_i2l hx hb dX6_keep_18 rfl ?_
    refine lv_lconst (v := 0) hx hb dX6_keep_19 (by decide) ?_
    refine lv_lconst (v := 1) hx hb dX6_keep_20 (by decide) ?_
    obtain ⟨r4, z4, hf⟩ := bnd_e hf
    refine r_cSiR X hW (c_X6_in l D cA ad hij σ1 a2.toInt64 0 1 r4 z4) gX6_keep_X6_in rfl ⟨rfl, rfl⟩ hd_X6_in ⟨Nat.le_of_ble_eq_true rfl, Nat.le_of_ble_eq_true rfl⟩ rfl (Nat.le_of_ble_eq_true rfl) hl.1 dX6_keep_21 (fun H locs hW => ?_)
    refine lv_if_eq (tgt := 57) hx hb dX6_keep_24 (by decide) (fun c5 => ?_) (fun c5 => ?_)
    · have hf := it_e hf c5
      refine lv_iconst (v := (-1)) hx hb dX6_keep_57 (by decide) ?_
      exact r_iret X hW rfl rfl hf dX6_keep_58
    · have hf := ie_e hf c5
      refine lv_iload_n hx hb dX6_keep_27 rfl (lv_at hl 2 rfl) ?_
      refine lv_iconst (v := 1) hx hb dX6_keep_28 (by decide) ?_
      refine lv_icmp_ne (tgt := 59) hx hb dX6_keep_29 (by decide) (fun c6 => ?_) (fun c6 => ?_)
      · have hf := ie_e hf c6
        exact b_X6_keep_59 X a1 a2 a3 a4 σ1 _ _ _ hf hW (lv_sub hl [0, 1, 2, 3, 4] rfl)
      · have hf := it_e hf c6
        refine lv_iload_n hx hb dX6_keep_32 rfl (lv_at hl 3 rfl) ?_
        refine lv_i2l hx hb dX6_keep_33 rfl ?_
        refine lv_lconst (v := 0) hx hb dX6_keep_34 (by decide) ?_
        refine lv_ldc2 (v := 7) hx hb hown (hts _ (List.mem_of_getElem? (i := 2) rfl)) dX6_keep_35 ?_
        obtain ⟨r17, z17, hf⟩ := bnd_e hf
        refine r_cSiR X hW (c_X6_in l D cA ad hij σ1 a3.toInt64 0 7 r17 z17) gX6_keep_X6_in rfl ⟨rfl, rfl⟩ hd_X6_in ⟨Nat.le_of_ble_eq_true rfl, Nat.le_of_ble_eq_true rfl⟩ rfl (Nat.le_of_ble_eq_true rfl) hl.1 dX6_keep_38 (fun H locs hW => ?_)
        refine lv_if_eq (tgt := 57) hx hb dX6_keep_41 (by decide) (fun c18 => ?_) (fun c18 => ?_)
        · have hf := it_e hf c18
          refine lv_iconst (v := (-1)) hx hb dX6_keep_57 (by decide) ?_
          exact r_iret X hW rfl rfl hf dX6_keep_58
        · have hf := ie_e hf c18
          refine lv_iload hx hb dX6_keep_44 (lv_at hl 4 rfl) ?_
          refine lv_i2l hx hb dX6_keep_46 rfl ?_
          refine lv_lconst (v := 0) hx hb dX6_keep_47 (by decide) ?_
          refine lv_ldc2 (v := 9) hx hb hown (hts _ (List.mem_of_getElem? (i := 3) rfl)) dX6_keep_48 ?_
          obtain ⟨r19, z19, hf⟩ := bnd_e hf
          refine r_cSiR X hW (c_X6_in l D cA ad hij σ1 a4.toInt64 0 9 r19 z19) gX6_keep_X6_in rfl ⟨rfl, rfl⟩ hd_X6_in ⟨Nat.le_of_ble_eq_true rfl, Nat.le_of_ble_eq_true rfl⟩ rfl (Nat.le_of_ble_eq_true rfl) hl.1 dX6_keep_51 (fun H locs hW => ?_)
          refine lv_if_ne (tgt := 59) hx hb dX6_keep_54 (by decide) (fun c20 => ?_) (fun c20 => ?_)
          · have hf := ie_e hf c20
            exact b_X6_keep_59 X a1 a2 a3 a4 σ1 _ _ _ hf hW (lv_sub hl [0, 1, 2, 3, 4] rfl)
          · have hf := it_e hf c20
            refine lv_iconst (v := (-1)) hx hb dX6_keep_57 (by decide) ?_
            exact r_iret X hW rfl rfl hf dX6_keep_58

abbrev rm_X6_narrowed : Room := { frames := 0, cells := 0, slots := 0, locals := 0 }
theorem hd_X6_narrowed : yX6_narrowed.cls = RX6 ∧ yX6_narrowed.cls ≠ "java/lang/invoke/MethodHandle" ∧ yX6_narrowed.cls ≠ "java/lang/invoke/VarHandle" ∧ (parseMethodDescriptor yX6_narrowed.desc).map (fun d => d.parameters.length) = some 2 := by decide +kernel
section S_X6_narrowed
variable {p : Program} {l : Launch} {e : Env} {s : State} {m : MethodId} {args : Array Value} {below : List Frame} {meth : Method} {c : Code} {D : va_G} {cA : Nat → ClassId} {ad : Nat → Nat} {r : Int64}
end S_X6_narrowed
noncomputable def f_X6_narrowed (a0 : Int32) (a1 : Int32) : Option (Int64) := (if a1 = 0 then some a0.toInt8.toInt32.toInt64 else (if a1 = 1 then some a0.toInt16.toInt32.toInt64 else some a0.toInt64))
set_option maxHeartbeats 4000000 in
set_option maxRecDepth 100000 in
theorem c_X6_narrowed (l : Launch) (D : va_G) (cA : Nat → ClassId) (ad : Nat → Nat) (hij : Ij ad SM) (σ : St) (a0 : Int32) (a1 : Int32) (r : Int64) (hf : f_X6_narrowed a0 a1 = some r) : Met l yX6_narrowed wsX6_narrowed rm_X6_narrowed (PC D cA ad SM [.int a0, .int a1] σ) (Ql D cA ad SM (r, σ)) 0 0 (Aw ad SM) := by
  rw [f_X6_narrowed] at hf
  refine k_head (own := RX6) (ws := wsX6_narrowed) (cc := cX6_narrowed) (nL := 2) (ret := (some .long)) pn_X6 rfl rfl hij (Nat.le_of_ble_eq_true rfl) (fun p e s m below meth c ls X hW hl => ?_)
  have hl : lv_has ls 2 [(0, .int a0), (1, .int a1)] := hl
  obtain ⟨hx, hb, hml, hown, hts, hr, hlk, hK, hij⟩ := id X
  refine lv_iload_n hx hb dX6_narrowed_0 rfl (lv_at hl 1 rfl) ?_
  refine lv_if_ne (tgt := 10) hx hb dX6_narrowed_1 (by decide) (fun c1 => ?_) (fun c1 => ?_)
  · have hf := ie_e hf c1
    refine lv_iload_n hx hb dX6_narrowed_10 rfl (lv_at hl 1 rfl) ?_
    refine lv_iconst (v := 1) hx hb dX6_narrowed_11 (by decide) ?_
    refine lv_icmp_ne (tgt := 21) hx hb dX6_narrowed_12 (by decide) (fun c2 => ?_) (fun c2 => ?_)
    · have hf := ie_e hf c2
      refine lv_iload_n hx hb dX6_narrowed_21 rfl (lv_at hl 0 rfl) ?_
      refine lv_i2l hx hb dX6_narrowed_22 rfl ?_
      exact r_lretR X hW rfl hf dX6_narrowed_23
    · have hf := it_e hf c2
      refine lv_iload_n hx hb dX6_narrowed_15 rfl (lv_at hl 0 rfl) ?_
      refine lv_i2s hx hb dX6_narrowed_16 rfl ?_
      refine lv_i2l hx hb dX6_narrowed_17 rfl ?_
      refine lv_goto (tgt := 23) hx hb dX6_narrowed_18 (by decide) ?_
      exact r_lretR X hW rfl hf dX6_narrowed_23
  · have hf := it_e hf c1
    refine lv_iload_n hx hb dX6_narrowed_4 rfl (lv_at hl 0 rfl) ?_
    refine lv_i2b hx hb dX6_narrowed_5 rfl ?_
    refine lv_i2l hx hb dX6_narrowed_6 rfl ?_
    refine lv_goto (tgt := 23) hx hb dX6_narrowed_7 (by decide) ?_
    exact r_lretR X hW rfl hf dX6_narrowed_23

abbrev rm_X6_row : Room := { frames := 1, cells := 0, slots := 0, locals := 25 }
theorem hd_X6_row : yX6_row.cls = RX6 ∧ yX6_row.cls ≠ "java/lang/invoke/MethodHandle" ∧ yX6_row.cls ≠ "java/lang/invoke/VarHandle" ∧ (parseMethodDescriptor yX6_row.desc).map (fun d => d.parameters.length) = some 3 := by decide +kernel
theorem inX6_row_6 : ∀ w ∈ wsX60, w ∈ wsX6_row := fun _ h => List.mem_cons_of_mem _ (List.mem_append_right _ h)
section S_X6_row
variable {p : Program} {l : Launch} {e : Env} {s : State} {m : MethodId} {args : Array Value} {below : List Frame} {meth : Method} {c : Code} {D : va_G} {cA : Nat → ClassId} {ad : Nat → Nat} {r : Int32 × St}
noncomputable def f_X6_row_68 (k94 : St → Option (Int32 × St)) : Nat → Int32 → Int32 → St → Option (Int32 × St)
  | 0, _, _, _ => none
  | n + 1, v1, v4, σ => (if 100 ≤ v4 then k94 σ else chk (inb ((100 * v1) + v4) 800) <| nw (uL σ 21 ((100 * v1) + v4).toNatClampNeg 0) fun σ14 => nw (v4 + 1 : Int32) fun v115 => f_X6_row_68 k94 n v1 v115 σ14)
set_option maxHeartbeats 4000000 in
set_option maxRecDepth 100000 in
theorem b_X6_row_68 {k94 : St → Option (Int32 × St)} (X : Cx RX6 wsX6_row cX6_row 5 (some .int) D cA ad SM p s m args meth c) (h94 : ∀  (σ : St) (H : Heap) (locs : List Loc) (ls : Array Slot), k94 σ = some r → Rn D cA ad SM s.heap σ H locs → lv_has ls 5 [] → W p l e rm_X6_row s m args below meth c H locs 0 0 (MQ below (Qi D cA ad SM r) args s 0 0 (Aw ad SM)) (F0 m 94 ls [])) : ∀ (n : Nat) (v1 : Int32) (v4 : Int32) (σ : St) (H : Heap) (locs : List Loc) (ls : Array Slot), f_X6_row_68 k94 n v1 v4 σ = some r → Rn D cA ad SM s.heap σ H locs → lv_has ls 5 [(0, .ref (ad 0)), (1, .int v1), (4, .int v4)] → W p l e rm_X6_row s m args below meth c H locs 0 0 (MQ below (Qi D cA ad SM r) args s 0 0 (Aw ad SM)) (F0 m 68 ls []) := by
  obtain ⟨hx, hb, hml, hown, hts, hr, hlk, hK, hij⟩ := id X
  intro n
  induction n with
  | zero =>
    intro v1 v4 σ H locs ls hf
    exact nomatch (show (none : Option (Int32 × St)) = some r from hf)
  | succ n ih =>
    intro v1 v4 σ H locs ls hf hW hl
    rw [f_X6_row_68] at hf
    refine lv_iload hx hb dX6_row_68 (lv_at hl 2 rfl) ?_
    refine lv_bipush (v := 100) hx hb dX6_row_70 (by decide) ?_
    refine lv_icmp_ge (tgt := 94) hx hb dX6_row_72 (by decide) (fun c12 => ?_) (fun c12 => ?_)
    · have hf := it_e hf c12
      exact h94 σ _ _ _ hf hW (lv_sub hl [] rfl)
    · have hf := ie_e hf c12
      refine lv_aload_n hx hb dX6_row_75 rfl (lv_at hl 0 rfl) ?_
      refine get_6_31 X hW kM_0 iM_0 inX6_row_6 (List.mem_of_getElem? (i := 7) rfl) dX6_row_76 ?_
      refine lv_bipush (v := 100) hx hb dX6_row_79 (by decide) ?_
      refine lv_iload_n hx hb dX6_row_81 rfl (lv_at hl 1 rfl) ?_
      refine lv_imul hx hb dX6_row_82 ?_
      refine lv_iload hx hb dX6_row_83 (lv_at hl 2 rfl) ?_
      refine lv_iadd hx hb dX6_row_85 ?_
      refine lv_lconst (v := 0) hx hb dX6_row_86 (by decide) ?_
      obtain ⟨x13, hf⟩ := chk_e hf
      obtain ⟨σ14, e14, hf⟩ := nw_e hf
      refine r_last X hW kM_21 iM_21 nM_21 x13 e14 dX6_row_87 (fun H locs hW => ?_)
      obtain ⟨v115, e15, hf⟩ := nw_e hf
      refine lv_iinc (v := v115) (lv' := [(4, .int v115), (0, .ref (ad 0)), (1, .int v1)]) hx hb dX6_row_88 hl (k := 2) rfl (by rw [e15]; rfl) (by decide) rfl (fun ls hl => ?_)
      refine lv_goto (tgt := 68) hx hb dX6_row_91 (by decide) ?_
      exact ih v1 v115 σ14 _ _ _ hf hW (lv_sub hl [1, 2, 0] rfl)
end S_X6_row
noncomputable def f_X6_row (σ : St) (a1 : Int32) (a2 : Int32) (a3 : Int32) : Option (Int32 × St) := nw (uI σ 0 5 0) fun σ1 => bnd (f_X6_in a1.toInt64 0 7) fun r2 => (if r2 = 0 then some ((-1), σ1) else bnd (f_X6_in a2.toInt64 0 2) fun r4 => (if r4 = 0 then some ((-1), σ1) else (if a3 ≤ 100 then (if 0 ≤ a3 then chk (inb a1 8) <| nw (uI σ1 16 a1.toNatClampNeg 2) fun σ9 => nw (uI σ9 19 a1.toNatClampNeg a2) fun σ10 => nw (uI σ10 20 a1.toNatClampNeg a3) fun σ11 => f_X6_row_68 (fun  (σ16 : St) => some (0, σ16)) fu a1 0 σ11 else some ((-14), σ1)) else some ((-1), σ1))))
set_option maxHeartbeats 4000000 in
set_option maxRecDepth 100000 in
theorem c_X6_row (l : Launch) (D : va_G) (cA : Nat → ClassId) (ad : Nat → Nat) (hij : Ij ad SM) (σ : St) (a1 : Int32) (a2 : Int32) (a3 : Int32) (r : Int32 × St) (hf : f_X6_row σ a1 a2 a3 = some r) : Met l yX6_row wsX6_row rm_X6_row (PC D cA ad SM [.ref (ad 0), .int a1, .int a2, .int a3] σ) (Qi D cA ad SM r) 0 0 (Aw ad SM) := by
  rw [f_X6_row] at hf
  refine k_head (own := RX6) (ws := wsX6_row) (cc := cX6_row) (nL := 5) (ret := (some .int)) pn_X6 rfl rfl hij (Nat.le_of_ble_eq_true rfl) (fun p e s m below meth c ls X hW hl => ?_)
  have hl : lv_has ls 5 [(0, .ref (ad 0)), (1, .int a1), (2, .int a2), (3, .int a3)] := hl
  obtain ⟨hx, hb, hml, hown, hts, hr, hlk, hK, hij⟩ := id X
  refine lv_aload_n hx hb dX6_row_0 rfl (lv_at hl 0 rfl) ?_
  refine lv_iconst (v := 0) hx hb dX6_row_1 (by decide) ?_
  obtain ⟨σ1, e1, hf⟩ := nw_e hf
  refine put_6_5 X hW kM_0 iM_0 inX6_row_6 (List.mem_of_getElem? (i := 1) rfl) e1 dX6_row_2 (fun H locs hW => ?_)
  refine lv_iload_n hx hb dX6_row_5 rfl (lv_at hl 1 rfl) ?_
  refine lv_i2l hx hb dX6_row_6 rfl ?_
  refine lv_lconst (v := 0) hx hb dX6_row_7 (by decide) ?_
  refine lv_ldc2 (v := 7) hx hb hown (hts _ (List.mem_of_getElem? (i := 2) rfl)) dX6_row_8 ?_
  obtain ⟨r2, z2, hf⟩ := bnd_e hf
  refine r_cSiR X hW (c_X6_in l D cA ad hij σ1 a1.toInt64 0 7 r2 z2) gX6_row_X6_in rfl ⟨rfl, rfl⟩ hd_X6_in ⟨Nat.le_of_ble_eq_true rfl, Nat.le_of_ble_eq_true rfl⟩ rfl (Nat.le_of_ble_eq_true rfl) hl.1 dX6_row_11 (fun H locs hW => ?_)
  refine lv_if_eq (tgt := 35) hx hb dX6_row_14 (by decide) (fun c3 => ?_) (fun c3 => ?_)
  · have hf := it_e hf c3
    refine lv_iconst (v := (-1)) hx hb dX6_row_35 (by decide) ?_
    exact r_iret X hW rfl rfl hf dX6_row_36
  · have hf := ie_e hf c3
    refine lv_iload_n hx hb dX6_row_17 rfl (lv_at hl 2 rfl) ?_
    refine lv_i2l hx hb dX6_row_18 rfl ?_
    refine lv_lconst (v := 0) hx hb dX6_row_19 (by decide) ?_
    refine lv_ldc2 (v := 2) hx hb hown (hts _ (List.mem_of_getElem? (i := 3) rfl)) dX6_row_20 ?_
    obtain ⟨r4, z4, hf⟩ := bnd_e hf
    refine r_cSiR X hW (c_X6_in l D cA ad hij σ1 a2.toInt64 0 2 r4 z4) gX6_row_X6_in rfl ⟨rfl, rfl⟩ hd_X6_in ⟨Nat.le_of_ble_eq_true rfl, Nat.le_of_ble_eq_true rfl⟩ rfl (Nat.le_of_ble_eq_true rfl) hl.1 dX6_row_23 (fun H locs hW => ?_)
    refine lv_if_eq (tgt := 35) hx hb dX6_row_26 (by decide) (fun c5 => ?_) (fun c5 => ?_)
    · have hf := it_e hf c5
      refine lv_iconst (v := (-1)) hx hb dX6_row_35 (by decide) ?_
      exact r_iret X hW rfl rfl hf dX6_row_36
    · have hf := ie_e hf c5
      refine lv_iload_n hx hb dX6_row_29 rfl (lv_at hl 3 rfl) ?_
      refine lv_bipush (v := 100) hx hb dX6_row_30 (by decide) ?_
      refine lv_icmp_le (tgt := 37) hx hb dX6_row_32 (by decide) (fun c6 => ?_) (fun c6 => ?_)
      · have hf := it_e hf c6
        refine lv_iload_n hx hb dX6_row_37 rfl (lv_at hl 3 rfl) ?_
        refine lv_if_ge (tgt := 44) hx hb dX6_row_38 (by decide) (fun c7 => ?_) (fun c7 => ?_)
        · have hf := it_e hf c7
          refine lv_aload_n hx hb dX6_row_44 rfl (lv_at hl 0 rfl) ?_
          refine get_6_26 X hW kM_0 iM_0 inX6_row_6 (List.mem_of_getElem? (i := 4) rfl) dX6_row_45 ?_
          refine lv_iload_n hx hb dX6_row_48 rfl (lv_at hl 1 rfl) ?_
          refine lv_iconst (v := 2) hx hb dX6_row_49 (by decide) ?_
          obtain ⟨x8, hf⟩ := chk_e hf
          obtain ⟨σ9, e9, hf⟩ := nw_e hf
          refine r_iast X hW kM_16 iM_16 nM_16 x8 e9 dX6_row_50 (fun H locs hW => ?_)
          refine lv_aload_n hx hb dX6_row_51 rfl (lv_at hl 0 rfl) ?_
          refine get_6_29 X hW kM_0 iM_0 inX6_row_6 (List.mem_of_getElem? (i := 5) rfl) dX6_row_52 ?_
          refine lv_iload_n hx hb dX6_row_55 rfl (lv_at hl 1 rfl) ?_
          refine lv_iload_n hx hb dX6_row_56 rfl (lv_at hl 2 rfl) ?_
          obtain ⟨σ10, e10, hf⟩ := nw_e hf
          refine r_iast X hW kM_19 iM_19 nM_19 x8 e10 dX6_row_57 (fun H locs hW => ?_)
          refine lv_aload_n hx hb dX6_row_58 rfl (lv_at hl 0 rfl) ?_
          refine get_6_30 X hW kM_0 iM_0 inX6_row_6 (List.mem_of_getElem? (i := 6) rfl) dX6_row_59 ?_
          refine lv_iload_n hx hb dX6_row_62 rfl (lv_at hl 1 rfl) ?_
          refine lv_iload_n hx hb dX6_row_63 rfl (lv_at hl 3 rfl) ?_
          obtain ⟨σ11, e11, hf⟩ := nw_e hf
          refine r_iast X hW kM_20 iM_20 nM_20 x8 e11 dX6_row_64 (fun H locs hW => ?_)
          refine lv_iconst (v := 0) hx hb dX6_row_65 (by decide) ?_
          refine lv_istore (lv' := [(4, .int 0), (0, .ref (ad 0)), (1, .int a1), (2, .int a2), (3, .int a3)]) hx hb dX6_row_66 hl (by decide) rfl (fun ls hl => ?_)
          refine b_X6_row_68 X (fun σ16 H locs ls hf hW hl => ?_) fu a1 0 σ11 _ _ _ hf hW (lv_sub hl [1, 2, 0] rfl)
          · refine lv_iconst (v := 0) hx hb dX6_row_94 (by decide) ?_
            exact r_iret X hW rfl rfl hf dX6_row_95
        · have hf := ie_e hf c7
          refine lv_bipush (v := (-14)) hx hb dX6_row_41 (by decide) ?_
          exact r_iret X hW rfl rfl hf dX6_row_43
      · have hf := ie_e hf c6
        refine lv_iconst (v := (-1)) hx hb dX6_row_35 (by decide) ?_
        exact r_iret X hW rfl rfl hf dX6_row_36

abbrev rm_X6_put : Room := { frames := 2, cells := 0, slots := 0, locals := 46 }
theorem hd_X6_put : yX6_put.cls = RX6 ∧ yX6_put.cls ≠ "java/lang/invoke/MethodHandle" ∧ yX6_put.cls ≠ "java/lang/invoke/VarHandle" ∧ (parseMethodDescriptor yX6_put.desc).map (fun d => d.parameters.length) = some 3 := by decide +kernel
theorem inX6_put_6 : ∀ w ∈ wsX60, w ∈ wsX6_put := fun _ h => List.mem_cons_of_mem _ (List.mem_append_right _ h)
section S_X6_put
variable {p : Program} {l : Launch} {e : Env} {s : State} {m : MethodId} {args : Array Value} {below : List Frame} {meth : Method} {c : Code} {D : va_G} {cA : Nat → ClassId} {ad : Nat → Nat} {r : Int32 × St}
end S_X6_put
noncomputable def f_X6_put (σ : St) (a1 : Int32) (a2 : Int32) (a3 : Int32) : Option (Int32 × St) := nw (uI σ 0 5 0) fun σ1 => bnd (f_X6_wrongRow σ1 a1) fun r2 => (if 0 ≤ r2 then chk (inb a1 8) <| bnd (f_X6_in a2.toInt64 0 (((σ1.1 20 a1.toNatClampNeg) - 1).toInt64)) fun r5 => (if r5 = 0 then some ((-13), σ1) else bnd (f_X6_narrowed a3 (σ1.1 19 a1.toNatClampNeg)) fun r7 => chk (inb ((100 * a1) + a2) 800) <| nw (uL σ1 21 ((100 * a1) + a2).toNatClampNeg r7) fun σ9 => some (0, σ9)) else some (r2, σ1))
set_option maxHeartbeats 4000000 in
set_option maxRecDepth 100000 in
theorem c_X6_put (l : Launch) (D : va_G) (cA : Nat → ClassId) (ad : Nat → Nat) (hij : Ij ad SM) (σ : St) (a1 : Int32) (a2 : Int32) (a3 : Int32) (r : Int32 × St) (hf : f_X6_put σ a1 a2 a3 = some r) : Met l yX6_put wsX6_put rm_X6_put (PC D cA ad SM [.ref (ad 0), .int a1, .int a2, .int a3] σ) (Qi D cA ad SM r) 0 0 (Aw ad SM) := by
  rw [f_X6_put] at hf
  refine k_head (own := RX6) (ws := wsX6_put) (cc := cX6_put) (nL := 5) (ret := (some .int)) pn_X6 rfl rfl hij (Nat.le_of_ble_eq_true rfl) (fun p e s m below meth c ls X hW hl => ?_)
  have hl : lv_has ls 5 [(0, .ref (ad 0)), (1, .int a1), (2, .int a2), (3, .int a3)] := hl
  obtain ⟨hx, hb, hml, hown, hts, hr, hlk, hK, hij⟩ := id X
  refine lv_aload_n hx hb dX6_put_0 rfl (lv_at hl 0 rfl) ?_
  refine lv_iconst (v := 0) hx hb dX6_put_1 (by decide) ?_
  obtain ⟨σ1, e1, hf⟩ := nw_e hf
  refine put_6_5 X hW kM_0 iM_0 inX6_put_6 (List.mem_of_getElem? (i := 1) rfl) e1 dX6_put_2 (fun H locs hW => ?_)
  refine lv_aload_n hx hb dX6_put_5 rfl (lv_at hl 0 rfl) ?_
  refine lv_iload_n hx hb dX6_put_6 rfl (lv_at hl 1 rfl) ?_
  obtain ⟨r2, z2, hf⟩ := bnd_e hf
  refine r_cViR X hW kM_0 iM_0 rfl (c_X6_wrongRow l D cA ad hij σ1 a1 r2 z2) gX6_put_X6_wrongRow rfl ⟨rfl, rfl⟩ hd_X6_wrongRow ⟨Nat.le_of_ble_eq_true rfl, Nat.le_of_ble_eq_true rfl⟩ rfl (Nat.le_of_ble_eq_true rfl) hl.1 dX6_put_7 (fun H locs hW => ?_)
  refine lv_istore (lv' := [(4, .int r2), (0, .ref (ad 0)), (1, .int a1), (2, .int a2), (3, .int a3)]) hx hb dX6_put_10 hl (by decide) rfl (fun ls hl => ?_)
  refine lv_iload hx hb dX6_put_12 (lv_at hl 0 rfl) ?_
  refine lv_if_ge (tgt := 20) hx hb dX6_put_14 (by decide) (fun c3 => ?_) (fun c3 => ?_)
  · have hf := it_e hf c3
    refine lv_iload_n hx hb dX6_put_20 rfl (lv_at hl 3 rfl) ?_
    refine lv_i2l hx hb dX6_put_21 rfl ?_
    refine lv_lconst (v := 0) hx hb dX6_put_22 (by decide) ?_
    refine lv_aload_n hx hb dX6_put_23 rfl (lv_at hl 1 rfl) ?_
    refine get_6_30 X hW kM_0 iM_0 inX6_put_6 (List.mem_of_getElem? (i := 2) rfl) dX6_put_24 ?_
    refine lv_iload_n hx hb dX6_put_27 rfl (lv_at hl 2 rfl) ?_
    obtain ⟨x4, hf⟩ := chk_e hf
    refine r_iald X hW kM_20 iM_20 nM_20 x4 dX6_put_28 ?_
    refine lv_iconst (v := 1) hx hb dX6_put_29 (by decide) ?_
    refine lv_isub hx hb dX6_put_30 ?_
    refine lv_i2l hx hb dX6_put_31 rfl ?_
    obtain ⟨r5, z5, hf⟩ := bnd_e hf
    refine r_cSiR X hW (c_X6_in l D cA ad hij σ1 a2.toInt64 0 (((σ1.1 20 a1.toNatClampNeg) - 1).toInt64) r5 z5) gX6_put_X6_in rfl ⟨rfl, rfl⟩ hd_X6_in ⟨Nat.le_of_ble_eq_true rfl, Nat.le_of_ble_eq_true rfl⟩ rfl (Nat.le_of_ble_eq_true rfl) hl.1 dX6_put_32 (fun H locs hW => ?_)
    refine lv_if_ne (tgt := 41) hx hb dX6_put_35 (by decide) (fun c6 => ?_) (fun c6 => ?_)
    · have hf := ie_e hf c6
      refine lv_aload_n hx hb dX6_put_41 rfl (lv_at hl 1 rfl) ?_
      refine get_6_31 X hW kM_0 iM_0 inX6_put_6 (List.mem_of_getElem? (i := 3) rfl) dX6_put_42 ?_
      refine lv_bipush (v := 100) hx hb dX6_put_45 (by decide) ?_
      refine lv_iload_n hx hb dX6_put_47 rfl (lv_at hl 2 rfl) ?_
      refine lv_imul hx hb dX6_put_48 ?_
      refine lv_iload_n hx hb dX6_put_49 rfl (lv_at hl 3 rfl) ?_
      refine lv_iadd hx hb dX6_put_50 ?_
      refine lv_iload_n hx hb dX6_put_51 rfl (lv_at hl 4 rfl) ?_
      refine lv_aload_n hx hb dX6_put_52 rfl (lv_at hl 1 rfl) ?_
      refine get_6_29 X hW kM_0 iM_0 inX6_put_6 (List.mem_of_getElem? (i := 4) rfl) dX6_put_53 ?_
      refine lv_iload_n hx hb dX6_put_56 rfl (lv_at hl 2 rfl) ?_
      refine r_iald X hW kM_19 iM_19 nM_19 x4 dX6_put_57 ?_
      obtain ⟨r7, z7, hf⟩ := bnd_e hf
      refine r_cSlR X hW (c_X6_narrowed l D cA ad hij σ1 a3 (σ1.1 19 a1.toNatClampNeg) r7 z7) gX6_put_X6_narrowed rfl ⟨rfl, rfl⟩ hd_X6_narrowed ⟨Nat.le_of_ble_eq_true rfl, Nat.le_of_ble_eq_true rfl⟩ rfl (Nat.le_of_ble_eq_true rfl) hl.1 dX6_put_58 (fun H locs hW => ?_)
      obtain ⟨x8, hf⟩ := chk_e hf
      obtain ⟨σ9, e9, hf⟩ := nw_e hf
      refine r_last X hW kM_21 iM_21 nM_21 x8 e9 dX6_put_61 (fun H locs hW => ?_)
      refine lv_iconst (v := 0) hx hb dX6_put_62 (by decide) ?_
      exact r_iret X hW rfl rfl hf dX6_put_63
    · have hf := it_e hf c6
      refine lv_bipush (v := (-13)) hx hb dX6_put_38 (by decide) ?_
      exact r_iret X hW rfl rfl hf dX6_put_40
  · have hf := ie_e hf c3
    refine lv_iload hx hb dX6_put_17 (lv_at hl 0 rfl) ?_
    exact r_iret X hW rfl rfl hf dX6_put_19

abbrev rm_X6_element : Room := { frames := 2, cells := 0, slots := 0, locals := 46 }
theorem hd_X6_element : yX6_element.cls = RX6 ∧ yX6_element.cls ≠ "java/lang/invoke/MethodHandle" ∧ yX6_element.cls ≠ "java/lang/invoke/VarHandle" ∧ (parseMethodDescriptor yX6_element.desc).map (fun d => d.parameters.length) = some 2 := by decide +kernel
theorem inX6_element_6 : ∀ w ∈ wsX60, w ∈ wsX6_element := fun _ h => List.mem_cons_of_mem _ (List.mem_append_right _ h)
section S_X6_element
variable {p : Program} {l : Launch} {e : Env} {s : State} {m : MethodId} {args : Array Value} {below : List Frame} {meth : Method} {c : Code} {D : va_G} {cA : Nat → ClassId} {ad : Nat → Nat} {r : Int64 × St}
noncomputable def f_X6_element_43 (v1 : Int32) (v2 : Int32) (s0 : Nat) (s1 : Int32) (σ : St) : Option (Int64 × St) := chk (kOK SM s0 6) <| nw (uI σ s0 5 s1) fun σ5 => (if (σ5.1 0 5) ≤ 0 then chk (inb ((100 * v1) + v2) 800) <| some (σ5.2 21 ((100 * v1) + v2).toNatClampNeg, σ5) else some (0, σ5))
set_option maxHeartbeats 4000000 in
set_option maxRecDepth 100000 in
theorem b_X6_element_43 (X : Cx RX6 wsX6_element cX6_element 4 (some .long) D cA ad SM p s m args meth c) : ∀ (v1 : Int32) (v2 : Int32) (s0 : Nat) (s1 : Int32) (σ : St) (H : Heap) (locs : List Loc) (ls : Array Slot), f_X6_element_43 v1 v2 s0 s1 σ = some r → Rn D cA ad SM s.heap σ H locs → lv_has ls 4 [(0, .ref (ad 0)), (1, .int v1), (2, .int v2)] → W p l e rm_X6_element s m args below meth c H locs 0 0 (MQ below (Ql D cA ad SM r) args s 0 0 (Aw ad SM)) (F0 m 43 ls [.int s1, .ref (ad s0)]) := by
  obtain ⟨hx, hb, hml, hown, hts, hr, hlk, hK, hij⟩ := id X
  intro v1 v2 s0 s1 σ H locs ls hf hW hl
  rw [f_X6_element_43] at hf
  obtain ⟨q4, hf⟩ := chk_e hf
  obtain ⟨i4, k4⟩ := kOK_e q4
  obtain ⟨σ5, e5, hf⟩ := nw_e hf
  refine put_6_5 X hW k4 i4 inX6_element_6 (List.mem_of_getElem? (i := 2) rfl) e5 dX6_element_43 (fun H locs hW => ?_)
  refine lv_aload_n hx hb dX6_element_46 rfl (lv_at hl 0 rfl) ?_
  refine get_6_5 X hW kM_0 iM_0 inX6_element_6 (List.mem_of_getElem? (i := 2) rfl) dX6_element_47 ?_
  refine lv_if_le (tgt := 57) hx hb dX6_element_50 (by decide) (fun c6 => ?_) (fun c6 => ?_)
  · have hf := it_e hf c6
    refine lv_aload_n hx hb dX6_element_57 rfl (lv_at hl 0 rfl) ?_
    refine get_6_31 X hW kM_0 iM_0 inX6_element_6 (List.mem_of_getElem? (i := 3) rfl) dX6_element_58 ?_
    refine lv_bipush (v := 100) hx hb dX6_element_61 (by decide) ?_
    refine lv_iload_n hx hb dX6_element_63 rfl (lv_at hl 1 rfl) ?_
    refine lv_imul hx hb dX6_element_64 ?_
    refine lv_iload_n hx hb dX6_element_65 rfl (lv_at hl 2 rfl) ?_
    refine lv_iadd hx hb dX6_element_66 ?_
    obtain ⟨x7, hf⟩ := chk_e hf
    refine r_lald X hW kM_21 iM_21 nM_21 x7 dX6_element_67 ?_
    exact r_lret X hW rfl hf dX6_element_68
  · have hf := ie_e hf c6
    refine lv_lconst (v := 0) hx hb dX6_element_53 (by decide) ?_
    refine lv_goto (tgt := 68) hx hb dX6_element_54 (by decide) ?_
    exact r_lret X hW rfl hf dX6_element_68
noncomputable def f_X6_element_38 (v1 : Int32) (v2 : Int32) (s0 : Nat) (σ : St) : Option (Int64 × St) := f_X6_element_43 v1 v2 s0 2 σ
set_option maxHeartbeats 4000000 in
set_option maxRecDepth 100000 in
theorem b_X6_element_38 (X : Cx RX6 wsX6_element cX6_element 4 (some .long) D cA ad SM p s m args meth c) : ∀ (v1 : Int32) (v2 : Int32) (s0 : Nat) (σ : St) (H : Heap) (locs : List Loc) (ls : Array Slot), f_X6_element_38 v1 v2 s0 σ = some r → Rn D cA ad SM s.heap σ H locs → lv_has ls 4 [(0, .ref (ad 0)), (1, .int v1), (2, .int v2)] → W p l e rm_X6_element s m args below meth c H locs 0 0 (MQ below (Ql D cA ad SM r) args s 0 0 (Aw ad SM)) (F0 m 38 ls [.ref (ad s0)]) := by
  obtain ⟨hx, hb, hml, hown, hts, hr, hlk, hK, hij⟩ := id X
  intro v1 v2 s0 σ H locs ls hf hW hl
  rw [f_X6_element_38] at hf
  refine lv_iconst (v := 2) hx hb dX6_element_38 (by decide) ?_
  refine lv_goto (tgt := 43) hx hb dX6_element_39 (by decide) ?_
  exact b_X6_element_43 X v1 v2 s0 2 σ _ _ _ hf hW (lv_sub hl [0, 1, 2] rfl)
end S_X6_element
noncomputable def f_X6_element (σ : St) (a1 : Int32) (a2 : Int32) : Option (Int64 × St) := bnd (f_X6_wrongRow σ a1) fun r1 => (if r1 = ((-1)) then f_X6_element_43 a1 a2 0 1 σ else (if r1 < 0 then f_X6_element_38 a1 a2 0 σ else chk (inb a1 8) <| bnd (f_X6_in a2.toInt64 0 (((σ.1 20 a1.toNatClampNeg) - 1).toInt64)) fun r9 => (if r9 = 0 then f_X6_element_38 a1 a2 0 σ else f_X6_element_43 a1 a2 0 0 σ)))
set_option maxHeartbeats 4000000 in
set_option maxRecDepth 100000 in
theorem c_X6_element (l : Launch) (D : va_G) (cA : Nat → ClassId) (ad : Nat → Nat) (hij : Ij ad SM) (σ : St) (a1 : Int32) (a2 : Int32) (r : Int64 × St) (hf : f_X6_element σ a1 a2 = some r) : Met l yX6_element wsX6_element rm_X6_element (PC D cA ad SM [.ref (ad 0), .int a1, .int a2] σ) (Ql D cA ad SM r) 0 0 (Aw ad SM) := by
  rw [f_X6_element] at hf
  refine k_head (own := RX6) (ws := wsX6_element) (cc := cX6_element) (nL := 4) (ret := (some .long)) pn_X6 rfl rfl hij (Nat.le_of_ble_eq_true rfl) (fun p e s m below meth c ls X hW hl => ?_)
  have hl : lv_has ls 4 [(0, .ref (ad 0)), (1, .int a1), (2, .int a2)] := hl
  obtain ⟨hx, hb, hml, hown, hts, hr, hlk, hK, hij⟩ := id X
  refine lv_aload_n hx hb dX6_element_0 rfl (lv_at hl 0 rfl) ?_
  refine lv_iload_n hx hb dX6_element_1 rfl (lv_at hl 1 rfl) ?_
  obtain ⟨r1, z1, hf⟩ := bnd_e hf
  refine r_cViR X hW kM_0 iM_0 rfl (c_X6_wrongRow l D cA ad hij σ a1 r1 z1) gX6_element_X6_wrongRow rfl ⟨rfl, rfl⟩ hd_X6_wrongRow ⟨Nat.le_of_ble_eq_true rfl, Nat.le_of_ble_eq_true rfl⟩ rfl (Nat.le_of_ble_eq_true rfl) hl.1 dX6_element_2 (fun H locs hW => ?_)
  refine lv_istore_n (lv' := [(3, .int r1), (0, .ref (ad 0)), (1, .int a1), (2, .int a2)]) hx hb dX6_element_5 rfl hl (by decide) rfl (fun ls hl => ?_)
  refine lv_aload_n hx hb dX6_element_6 rfl (lv_at hl 1 rfl) ?_
  refine lv_iload_n hx hb dX6_element_7 rfl (lv_at hl 0 rfl) ?_
  refine lv_iconst (v := (-1)) hx hb dX6_element_8 (by decide) ?_
  refine lv_icmp_ne (tgt := 16) hx hb dX6_element_9 (by decide) (fun c2 => ?_) (fun c2 => ?_)
  · have hf := ie_e hf c2
    refine lv_iload_n hx hb dX6_element_16 rfl (lv_at hl 0 rfl) ?_
    refine lv_if_lt (tgt := 38) hx hb dX6_element_17 (by decide) (fun c3 => ?_) (fun c3 => ?_)
    · have hf := it_e hf c3
      exact b_X6_element_38 X a1 a2 0 σ _ _ _ hf hW (lv_sub hl [1, 2, 3] rfl)
    · have hf := ie_e hf c3
      refine lv_iload_n hx hb dX6_element_20 rfl (lv_at hl 3 rfl) ?_
      refine lv_i2l hx hb dX6_element_21 rfl ?_
      refine lv_lconst (v := 0) hx hb dX6_element_22 (by decide) ?_
      refine lv_aload_n hx hb dX6_element_23 rfl (lv_at hl 1 rfl) ?_
      refine get_6_30 X hW kM_0 iM_0 inX6_element_6 (List.mem_of_getElem? (i := 1) rfl) dX6_element_24 ?_
      refine lv_iload_n hx hb dX6_element_27 rfl (lv_at hl 2 rfl) ?_
      obtain ⟨x8, hf⟩ := chk_e hf
      refine r_iald X hW kM_20 iM_20 nM_20 x8 dX6_element_28 ?_
      refine lv_iconst (v := 1) hx hb dX6_element_29 (by decide) ?_
      refine lv_isub hx hb dX6_element_30 ?_
      refine lv_i2l hx hb dX6_element_31 rfl ?_
      obtain ⟨r9, z9, hf⟩ := bnd_e hf
      refine r_cSiR X hW (c_X6_in l D cA ad hij σ a2.toInt64 0 (((σ.1 20 a1.toNatClampNeg) - 1).toInt64) r9 z9) gX6_element_X6_in rfl ⟨rfl, rfl⟩ hd_X6_in ⟨Nat.le_of_ble_eq_true rfl, Nat.le_of_ble_eq_true rfl⟩ rfl (Nat.le_of_ble_eq_true rfl) hl.1 dX6_element_32 (fun H locs hW => ?_)
      refine lv_if_ne (tgt := 42) hx hb dX6_element_35 (by decide) (fun c10 => ?_) (fun c10 => ?_)
      · have hf := ie_e hf c10
        refine lv_iconst (v := 0) hx hb dX6_element_42 (by decide) ?_
        exact b_X6_element_43 X a1 a2 0 0 σ _ _ _ hf hW (lv_sub hl [1, 2, 3] rfl)
      · have hf := it_e hf c10
        exact b_X6_element_38 X a1 a2 0 σ _ _ _ hf hW (lv_sub hl [1, 2, 3] rfl)
  · have hf := it_e hf c2
    refine lv_iconst (v := 1) hx hb dX6_element_12 (by decide) ?_
    refine lv_goto (tgt := 43) hx hb dX6_element_13 (by decide) ?_
    exact b_X6_element_43 X a1 a2 0 1 σ _ _ _ hf hW (lv_sub hl [1, 2, 3] rfl)

abbrev rm_X6_copy : Room := { frames := 1, cells := 0, slots := 0, locals := 25 }
theorem hd_X6_copy : yX6_copy.cls = RX6 ∧ yX6_copy.cls ≠ "java/lang/invoke/MethodHandle" ∧ yX6_copy.cls ≠ "java/lang/invoke/VarHandle" ∧ (parseMethodDescriptor yX6_copy.desc).map (fun d => d.parameters.length) = some 5 := by decide +kernel
theorem inX6_copy_6 : ∀ w ∈ wsX60, w ∈ wsX6_copy := fun _ h => List.mem_cons_of_mem _ (List.mem_append_right _ h)
section S_X6_copy
variable {p : Program} {l : Launch} {e : Env} {s : State} {m : MethodId} {args : Array Value} {below : List Frame} {meth : Method} {c : Code} {D : va_G} {cA : Nat → ClassId} {ad : Nat → Nat} {r : Int32 × St}
noncomputable def f_X6_copy_137 (k171 : Int32 → Int32 → Int32 → St → Option (Int32 × St)) : Nat → Int32 → Int32 → Int32 → Int32 → Int32 → Int32 → St → Option (Int32 × St)
  | 0, _, _, _, _, _, _, _ => none
  | n + 1, v1, v2, v3, v4, v5, v6, σ => (if v5 ≤ v6 then k171 v3 v4 v5 σ else chk (inb (((100 * v1) + v2) + v6) 800) <| chk (inb v6 100) <| nw (uL σ 22 v6.toNatClampNeg (σ.2 21 (((100 * v1) + v2) + v6).toNatClampNeg)) fun σ21 => nw (v6 + 1 : Int32) fun v122 => f_X6_copy_137 k171 n v1 v2 v3 v4 v5 v122 σ21)
set_option maxHeartbeats 4000000 in
set_option maxRecDepth 100000 in
theorem b_X6_copy_137 {k171 : Int32 → Int32 → Int32 → St → Option (Int32 × St)} (X : Cx RX6 wsX6_copy cX6_copy 7 (some .int) D cA ad SM p s m args meth c) (h171 : ∀ (w0 : Int32) (w1 : Int32) (w2 : Int32) (σ : St) (H : Heap) (locs : List Loc) (ls : Array Slot), k171 w0 w1 w2 σ = some r → Rn D cA ad SM s.heap σ H locs → lv_has ls 7 [(0, .ref (ad 0)), (3, .int w0), (4, .int w1), (5, .int w2)] → W p l e rm_X6_copy s m args below meth c H locs 0 0 (MQ below (Qi D cA ad SM r) args s 0 0 (Aw ad SM)) (F0 m 171 ls [])) : ∀ (n : Nat) (v1 : Int32) (v2 : Int32) (v3 : Int32) (v4 : Int32) (v5 : Int32) (v6 : Int32) (σ : St) (H : Heap) (locs : List Loc) (ls : Array Slot), f_X6_copy_137 k171 n v1 v2 v3 v4 v5 v6 σ = some r → Rn D cA ad SM s.heap σ H locs → lv_has ls 7 [(0, .ref (ad 0)), (1, .int v1), (2, .int v2), (3, .int v3), (4, .int v4), (5, .int v5), (6, .int v6)] → W p l e rm_X6_copy s m args below meth c H locs 0 0 (MQ below (Qi D cA ad SM r) args s 0 0 (Aw ad SM)) (F0 m 137 ls []) := by
  obtain ⟨hx, hb, hml, hown, hts, hr, hlk, hK, hij⟩ := id X
  intro n
  induction n with
  | zero =>
    intro v1 v2 v3 v4 v5 v6 σ H locs ls hf
    exact nomatch (show (none : Option (Int32 × St)) = some r from hf)
  | succ n ih =>
    intro v1 v2 v3 v4 v5 v6 σ H locs ls hf hW hl
    rw [f_X6_copy_137] at hf
    refine lv_iload hx hb dX6_copy_137 (lv_at hl 6 rfl) ?_
    refine lv_iload hx hb dX6_copy_139 (lv_at hl 5 rfl) ?_
    refine lv_icmp_ge (tgt := 171) hx hb dX6_copy_141 (by decide) (fun c18 => ?_) (fun c18 => ?_)
    · have hf := it_e hf c18
      exact h171 v3 v4 v5 σ _ _ _ hf hW (lv_sub hl [0, 3, 4, 5] rfl)
    · have hf := ie_e hf c18
      refine lv_aload_n hx hb dX6_copy_144 rfl (lv_at hl 0 rfl) ?_
      refine get_6_32 X hW kM_0 iM_0 inX6_copy_6 (List.mem_of_getElem? (i := 6) rfl) dX6_copy_145 ?_
      refine lv_iload hx hb dX6_copy_148 (lv_at hl 6 rfl) ?_
      refine lv_aload_n hx hb dX6_copy_150 rfl (lv_at hl 0 rfl) ?_
      refine get_6_31 X hW kM_0 iM_0 inX6_copy_6 (List.mem_of_getElem? (i := 7) rfl) dX6_copy_151 ?_
      refine lv_bipush (v := 100) hx hb dX6_copy_154 (by decide) ?_
      refine lv_iload_n hx hb dX6_copy_156 rfl (lv_at hl 1 rfl) ?_
      refine lv_imul hx hb dX6_copy_157 ?_
      refine lv_iload_n hx hb dX6_copy_158 rfl (lv_at hl 2 rfl) ?_
      refine lv_iadd hx hb dX6_copy_159 ?_
      refine lv_iload hx hb dX6_copy_160 (lv_at hl 6 rfl) ?_
      refine lv_iadd hx hb dX6_copy_162 ?_
      obtain ⟨x19, hf⟩ := chk_e hf
      refine r_lald X hW kM_21 iM_21 nM_21 x19 dX6_copy_163 ?_
      obtain ⟨x20, hf⟩ := chk_e hf
      obtain ⟨σ21, e21, hf⟩ := nw_e hf
      refine r_last X hW kM_22 iM_22 nM_22 x20 e21 dX6_copy_164 (fun H locs hW => ?_)
      obtain ⟨v122, e22, hf⟩ := nw_e hf
      refine lv_iinc (v := v122) (lv' := [(6, .int v122), (0, .ref (ad 0)), (1, .int v1), (2, .int v2), (3, .int v3), (4, .int v4), (5, .int v5)]) hx hb dX6_copy_165 hl (k := 6) rfl (by rw [e22]; rfl) (by decide) rfl (fun ls hl => ?_)
      refine lv_goto (tgt := 137) hx hb dX6_copy_168 (by decide) ?_
      exact ih v1 v2 v3 v4 v5 v122 σ21 _ _ _ hf hW (lv_sub hl [1, 2, 3, 4, 5, 6, 0] rfl)
noncomputable def f_X6_copy_174 (k209 : Int32 → St → Option (Int32 × St)) : Nat → Int32 → Int32 → Int32 → Int32 → St → Option (Int32 × St)
  | 0, _, _, _, _, _ => none
  | n + 1, v3, v4, v5, v6, σ => (if v5 ≤ v6 then k209 v5 σ else chk (inb v6 100) <| chk (inb (((100 * v3) + v4) + v6) 800) <| nw (uL σ 21 (((100 * v3) + v4) + v6).toNatClampNeg (σ.2 22 v6.toNatClampNeg)) fun σ30 => nw (v6 + 1 : Int32) fun v131 => f_X6_copy_174 k209 n v3 v4 v5 v131 σ30)
set_option maxHeartbeats 4000000 in
set_option maxRecDepth 100000 in
theorem b_X6_copy_174 {k209 : Int32 → St → Option (Int32 × St)} (X : Cx RX6 wsX6_copy cX6_copy 7 (some .int) D cA ad SM p s m args meth c) (h209 : ∀ (w0 : Int32) (σ : St) (H : Heap) (locs : List Loc) (ls : Array Slot), k209 w0 σ = some r → Rn D cA ad SM s.heap σ H locs → lv_has ls 7 [(5, .int w0)] → W p l e rm_X6_copy s m args below meth c H locs 0 0 (MQ below (Qi D cA ad SM r) args s 0 0 (Aw ad SM)) (F0 m 209 ls [])) : ∀ (n : Nat) (v3 : Int32) (v4 : Int32) (v5 : Int32) (v6 : Int32) (σ : St) (H : Heap) (locs : List Loc) (ls : Array Slot), f_X6_copy_174 k209 n v3 v4 v5 v6 σ = some r → Rn D cA ad SM s.heap σ H locs → lv_has ls 7 [(0, .ref (ad 0)), (3, .int v3), (4, .int v4), (5, .int v5), (6, .int v6)] → W p l e rm_X6_copy s m args below meth c H locs 0 0 (MQ below (Qi D cA ad SM r) args s 0 0 (Aw ad SM)) (F0 m 174 ls []) := by
  obtain ⟨hx, hb, hml, hown, hts, hr, hlk, hK, hij⟩ := id X
  intro n
  induction n with
  | zero =>
    intro v3 v4 v5 v6 σ H locs ls hf
    exact nomatch (show (none : Option (Int32 × St)) = some r from hf)
  | succ n ih =>
    intro v3 v4 v5 v6 σ H locs ls hf hW hl
    rw [f_X6_copy_174] at hf
    refine lv_iload hx hb dX6_copy_174 (lv_at hl 4 rfl) ?_
    refine lv_iload hx hb dX6_copy_176 (lv_at hl 3 rfl) ?_
    refine lv_icmp_ge (tgt := 209) hx hb dX6_copy_178 (by decide) (fun c27 => ?_) (fun c27 => ?_)
    · have hf := it_e hf c27
      exact h209 v5 σ _ _ _ hf hW (lv_sub hl [3] rfl)
    · have hf := ie_e hf c27
      refine lv_aload_n hx hb dX6_copy_181 rfl (lv_at hl 0 rfl) ?_
      refine get_6_31 X hW kM_0 iM_0 inX6_copy_6 (List.mem_of_getElem? (i := 7) rfl) dX6_copy_182 ?_
      refine lv_bipush (v := 100) hx hb dX6_copy_185 (by decide) ?_
      refine lv_iload_n hx hb dX6_copy_187 rfl (lv_at hl 1 rfl) ?_
      refine lv_imul hx hb dX6_copy_188 ?_
      refine lv_iload hx hb dX6_copy_189 (lv_at hl 2 rfl) ?_
      refine lv_iadd hx hb dX6_copy_191 ?_
      refine lv_iload hx hb dX6_copy_192 (lv_at hl 4 rfl) ?_
      refine lv_iadd hx hb dX6_copy_194 ?_
      refine lv_aload_n hx hb dX6_copy_195 rfl (lv_at hl 0 rfl) ?_
      refine get_6_32 X hW kM_0 iM_0 inX6_copy_6 (List.mem_of_getElem? (i := 6) rfl) dX6_copy_196 ?_
      refine lv_iload hx hb dX6_copy_199 (lv_at hl 4 rfl) ?_
      obtain ⟨x28, hf⟩ := chk_e hf
      refine r_lald X hW kM_22 iM_22 nM_22 x28 dX6_copy_201 ?_
      obtain ⟨x29, hf⟩ := chk_e hf
      obtain ⟨σ30, e30, hf⟩ := nw_e hf
      refine r_last X hW kM_21 iM_21 nM_21 x29 e30 dX6_copy_202 (fun H locs hW => ?_)
      obtain ⟨v131, e31, hf⟩ := nw_e hf
      refine lv_iinc (v := v131) (lv' := [(6, .int v131), (0, .ref (ad 0)), (3, .int v3), (4, .int v4), (5, .int v5)]) hx hb dX6_copy_203 hl (k := 4) rfl (by rw [e31]; rfl) (by decide) rfl (fun ls hl => ?_)
      refine lv_goto (tgt := 174) hx hb dX6_copy_206 (by decide) ?_
      exact ih v3 v4 v5 v131 σ30 _ _ _ hf hW (lv_sub hl [1, 2, 3, 4, 0] rfl)
end S_X6_copy
noncomputable def f_X6_copy (σ : St) (a1 : Int32) (a2 : Int32) (a3 : Int32) (a4 : Int32) (a5 : Int32) : Option (Int32 × St) := nw (uI σ 0 5 0) fun σ1 => bnd (f_X6_in a1.toInt64 0 7) fun r2 => (if r2 = 0 then some ((-1), σ1) else bnd (f_X6_in a3.toInt64 0 7) fun r4 => (if r4 = 0 then some ((-1), σ1) else chk (inb a1 8) <| (if (σ1.1 16 a1.toNatClampNeg) = 0 then some ((-11), σ1) else chk (inb a3 8) <| (if (σ1.1 16 a3.toNatClampNeg) = 0 then some ((-11), σ1) else (if (σ1.1 16 a1.toNatClampNeg) = 2 then (if (σ1.1 16 a3.toNatClampNeg) = 2 then (if (σ1.1 19 a1.toNatClampNeg) = (σ1.1 19 a3.toNatClampNeg) then (if a5 < 0 then some ((-13), σ1) else (if a2 < 0 then some ((-13), σ1) else (if a4 < 0 then some ((-13), σ1) else (if ((σ1.1 20 a1.toNatClampNeg) - a5) < a2 then some ((-13), σ1) else (if a4 ≤ ((σ1.1 20 a3.toNatClampNeg) - a5) then f_X6_copy_137 (fun (w23_0 : Int32) (w24_1 : Int32) (w25_2 : Int32) (σ26 : St) => f_X6_copy_174 (fun (w32_0 : Int32) (σ33 : St) => some (w32_0, σ33)) fu w23_0 w24_1 w25_2 0 σ26) fu a1 a2 a3 a4 a5 0 σ1 else some ((-13), σ1)))))) else some ((-12), σ1)) else some ((-12), σ1)) else some ((-12), σ1))))))
set_option maxHeartbeats 4000000 in
set_option maxRecDepth 100000 in
theorem c_X6_copy (l : Launch) (D : va_G) (cA : Nat → ClassId) (ad : Nat → Nat) (hij : Ij ad SM) (σ : St) (a1 : Int32) (a2 : Int32) (a3 : Int32) (a4 : Int32) (a5 : Int32) (r : Int32 × St) (hf : f_X6_copy σ a1 a2 a3 a4 a5 = some r) : Met l yX6_copy wsX6_copy rm_X6_copy (PC D cA ad SM [.ref (ad 0), .int a1, .int a2, .int a3, .int a4, .int a5] σ) (Qi D cA ad SM r) 0 0 (Aw ad SM) := by
  rw [f_X6_copy] at hf
  refine k_head (own := RX6) (ws := wsX6_copy) (cc := cX6_copy) (nL := 7) (ret := (some .int)) pn_X6 rfl rfl hij (Nat.le_of_ble_eq_true rfl) (fun p e s m below meth c ls X hW hl => ?_)
  have hl : lv_has ls 7 [(0, .ref (ad 0)), (1, .int a1), (2, .int a2), (3, .int a3), (4, .int a4), (5, .int a5)] := hl
  obtain ⟨hx, hb, hml, hown, hts, hr, hlk, hK, hij⟩ := id X
  refine lv_aload_n hx hb dX6_copy_0 rfl (lv_at hl 0 rfl) ?_
  refine lv_iconst (v := 0) hx hb dX6_copy_1 (by decide) ?_
  obtain ⟨σ1, e1, hf⟩ := nw_e hf
  refine put_6_5 X hW kM_0 iM_0 inX6_copy_6 (List.mem_of_getElem? (i := 1) rfl) e1 dX6_copy_2 (fun H locs hW => ?_)
  refine lv_iload_n hx hb dX6_copy_5 rfl (lv_at hl 1 rfl) ?_
  refine lv_i2l hx hb dX6_copy_6 rfl ?_
  refine lv_lconst (v := 0) hx hb dX6_copy_7 (by decide) ?_
  refine lv_ldc2 (v := 7) hx hb hown (hts _ (List.mem_of_getElem? (i := 2) rfl)) dX6_copy_8 ?_
  obtain ⟨r2, z2, hf⟩ := bnd_e hf
  refine r_cSiR X hW (c_X6_in l D cA ad hij σ1 a1.toInt64 0 7 r2 z2) gX6_copy_X6_in rfl ⟨rfl, rfl⟩ hd_X6_in ⟨Nat.le_of_ble_eq_true rfl, Nat.le_of_ble_eq_true rfl⟩ rfl (Nat.le_of_ble_eq_true rfl) hl.1 dX6_copy_11 (fun H locs hW => ?_)
  refine lv_if_eq (tgt := 29) hx hb dX6_copy_14 (by decide) (fun c3 => ?_) (fun c3 => ?_)
  · have hf := it_e hf c3
    refine lv_iconst (v := (-1)) hx hb dX6_copy_29 (by decide) ?_
    exact r_iret X hW rfl rfl hf dX6_copy_30
  · have hf := ie_e hf c3
    refine lv_iload_n hx hb dX6_copy_17 rfl (lv_at hl 3 rfl) ?_
    refine lv_i2l hx hb dX6_copy_18 rfl ?_
    refine lv_lconst (v := 0) hx hb dX6_copy_19 (by decide) ?_
    refine lv_ldc2 (v := 7) hx hb hown (hts _ (List.mem_of_getElem? (i := 2) rfl)) dX6_copy_20 ?_
    obtain ⟨r4, z4, hf⟩ := bnd_e hf
    refine r_cSiR X hW (c_X6_in l D cA ad hij σ1 a3.toInt64 0 7 r4 z4) gX6_copy_X6_in rfl ⟨rfl, rfl⟩ hd_X6_in ⟨Nat.le_of_ble_eq_true rfl, Nat.le_of_ble_eq_true rfl⟩ rfl (Nat.le_of_ble_eq_true rfl) hl.1 dX6_copy_23 (fun H locs hW => ?_)
    refine lv_if_ne (tgt := 31) hx hb dX6_copy_26 (by decide) (fun c5 => ?_) (fun c5 => ?_)
    · have hf := ie_e hf c5
      refine lv_aload_n hx hb dX6_copy_31 rfl (lv_at hl 0 rfl) ?_
      refine get_6_26 X hW kM_0 iM_0 inX6_copy_6 (List.mem_of_getElem? (i := 3) rfl) dX6_copy_32 ?_
      refine lv_iload_n hx hb dX6_copy_35 rfl (lv_at hl 1 rfl) ?_
      obtain ⟨x6, hf⟩ := chk_e hf
      refine r_iald X hW kM_16 iM_16 nM_16 x6 dX6_copy_36 ?_
      refine lv_if_eq (tgt := 49) hx hb dX6_copy_37 (by decide) (fun c7 => ?_) (fun c7 => ?_)
      · have hf := it_e hf c7
        refine lv_bipush (v := (-11)) hx hb dX6_copy_49 (by decide) ?_
        exact r_iret X hW rfl rfl hf dX6_copy_51
      · have hf := ie_e hf c7
        refine lv_aload_n hx hb dX6_copy_40 rfl (lv_at hl 0 rfl) ?_
        refine get_6_26 X hW kM_0 iM_0 inX6_copy_6 (List.mem_of_getElem? (i := 3) rfl) dX6_copy_41 ?_
        refine lv_iload_n hx hb dX6_copy_44 rfl (lv_at hl 3 rfl) ?_
        obtain ⟨x8, hf⟩ := chk_e hf
        refine r_iald X hW kM_16 iM_16 nM_16 x8 dX6_copy_45 ?_
        refine lv_if_ne (tgt := 52) hx hb dX6_copy_46 (by decide) (fun c9 => ?_) (fun c9 => ?_)
        · have hf := ie_e hf c9
          refine lv_aload_n hx hb dX6_copy_52 rfl (lv_at hl 0 rfl) ?_
          refine get_6_26 X hW kM_0 iM_0 inX6_copy_6 (List.mem_of_getElem? (i := 3) rfl) dX6_copy_53 ?_
          refine lv_iload_n hx hb dX6_copy_56 rfl (lv_at hl 1 rfl) ?_
          refine r_iald X hW kM_16 iM_16 nM_16 x6 dX6_copy_57 ?_
          refine lv_iconst (v := 2) hx hb dX6_copy_58 (by decide) ?_
          refine lv_icmp_ne (tgt := 87) hx hb dX6_copy_59 (by decide) (fun c10 => ?_) (fun c10 => ?_)
          · have hf := ie_e hf c10
            refine lv_bipush (v := (-12)) hx hb dX6_copy_87 (by decide) ?_
            exact r_iret X hW rfl rfl hf dX6_copy_89
          · have hf := it_e hf c10
            refine lv_aload_n hx hb dX6_copy_62 rfl (lv_at hl 0 rfl) ?_
            refine get_6_26 X hW kM_0 iM_0 inX6_copy_6 (List.mem_of_getElem? (i := 3) rfl) dX6_copy_63 ?_
            refine lv_iload_n hx hb dX6_copy_66 rfl (lv_at hl 3 rfl) ?_
            refine r_iald X hW kM_16 iM_16 nM_16 x8 dX6_copy_67 ?_
            refine lv_iconst (v := 2) hx hb dX6_copy_68 (by decide) ?_
            refine lv_icmp_ne (tgt := 87) hx hb dX6_copy_69 (by decide) (fun c11 => ?_) (fun c11 => ?_)
            · have hf := ie_e hf c11
              refine lv_bipush (v := (-12)) hx hb dX6_copy_87 (by decide) ?_
              exact r_iret X hW rfl rfl hf dX6_copy_89
            · have hf := it_e hf c11
              refine lv_aload_n hx hb dX6_copy_72 rfl (lv_at hl 0 rfl) ?_
              refine get_6_29 X hW kM_0 iM_0 inX6_copy_6 (List.mem_of_getElem? (i := 4) rfl) dX6_copy_73 ?_
              refine lv_iload_n hx hb dX6_copy_76 rfl (lv_at hl 1 rfl) ?_
              refine r_iald X hW kM_19 iM_19 nM_19 x6 dX6_copy_77 ?_
              refine lv_aload_n hx hb dX6_copy_78 rfl (lv_at hl 0 rfl) ?_
              refine get_6_29 X hW kM_0 iM_0 inX6_copy_6 (List.mem_of_getElem? (i := 4) rfl) dX6_copy_79 ?_
              refine lv_iload_n hx hb dX6_copy_82 rfl (lv_at hl 3 rfl) ?_
              refine r_iald X hW kM_19 iM_19 nM_19 x8 dX6_copy_83 ?_
              refine lv_icmp_eq (tgt := 90) hx hb dX6_copy_84 (by decide) (fun c12 => ?_) (fun c12 => ?_)
              · have hf := it_e hf c12
                refine lv_iload hx hb dX6_copy_90 (lv_at hl 5 rfl) ?_
                refine lv_if_lt (tgt := 131) hx hb dX6_copy_92 (by decide) (fun c13 => ?_) (fun c13 => ?_)
                · have hf := it_e hf c13
                  refine lv_bipush (v := (-13)) hx hb dX6_copy_131 (by decide) ?_
                  exact r_iret X hW rfl rfl hf dX6_copy_133
                · have hf := ie_e hf c13
                  refine lv_iload_n hx hb dX6_copy_95 rfl (lv_at hl 2 rfl) ?_
                  refine lv_if_lt (tgt := 131) hx hb dX6_copy_96 (by decide) (fun c14 => ?_) (fun c14 => ?_)
                  · have hf := it_e hf c14
                    refine lv_bipush (v := (-13)) hx hb dX6_copy_131 (by decide) ?_
                    exact r_iret X hW rfl rfl hf dX6_copy_133
                  · have hf := ie_e hf c14
                    refine lv_iload hx hb dX6_copy_99 (lv_at hl 4 rfl) ?_
                    refine lv_if_lt (tgt := 131) hx hb dX6_copy_101 (by decide) (fun c15 => ?_) (fun c15 => ?_)
                    · have hf := it_e hf c15
                      refine lv_bipush (v := (-13)) hx hb dX6_copy_131 (by decide) ?_
                      exact r_iret X hW rfl rfl hf dX6_copy_133
                    · have hf := ie_e hf c15
                      refine lv_iload_n hx hb dX6_copy_104 rfl (lv_at hl 2 rfl) ?_
                      refine lv_aload_n hx hb dX6_copy_105 rfl (lv_at hl 0 rfl) ?_
                      refine get_6_30 X hW kM_0 iM_0 inX6_copy_6 (List.mem_of_getElem? (i := 5) rfl) dX6_copy_106 ?_
                      refine lv_iload_n hx hb dX6_copy_109 rfl (lv_at hl 1 rfl) ?_
                      refine r_iald X hW kM_20 iM_20 nM_20 x6 dX6_copy_110 ?_
                      refine lv_iload hx hb dX6_copy_111 (lv_at hl 5 rfl) ?_
                      refine lv_isub hx hb dX6_copy_113 ?_
                      refine lv_icmp_gt (tgt := 131) hx hb dX6_copy_114 (by decide) (fun c16 => ?_) (fun c16 => ?_)
                      · have hf := it_e hf c16
                        refine lv_bipush (v := (-13)) hx hb dX6_copy_131 (by decide) ?_
                        exact r_iret X hW rfl rfl hf dX6_copy_133
                      · have hf := ie_e hf c16
                        refine lv_iload hx hb dX6_copy_117 (lv_at hl 4 rfl) ?_
                        refine lv_aload_n hx hb dX6_copy_119 rfl (lv_at hl 0 rfl) ?_
                        refine get_6_30 X hW kM_0 iM_0 inX6_copy_6 (List.mem_of_getElem? (i := 5) rfl) dX6_copy_120 ?_
                        refine lv_iload_n hx hb dX6_copy_123 rfl (lv_at hl 3 rfl) ?_
                        refine r_iald X hW kM_20 iM_20 nM_20 x8 dX6_copy_124 ?_
                        refine lv_iload hx hb dX6_copy_125 (lv_at hl 5 rfl) ?_
                        refine lv_isub hx hb dX6_copy_127 ?_
                        refine lv_icmp_le (tgt := 134) hx hb dX6_copy_128 (by decide) (fun c17 => ?_) (fun c17 => ?_)
                        · have hf := it_e hf c17
                          refine lv_iconst (v := 0) hx hb dX6_copy_134 (by decide) ?_
                          refine lv_istore (lv' := [(6, .int 0), (0, .ref (ad 0)), (1, .int a1), (2, .int a2), (3, .int a3), (4, .int a4), (5, .int a5)]) hx hb dX6_copy_135 hl (by decide) rfl (fun ls hl => ?_)
                          refine b_X6_copy_137 X (fun w23_0 w24_1 w25_2 σ26 H locs ls hf hW hl => ?_) fu a1 a2 a3 a4 a5 0 σ1 _ _ _ hf hW (lv_sub hl [1, 2, 3, 4, 5, 6, 0] rfl)
                          · refine lv_iconst (v := 0) hx hb dX6_copy_171 (by decide) ?_
                            refine lv_istore (lv' := [(6, .int 0), (0, .ref (ad 0)), (3, .int w23_0), (4, .int w24_1), (5, .int w25_2)]) hx hb dX6_copy_172 hl (by decide) rfl (fun ls hl => ?_)
                            refine b_X6_copy_174 X (fun w32_0 σ33 H locs ls hf hW hl => ?_) fu w23_0 w24_1 w25_2 0 σ26 _ _ _ hf hW (lv_sub hl [1, 2, 3, 4, 0] rfl)
                            · refine lv_iload hx hb dX6_copy_209 (lv_at hl 0 rfl) ?_
                              exact r_iret X hW rfl rfl hf dX6_copy_211
                        · have hf := ie_e hf c17
                          refine lv_bipush (v := (-13)) hx hb dX6_copy_131 (by decide) ?_
                          exact r_iret X hW rfl rfl hf dX6_copy_133
              · have hf := ie_e hf c12
                refine lv_bipush (v := (-12)) hx hb dX6_copy_87 (by decide) ?_
                exact r_iret X hW rfl rfl hf dX6_copy_89
        · have hf := it_e hf c9
          refine lv_bipush (v := (-11)) hx hb dX6_copy_49 (by decide) ?_
          exact r_iret X hW rfl rfl hf dX6_copy_51
    · have hf := it_e hf c5
      refine lv_iconst (v := (-1)) hx hb dX6_copy_29 (by decide) ?_
      exact r_iret X hW rfl rfl hf dX6_copy_30

abbrev rm_X6_price : Room := { frames := 2, cells := 0, slots := 0, locals := 46 }
theorem hd_X6_price : yX6_price.cls = RX6 ∧ yX6_price.cls ≠ "java/lang/invoke/MethodHandle" ∧ yX6_price.cls ≠ "java/lang/invoke/VarHandle" ∧ (parseMethodDescriptor yX6_price.desc).map (fun d => d.parameters.length) = some 1 := by decide +kernel
theorem inX6_price_6 : ∀ w ∈ wsX60, w ∈ wsX6_price := fun _ h => List.mem_cons_of_mem _ (List.mem_append_right _ h)
section S_X6_price
variable {p : Program} {l : Launch} {e : Env} {s : State} {m : MethodId} {args : Array Value} {below : List Frame} {meth : Method} {c : Code} {D : va_G} {cA : Nat → ClassId} {ad : Nat → Nat} {r : Int32 × St}
end S_X6_price
noncomputable def f_X6_price (σ : St) (a1 : Int32) : Option (Int32 × St) := nw (uI σ 0 5 0) fun σ1 => bnd (f_X6_wrongDish σ1 a1) fun r2 => (if 0 ≤ r2 then chk (inb a1 8) <| bnd (f_X6_priceOf (σ1.1 17 a1.toNatClampNeg) (σ1.1 18 a1.toNatClampNeg)) fun r5 => some (r5, σ1) else bnd (f_X6_wrongDish σ1 a1) fun r6 => some (r6, σ1))
set_option maxHeartbeats 4000000 in
set_option maxRecDepth 100000 in
theorem c_X6_price (l : Launch) (D : va_G) (cA : Nat → ClassId) (ad : Nat → Nat) (hij : Ij ad SM) (σ : St) (a1 : Int32) (r : Int32 × St) (hf : f_X6_price σ a1 = some r) : Met l yX6_price wsX6_price rm_X6_price (PC D cA ad SM [.ref (ad 0), .int a1] σ) (Qi D cA ad SM r) 0 0 (Aw ad SM) := by
  rw [f_X6_price] at hf
  refine k_head (own := RX6) (ws := wsX6_price) (cc := cX6_price) (nL := 2) (ret := (some .int)) pn_X6 rfl rfl hij (Nat.le_of_ble_eq_true rfl) (fun p e s m below meth c ls X hW hl => ?_)
  have hl : lv_has ls 2 [(0, .ref (ad 0)), (1, .int a1)] := hl
  obtain ⟨hx, hb, hml, hown, hts, hr, hlk, hK, hij⟩ := id X
  refine lv_aload_n hx hb dX6_price_0 rfl (lv_at hl 0 rfl) ?_
  refine lv_iconst (v := 0) hx hb dX6_price_1 (by decide) ?_
  obtain ⟨σ1, e1, hf⟩ := nw_e hf
  refine put_6_5 X hW kM_0 iM_0 inX6_price_6 (List.mem_of_getElem? (i := 1) rfl) e1 dX6_price_2 (fun H locs hW => ?_)
  refine lv_aload_n hx hb dX6_price_5 rfl (lv_at hl 0 rfl) ?_
  refine lv_iload_n hx hb dX6_price_6 rfl (lv_at hl 1 rfl) ?_
  obtain ⟨r2, z2, hf⟩ := bnd_e hf
  refine r_cViR X hW kM_0 iM_0 rfl (c_X6_wrongDish l D cA ad hij σ1 a1 r2 z2) gX6_price_X6_wrongDish rfl ⟨rfl, rfl⟩ hd_X6_wrongDish ⟨Nat.le_of_ble_eq_true rfl, Nat.le_of_ble_eq_true rfl⟩ rfl (Nat.le_of_ble_eq_true rfl) hl.1 dX6_price_7 (fun H locs hW => ?_)
  refine lv_if_ge (tgt := 21) hx hb dX6_price_10 (by decide) (fun c3 => ?_) (fun c3 => ?_)
  · have hf := it_e hf c3
    refine lv_aload_n hx hb dX6_price_21 rfl (lv_at hl 0 rfl) ?_
    refine get_6_27 X hW kM_0 iM_0 inX6_price_6 (List.mem_of_getElem? (i := 2) rfl) dX6_price_22 ?_
    refine lv_iload_n hx hb dX6_price_25 rfl (lv_at hl 1 rfl) ?_
    obtain ⟨x4, hf⟩ := chk_e hf
    refine r_iald X hW kM_17 iM_17 nM_17 x4 dX6_price_26 ?_
    refine lv_aload_n hx hb dX6_price_27 rfl (lv_at hl 0 rfl) ?_
    refine get_6_28 X hW kM_0 iM_0 inX6_price_6 (List.mem_of_getElem? (i := 3) rfl) dX6_price_28 ?_
    refine lv_iload_n hx hb dX6_price_31 rfl (lv_at hl 1 rfl) ?_
    refine r_iald X hW kM_18 iM_18 nM_18 x4 dX6_price_32 ?_
    obtain ⟨r5, z5, hf⟩ := bnd_e hf
    refine r_cSiR X hW (c_X6_priceOf l D cA ad hij σ1 (σ1.1 17 a1.toNatClampNeg) (σ1.1 18 a1.toNatClampNeg) r5 z5) gX6_price_X6_priceOf rfl ⟨rfl, rfl⟩ hd_X6_priceOf ⟨Nat.le_of_ble_eq_true rfl, Nat.le_of_ble_eq_true rfl⟩ rfl (Nat.le_of_ble_eq_true rfl) hl.1 dX6_price_33 (fun H locs hW => ?_)
    exact r_iret X hW rfl rfl hf dX6_price_36
  · have hf := ie_e hf c3
    refine lv_aload_n hx hb dX6_price_13 rfl (lv_at hl 0 rfl) ?_
    refine lv_iload_n hx hb dX6_price_14 rfl (lv_at hl 1 rfl) ?_
    obtain ⟨r6, z6, hf⟩ := bnd_e hf
    refine r_cViR X hW kM_0 iM_0 rfl (c_X6_wrongDish l D cA ad hij σ1 a1 r6 z6) gX6_price_X6_wrongDish rfl ⟨rfl, rfl⟩ hd_X6_wrongDish ⟨Nat.le_of_ble_eq_true rfl, Nat.le_of_ble_eq_true rfl⟩ rfl (Nat.le_of_ble_eq_true rfl) hl.1 dX6_price_15 (fun H locs hW => ?_)
    refine lv_goto (tgt := 36) hx hb dX6_price_18 (by decide) ?_
    exact r_iret X hW rfl rfl hf dX6_price_36

abbrev rm_X6_toss : Room := { frames := 2, cells := 0, slots := 0, locals := 46 }
theorem hd_X6_toss : yX6_toss.cls = RX6 ∧ yX6_toss.cls ≠ "java/lang/invoke/MethodHandle" ∧ yX6_toss.cls ≠ "java/lang/invoke/VarHandle" ∧ (parseMethodDescriptor yX6_toss.desc).map (fun d => d.parameters.length) = some 1 := by decide +kernel
theorem inX6_toss_6 : ∀ w ∈ wsX60, w ∈ wsX6_toss := fun _ h => List.mem_cons_of_mem _ (List.mem_append_right _ h)
section S_X6_toss
variable {p : Program} {l : Launch} {e : Env} {s : State} {m : MethodId} {args : Array Value} {below : List Frame} {meth : Method} {c : Code} {D : va_G} {cA : Nat → ClassId} {ad : Nat → Nat} {r : Int32 × St}
end S_X6_toss
noncomputable def f_X6_toss (σ : St) (a1 : Int32) : Option (Int32 × St) := nw (uI σ 0 5 0) fun σ1 => bnd (f_X6_wrongDish σ1 a1) fun r2 => (if 0 ≤ r2 then chk (inb a1 8) <| nw (σ1.1 17 a1.toNatClampNeg : Int32) fun v105 => nw (σ1.1 18 a1.toNatClampNeg : Int32) fun v106 => (if v105 = 4 then some ((-15), σ1) else (if v106 = 0 then some ((-15), σ1) else (if v105 = 5 then some (100 + v106, σ1) else (if v105 = 6 then bnd (f_X6_priceOf v105 v106) fun r11 => some (200 + r11, σ1) else some (v106, σ1))))) else bnd (f_X6_wrongDish σ1 a1) fun r12 => some (r12, σ1))
set_option maxHeartbeats 4000000 in
set_option maxRecDepth 100000 in
theorem c_X6_toss (l : Launch) (D : va_G) (cA : Nat → ClassId) (ad : Nat → Nat) (hij : Ij ad SM) (σ : St) (a1 : Int32) (r : Int32 × St) (hf : f_X6_toss σ a1 = some r) : Met l yX6_toss wsX6_toss rm_X6_toss (PC D cA ad SM [.ref (ad 0), .int a1] σ) (Qi D cA ad SM r) 0 0 (Aw ad SM) := by
  rw [f_X6_toss] at hf
  refine k_head (own := RX6) (ws := wsX6_toss) (cc := cX6_toss) (nL := 4) (ret := (some .int)) pn_X6 rfl rfl hij (Nat.le_of_ble_eq_true rfl) (fun p e s m below meth c ls X hW hl => ?_)
  have hl : lv_has ls 4 [(0, .ref (ad 0)), (1, .int a1)] := hl
  obtain ⟨hx, hb, hml, hown, hts, hr, hlk, hK, hij⟩ := id X
  refine lv_aload_n hx hb dX6_toss_0 rfl (lv_at hl 0 rfl) ?_
  refine lv_iconst (v := 0) hx hb dX6_toss_1 (by decide) ?_
  obtain ⟨σ1, e1, hf⟩ := nw_e hf
  refine put_6_5 X hW kM_0 iM_0 inX6_toss_6 (List.mem_of_getElem? (i := 1) rfl) e1 dX6_toss_2 (fun H locs hW => ?_)
  refine lv_aload_n hx hb dX6_toss_5 rfl (lv_at hl 0 rfl) ?_
  refine lv_iload_n hx hb dX6_toss_6 rfl (lv_at hl 1 rfl) ?_
  obtain ⟨r2, z2, hf⟩ := bnd_e hf
  refine r_cViR X hW kM_0 iM_0 rfl (c_X6_wrongDish l D cA ad hij σ1 a1 r2 z2) gX6_toss_X6_wrongDish rfl ⟨rfl, rfl⟩ hd_X6_wrongDish ⟨Nat.le_of_ble_eq_true rfl, Nat.le_of_ble_eq_true rfl⟩ rfl (Nat.le_of_ble_eq_true rfl) hl.1 dX6_toss_7 (fun H locs hW => ?_)
  refine lv_if_ge (tgt := 19) hx hb dX6_toss_10 (by decide) (fun c3 => ?_) (fun c3 => ?_)
  · have hf := it_e hf c3
    refine lv_aload_n hx hb dX6_toss_19 rfl (lv_at hl 0 rfl) ?_
    refine get_6_27 X hW kM_0 iM_0 inX6_toss_6 (List.mem_of_getElem? (i := 2) rfl) dX6_toss_20 ?_
    refine lv_iload_n hx hb dX6_toss_23 rfl (lv_at hl 1 rfl) ?_
    obtain ⟨x4, hf⟩ := chk_e hf
    refine r_iald X hW kM_17 iM_17 nM_17 x4 dX6_toss_24 ?_
    obtain ⟨v105, e5, hf⟩ := nw_e hf
    refine tI _ e5 ?_
    refine lv_istore_n (lv' := [(2, .int v105), (0, .ref (ad 0)), (1, .int a1)]) hx hb dX6_toss_25 rfl hl (by decide) rfl (fun ls hl => ?_)
    refine lv_aload_n hx hb dX6_toss_26 rfl (lv_at hl 1 rfl) ?_
    refine get_6_28 X hW kM_0 iM_0 inX6_toss_6 (List.mem_of_getElem? (i := 3) rfl) dX6_toss_27 ?_
    refine lv_iload_n hx hb dX6_toss_30 rfl (lv_at hl 2 rfl) ?_
    refine r_iald X hW kM_18 iM_18 nM_18 x4 dX6_toss_31 ?_
    obtain ⟨v106, e6, hf⟩ := nw_e hf
    refine tI _ e6 ?_
    refine lv_istore_n (lv' := [(3, .int v106), (2, .int v105), (0, .ref (ad 0)), (1, .int a1)]) hx hb dX6_toss_32 rfl hl (by decide) rfl (fun ls hl => ?_)
    refine lv_iload_n hx hb dX6_toss_33 rfl (lv_at hl 1 rfl) ?_
    refine lv_iconst (v := 4) hx hb dX6_toss_34 (by decide) ?_
    refine lv_icmp_eq (tgt := 42) hx hb dX6_toss_35 (by decide) (fun c7 => ?_) (fun c7 => ?_)
    · have hf := it_e hf c7
      refine lv_bipush (v := (-15)) hx hb dX6_toss_42 (by decide) ?_
      exact r_iret X hW rfl rfl hf dX6_toss_44
    · have hf := ie_e hf c7
      refine lv_iload_n hx hb dX6_toss_38 rfl (lv_at hl 0 rfl) ?_
      refine lv_if_ne (tgt := 45) hx hb dX6_toss_39 (by decide) (fun c8 => ?_) (fun c8 => ?_)
      · have hf := ie_e hf c8
        refine lv_iload_n hx hb dX6_toss_45 rfl (lv_at hl 1 rfl) ?_
        refine lv_iconst (v := 5) hx hb dX6_toss_46 (by decide) ?_
        refine lv_icmp_ne (tgt := 57) hx hb dX6_toss_47 (by decide) (fun c9 => ?_) (fun c9 => ?_)
        · have hf := ie_e hf c9
          refine lv_iload_n hx hb dX6_toss_57 rfl (lv_at hl 1 rfl) ?_
          refine lv_bipush (v := 6) hx hb dX6_toss_58 (by decide) ?_
          refine lv_icmp_ne (tgt := 75) hx hb dX6_toss_60 (by decide) (fun c10 => ?_) (fun c10 => ?_)
          · have hf := ie_e hf c10
            refine lv_iload_n hx hb dX6_toss_75 rfl (lv_at hl 0 rfl) ?_
            exact r_iret X hW rfl rfl hf dX6_toss_76
          · have hf := it_e hf c10
            refine lv_sipush (v := 200) hx hb dX6_toss_63 (by decide) ?_
            refine lv_iload_n hx hb dX6_toss_66 rfl (lv_at hl 1 rfl) ?_
            refine lv_iload_n hx hb dX6_toss_67 rfl (lv_at hl 0 rfl) ?_
            obtain ⟨r11, z11, hf⟩ := bnd_e hf
            refine r_cSiR X hW (c_X6_priceOf l D cA ad hij σ1 v105 v106 r11 z11) gX6_toss_X6_priceOf rfl ⟨rfl, rfl⟩ hd_X6_priceOf ⟨Nat.le_of_ble_eq_true rfl, Nat.le_of_ble_eq_true rfl⟩ rfl (Nat.le_of_ble_eq_true rfl) hl.1 dX6_toss_68 (fun H locs hW => ?_)
            refine lv_iadd hx hb dX6_toss_71 ?_
            refine lv_goto (tgt := 76) hx hb dX6_toss_72 (by decide) ?_
            exact r_iret X hW rfl rfl hf dX6_toss_76
        · have hf := it_e hf c9
          refine lv_bipush (v := 100) hx hb dX6_toss_50 (by decide) ?_
          refine lv_iload_n hx hb dX6_toss_52 rfl (lv_at hl 0 rfl) ?_
          refine lv_iadd hx hb dX6_toss_53 ?_
          refine lv_goto (tgt := 76) hx hb dX6_toss_54 (by decide) ?_
          exact r_iret X hW rfl rfl hf dX6_toss_76
      · have hf := it_e hf c8
        refine lv_bipush (v := (-15)) hx hb dX6_toss_42 (by decide) ?_
        exact r_iret X hW rfl rfl hf dX6_toss_44
  · have hf := ie_e hf c3
    refine lv_aload_n hx hb dX6_toss_13 rfl (lv_at hl 0 rfl) ?_
    refine lv_iload_n hx hb dX6_toss_14 rfl (lv_at hl 1 rfl) ?_
    obtain ⟨r12, z12, hf⟩ := bnd_e hf
    refine r_cViR X hW kM_0 iM_0 rfl (c_X6_wrongDish l D cA ad hij σ1 a1 r12 z12) gX6_toss_X6_wrongDish rfl ⟨rfl, rfl⟩ hd_X6_wrongDish ⟨Nat.le_of_ble_eq_true rfl, Nat.le_of_ble_eq_true rfl⟩ rfl (Nat.le_of_ble_eq_true rfl) hl.1 dX6_toss_15 (fun H locs hW => ?_)
    exact r_iret X hW rfl rfl hf dX6_toss_18
