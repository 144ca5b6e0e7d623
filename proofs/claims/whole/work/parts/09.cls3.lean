abbrev rm_X5_count : Room := { frames := 1, cells := 0, slots := 0, locals := 23 }
theorem hd_X5_count : yX5_count.cls = RX5 ∧ yX5_count.cls ≠ "java/lang/invoke/MethodHandle" ∧ yX5_count.cls ≠ "java/lang/invoke/VarHandle" ∧ (parseMethodDescriptor yX5_count.desc).map (fun d => d.parameters.length) = some 1 := by decide +kernel
theorem inX5_count_5 : ∀ w ∈ wsX50, w ∈ wsX5_count := fun _ h => List.mem_cons_of_mem _ (List.mem_append_left _ (List.mem_append_left _ (List.mem_append_left _ (List.mem_append_right _ h))))
theorem inX5_count_1 : ∀ w ∈ wsX10, w ∈ wsX5_count := fun _ h => List.mem_cons_of_mem _ (List.mem_append_left _ (List.mem_append_left _ (List.mem_append_right _ h)))
theorem inX5_count_3 : ∀ w ∈ wsX30, w ∈ wsX5_count := fun _ h => List.mem_cons_of_mem _ (List.mem_append_left _ (List.mem_append_right _ h))
theorem inX5_count_0 : ∀ w ∈ wsX00, w ∈ wsX5_count := fun _ h => List.mem_cons_of_mem _ (List.mem_append_right _ h)
section S_X5_count
variable {p : Program} {l : Launch} {e : Env} {s : State} {m : MethodId} {args : Array Value} {below : List Frame} {meth : Method} {c : Code} {D : va_G} {cA : Nat → ClassId} {ad : Nat → Nat} {r : Int32}
noncomputable def f_X5_count_106 (σ : St) (k27 : Int32 → Int32 → Int32 → Option (Int32)) (v1 : Int32) (v2 : Int32) (v3 : Int32) : Option (Int32) := nw (v3 + 1 : Int32) fun v112 => k27 v1 v2 v112
set_option maxHeartbeats 4000000 in
set_option maxRecDepth 100000 in
theorem b_X5_count_106 {σ : St} {k27 : Int32 → Int32 → Int32 → Option (Int32)} (X : Cx RX5 wsX5_count cX5_count 5 (some .int) D cA ad SC p s m args meth c) (h27 : ∀ (w0 : Int32) (w1 : Int32) (w2 : Int32) (H : Heap) (locs : List Loc) (ls : Array Slot), k27 w0 w1 w2 = some r → Rn D cA ad SC s.heap σ H locs → lv_has ls 5 [(0, .ref (ad 0)), (1, .int w0), (2, .int w1), (3, .int w2)] → W p l e rm_X5_count s m args below meth c H locs 0 0 (MQ below (Qi D cA ad SC (r, σ)) args s 0 0 (Aw ad SC)) (F0 m 27 ls [])) : ∀ (v1 : Int32) (v2 : Int32) (v3 : Int32) (H : Heap) (locs : List Loc) (ls : Array Slot), f_X5_count_106 σ k27 v1 v2 v3 = some r → Rn D cA ad SC s.heap σ H locs → lv_has ls 5 [(0, .ref (ad 0)), (1, .int v1), (2, .int v2), (3, .int v3)] → W p l e rm_X5_count s m args below meth c H locs 0 0 (MQ below (Qi D cA ad SC (r, σ)) args s 0 0 (Aw ad SC)) (F0 m 106 ls []) := by
  obtain ⟨hx, hb, hml, hown, hts, hr, hlk, hK, hij⟩ := id X
  intro v1 v2 v3 H locs ls hf hW hl
  rw [f_X5_count_106] at hf
  obtain ⟨v112, e12, hf⟩ := nw_e hf
  refine lv_iinc (v := v112) (lv' := [(3, .int v112), (0, .ref (ad 0)), (1, .int v1), (2, .int v2)]) hx hb dX5_count_106 hl (k := 3) rfl (by rw [e12]; rfl) (by decide) rfl (fun ls hl => ?_)
  refine lv_goto (tgt := 27) hx hb dX5_count_109 (by decide) ?_
  exact h27 v1 v2 v112 _ _ _ hf hW (lv_sub hl [1, 2, 3, 0] rfl)
noncomputable def f_X5_count_92 (σ : St) (k27 : Int32 → Int32 → Int32 → Option (Int32)) (v1 : Int32) (v3 : Int32) (s0 : Int32) (s1 : Int32) : Option (Int32) := nw (s0 + s1 : Int32) fun v120 => f_X5_count_106 σ k27 v1 v120 v3
set_option maxHeartbeats 4000000 in
set_option maxRecDepth 100000 in
theorem b_X5_count_92 {σ : St} {k27 : Int32 → Int32 → Int32 → Option (Int32)} (X : Cx RX5 wsX5_count cX5_count 5 (some .int) D cA ad SC p s m args meth c) (h27 : ∀ (w0 : Int32) (w1 : Int32) (w2 : Int32) (H : Heap) (locs : List Loc) (ls : Array Slot), k27 w0 w1 w2 = some r → Rn D cA ad SC s.heap σ H locs → lv_has ls 5 [(0, .ref (ad 0)), (1, .int w0), (2, .int w1), (3, .int w2)] → W p l e rm_X5_count s m args below meth c H locs 0 0 (MQ below (Qi D cA ad SC (r, σ)) args s 0 0 (Aw ad SC)) (F0 m 27 ls [])) : ∀ (v1 : Int32) (v3 : Int32) (s0 : Int32) (s1 : Int32) (H : Heap) (locs : List Loc) (ls : Array Slot), f_X5_count_92 σ k27 v1 v3 s0 s1 = some r → Rn D cA ad SC s.heap σ H locs → lv_has ls 5 [(0, .ref (ad 0)), (1, .int v1), (3, .int v3)] → W p l e rm_X5_count s m args below meth c H locs 0 0 (MQ below (Qi D cA ad SC (r, σ)) args s 0 0 (Aw ad SC)) (F0 m 92 ls [.int s1, .int s0]) := by
  obtain ⟨hx, hb, hml, hown, hts, hr, hlk, hK, hij⟩ := id X
  intro v1 v3 s0 s1 H locs ls hf hW hl
  rw [f_X5_count_92] at hf
  refine lv_iadd hx hb dX5_count_92 ?_
  obtain ⟨v120, e20, hf⟩ := nw_e hf
  refine tI _ e20 ?_
  refine lv_istore_n (lv' := [(2, .int v120), (0, .ref (ad 0)), (1, .int v1), (3, .int v3)]) hx hb dX5_count_93 rfl hl (by decide) rfl (fun ls hl => ?_)
  refine lv_goto (tgt := 106) hx hb dX5_count_94 (by decide) ?_
  exact b_X5_count_106 X h27 v1 v120 v3 _ _ _ hf hW (lv_sub hl [1, 2, 0, 3] rfl)
noncomputable def f_X5_count_27 (σ : St) (k112 : Int32 → Option (Int32)) : Nat → Int32 → Int32 → Int32 → Option (Int32)
  | 0, _, _, _ => none
  | n + 1, v1, v2, v3 => (if (σ.1 1 1) ≤ v3 then k112 v2 else chk (inb v3 6) <| nw (3 + 5 * v3.toNatClampNeg : Nat) fun v106 => (if v1 = 1 then chk (kOK SC v106 3) <| chk (kOK SC (v106 + 1) 0) <| nw (v2 + (σ.1 (v106 + 1) 2) : Int32) fun v129 => f_X5_count_106 σ (fun (w30_0 : Int32) (w31_1 : Int32) (w32_2 : Int32) => f_X5_count_27 σ k112 n w30_0 w31_1 w32_2) v1 v129 v3 else (if v1 = 2 then chk (kOK SC v106 3) <| chk (kOK SC (v106 + 1) 0) <| bnd (f_X0_totalAbove σ (v106 + 1)) fun r17 => (if (lg_cmp r17 0) = 0 then f_X5_count_92 σ (fun (w24_0 : Int32) (w25_1 : Int32) (w26_2 : Int32) => f_X5_count_27 σ k112 n w24_0 w25_1 w26_2) v1 v3 v2 1 else f_X5_count_92 σ (fun (w21_0 : Int32) (w22_1 : Int32) (w23_2 : Int32) => f_X5_count_27 σ k112 n w21_0 w22_1 w23_2) v1 v3 v2 0) else chk (kOK SC v106 3) <| bnd (f_X3_howManyOf σ v106 4) fun r9 => nw (v2 + r9 : Int32) fun v111 => f_X5_count_106 σ (fun (w13_0 : Int32) (w14_1 : Int32) (w15_2 : Int32) => f_X5_count_27 σ k112 n w13_0 w14_1 w15_2) v1 v111 v3)))
set_option maxHeartbeats 4000000 in
set_option maxRecDepth 100000 in
theorem b_X5_count_27 {σ : St} {k112 : Int32 → Option (Int32)} (X : Cx RX5 wsX5_count cX5_count 5 (some .int) D cA ad SC p s m args meth c) (h112 : ∀ (w0 : Int32) (H : Heap) (locs : List Loc) (ls : Array Slot), k112 w0 = some r → Rn D cA ad SC s.heap σ H locs → lv_has ls 5 [(2, .int w0)] → W p l e rm_X5_count s m args below meth c H locs 0 0 (MQ below (Qi D cA ad SC (r, σ)) args s 0 0 (Aw ad SC)) (F0 m 112 ls [])) : ∀ (n : Nat) (v1 : Int32) (v2 : Int32) (v3 : Int32) (H : Heap) (locs : List Loc) (ls : Array Slot), f_X5_count_27 σ k112 n v1 v2 v3 = some r → Rn D cA ad SC s.heap σ H locs → lv_has ls 5 [(0, .ref (ad 0)), (1, .int v1), (2, .int v2), (3, .int v3)] → W p l e rm_X5_count s m args below meth c H locs 0 0 (MQ below (Qi D cA ad SC (r, σ)) args s 0 0 (Aw ad SC)) (F0 m 27 ls []) := by
  obtain ⟨hx, hb, hml, hown, hts, hr, hlk, hK, hij⟩ := id X
  intro n
  induction n with
  | zero =>
    intro v1 v2 v3 H locs ls hf
    exact nomatch (show (none : Option (Int32)) = some r from hf)
  | succ n ih =>
    intro v1 v2 v3 H locs ls hf hW hl
    rw [f_X5_count_27] at hf
    refine lv_iload_n hx hb dX5_count_27 rfl (lv_at hl 3 rfl) ?_
    refine lv_aload_n hx hb dX5_count_28 rfl (lv_at hl 0 rfl) ?_
    refine get_5_0 X hW kC_0 iC_0 inX5_count_5 (List.mem_of_getElem? (i := 1) rfl) dX5_count_29 ?_
    refine get_1_1 X hW kC_1 iC_1 inX5_count_1 (List.mem_of_getElem? (i := 2) rfl) dX5_count_32 ?_
    refine lv_icmp_ge (tgt := 112) hx hb dX5_count_35 (by decide) (fun c4 => ?_) (fun c4 => ?_)
    · have hf := it_e hf c4
      exact h112 v2 _ _ _ hf hW (lv_sub hl [2] rfl)
    · have hf := ie_e hf c4
      refine lv_aload_n hx hb dX5_count_38 rfl (lv_at hl 0 rfl) ?_
      refine get_5_0 X hW kC_0 iC_0 inX5_count_5 (List.mem_of_getElem? (i := 1) rfl) dX5_count_39 ?_
      refine get_1_0 X hW kC_1 iC_1 inX5_count_1 (List.mem_of_getElem? (i := 3) rfl) dX5_count_42 ?_
      refine lv_iload_n hx hb dX5_count_45 rfl (lv_at hl 3 rfl) ?_
      obtain ⟨x5, hf⟩ := chk_e hf
      refine r_aald (j := 3 + 5 * v3.toNatClampNeg) X hW kC_2 iC_2 nC_2 (by decide) rfl x5 rfl dX5_count_46 ?_
      obtain ⟨v106, e6, hf⟩ := nw_e hf
      refine tR _ e6 ?_
      refine lv_astore (lv' := [(4, .ref (ad v106)), (0, .ref (ad 0)), (1, .int v1), (2, .int v2), (3, .int v3)]) hx hb dX5_count_47 hl (by decide) rfl (fun ls hl => ?_)
      refine lv_iload_n hx hb dX5_count_49 rfl (lv_at hl 2 rfl) ?_
      refine lv_iconst (v := 1) hx hb dX5_count_50 (by decide) ?_
      refine lv_icmp_ne (tgt := 68) hx hb dX5_count_51 (by decide) (fun c7 => ?_) (fun c7 => ?_)
      · have hf := ie_e hf c7
        refine lv_iload_n hx hb dX5_count_68 rfl (lv_at hl 2 rfl) ?_
        refine lv_iconst (v := 2) hx hb dX5_count_69 (by decide) ?_
        refine lv_icmp_ne (tgt := 97) hx hb dX5_count_70 (by decide) (fun c8 => ?_) (fun c8 => ?_)
        · have hf := ie_e hf c8
          refine lv_iload_n hx hb dX5_count_97 rfl (lv_at hl 3 rfl) ?_
          refine lv_aload hx hb dX5_count_98 (lv_at hl 0 rfl) ?_
          refine lv_iconst (v := 4) hx hb dX5_count_100 (by decide) ?_
          obtain ⟨q10, hf⟩ := chk_e hf
          obtain ⟨i10, k10⟩ := kOK_e q10
          obtain ⟨r9, z9, hf⟩ := bnd_e hf
          refine r_cViR X hW k10 i10 rfl (c_X3_howManyOf l D cA ad hij σ v106 4 r9 z9) gX5_count_X3_howManyOf rfl ⟨rfl, rfl⟩ hd_X3_howManyOf ⟨Nat.le_of_ble_eq_true rfl, Nat.le_of_ble_eq_true rfl⟩ rfl (Nat.le_of_ble_eq_true rfl) hl.1 dX5_count_101 (fun H locs hW => ?_)
          refine lv_iadd hx hb dX5_count_104 ?_
          obtain ⟨v111, e11, hf⟩ := nw_e hf
          refine tI _ e11 ?_
          refine lv_istore_n (lv' := [(2, .int v111), (4, .ref (ad v106)), (0, .ref (ad 0)), (1, .int v1), (3, .int v3)]) hx hb dX5_count_105 rfl hl (by decide) rfl (fun ls hl => ?_)
          refine b_X5_count_106 X (fun w13_0 w14_1 w15_2 H locs ls hf hW hl => ?_) v1 v111 v3 _ _ _ hf hW (lv_sub hl [2, 3, 0, 4] rfl)
          · exact ih w13_0 w14_1 w15_2 _ _ _ hf hW (lv_sub hl [0, 1, 2, 3] rfl)
        · have hf := it_e hf c8
          refine lv_iload_n hx hb dX5_count_73 rfl (lv_at hl 3 rfl) ?_
          refine lv_aload hx hb dX5_count_74 (lv_at hl 0 rfl) ?_
          obtain ⟨q16, hf⟩ := chk_e hf
          obtain ⟨i16, k16⟩ := kOK_e q16
          refine get_3_0 X hW k16 i16 inX5_count_3 (List.mem_of_getElem? (i := 4) rfl) dX5_count_76 ?_
          obtain ⟨q18, hf⟩ := chk_e hf
          obtain ⟨i18, k18⟩ := kOK_e q18
          obtain ⟨r17, z17, hf⟩ := bnd_e hf
          refine r_cVlR X hW k18 i18 rfl (c_X0_totalAbove l D cA ad hij σ (v106 + 1) r17 z17) gX5_count_X0_totalAbove rfl ⟨rfl, rfl⟩ hd_X0_totalAbove ⟨Nat.le_of_ble_eq_true rfl, Nat.le_of_ble_eq_true rfl⟩ rfl (Nat.le_of_ble_eq_true rfl) hl.1 dX5_count_79 (fun H locs hW => ?_)
          refine lv_lconst (v := 0) hx hb dX5_count_82 (by decide) ?_
          refine W.lcmp hx hb dX5_count_83 ?_
          refine lv_if_ne (tgt := 91) hx hb dX5_count_84 (by decide) (fun c19 => ?_) (fun c19 => ?_)
          · have hf := ie_e hf c19
            refine lv_iconst (v := 0) hx hb dX5_count_91 (by decide) ?_
            refine b_X5_count_92 X (fun w21_0 w22_1 w23_2 H locs ls hf hW hl => ?_) v1 v3 v2 0 _ _ _ hf hW (lv_sub hl [1, 2, 4] rfl)
            · exact ih w21_0 w22_1 w23_2 _ _ _ hf hW (lv_sub hl [0, 1, 2, 3] rfl)
          · have hf := it_e hf c19
            refine lv_iconst (v := 1) hx hb dX5_count_87 (by decide) ?_
            refine lv_goto (tgt := 92) hx hb dX5_count_88 (by decide) ?_
            refine b_X5_count_92 X (fun w24_0 w25_1 w26_2 H locs ls hf hW hl => ?_) v1 v3 v2 1 _ _ _ hf hW (lv_sub hl [1, 2, 4] rfl)
            · exact ih w24_0 w25_1 w26_2 _ _ _ hf hW (lv_sub hl [0, 1, 2, 3] rfl)
      · have hf := it_e hf c7
        refine lv_iload_n hx hb dX5_count_54 rfl (lv_at hl 3 rfl) ?_
        refine lv_aload hx hb dX5_count_55 (lv_at hl 0 rfl) ?_
        obtain ⟨q27, hf⟩ := chk_e hf
        obtain ⟨i27, k27⟩ := kOK_e q27
        refine get_3_0 X hW k27 i27 inX5_count_3 (List.mem_of_getElem? (i := 4) rfl) dX5_count_57 ?_
        obtain ⟨q28, hf⟩ := chk_e hf
        obtain ⟨i28, k28⟩ := kOK_e q28
        refine get_0_2 X hW k28 i28 inX5_count_0 (List.mem_of_getElem? (i := 5) rfl) dX5_count_60 ?_
        refine lv_iadd hx hb dX5_count_63 ?_
        obtain ⟨v129, e29, hf⟩ := nw_e hf
        refine tI _ e29 ?_
        refine lv_istore_n (lv' := [(2, .int v129), (4, .ref (ad v106)), (0, .ref (ad 0)), (1, .int v1), (3, .int v3)]) hx hb dX5_count_64 rfl hl (by decide) rfl (fun ls hl => ?_)
        refine lv_goto (tgt := 106) hx hb dX5_count_65 (by decide) ?_
        refine b_X5_count_106 X (fun w30_0 w31_1 w32_2 H locs ls hf hW hl => ?_) v1 v129 v3 _ _ _ hf hW (lv_sub hl [2, 3, 0, 4] rfl)
        · exact ih w30_0 w31_1 w32_2 _ _ _ hf hW (lv_sub hl [0, 1, 2, 3] rfl)
end S_X5_count
noncomputable def f_X5_count (σ : St) (a1 : Int32) : Option (Int32) := (if a1 < 0 then some ((-1)) else (if a1 ≤ 3 then (if a1 = 0 then some (σ.1 1 1) else f_X5_count_27 σ (fun (w33_0 : Int32) => some w33_0) fu a1 0 0) else some ((-1))))
set_option maxHeartbeats 4000000 in
set_option maxRecDepth 100000 in
theorem c_X5_count (l : Launch) (D : va_G) (cA : Nat → ClassId) (ad : Nat → Nat) (hij : Ij ad SC) (σ : St) (a1 : Int32) (r : Int32) (hf : f_X5_count σ a1 = some r) : Met l yX5_count wsX5_count rm_X5_count (PC D cA ad SC [.ref (ad 0), .int a1] σ) (Qi D cA ad SC (r, σ)) 0 0 (Aw ad SC) := by
  rw [f_X5_count] at hf
  refine k_head (own := RX5) (ws := wsX5_count) (cc := cX5_count) (nL := 5) (ret := (some .int)) pn_X5 rfl rfl hij (Nat.le_of_ble_eq_true rfl) (fun p e s m below meth c ls X hW hl => ?_)
  have hl : lv_has ls 5 [(0, .ref (ad 0)), (1, .int a1)] := hl
  obtain ⟨hx, hb, hml, hown, hts, hr, hlk, hK, hij⟩ := id X
  refine lv_iload_n hx hb dX5_count_0 rfl (lv_at hl 1 rfl) ?_
  refine lv_if_lt (tgt := 9) hx hb dX5_count_1 (by decide) (fun c1 => ?_) (fun c1 => ?_)
  · have hf := it_e hf c1
    refine lv_iconst (v := (-1)) hx hb dX5_count_9 (by decide) ?_
    exact r_iretR X hW rfl rfl hf dX5_count_10
  · have hf := ie_e hf c1
    refine lv_iload_n hx hb dX5_count_4 rfl (lv_at hl 1 rfl) ?_
    refine lv_iconst (v := 3) hx hb dX5_count_5 (by decide) ?_
    refine lv_icmp_le (tgt := 11) hx hb dX5_count_6 (by decide) (fun c2 => ?_) (fun c2 => ?_)
    · have hf := it_e hf c2
      refine lv_iload_n hx hb dX5_count_11 rfl (lv_at hl 1 rfl) ?_
      refine lv_if_ne (tgt := 23) hx hb dX5_count_12 (by decide) (fun c3 => ?_) (fun c3 => ?_)
      · have hf := ie_e hf c3
        refine lv_iconst (v := 0) hx hb dX5_count_23 (by decide) ?_
        refine lv_istore_n (lv' := [(2, .int 0), (0, .ref (ad 0)), (1, .int a1)]) hx hb dX5_count_24 rfl hl (by decide) rfl (fun ls hl => ?_)
        refine lv_iconst (v := 0) hx hb dX5_count_25 (by decide) ?_
        refine lv_istore_n (lv' := [(3, .int 0), (2, .int 0), (0, .ref (ad 0)), (1, .int a1)]) hx hb dX5_count_26 rfl hl (by decide) rfl (fun ls hl => ?_)
        refine b_X5_count_27 X (fun w33_0 H locs ls hf hW hl => ?_) fu a1 0 0 _ _ _ hf hW (lv_sub hl [2, 3, 1, 0] rfl)
        · refine lv_iload_n hx hb dX5_count_112 rfl (lv_at hl 0 rfl) ?_
          exact r_iretR X hW rfl rfl hf dX5_count_113
      · have hf := it_e hf c3
        refine lv_aload_n hx hb dX5_count_15 rfl (lv_at hl 0 rfl) ?_
        refine get_5_0 X hW kC_0 iC_0 inX5_count_5 (List.mem_of_getElem? (i := 1) rfl) dX5_count_16 ?_
        refine get_1_1 X hW kC_1 iC_1 inX5_count_1 (List.mem_of_getElem? (i := 2) rfl) dX5_count_19 ?_
        exact r_iretR X hW rfl rfl hf dX5_count_22
    · have hf := ie_e hf c2
      refine lv_iconst (v := (-1)) hx hb dX5_count_9 (by decide) ?_
      exact r_iretR X hW rfl rfl hf dX5_count_10

abbrev rm_X5_keep : Room := { frames := 1, cells := 0, slots := 0, locals := 22 }
theorem hd_X5_keep : yX5_keep.cls = RX5 ∧ yX5_keep.cls ≠ "java/lang/invoke/MethodHandle" ∧ yX5_keep.cls ≠ "java/lang/invoke/VarHandle" ∧ (parseMethodDescriptor yX5_keep.desc).map (fun d => d.parameters.length) = some 4 := by decide +kernel
theorem inX5_keep_5 : ∀ w ∈ wsX50, w ∈ wsX5_keep := fun _ h => List.mem_cons_of_mem _ (List.mem_append_left _ (List.mem_append_right _ h))
theorem inX5_keep_4 : ∀ w ∈ wsX40, w ∈ wsX5_keep := fun _ h => List.mem_cons_of_mem _ (List.mem_append_right _ h)
section S_X5_keep
variable {p : Program} {l : Launch} {e : Env} {s : State} {m : MethodId} {args : Array Value} {below : List Frame} {meth : Method} {c : Code} {D : va_G} {cA : Nat → ClassId} {ad : Nat → Nat} {r : Int32 × St}
end S_X5_keep
noncomputable def f_X5_keep (σ : St) (a1 : Int32) (a2 : Int32) (a3 : Int32) (a4 : Int32) : Option (Int32 × St) := bnd (f_X5_isNoShelf a1) fun r1 => (if r1 = 0 then bnd (f_X5_isNoHalf a2) fun r3 => (if r3 = 0 then (if a2 = 0 then chk (inb a1 8) <| chk (kOK SC (126 + 2 * a1.toNatClampNeg) 4) <| bnd (f_X4_holdNothing σ (126 + 2 * a1.toNatClampNeg)) fun r14 => some (0, r14) else bnd (f_X5_isNoKind a3) fun r6 => (if r6 = 0 then bnd (f_X5_isNoFigure a4) fun r8 => (if r8 = 0 then chk (inb a1 8) <| chk (kOK SC (126 + 2 * a1.toNatClampNeg) 4) <| bnd (f_X4_holdDish σ (126 + 2 * a1.toNatClampNeg) a3 a4) fun r11 => some (0, r11) else some ((-1), σ)) else some ((-1), σ))) else some ((-1), σ)) else some ((-1), σ))
set_option maxHeartbeats 4000000 in
set_option maxRecDepth 100000 in
theorem c_X5_keep (l : Launch) (D : va_G) (cA : Nat → ClassId) (ad : Nat → Nat) (hij : Ij ad SC) (σ : St) (a1 : Int32) (a2 : Int32) (a3 : Int32) (a4 : Int32) (r : Int32 × St) (hf : f_X5_keep σ a1 a2 a3 a4 = some r) : Met l yX5_keep wsX5_keep rm_X5_keep (PC D cA ad SC [.ref (ad 0), .int a1, .int a2, .int a3, .int a4] σ) (Qi D cA ad SC r) 0 0 (Aw ad SC) := by
  rw [f_X5_keep] at hf
  refine k_head (own := RX5) (ws := wsX5_keep) (cc := cX5_keep) (nL := 5) (ret := (some .int)) pn_X5 rfl rfl hij (Nat.le_of_ble_eq_true rfl) (fun p e s m below meth c ls X hW hl => ?_)
  have hl : lv_has ls 5 [(0, .ref (ad 0)), (1, .int a1), (2, .int a2), (3, .int a3), (4, .int a4)] := hl
  obtain ⟨hx, hb, hml, hown, hts, hr, hlk, hK, hij⟩ := id X
  refine lv_iload_n hx hb dX5_keep_0 rfl (lv_at hl 1 rfl) ?_
  obtain ⟨r1, z1, hf⟩ := bnd_e hf
  refine r_cSiR X hW (c_X5_isNoShelf l D cA ad hij σ a1 r1 z1) gX5_keep_X5_isNoShelf rfl ⟨rfl, rfl⟩ hd_X5_isNoShelf ⟨Nat.le_of_ble_eq_true rfl, Nat.le_of_ble_eq_true rfl⟩ rfl (Nat.le_of_ble_eq_true rfl) hl.1 dX5_keep_1 (fun H locs hW => ?_)
  refine lv_if_ne (tgt := 14) hx hb dX5_keep_4 (by decide) (fun c2 => ?_) (fun c2 => ?_)
  · have hf := ie_e hf c2
    refine lv_iconst (v := (-1)) hx hb dX5_keep_14 (by decide) ?_
    exact r_iret X hW rfl rfl hf dX5_keep_15
  · have hf := it_e hf c2
    refine lv_iload_n hx hb dX5_keep_7 rfl (lv_at hl 2 rfl) ?_
    obtain ⟨r3, z3, hf⟩ := bnd_e hf
    refine r_cSiR X hW (c_X5_isNoHalf l D cA ad hij σ a2 r3 z3) gX5_keep_X5_isNoHalf rfl ⟨rfl, rfl⟩ hd_X5_isNoHalf ⟨Nat.le_of_ble_eq_true rfl, Nat.le_of_ble_eq_true rfl⟩ rfl (Nat.le_of_ble_eq_true rfl) hl.1 dX5_keep_8 (fun H locs hW => ?_)
    refine lv_if_eq (tgt := 16) hx hb dX5_keep_11 (by decide) (fun c4 => ?_) (fun c4 => ?_)
    · have hf := it_e hf c4
      refine lv_iload_n hx hb dX5_keep_16 rfl (lv_at hl 2 rfl) ?_
      refine lv_if_ne (tgt := 31) hx hb dX5_keep_17 (by decide) (fun c5 => ?_) (fun c5 => ?_)
      · have hf := ie_e hf c5
        refine lv_iload_n hx hb dX5_keep_31 rfl (lv_at hl 3 rfl) ?_
        obtain ⟨r6, z6, hf⟩ := bnd_e hf
        refine r_cSiR X hW (c_X5_isNoKind l D cA ad hij σ a3 r6 z6) gX5_keep_X5_isNoKind rfl ⟨rfl, rfl⟩ hd_X5_isNoKind ⟨Nat.le_of_ble_eq_true rfl, Nat.le_of_ble_eq_true rfl⟩ rfl (Nat.le_of_ble_eq_true rfl) hl.1 dX5_keep_32 (fun H locs hW => ?_)
        refine lv_if_ne (tgt := 46) hx hb dX5_keep_35 (by decide) (fun c7 => ?_) (fun c7 => ?_)
        · have hf := ie_e hf c7
          refine lv_iconst (v := (-1)) hx hb dX5_keep_46 (by decide) ?_
          exact r_iret X hW rfl rfl hf dX5_keep_47
        · have hf := it_e hf c7
          refine lv_iload hx hb dX5_keep_38 (lv_at hl 4 rfl) ?_
          obtain ⟨r8, z8, hf⟩ := bnd_e hf
          refine r_cSiR X hW (c_X5_isNoFigure l D cA ad hij σ a4 r8 z8) gX5_keep_X5_isNoFigure rfl ⟨rfl, rfl⟩ hd_X5_isNoFigure ⟨Nat.le_of_ble_eq_true rfl, Nat.le_of_ble_eq_true rfl⟩ rfl (Nat.le_of_ble_eq_true rfl) hl.1 dX5_keep_40 (fun H locs hW => ?_)
          refine lv_if_eq (tgt := 48) hx hb dX5_keep_43 (by decide) (fun c9 => ?_) (fun c9 => ?_)
          · have hf := it_e hf c9
            refine lv_aload_n hx hb dX5_keep_48 rfl (lv_at hl 0 rfl) ?_
            refine get_5_7 X hW kC_0 iC_0 inX5_keep_5 (List.mem_of_getElem? (i := 1) rfl) dX5_keep_49 ?_
            refine lv_iload_n hx hb dX5_keep_52 rfl (lv_at hl 1 rfl) ?_
            obtain ⟨x10, hf⟩ := chk_e hf
            refine r_aald (j := 126 + 2 * a1.toNatClampNeg) X hW kC_125 iC_125 nC_125 (by decide) rfl x10 rfl dX5_keep_53 ?_
            refine lv_iload_n hx hb dX5_keep_54 rfl (lv_at hl 3 rfl) ?_
            refine lv_iload hx hb dX5_keep_55 (lv_at hl 4 rfl) ?_
            obtain ⟨q12, hf⟩ := chk_e hf
            obtain ⟨i12, k12⟩ := kOK_e q12
            obtain ⟨r11, z11, hf⟩ := bnd_e hf
            refine r_cVv X hW k12 i12 rfl (c_X4_holdDish l D cA ad hij σ (126 + 2 * a1.toNatClampNeg) a3 a4 r11 z11) gX5_keep_X4_holdDish rfl ⟨rfl, rfl⟩ hd_X4_holdDish ⟨Nat.le_of_ble_eq_true rfl, Nat.le_of_ble_eq_true rfl⟩ rfl (Nat.le_of_ble_eq_true rfl) hl.1 dX5_keep_57 (fun H locs hW => ?_)
            refine lv_iconst (v := 0) hx hb dX5_keep_60 (by decide) ?_
            exact r_iret X hW rfl rfl hf dX5_keep_61
          · have hf := ie_e hf c9
            refine lv_iconst (v := (-1)) hx hb dX5_keep_46 (by decide) ?_
            exact r_iret X hW rfl rfl hf dX5_keep_47
      · have hf := it_e hf c5
        refine lv_aload_n hx hb dX5_keep_20 rfl (lv_at hl 0 rfl) ?_
        refine get_5_7 X hW kC_0 iC_0 inX5_keep_5 (List.mem_of_getElem? (i := 1) rfl) dX5_keep_21 ?_
        refine lv_iload_n hx hb dX5_keep_24 rfl (lv_at hl 1 rfl) ?_
        obtain ⟨x13, hf⟩ := chk_e hf
        refine r_aald (j := 126 + 2 * a1.toNatClampNeg) X hW kC_125 iC_125 nC_125 (by decide) rfl x13 rfl dX5_keep_25 ?_
        obtain ⟨q15, hf⟩ := chk_e hf
        obtain ⟨i15, k15⟩ := kOK_e q15
        obtain ⟨r14, z14, hf⟩ := bnd_e hf
        refine r_cVv X hW k15 i15 rfl (c_X4_holdNothing l D cA ad hij σ (126 + 2 * a1.toNatClampNeg) r14 z14) gX5_keep_X4_holdNothing rfl ⟨rfl, rfl⟩ hd_X4_holdNothing ⟨Nat.le_of_ble_eq_true rfl, Nat.le_of_ble_eq_true rfl⟩ rfl (Nat.le_of_ble_eq_true rfl) hl.1 dX5_keep_26 (fun H locs hW => ?_)
        refine lv_iconst (v := 0) hx hb dX5_keep_29 (by decide) ?_
        exact r_iret X hW rfl rfl hf dX5_keep_30
    · have hf := ie_e hf c4
      refine lv_iconst (v := (-1)) hx hb dX5_keep_14 (by decide) ?_
      exact r_iret X hW rfl rfl hf dX5_keep_15

abbrev rm_X5_row : Room := { frames := 1, cells := 0, slots := 0, locals := 23 }
theorem hd_X5_row : yX5_row.cls = RX5 ∧ yX5_row.cls ≠ "java/lang/invoke/MethodHandle" ∧ yX5_row.cls ≠ "java/lang/invoke/VarHandle" ∧ (parseMethodDescriptor yX5_row.desc).map (fun d => d.parameters.length) = some 3 := by decide +kernel
theorem inX5_row_5 : ∀ w ∈ wsX50, w ∈ wsX5_row := fun _ h => List.mem_cons_of_mem _ (List.mem_append_left _ (List.mem_append_right _ h))
theorem inX5_row_4 : ∀ w ∈ wsX40, w ∈ wsX5_row := fun _ h => List.mem_cons_of_mem _ (List.mem_append_right _ h)
section S_X5_row
variable {p : Program} {l : Launch} {e : Env} {s : State} {m : MethodId} {args : Array Value} {below : List Frame} {meth : Method} {c : Code} {D : va_G} {cA : Nat → ClassId} {ad : Nat → Nat} {r : Int32 × St}
end S_X5_row
noncomputable def f_X5_row (σ : St) (a1 : Int32) (a2 : Int32) (a3 : Int32) : Option (Int32 × St) := bnd (f_X5_isNoShelf a1) fun r1 => (if r1 = 0 then (if a2 < 0 then some ((-1), σ) else (if 2 < a2 then some ((-1), σ) else (if a3 ≤ 100 then (if 0 ≤ a3 then chk (inb a1 8) <| chk (kOK SC (126 + 2 * a1.toNatClampNeg) 4) <| bnd (f_X4_holdRow σ (126 + 2 * a1.toNatClampNeg) a2 a3) fun r8 => some (0, r8) else some ((-14), σ)) else some ((-1), σ)))) else some ((-1), σ))
set_option maxHeartbeats 4000000 in
set_option maxRecDepth 100000 in
theorem c_X5_row (l : Launch) (D : va_G) (cA : Nat → ClassId) (ad : Nat → Nat) (hij : Ij ad SC) (σ : St) (a1 : Int32) (a2 : Int32) (a3 : Int32) (r : Int32 × St) (hf : f_X5_row σ a1 a2 a3 = some r) : Met l yX5_row wsX5_row rm_X5_row (PC D cA ad SC [.ref (ad 0), .int a1, .int a2, .int a3] σ) (Qi D cA ad SC r) 0 0 (Aw ad SC) := by
  rw [f_X5_row] at hf
  refine k_head (own := RX5) (ws := wsX5_row) (cc := cX5_row) (nL := 4) (ret := (some .int)) pn_X5 rfl rfl hij (Nat.le_of_ble_eq_true rfl) (fun p e s m below meth c ls X hW hl => ?_)
  have hl : lv_has ls 4 [(0, .ref (ad 0)), (1, .int a1), (2, .int a2), (3, .int a3)] := hl
  obtain ⟨hx, hb, hml, hown, hts, hr, hlk, hK, hij⟩ := id X
  refine lv_iload_n hx hb dX5_row_0 rfl (lv_at hl 1 rfl) ?_
  obtain ⟨r1, z1, hf⟩ := bnd_e hf
  refine r_cSiR X hW (c_X5_isNoShelf l D cA ad hij σ a1 r1 z1) gX5_row_X5_isNoShelf rfl ⟨rfl, rfl⟩ hd_X5_isNoShelf ⟨Nat.le_of_ble_eq_true rfl, Nat.le_of_ble_eq_true rfl⟩ rfl (Nat.le_of_ble_eq_true rfl) hl.1 dX5_row_1 (fun H locs hW => ?_)
  refine lv_if_ne (tgt := 22) hx hb dX5_row_4 (by decide) (fun c2 => ?_) (fun c2 => ?_)
  · have hf := ie_e hf c2
    refine lv_iconst (v := (-1)) hx hb dX5_row_22 (by decide) ?_
    exact r_iret X hW rfl rfl hf dX5_row_23
  · have hf := it_e hf c2
    refine lv_iload_n hx hb dX5_row_7 rfl (lv_at hl 2 rfl) ?_
    refine lv_if_lt (tgt := 22) hx hb dX5_row_8 (by decide) (fun c3 => ?_) (fun c3 => ?_)
    · have hf := it_e hf c3
      refine lv_iconst (v := (-1)) hx hb dX5_row_22 (by decide) ?_
      exact r_iret X hW rfl rfl hf dX5_row_23
    · have hf := ie_e hf c3
      refine lv_iload_n hx hb dX5_row_11 rfl (lv_at hl 2 rfl) ?_
      refine lv_iconst (v := 2) hx hb dX5_row_12 (by decide) ?_
      refine lv_icmp_gt (tgt := 22) hx hb dX5_row_13 (by decide) (fun c4 => ?_) (fun c4 => ?_)
      · have hf := it_e hf c4
        refine lv_iconst (v := (-1)) hx hb dX5_row_22 (by decide) ?_
        exact r_iret X hW rfl rfl hf dX5_row_23
      · have hf := ie_e hf c4
        refine lv_iload_n hx hb dX5_row_16 rfl (lv_at hl 3 rfl) ?_
        refine lv_bipush (v := 100) hx hb dX5_row_17 (by decide) ?_
        refine lv_icmp_le (tgt := 24) hx hb dX5_row_19 (by decide) (fun c5 => ?_) (fun c5 => ?_)
        · have hf := it_e hf c5
          refine lv_iload_n hx hb dX5_row_24 rfl (lv_at hl 3 rfl) ?_
          refine lv_if_ge (tgt := 31) hx hb dX5_row_25 (by decide) (fun c6 => ?_) (fun c6 => ?_)
          · have hf := it_e hf c6
            refine lv_aload_n hx hb dX5_row_31 rfl (lv_at hl 0 rfl) ?_
            refine get_5_7 X hW kC_0 iC_0 inX5_row_5 (List.mem_of_getElem? (i := 1) rfl) dX5_row_32 ?_
            refine lv_iload_n hx hb dX5_row_35 rfl (lv_at hl 1 rfl) ?_
            obtain ⟨x7, hf⟩ := chk_e hf
            refine r_aald (j := 126 + 2 * a1.toNatClampNeg) X hW kC_125 iC_125 nC_125 (by decide) rfl x7 rfl dX5_row_36 ?_
            refine lv_iload_n hx hb dX5_row_37 rfl (lv_at hl 2 rfl) ?_
            refine lv_iload_n hx hb dX5_row_38 rfl (lv_at hl 3 rfl) ?_
            obtain ⟨q9, hf⟩ := chk_e hf
            obtain ⟨i9, k9⟩ := kOK_e q9
            obtain ⟨r8, z8, hf⟩ := bnd_e hf
            refine r_cVv X hW k9 i9 rfl (c_X4_holdRow l D cA ad hij σ (126 + 2 * a1.toNatClampNeg) a2 a3 r8 z8) gX5_row_X4_holdRow rfl ⟨rfl, rfl⟩ hd_X4_holdRow ⟨Nat.le_of_ble_eq_true rfl, Nat.le_of_ble_eq_true rfl⟩ rfl (Nat.le_of_ble_eq_true rfl) hl.1 dX5_row_39 (fun H locs hW => ?_)
            refine lv_iconst (v := 0) hx hb dX5_row_42 (by decide) ?_
            exact r_iret X hW rfl rfl hf dX5_row_43
          · have hf := ie_e hf c6
            refine lv_bipush (v := (-14)) hx hb dX5_row_28 (by decide) ?_
            exact r_iret X hW rfl rfl hf dX5_row_30
        · have hf := ie_e hf c5
          refine lv_iconst (v := (-1)) hx hb dX5_row_22 (by decide) ?_
          exact r_iret X hW rfl rfl hf dX5_row_23

abbrev rm_X5_put : Room := { frames := 2, cells := 0, slots := 0, locals := 41 }
theorem hd_X5_put : yX5_put.cls = RX5 ∧ yX5_put.cls ≠ "java/lang/invoke/MethodHandle" ∧ yX5_put.cls ≠ "java/lang/invoke/VarHandle" ∧ (parseMethodDescriptor yX5_put.desc).map (fun d => d.parameters.length) = some 3 := by decide +kernel
theorem inX5_put_5 : ∀ w ∈ wsX50, w ∈ wsX5_put := fun _ h => List.mem_cons_of_mem _ (List.mem_append_left _ (List.mem_append_right _ h))
theorem inX5_put_4 : ∀ w ∈ wsX40, w ∈ wsX5_put := fun _ h => List.mem_cons_of_mem _ (List.mem_append_right _ h)
section S_X5_put
variable {p : Program} {l : Launch} {e : Env} {s : State} {m : MethodId} {args : Array Value} {below : List Frame} {meth : Method} {c : Code} {D : va_G} {cA : Nat → ClassId} {ad : Nat → Nat} {r : Int32 × St}
end S_X5_put
noncomputable def f_X5_put (σ : St) (a1 : Int32) (a2 : Int32) (a3 : Int32) : Option (Int32 × St) := bnd (f_X5_rowRefusal σ a1) fun r1 => (if r1 = 0 then chk (inb a1 8) <| chk (kOK SC (126 + 2 * a1.toNatClampNeg) 4) <| bnd (f_X4_hasElement σ (126 + 2 * a1.toNatClampNeg) a2) fun r4 => (if r4 = 0 then some ((-13), σ) else bnd (f_X4_lowestBits σ (126 + 2 * a1.toNatClampNeg) a3) fun r7 => chk (aOK SC (126 + 2 * a1.toNatClampNeg + 1) 20 100) <| chk (inb a2 100) <| nw (uI σ (126 + 2 * a1.toNatClampNeg + 1) a2.toNatClampNeg r7) fun σ10 => some (0, σ10)) else some (r1, σ))
set_option maxHeartbeats 4000000 in
set_option maxRecDepth 100000 in
theorem c_X5_put (l : Launch) (D : va_G) (cA : Nat → ClassId) (ad : Nat → Nat) (hij : Ij ad SC) (σ : St) (a1 : Int32) (a2 : Int32) (a3 : Int32) (r : Int32 × St) (hf : f_X5_put σ a1 a2 a3 = some r) : Met l yX5_put wsX5_put rm_X5_put (PC D cA ad SC [.ref (ad 0), .int a1, .int a2, .int a3] σ) (Qi D cA ad SC r) 0 0 (Aw ad SC) := by
  rw [f_X5_put] at hf
  refine k_head (own := RX5) (ws := wsX5_put) (cc := cX5_put) (nL := 5) (ret := (some .int)) pn_X5 rfl rfl hij (Nat.le_of_ble_eq_true rfl) (fun p e s m below meth c ls X hW hl => ?_)
  have hl : lv_has ls 5 [(0, .ref (ad 0)), (1, .int a1), (2, .int a2), (3, .int a3)] := hl
  obtain ⟨hx, hb, hml, hown, hts, hr, hlk, hK, hij⟩ := id X
  refine lv_aload_n hx hb dX5_put_0 rfl (lv_at hl 0 rfl) ?_
  refine lv_iload_n hx hb dX5_put_1 rfl (lv_at hl 1 rfl) ?_
  obtain ⟨r1, z1, hf⟩ := bnd_e hf
  refine r_cViR X hW kC_0 iC_0 rfl (c_X5_rowRefusal l D cA ad hij σ a1 r1 z1) gX5_put_X5_rowRefusal rfl ⟨rfl, rfl⟩ hd_X5_rowRefusal ⟨Nat.le_of_ble_eq_true rfl, Nat.le_of_ble_eq_true rfl⟩ rfl (Nat.le_of_ble_eq_true rfl) hl.1 dX5_put_2 (fun H locs hW => ?_)
  refine lv_istore (lv' := [(4, .int r1), (0, .ref (ad 0)), (1, .int a1), (2, .int a2), (3, .int a3)]) hx hb dX5_put_5 hl (by decide) rfl (fun ls hl => ?_)
  refine lv_iload hx hb dX5_put_7 (lv_at hl 0 rfl) ?_
  refine lv_if_eq (tgt := 15) hx hb dX5_put_9 (by decide) (fun c2 => ?_) (fun c2 => ?_)
  · have hf := it_e hf c2
    refine lv_aload_n hx hb dX5_put_15 rfl (lv_at hl 1 rfl) ?_
    refine get_5_7 X hW kC_0 iC_0 inX5_put_5 (List.mem_of_getElem? (i := 1) rfl) dX5_put_16 ?_
    refine lv_iload_n hx hb dX5_put_19 rfl (lv_at hl 2 rfl) ?_
    obtain ⟨x3, hf⟩ := chk_e hf
    refine r_aald (j := 126 + 2 * a1.toNatClampNeg) X hW kC_125 iC_125 nC_125 (by decide) rfl x3 rfl dX5_put_20 ?_
    refine lv_iload_n hx hb dX5_put_21 rfl (lv_at hl 3 rfl) ?_
    obtain ⟨q5, hf⟩ := chk_e hf
    obtain ⟨i5, k5⟩ := kOK_e q5
    obtain ⟨r4, z4, hf⟩ := bnd_e hf
    refine r_cViR X hW k5 i5 rfl (c_X4_hasElement l D cA ad hij σ (126 + 2 * a1.toNatClampNeg) a2 r4 z4) gX5_put_X4_hasElement rfl ⟨rfl, rfl⟩ hd_X4_hasElement ⟨Nat.le_of_ble_eq_true rfl, Nat.le_of_ble_eq_true rfl⟩ rfl (Nat.le_of_ble_eq_true rfl) hl.1 dX5_put_22 (fun H locs hW => ?_)
    refine lv_if_ne (tgt := 31) hx hb dX5_put_25 (by decide) (fun c6 => ?_) (fun c6 => ?_)
    · have hf := ie_e hf c6
      refine lv_aload_n hx hb dX5_put_31 rfl (lv_at hl 1 rfl) ?_
      refine get_5_7 X hW kC_0 iC_0 inX5_put_5 (List.mem_of_getElem? (i := 1) rfl) dX5_put_32 ?_
      refine lv_iload_n hx hb dX5_put_35 rfl (lv_at hl 2 rfl) ?_
      refine r_aald (j := 126 + 2 * a1.toNatClampNeg) X hW kC_125 iC_125 nC_125 (by decide) rfl x3 rfl dX5_put_36 ?_
      refine get_4_5 X hW k5 i5 inX5_put_4 (List.mem_of_getElem? (i := 2) rfl) dX5_put_37 ?_
      refine lv_iload_n hx hb dX5_put_40 rfl (lv_at hl 3 rfl) ?_
      refine lv_aload_n hx hb dX5_put_41 rfl (lv_at hl 1 rfl) ?_
      refine get_5_7 X hW kC_0 iC_0 inX5_put_5 (List.mem_of_getElem? (i := 1) rfl) dX5_put_42 ?_
      refine lv_iload_n hx hb dX5_put_45 rfl (lv_at hl 2 rfl) ?_
      refine r_aald (j := 126 + 2 * a1.toNatClampNeg) X hW kC_125 iC_125 nC_125 (by decide) rfl x3 rfl dX5_put_46 ?_
      refine lv_iload_n hx hb dX5_put_47 rfl (lv_at hl 4 rfl) ?_
      obtain ⟨r7, z7, hf⟩ := bnd_e hf
      refine r_cViR X hW k5 i5 rfl (c_X4_lowestBits l D cA ad hij σ (126 + 2 * a1.toNatClampNeg) a3 r7 z7) gX5_put_X4_lowestBits rfl ⟨rfl, rfl⟩ hd_X4_lowestBits ⟨Nat.le_of_ble_eq_true rfl, Nat.le_of_ble_eq_true rfl⟩ rfl (Nat.le_of_ble_eq_true rfl) hl.1 dX5_put_48 (fun H locs hW => ?_)
      obtain ⟨q8, hf⟩ := chk_e hf
      obtain ⟨i8, k8, n8⟩ := aOK_e q8
      obtain ⟨x9, hf⟩ := chk_e hf
      obtain ⟨σ10, e10, hf⟩ := nw_e hf
      refine r_iast X hW k8 i8 n8 x9 e10 dX5_put_51 (fun H locs hW => ?_)
      refine lv_iconst (v := 0) hx hb dX5_put_52 (by decide) ?_
      exact r_iret X hW rfl rfl hf dX5_put_53
    · have hf := it_e hf c6
      refine lv_bipush (v := (-13)) hx hb dX5_put_28 (by decide) ?_
      exact r_iret X hW rfl rfl hf dX5_put_30
  · have hf := ie_e hf c2
    refine lv_iload hx hb dX5_put_12 (lv_at hl 0 rfl) ?_
    exact r_iret X hW rfl rfl hf dX5_put_14

abbrev rm_X5_copy : Room := { frames := 1, cells := 0, slots := 0, locals := 80 }
theorem hd_X5_copy : yX5_copy.cls = RX5 ∧ yX5_copy.cls ≠ "java/lang/invoke/MethodHandle" ∧ yX5_copy.cls ≠ "java/lang/invoke/VarHandle" ∧ (parseMethodDescriptor yX5_copy.desc).map (fun d => d.parameters.length) = some 5 := by decide +kernel
theorem inX5_copy_5 : ∀ w ∈ wsX50, w ∈ wsX5_copy := fun _ h => List.mem_cons_of_mem _ (List.mem_append_left _ (List.mem_append_right _ h))
theorem inX5_copy_4 : ∀ w ∈ wsX40, w ∈ wsX5_copy := fun _ h => List.mem_cons_of_mem _ (List.mem_append_right _ h)
section S_X5_copy
variable {p : Program} {l : Launch} {e : Env} {s : State} {m : MethodId} {args : Array Value} {below : List Frame} {meth : Method} {c : Code} {D : va_G} {cA : Nat → ClassId} {ad : Nat → Nat} {r : Int32 × St}
end S_X5_copy
noncomputable def f_X5_copy (σ : St) (a1 : Int32) (a2 : Int32) (a3 : Int32) (a4 : Int32) (a5 : Int32) : Option (Int32 × St) := bnd (f_X5_isNoShelf a1) fun r1 => (if r1 = 0 then bnd (f_X5_isNoShelf a3) fun r3 => (if r3 = 0 then chk (inb a1 8) <| nw (126 + 2 * a1.toNatClampNeg : Nat) fun v106 => chk (inb a3 8) <| nw (126 + 2 * a3.toNatClampNeg : Nat) fun v108 => chk (kOK SC v106 4) <| bnd (f_X4_holdsNothing σ v106) fun r9 => (if r9 = 0 then chk (kOK SC v108 4) <| bnd (f_X4_holdsNothing σ v108) fun r12 => (if r12 = 0 then bnd (f_X4_holdsRow σ v106) fun r15 => (if r15 = 0 then some ((-12), σ) else bnd (f_X4_holdsRow σ v108) fun r17 => (if r17 = 0 then some ((-12), σ) else (if (σ.1 v106 3) = (σ.1 v108 3) then bnd (f_X4_hasElements σ v106 a2 a5) fun r20 => (if r20 = 0 then some ((-13), σ) else bnd (f_X4_hasElements σ v108 a4 a5) fun r22 => (if r22 = 0 then some ((-13), σ) else chk (aOK SC (v106 + 1) 20 100) <| chk (aOK SC (v108 + 1) 20 100) <| chk (cpk a2 a4 a5 100 100) <| nw (cpI σ (v106 + 1) a2 (v108 + 1) a4 a5) fun σ26 => some (a5, σ26))) else some ((-12), σ)))) else some ((-11), σ)) else some ((-11), σ)) else some ((-1), σ)) else some ((-1), σ))
set_option maxHeartbeats 4000000 in
set_option maxRecDepth 100000 in
theorem c_X5_copy (l : Launch) (D : va_G) (cA : Nat → ClassId) (ad : Nat → Nat) (hij : Ij ad SC) (σ : St) (a1 : Int32) (a2 : Int32) (a3 : Int32) (a4 : Int32) (a5 : Int32) (r : Int32 × St) (hf : f_X5_copy σ a1 a2 a3 a4 a5 = some r) : Met l yX5_copy wsX5_copy rm_X5_copy (PC D cA ad SC [.ref (ad 0), .int a1, .int a2, .int a3, .int a4, .int a5] σ) (Qi D cA ad SC r) 0 0 (Aw ad SC) := by
  rw [f_X5_copy] at hf
  refine k_head (own := RX5) (ws := wsX5_copy) (cc := cX5_copy) (nL := 8) (ret := (some .int)) pn_X5 rfl rfl hij (Nat.le_of_ble_eq_true rfl) (fun p e s m below meth c ls X hW hl => ?_)
  have hl : lv_has ls 8 [(0, .ref (ad 0)), (1, .int a1), (2, .int a2), (3, .int a3), (4, .int a4), (5, .int a5)] := hl
  obtain ⟨hx, hb, hml, hown, hts, hr, hlk, hK, hij⟩ := id X
  refine lv_iload_n hx hb dX5_copy_0 rfl (lv_at hl 1 rfl) ?_
  obtain ⟨r1, z1, hf⟩ := bnd_e hf
  refine r_cSiR X hW (c_X5_isNoShelf l D cA ad hij σ a1 r1 z1) gX5_copy_X5_isNoShelf rfl ⟨rfl, rfl⟩ hd_X5_isNoShelf ⟨Nat.le_of_ble_eq_true rfl, Nat.le_of_ble_eq_true rfl⟩ rfl (Nat.le_of_ble_eq_true rfl) hl.1 dX5_copy_1 (fun H locs hW => ?_)
  refine lv_if_ne (tgt := 14) hx hb dX5_copy_4 (by decide) (fun c2 => ?_) (fun c2 => ?_)
  · have hf := ie_e hf c2
    refine lv_iconst (v := (-1)) hx hb dX5_copy_14 (by decide) ?_
    exact r_iret X hW rfl rfl hf dX5_copy_15
  · have hf := it_e hf c2
    refine lv_iload_n hx hb dX5_copy_7 rfl (lv_at hl 3 rfl) ?_
    obtain ⟨r3, z3, hf⟩ := bnd_e hf
    refine r_cSiR X hW (c_X5_isNoShelf l D cA ad hij σ a3 r3 z3) gX5_copy_X5_isNoShelf rfl ⟨rfl, rfl⟩ hd_X5_isNoShelf ⟨Nat.le_of_ble_eq_true rfl, Nat.le_of_ble_eq_true rfl⟩ rfl (Nat.le_of_ble_eq_true rfl) hl.1 dX5_copy_8 (fun H locs hW => ?_)
    refine lv_if_eq (tgt := 16) hx hb dX5_copy_11 (by decide) (fun c4 => ?_) (fun c4 => ?_)
    · have hf := it_e hf c4
      refine lv_aload_n hx hb dX5_copy_16 rfl (lv_at hl 0 rfl) ?_
      refine get_5_7 X hW kC_0 iC_0 inX5_copy_5 (List.mem_of_getElem? (i := 1) rfl) dX5_copy_17 ?_
      refine lv_iload_n hx hb dX5_copy_20 rfl (lv_at hl 1 rfl) ?_
      obtain ⟨x5, hf⟩ := chk_e hf
      refine r_aald (j := 126 + 2 * a1.toNatClampNeg) X hW kC_125 iC_125 nC_125 (by decide) rfl x5 rfl dX5_copy_21 ?_
      obtain ⟨v106, e6, hf⟩ := nw_e hf
      refine tR _ e6 ?_
      refine lv_astore (lv' := [(6, .ref (ad v106)), (0, .ref (ad 0)), (1, .int a1), (2, .int a2), (3, .int a3), (4, .int a4), (5, .int a5)]) hx hb dX5_copy_22 hl (by decide) rfl (fun ls hl => ?_)
      refine lv_aload_n hx hb dX5_copy_24 rfl (lv_at hl 1 rfl) ?_
      refine get_5_7 X hW kC_0 iC_0 inX5_copy_5 (List.mem_of_getElem? (i := 1) rfl) dX5_copy_25 ?_
      refine lv_iload_n hx hb dX5_copy_28 rfl (lv_at hl 4 rfl) ?_
      obtain ⟨x7, hf⟩ := chk_e hf
      refine r_aald (j := 126 + 2 * a3.toNatClampNeg) X hW kC_125 iC_125 nC_125 (by decide) rfl x7 rfl dX5_copy_29 ?_
      obtain ⟨v108, e8, hf⟩ := nw_e hf
      refine tR _ e8 ?_
      refine lv_astore (lv' := [(7, .ref (ad v108)), (6, .ref (ad v106)), (0, .ref (ad 0)), (1, .int a1), (2, .int a2), (3, .int a3), (4, .int a4), (5, .int a5)]) hx hb dX5_copy_30 hl (by decide) rfl (fun ls hl => ?_)
      refine lv_aload hx hb dX5_copy_32 (lv_at hl 1 rfl) ?_
      obtain ⟨q10, hf⟩ := chk_e hf
      obtain ⟨i10, k10⟩ := kOK_e q10
      obtain ⟨r9, z9, hf⟩ := bnd_e hf
      refine r_cViR X hW k10 i10 rfl (c_X4_holdsNothing l D cA ad hij σ v106 r9 z9) gX5_copy_X4_holdsNothing rfl ⟨rfl, rfl⟩ hd_X4_holdsNothing ⟨Nat.le_of_ble_eq_true rfl, Nat.le_of_ble_eq_true rfl⟩ rfl (Nat.le_of_ble_eq_true rfl) hl.1 dX5_copy_34 (fun H locs hW => ?_)
      refine lv_if_ne (tgt := 48) hx hb dX5_copy_37 (by decide) (fun c11 => ?_) (fun c11 => ?_)
      · have hf := ie_e hf c11
        refine lv_bipush (v := (-11)) hx hb dX5_copy_48 (by decide) ?_
        exact r_iret X hW rfl rfl hf dX5_copy_50
      · have hf := it_e hf c11
        refine lv_aload hx hb dX5_copy_40 (lv_at hl 0 rfl) ?_
        obtain ⟨q13, hf⟩ := chk_e hf
        obtain ⟨i13, k13⟩ := kOK_e q13
        obtain ⟨r12, z12, hf⟩ := bnd_e hf
        refine r_cViR X hW k13 i13 rfl (c_X4_holdsNothing l D cA ad hij σ v108 r12 z12) gX5_copy_X4_holdsNothing rfl ⟨rfl, rfl⟩ hd_X4_holdsNothing ⟨Nat.le_of_ble_eq_true rfl, Nat.le_of_ble_eq_true rfl⟩ rfl (Nat.le_of_ble_eq_true rfl) hl.1 dX5_copy_42 (fun H locs hW => ?_)
        refine lv_if_eq (tgt := 51) hx hb dX5_copy_45 (by decide) (fun c14 => ?_) (fun c14 => ?_)
        · have hf := it_e hf c14
          refine lv_aload hx hb dX5_copy_51 (lv_at hl 1 rfl) ?_
          obtain ⟨r15, z15, hf⟩ := bnd_e hf
          refine r_cViR X hW k10 i10 rfl (c_X4_holdsRow l D cA ad hij σ v106 r15 z15) gX5_copy_X4_holdsRow rfl ⟨rfl, rfl⟩ hd_X4_holdsRow ⟨Nat.le_of_ble_eq_true rfl, Nat.le_of_ble_eq_true rfl⟩ rfl (Nat.le_of_ble_eq_true rfl) hl.1 dX5_copy_53 (fun H locs hW => ?_)
          refine lv_if_eq (tgt := 80) hx hb dX5_copy_56 (by decide) (fun c16 => ?_) (fun c16 => ?_)
          · have hf := it_e hf c16
            refine lv_bipush (v := (-12)) hx hb dX5_copy_80 (by decide) ?_
            exact r_iret X hW rfl rfl hf dX5_copy_82
          · have hf := ie_e hf c16
            refine lv_aload hx hb dX5_copy_59 (lv_at hl 0 rfl) ?_
            obtain ⟨r17, z17, hf⟩ := bnd_e hf
            refine r_cViR X hW k13 i13 rfl (c_X4_holdsRow l D cA ad hij σ v108 r17 z17) gX5_copy_X4_holdsRow rfl ⟨rfl, rfl⟩ hd_X4_holdsRow ⟨Nat.le_of_ble_eq_true rfl, Nat.le_of_ble_eq_true rfl⟩ rfl (Nat.le_of_ble_eq_true rfl) hl.1 dX5_copy_61 (fun H locs hW => ?_)
            refine lv_if_eq (tgt := 80) hx hb dX5_copy_64 (by decide) (fun c18 => ?_) (fun c18 => ?_)
            · have hf := it_e hf c18
              refine lv_bipush (v := (-12)) hx hb dX5_copy_80 (by decide) ?_
              exact r_iret X hW rfl rfl hf dX5_copy_82
            · have hf := ie_e hf c18
              refine lv_aload hx hb dX5_copy_67 (lv_at hl 1 rfl) ?_
              refine get_4_3 X hW k10 i10 inX5_copy_4 (List.mem_of_getElem? (i := 2) rfl) dX5_copy_69 ?_
              refine lv_aload hx hb dX5_copy_72 (lv_at hl 0 rfl) ?_
              refine get_4_3 X hW k13 i13 inX5_copy_4 (List.mem_of_getElem? (i := 2) rfl) dX5_copy_74 ?_
              refine lv_icmp_eq (tgt := 83) hx hb dX5_copy_77 (by decide) (fun c19 => ?_) (fun c19 => ?_)
              · have hf := it_e hf c19
                refine lv_aload hx hb dX5_copy_83 (lv_at hl 1 rfl) ?_
                refine lv_iload_n hx hb dX5_copy_85 rfl (lv_at hl 4 rfl) ?_
                refine lv_iload hx hb dX5_copy_86 (lv_at hl 7 rfl) ?_
                obtain ⟨r20, z20, hf⟩ := bnd_e hf
                refine r_cViR X hW k10 i10 rfl (c_X4_hasElements l D cA ad hij σ v106 a2 a5 r20 z20) gX5_copy_X4_hasElements rfl ⟨rfl, rfl⟩ hd_X4_hasElements ⟨Nat.le_of_ble_eq_true rfl, Nat.le_of_ble_eq_true rfl⟩ rfl (Nat.le_of_ble_eq_true rfl) hl.1 dX5_copy_88 (fun H locs hW => ?_)
                refine lv_if_eq (tgt := 106) hx hb dX5_copy_91 (by decide) (fun c21 => ?_) (fun c21 => ?_)
                · have hf := it_e hf c21
                  refine lv_bipush (v := (-13)) hx hb dX5_copy_106 (by decide) ?_
                  exact r_iret X hW rfl rfl hf dX5_copy_108
                · have hf := ie_e hf c21
                  refine lv_aload hx hb dX5_copy_94 (lv_at hl 0 rfl) ?_
                  refine lv_iload hx hb dX5_copy_96 (lv_at hl 6 rfl) ?_
                  refine lv_iload hx hb dX5_copy_98 (lv_at hl 7 rfl) ?_
                  obtain ⟨r22, z22, hf⟩ := bnd_e hf
                  refine r_cViR X hW k13 i13 rfl (c_X4_hasElements l D cA ad hij σ v108 a4 a5 r22 z22) gX5_copy_X4_hasElements rfl ⟨rfl, rfl⟩ hd_X4_hasElements ⟨Nat.le_of_ble_eq_true rfl, Nat.le_of_ble_eq_true rfl⟩ rfl (Nat.le_of_ble_eq_true rfl) hl.1 dX5_copy_100 (fun H locs hW => ?_)
                  refine lv_if_ne (tgt := 109) hx hb dX5_copy_103 (by decide) (fun c23 => ?_) (fun c23 => ?_)
                  · have hf := ie_e hf c23
                    refine lv_aload hx hb dX5_copy_109 (lv_at hl 1 rfl) ?_
                    refine get_4_5 X hW k10 i10 inX5_copy_4 (List.mem_of_getElem? (i := 3) rfl) dX5_copy_111 ?_
                    refine lv_iload_n hx hb dX5_copy_114 rfl (lv_at hl 4 rfl) ?_
                    refine lv_aload hx hb dX5_copy_115 (lv_at hl 0 rfl) ?_
                    refine get_4_5 X hW k13 i13 inX5_copy_4 (List.mem_of_getElem? (i := 3) rfl) dX5_copy_117 ?_
                    refine lv_iload hx hb dX5_copy_120 (lv_at hl 6 rfl) ?_
                    refine lv_iload hx hb dX5_copy_122 (lv_at hl 7 rfl) ?_
                    obtain ⟨q24, hf⟩ := chk_e hf
                    obtain ⟨i24, k24, n24⟩ := aOK_e q24
                    obtain ⟨q25, hf⟩ := chk_e hf
                    obtain ⟨i25, k25, n25⟩ := aOK_e q25
                    obtain ⟨q26, hf⟩ := chk_e hf
                    obtain ⟨σ26, e26, hf⟩ := nw_e hf
                    refine r_copy X hW k24 i24 n24 k25 i25 n25 q26 e26 hl.1 (List.mem_of_getElem? (i := 4) rfl) (List.mem_of_getElem? (i := 5) rfl) (List.mem_of_getElem? (i := 6) rfl) (List.mem_of_getElem? (i := 7) rfl) ⟨Nat.le_of_ble_eq_true rfl, Nat.le_of_ble_eq_true rfl⟩ dX5_copy_124 (fun H locs hW => ?_)
                    refine lv_iload hx hb dX5_copy_127 (lv_at hl 7 rfl) ?_
                    exact r_iret X hW rfl rfl hf dX5_copy_129
                  · have hf := it_e hf c23
                    refine lv_bipush (v := (-13)) hx hb dX5_copy_106 (by decide) ?_
                    exact r_iret X hW rfl rfl hf dX5_copy_108
              · have hf := ie_e hf c19
                refine lv_bipush (v := (-12)) hx hb dX5_copy_80 (by decide) ?_
                exact r_iret X hW rfl rfl hf dX5_copy_82
        · have hf := ie_e hf c14
          refine lv_bipush (v := (-11)) hx hb dX5_copy_48 (by decide) ?_
          exact r_iret X hW rfl rfl hf dX5_copy_50
    · have hf := ie_e hf c4
      refine lv_iconst (v := (-1)) hx hb dX5_copy_14 (by decide) ?_
      exact r_iret X hW rfl rfl hf dX5_copy_15

abbrev rm_X5_price : Room := { frames := 2, cells := 0, slots := 0, locals := 41 }
theorem hd_X5_price : yX5_price.cls = RX5 ∧ yX5_price.cls ≠ "java/lang/invoke/MethodHandle" ∧ yX5_price.cls ≠ "java/lang/invoke/VarHandle" ∧ (parseMethodDescriptor yX5_price.desc).map (fun d => d.parameters.length) = some 1 := by decide +kernel
theorem inX5_price_5 : ∀ w ∈ wsX50, w ∈ wsX5_price := fun _ h => List.mem_cons_of_mem _ (List.mem_append_left _ (List.mem_append_right _ h))
theorem inX5_price_4 : ∀ w ∈ wsX40, w ∈ wsX5_price := fun _ h => List.mem_cons_of_mem _ (List.mem_append_right _ h)
section S_X5_price
variable {p : Program} {l : Launch} {e : Env} {s : State} {m : MethodId} {args : Array Value} {below : List Frame} {meth : Method} {c : Code} {D : va_G} {cA : Nat → ClassId} {ad : Nat → Nat} {r : Int32}
end S_X5_price
noncomputable def f_X5_price (σ : St) (a1 : Int32) : Option (Int32) := bnd (f_X5_dishRefusal σ a1) fun r1 => (if r1 = 0 then chk (inb a1 8) <| chk (kOK SC (126 + 2 * a1.toNatClampNeg) 4) <| bnd (f_X5_priceOf (σ.1 (126 + 2 * a1.toNatClampNeg) 1) (σ.1 (126 + 2 * a1.toNatClampNeg) 2)) fun r5 => some r5 else some r1)
set_option maxHeartbeats 4000000 in
set_option maxRecDepth 100000 in
theorem c_X5_price (l : Launch) (D : va_G) (cA : Nat → ClassId) (ad : Nat → Nat) (hij : Ij ad SC) (σ : St) (a1 : Int32) (r : Int32) (hf : f_X5_price σ a1 = some r) : Met l yX5_price wsX5_price rm_X5_price (PC D cA ad SC [.ref (ad 0), .int a1] σ) (Qi D cA ad SC (r, σ)) 0 0 (Aw ad SC) := by
  rw [f_X5_price] at hf
  refine k_head (own := RX5) (ws := wsX5_price) (cc := cX5_price) (nL := 3) (ret := (some .int)) pn_X5 rfl rfl hij (Nat.le_of_ble_eq_true rfl) (fun p e s m below meth c ls X hW hl => ?_)
  have hl : lv_has ls 3 [(0, .ref (ad 0)), (1, .int a1)] := hl
  obtain ⟨hx, hb, hml, hown, hts, hr, hlk, hK, hij⟩ := id X
  refine lv_aload_n hx hb dX5_price_0 rfl (lv_at hl 0 rfl) ?_
  refine lv_iload_n hx hb dX5_price_1 rfl (lv_at hl 1 rfl) ?_
  obtain ⟨r1, z1, hf⟩ := bnd_e hf
  refine r_cViR X hW kC_0 iC_0 rfl (c_X5_dishRefusal l D cA ad hij σ a1 r1 z1) gX5_price_X5_dishRefusal rfl ⟨rfl, rfl⟩ hd_X5_dishRefusal ⟨Nat.le_of_ble_eq_true rfl, Nat.le_of_ble_eq_true rfl⟩ rfl (Nat.le_of_ble_eq_true rfl) hl.1 dX5_price_2 (fun H locs hW => ?_)
  refine lv_istore_n (lv' := [(2, .int r1), (0, .ref (ad 0)), (1, .int a1)]) hx hb dX5_price_5 rfl hl (by decide) rfl (fun ls hl => ?_)
  refine lv_iload_n hx hb dX5_price_6 rfl (lv_at hl 0 rfl) ?_
  refine lv_if_eq (tgt := 14) hx hb dX5_price_7 (by decide) (fun c2 => ?_) (fun c2 => ?_)
  · have hf := it_e hf c2
    refine lv_aload_n hx hb dX5_price_14 rfl (lv_at hl 1 rfl) ?_
    refine get_5_7 X hW kC_0 iC_0 inX5_price_5 (List.mem_of_getElem? (i := 1) rfl) dX5_price_15 ?_
    refine lv_iload_n hx hb dX5_price_18 rfl (lv_at hl 2 rfl) ?_
    obtain ⟨x3, hf⟩ := chk_e hf
    refine r_aald (j := 126 + 2 * a1.toNatClampNeg) X hW kC_125 iC_125 nC_125 (by decide) rfl x3 rfl dX5_price_19 ?_
    obtain ⟨q4, hf⟩ := chk_e hf
    obtain ⟨i4, k4⟩ := kOK_e q4
    refine get_4_1 X hW k4 i4 inX5_price_4 (List.mem_of_getElem? (i := 2) rfl) dX5_price_20 ?_
    refine lv_aload_n hx hb dX5_price_23 rfl (lv_at hl 1 rfl) ?_
    refine get_5_7 X hW kC_0 iC_0 inX5_price_5 (List.mem_of_getElem? (i := 1) rfl) dX5_price_24 ?_
    refine lv_iload_n hx hb dX5_price_27 rfl (lv_at hl 2 rfl) ?_
    refine r_aald (j := 126 + 2 * a1.toNatClampNeg) X hW kC_125 iC_125 nC_125 (by decide) rfl x3 rfl dX5_price_28 ?_
    refine get_4_2 X hW k4 i4 inX5_price_4 (List.mem_of_getElem? (i := 3) rfl) dX5_price_29 ?_
    obtain ⟨r5, z5, hf⟩ := bnd_e hf
    refine r_cSiR X hW (c_X5_priceOf l D cA ad hij σ (σ.1 (126 + 2 * a1.toNatClampNeg) 1) (σ.1 (126 + 2 * a1.toNatClampNeg) 2) r5 z5) gX5_price_X5_priceOf rfl ⟨rfl, rfl⟩ hd_X5_priceOf ⟨Nat.le_of_ble_eq_true rfl, Nat.le_of_ble_eq_true rfl⟩ rfl (Nat.le_of_ble_eq_true rfl) hl.1 dX5_price_32 (fun H locs hW => ?_)
    exact r_iretR X hW rfl rfl hf dX5_price_35
  · have hf := ie_e hf c2
    refine lv_iload_n hx hb dX5_price_10 rfl (lv_at hl 0 rfl) ?_
    refine lv_goto (tgt := 35) hx hb dX5_price_11 (by decide) ?_
    exact r_iretR X hW rfl rfl hf dX5_price_35

abbrev rm_X5_toss : Room := { frames := 2, cells := 0, slots := 0, locals := 41 }
theorem hd_X5_toss : yX5_toss.cls = RX5 ∧ yX5_toss.cls ≠ "java/lang/invoke/MethodHandle" ∧ yX5_toss.cls ≠ "java/lang/invoke/VarHandle" ∧ (parseMethodDescriptor yX5_toss.desc).map (fun d => d.parameters.length) = some 1 := by decide +kernel
theorem inX5_toss_5 : ∀ w ∈ wsX50, w ∈ wsX5_toss := fun _ h => List.mem_cons_of_mem _ (List.mem_append_left _ (List.mem_append_right _ h))
theorem inX5_toss_4 : ∀ w ∈ wsX40, w ∈ wsX5_toss := fun _ h => List.mem_cons_of_mem _ (List.mem_append_right _ h)
section S_X5_toss
variable {p : Program} {l : Launch} {e : Env} {s : State} {m : MethodId} {args : Array Value} {below : List Frame} {meth : Method} {c : Code} {D : va_G} {cA : Nat → ClassId} {ad : Nat → Nat} {r : Int32}
end S_X5_toss
noncomputable def f_X5_toss (σ : St) (a1 : Int32) : Option (Int32) := bnd (f_X5_dishRefusal σ a1) fun r1 => (if r1 = 0 then chk (inb a1 8) <| chk (kOK SC (126 + 2 * a1.toNatClampNeg) 4) <| nw (σ.1 (126 + 2 * a1.toNatClampNeg) 1 : Int32) fun v105 => nw (σ.1 (126 + 2 * a1.toNatClampNeg) 2 : Int32) fun v106 => (if v105 = 4 then some ((-15)) else (if v106 = 0 then some ((-15)) else (if v105 = 6 then bnd (f_X5_priceOf v105 v106) fun r11 => some (200 + r11) else (if v105 = 5 then some (v106 + 100) else some v106)))) else some r1)
set_option maxHeartbeats 4000000 in
set_option maxRecDepth 100000 in
theorem c_X5_toss (l : Launch) (D : va_G) (cA : Nat → ClassId) (ad : Nat → Nat) (hij : Ij ad SC) (σ : St) (a1 : Int32) (r : Int32) (hf : f_X5_toss σ a1 = some r) : Met l yX5_toss wsX5_toss rm_X5_toss (PC D cA ad SC [.ref (ad 0), .int a1] σ) (Qi D cA ad SC (r, σ)) 0 0 (Aw ad SC) := by
  rw [f_X5_toss] at hf
  refine k_head (own := RX5) (ws := wsX5_toss) (cc := cX5_toss) (nL := 5) (ret := (some .int)) pn_X5 rfl rfl hij (Nat.le_of_ble_eq_true rfl) (fun p e s m below meth c ls X hW hl => ?_)
  have hl : lv_has ls 5 [(0, .ref (ad 0)), (1, .int a1)] := hl
  obtain ⟨hx, hb, hml, hown, hts, hr, hlk, hK, hij⟩ := id X
  refine lv_aload_n hx hb dX5_toss_0 rfl (lv_at hl 0 rfl) ?_
  refine lv_iload_n hx hb dX5_toss_1 rfl (lv_at hl 1 rfl) ?_
  obtain ⟨r1, z1, hf⟩ := bnd_e hf
  refine r_cViR X hW kC_0 iC_0 rfl (c_X5_dishRefusal l D cA ad hij σ a1 r1 z1) gX5_toss_X5_dishRefusal rfl ⟨rfl, rfl⟩ hd_X5_dishRefusal ⟨Nat.le_of_ble_eq_true rfl, Nat.le_of_ble_eq_true rfl⟩ rfl (Nat.le_of_ble_eq_true rfl) hl.1 dX5_toss_2 (fun H locs hW => ?_)
  refine lv_istore_n (lv' := [(2, .int r1), (0, .ref (ad 0)), (1, .int a1)]) hx hb dX5_toss_5 rfl hl (by decide) rfl (fun ls hl => ?_)
  refine lv_iload_n hx hb dX5_toss_6 rfl (lv_at hl 0 rfl) ?_
  refine lv_if_eq (tgt := 12) hx hb dX5_toss_7 (by decide) (fun c2 => ?_) (fun c2 => ?_)
  · have hf := it_e hf c2
    refine lv_aload_n hx hb dX5_toss_12 rfl (lv_at hl 1 rfl) ?_
    refine get_5_7 X hW kC_0 iC_0 inX5_toss_5 (List.mem_of_getElem? (i := 1) rfl) dX5_toss_13 ?_
    refine lv_iload_n hx hb dX5_toss_16 rfl (lv_at hl 2 rfl) ?_
    obtain ⟨x3, hf⟩ := chk_e hf
    refine r_aald (j := 126 + 2 * a1.toNatClampNeg) X hW kC_125 iC_125 nC_125 (by decide) rfl x3 rfl dX5_toss_17 ?_
    obtain ⟨q4, hf⟩ := chk_e hf
    obtain ⟨i4, k4⟩ := kOK_e q4
    refine get_4_1 X hW k4 i4 inX5_toss_4 (List.mem_of_getElem? (i := 2) rfl) dX5_toss_18 ?_
    obtain ⟨v105, e5, hf⟩ := nw_e hf
    refine tI _ e5 ?_
    refine lv_istore_n (lv' := [(3, .int v105), (2, .int r1), (0, .ref (ad 0)), (1, .int a1)]) hx hb dX5_toss_21 rfl hl (by decide) rfl (fun ls hl => ?_)
    refine lv_aload_n hx hb dX5_toss_22 rfl (lv_at hl 2 rfl) ?_
    refine get_5_7 X hW kC_0 iC_0 inX5_toss_5 (List.mem_of_getElem? (i := 1) rfl) dX5_toss_23 ?_
    refine lv_iload_n hx hb dX5_toss_26 rfl (lv_at hl 3 rfl) ?_
    refine r_aald (j := 126 + 2 * a1.toNatClampNeg) X hW kC_125 iC_125 nC_125 (by decide) rfl x3 rfl dX5_toss_27 ?_
    refine get_4_2 X hW k4 i4 inX5_toss_4 (List.mem_of_getElem? (i := 3) rfl) dX5_toss_28 ?_
    obtain ⟨v106, e6, hf⟩ := nw_e hf
    refine tI _ e6 ?_
    refine lv_istore (lv' := [(4, .int v106), (3, .int v105), (2, .int r1), (0, .ref (ad 0)), (1, .int a1)]) hx hb dX5_toss_31 hl (by decide) rfl (fun ls hl => ?_)
    refine lv_iload_n hx hb dX5_toss_33 rfl (lv_at hl 1 rfl) ?_
    refine lv_iconst (v := 4) hx hb dX5_toss_34 (by decide) ?_
    refine lv_icmp_eq (tgt := 43) hx hb dX5_toss_35 (by decide) (fun c7 => ?_) (fun c7 => ?_)
    · have hf := it_e hf c7
      refine lv_bipush (v := (-15)) hx hb dX5_toss_43 (by decide) ?_
      exact r_iretR X hW rfl rfl hf dX5_toss_45
    · have hf := ie_e hf c7
      refine lv_iload hx hb dX5_toss_38 (lv_at hl 0 rfl) ?_
      refine lv_if_ne (tgt := 46) hx hb dX5_toss_40 (by decide) (fun c8 => ?_) (fun c8 => ?_)
      · have hf := ie_e hf c8
        refine lv_iload_n hx hb dX5_toss_46 rfl (lv_at hl 1 rfl) ?_
        refine lv_bipush (v := 6) hx hb dX5_toss_47 (by decide) ?_
        refine lv_icmp_ne (tgt := 63) hx hb dX5_toss_49 (by decide) (fun c9 => ?_) (fun c9 => ?_)
        · have hf := ie_e hf c9
          refine lv_iload_n hx hb dX5_toss_63 rfl (lv_at hl 1 rfl) ?_
          refine lv_iconst (v := 5) hx hb dX5_toss_64 (by decide) ?_
          refine lv_icmp_ne (tgt := 76) hx hb dX5_toss_65 (by decide) (fun c10 => ?_) (fun c10 => ?_)
          · have hf := ie_e hf c10
            refine lv_iload hx hb dX5_toss_76 (lv_at hl 0 rfl) ?_
            exact r_iretR X hW rfl rfl hf dX5_toss_78
          · have hf := it_e hf c10
            refine lv_iload hx hb dX5_toss_68 (lv_at hl 0 rfl) ?_
            refine lv_bipush (v := 100) hx hb dX5_toss_70 (by decide) ?_
            refine lv_iadd hx hb dX5_toss_72 ?_
            refine lv_goto (tgt := 78) hx hb dX5_toss_73 (by decide) ?_
            exact r_iretR X hW rfl rfl hf dX5_toss_78
        · have hf := it_e hf c9
          refine lv_sipush (v := 200) hx hb dX5_toss_52 (by decide) ?_
          refine lv_iload_n hx hb dX5_toss_55 rfl (lv_at hl 1 rfl) ?_
          refine lv_iload hx hb dX5_toss_56 (lv_at hl 0 rfl) ?_
          obtain ⟨r11, z11, hf⟩ := bnd_e hf
          refine r_cSiR X hW (c_X5_priceOf l D cA ad hij σ v105 v106 r11 z11) gX5_toss_X5_priceOf rfl ⟨rfl, rfl⟩ hd_X5_priceOf ⟨Nat.le_of_ble_eq_true rfl, Nat.le_of_ble_eq_true rfl⟩ rfl (Nat.le_of_ble_eq_true rfl) hl.1 dX5_toss_58 (fun H locs hW => ?_)
          refine lv_iadd hx hb dX5_toss_61 ?_
          exact r_iretR X hW rfl rfl hf dX5_toss_62
      · have hf := it_e hf c8
        refine lv_bipush (v := (-15)) hx hb dX5_toss_43 (by decide) ?_
        exact r_iretR X hW rfl rfl hf dX5_toss_45
  · have hf := ie_e hf c2
    refine lv_iload_n hx hb dX5_toss_10 rfl (lv_at hl 0 rfl) ?_
    exact r_iretR X hW rfl rfl hf dX5_toss_11
