abbrev rm_X6_readDigit : Room := { frames := 1, cells := 0, slots := 0, locals := 25 }
theorem hd_X6_readDigit : yX6_readDigit.cls = RX6 ∧ yX6_readDigit.cls ≠ "java/lang/invoke/MethodHandle" ∧ yX6_readDigit.cls ≠ "java/lang/invoke/VarHandle" ∧ (parseMethodDescriptor yX6_readDigit.desc).map (fun d => d.parameters.length) = some 0 := by decide +kernel
theorem inX6_readDigit_6 : ∀ w ∈ wsX60, w ∈ wsX6_readDigit := fun _ h => List.mem_cons_of_mem _ (List.mem_append_right _ h)
section S_X6_readDigit
variable {p : Program} {l : Launch} {e : Env} {s : State} {m : MethodId} {args : Array Value} {below : List Frame} {meth : Method} {c : Code} {D : va_G} {cA : Nat → ClassId} {ad : Nat → Nat} {r : Int32 × St}
noncomputable def f_X6_readDigit_30 (s0 : Nat) (s1 : Int32) (σ : St) : Option (Int32 × St) := chk (kOK SM s0 6) <| chk (b01 s1) <| nw (uI σ s0 20 s1) fun σ4 => (if (σ4.1 0 20) = 0 then nw (uI σ4 0 19 ((σ4.1 0 19) + 1)) fun σ6 => chk (inb (((σ6.1 0 17) + (σ6.1 0 19)) - 1) 800) <| some (((σ6.2 21 (((σ6.1 0 17) + (σ6.1 0 19)) - 1).toNatClampNeg).toInt32) - 48, σ6) else some (0, σ4))
set_option maxHeartbeats 4000000 in
set_option maxRecDepth 100000 in
theorem b_X6_readDigit_30 (X : Cx RX6 wsX6_readDigit cX6_readDigit 1 (some .int) D cA ad SM p s m args meth c) : ∀ (s0 : Nat) (s1 : Int32) (σ : St) (H : Heap) (locs : List Loc) (ls : Array Slot), f_X6_readDigit_30 s0 s1 σ = some r → Rn D cA ad SM s.heap σ H locs → lv_has ls 1 [(0, .ref (ad 0))] → W p l e rm_X6_readDigit s m args below meth c H locs 0 0 (MQ below (Qi D cA ad SM r) args s 0 0 (Aw ad SM)) (F0 m 30 ls [.int s1, .ref (ad s0)]) := by
  obtain ⟨hx, hb, hml, hown, hts, hr, hlk, hK, hij⟩ := id X
  intro s0 s1 σ H locs ls hf hW hl
  rw [f_X6_readDigit_30] at hf
  obtain ⟨q2, hf⟩ := chk_e hf
  obtain ⟨i2, k2⟩ := kOK_e q2
  obtain ⟨q3, hf⟩ := chk_e hf
  obtain ⟨σ4, e4, hf⟩ := nw_e hf
  refine put_6_20 X hW k2 i2 inX6_readDigit_6 (List.mem_of_getElem? (i := 1) rfl) q3 e4 dX6_readDigit_30 (fun H locs hW => ?_)
  refine lv_aload_n hx hb dX6_readDigit_33 rfl (lv_at hl 0 rfl) ?_
  refine get_6_20 X hW kM_0 iM_0 inX6_readDigit_6 (List.mem_of_getElem? (i := 1) rfl) dX6_readDigit_34 ?_
  refine lv_if_eq (tgt := 42) hx hb dX6_readDigit_37 (by decide) (fun c5 => ?_) (fun c5 => ?_)
  · have hf := it_e hf c5
    refine lv_aload_n hx hb dX6_readDigit_42 rfl (lv_at hl 0 rfl) ?_
    refine lv_dup hx hb dX6_readDigit_43 rfl ?_
    refine get_6_19 X hW kM_0 iM_0 inX6_readDigit_6 (List.mem_of_getElem? (i := 4) rfl) dX6_readDigit_44 ?_
    refine lv_iconst (v := 1) hx hb dX6_readDigit_47 (by decide) ?_
    refine lv_iadd hx hb dX6_readDigit_48 ?_
    obtain ⟨σ6, e6, hf⟩ := nw_e hf
    refine put_6_19 X hW kM_0 iM_0 inX6_readDigit_6 (List.mem_of_getElem? (i := 4) rfl) e6 dX6_readDigit_49 (fun H locs hW => ?_)
    refine lv_aload_n hx hb dX6_readDigit_52 rfl (lv_at hl 0 rfl) ?_
    refine get_6_31 X hW kM_0 iM_0 inX6_readDigit_6 (List.mem_of_getElem? (i := 5) rfl) dX6_readDigit_53 ?_
    refine lv_aload_n hx hb dX6_readDigit_56 rfl (lv_at hl 0 rfl) ?_
    refine get_6_17 X hW kM_0 iM_0 inX6_readDigit_6 (List.mem_of_getElem? (i := 6) rfl) dX6_readDigit_57 ?_
    refine lv_aload_n hx hb dX6_readDigit_60 rfl (lv_at hl 0 rfl) ?_
    refine get_6_19 X hW kM_0 iM_0 inX6_readDigit_6 (List.mem_of_getElem? (i := 4) rfl) dX6_readDigit_61 ?_
    refine lv_iadd hx hb dX6_readDigit_64 ?_
    refine lv_iconst (v := 1) hx hb dX6_readDigit_65 (by decide) ?_
    refine lv_isub hx hb dX6_readDigit_66 ?_
    obtain ⟨x7, hf⟩ := chk_e hf
    refine r_lald X hW kM_21 iM_21 nM_21 x7 dX6_readDigit_67 ?_
    refine lv_l2i hx hb dX6_readDigit_68 rfl ?_
    refine lv_bipush (v := 48) hx hb dX6_readDigit_69 (by decide) ?_
    refine lv_isub hx hb dX6_readDigit_71 ?_
    exact r_iret X hW rfl rfl hf dX6_readDigit_72
  · have hf := ie_e hf c5
    refine lv_iconst (v := 0) hx hb dX6_readDigit_40 (by decide) ?_
    exact r_iret X hW rfl rfl hf dX6_readDigit_41
noncomputable def f_X6_readDigit_25 (s0 : Nat) (σ : St) : Option (Int32 × St) := f_X6_readDigit_30 s0 1 σ
set_option maxHeartbeats 4000000 in
set_option maxRecDepth 100000 in
theorem b_X6_readDigit_25 (X : Cx RX6 wsX6_readDigit cX6_readDigit 1 (some .int) D cA ad SM p s m args meth c) : ∀ (s0 : Nat) (σ : St) (H : Heap) (locs : List Loc) (ls : Array Slot), f_X6_readDigit_25 s0 σ = some r → Rn D cA ad SM s.heap σ H locs → lv_has ls 1 [(0, .ref (ad 0))] → W p l e rm_X6_readDigit s m args below meth c H locs 0 0 (MQ below (Qi D cA ad SM r) args s 0 0 (Aw ad SM)) (F0 m 25 ls [.ref (ad s0)]) := by
  obtain ⟨hx, hb, hml, hown, hts, hr, hlk, hK, hij⟩ := id X
  intro s0 σ H locs ls hf hW hl
  rw [f_X6_readDigit_25] at hf
  refine lv_iconst (v := 1) hx hb dX6_readDigit_25 (by decide) ?_
  refine lv_goto (tgt := 30) hx hb dX6_readDigit_26 (by decide) ?_
  exact b_X6_readDigit_30 X s0 1 σ _ _ _ hf hW (lv_sub hl [0] rfl)
end S_X6_readDigit
noncomputable def f_X6_readDigit (σ : St) : Option (Int32 × St) := (if (σ.1 0 20) = 0 then bnd (f_X6_here σ) fun r8 => bnd (f_X6_in r8.toInt64 48 57) fun r9 => (if r9 = 0 then f_X6_readDigit_25 0 σ else f_X6_readDigit_30 0 0 σ) else f_X6_readDigit_25 0 σ)
set_option maxHeartbeats 4000000 in
set_option maxRecDepth 100000 in
theorem c_X6_readDigit (l : Launch) (D : va_G) (cA : Nat → ClassId) (ad : Nat → Nat) (hij : Ij ad SM) (σ : St) (r : Int32 × St) (hf : f_X6_readDigit σ = some r) : Met l yX6_readDigit wsX6_readDigit rm_X6_readDigit (PC D cA ad SM [.ref (ad 0)] σ) (Qi D cA ad SM r) 0 0 (Aw ad SM) := by
  rw [f_X6_readDigit] at hf
  refine k_head (own := RX6) (ws := wsX6_readDigit) (cc := cX6_readDigit) (nL := 1) (ret := (some .int)) pn_X6 rfl rfl hij (Nat.le_of_ble_eq_true rfl) (fun p e s m below meth c ls X hW hl => ?_)
  have hl : lv_has ls 1 [(0, .ref (ad 0))] := hl
  obtain ⟨hx, hb, hml, hown, hts, hr, hlk, hK, hij⟩ := id X
  refine lv_aload_n hx hb dX6_readDigit_0 rfl (lv_at hl 0 rfl) ?_
  refine lv_aload_n hx hb dX6_readDigit_1 rfl (lv_at hl 0 rfl) ?_
  refine get_6_20 X hW kM_0 iM_0 inX6_readDigit_6 (List.mem_of_getElem? (i := 1) rfl) dX6_readDigit_2 ?_
  refine lv_if_ne (tgt := 25) hx hb dX6_readDigit_5 (by decide) (fun c1 => ?_) (fun c1 => ?_)
  · have hf := ie_e hf c1
    exact b_X6_readDigit_25 X 0 σ _ _ _ hf hW (lv_sub hl [0] rfl)
  · have hf := it_e hf c1
    refine lv_aload_n hx hb dX6_readDigit_8 rfl (lv_at hl 0 rfl) ?_
    obtain ⟨r8, z8, hf⟩ := bnd_e hf
    refine r_cViR X hW kM_0 iM_0 rfl (c_X6_here l D cA ad hij σ  r8 z8) gX6_readDigit_X6_here rfl ⟨rfl, rfl⟩ hd_X6_here ⟨Nat.le_of_ble_eq_true rfl, Nat.le_of_ble_eq_true rfl⟩ rfl (Nat.le_of_ble_eq_true rfl) hl.1 dX6_readDigit_9 (fun H locs hW => ?_)
    refine lv_i2l hx hb dX6_readDigit_12 rfl ?_
    refine lv_ldc2 (v := 48) hx hb hown (hts _ (List.mem_of_getElem? (i := 2) rfl)) dX6_readDigit_13 ?_
    refine lv_ldc2 (v := 57) hx hb hown (hts _ (List.mem_of_getElem? (i := 3) rfl)) dX6_readDigit_16 ?_
    obtain ⟨r9, z9, hf⟩ := bnd_e hf
    refine r_cSiR X hW (c_X6_in l D cA ad hij σ r8.toInt64 48 57 r9 z9) gX6_readDigit_X6_in rfl ⟨rfl, rfl⟩ hd_X6_in ⟨Nat.le_of_ble_eq_true rfl, Nat.le_of_ble_eq_true rfl⟩ rfl (Nat.le_of_ble_eq_true rfl) hl.1 dX6_readDigit_19 (fun H locs hW => ?_)
    refine lv_if_ne (tgt := 29) hx hb dX6_readDigit_22 (by decide) (fun c10 => ?_) (fun c10 => ?_)
    · have hf := ie_e hf c10
      refine lv_iconst (v := 0) hx hb dX6_readDigit_29 (by decide) ?_
      exact b_X6_readDigit_30 X 0 0 σ _ _ _ hf hW (lv_sub hl [0] rfl)
    · have hf := it_e hf c10
      exact b_X6_readDigit_25 X 0 σ _ _ _ hf hW (lv_sub hl [0] rfl)

abbrev rm_X6_readStatement : Room := { frames := 2, cells := 0, slots := 0, locals := 45 }
theorem hd_X6_readStatement : yX6_readStatement.cls = RX6 ∧ yX6_readStatement.cls ≠ "java/lang/invoke/MethodHandle" ∧ yX6_readStatement.cls ≠ "java/lang/invoke/VarHandle" ∧ (parseMethodDescriptor yX6_readStatement.desc).map (fun d => d.parameters.length) = some 0 := by decide +kernel
theorem inX6_readStatement_6 : ∀ w ∈ wsX60, w ∈ wsX6_readStatement := fun _ h => List.mem_cons_of_mem _ (List.mem_append_right _ h)
section S_X6_readStatement
variable {p : Program} {l : Launch} {e : Env} {s : State} {m : MethodId} {args : Array Value} {below : List Frame} {meth : Method} {c : Code} {D : va_G} {cA : Nat → ClassId} {ad : Nat → Nat} {r : St}
noncomputable def f_X6_readStatement_123 (k150 : St → Option (St)) : Nat → Int32 → Int32 → Int32 → St → Option (St)
  | 0, _, _, _, _ => none
  | n + 1, v1, v3, v4, σ => (if v3 ≤ v4 then k150 σ else bnd (f_X6_readDigit σ) fun r17 => chk (inb ((3 * v1) + v4) 153) <| nw (uI r17.2 15 ((3 * v1) + v4).toNatClampNeg r17.1) fun σ19 => nw (v4 + 1 : Int32) fun v120 => f_X6_readStatement_123 k150 n v1 v3 v120 σ19)
set_option maxHeartbeats 4000000 in
set_option maxRecDepth 100000 in
theorem b_X6_readStatement_123 {k150 : St → Option (St)} (X : Cx RX6 wsX6_readStatement cX6_readStatement 5 none D cA ad SM p s m args meth c) (h150 : ∀  (σ : St) (H : Heap) (locs : List Loc) (ls : Array Slot), k150 σ = some r → Rn D cA ad SM s.heap σ H locs → lv_has ls 5 [(0, .ref (ad 0))] → W p l e rm_X6_readStatement s m args below meth c H locs 0 0 (MQ below (Qv D cA ad SM r) args s 0 0 (Aw ad SM)) (F0 m 150 ls [])) : ∀ (n : Nat) (v1 : Int32) (v3 : Int32) (v4 : Int32) (σ : St) (H : Heap) (locs : List Loc) (ls : Array Slot), f_X6_readStatement_123 k150 n v1 v3 v4 σ = some r → Rn D cA ad SM s.heap σ H locs → lv_has ls 5 [(0, .ref (ad 0)), (1, .int v1), (3, .int v3), (4, .int v4)] → W p l e rm_X6_readStatement s m args below meth c H locs 0 0 (MQ below (Qv D cA ad SM r) args s 0 0 (Aw ad SM)) (F0 m 123 ls []) := by
  obtain ⟨hx, hb, hml, hown, hts, hr, hlk, hK, hij⟩ := id X
  intro n
  induction n with
  | zero =>
    intro v1 v3 v4 σ H locs ls hf
    exact nomatch (show (none : Option (St)) = some r from hf)
  | succ n ih =>
    intro v1 v3 v4 σ H locs ls hf hW hl
    rw [f_X6_readStatement_123] at hf
    refine lv_iload hx hb dX6_readStatement_123 (lv_at hl 3 rfl) ?_
    refine lv_iload_n hx hb dX6_readStatement_125 rfl (lv_at hl 2 rfl) ?_
    refine lv_icmp_ge (tgt := 150) hx hb dX6_readStatement_126 (by decide) (fun c16 => ?_) (fun c16 => ?_)
    · have hf := it_e hf c16
      exact h150 σ _ _ _ hf hW (lv_sub hl [0] rfl)
    · have hf := ie_e hf c16
      refine lv_aload_n hx hb dX6_readStatement_129 rfl (lv_at hl 0 rfl) ?_
      refine get_6_24 X hW kM_0 iM_0 inX6_readStatement_6 (List.mem_of_getElem? (i := 6) rfl) dX6_readStatement_130 ?_
      refine lv_iconst (v := 3) hx hb dX6_readStatement_133 (by decide) ?_
      refine lv_iload_n hx hb dX6_readStatement_134 rfl (lv_at hl 1 rfl) ?_
      refine lv_imul hx hb dX6_readStatement_135 ?_
      refine lv_iload hx hb dX6_readStatement_136 (lv_at hl 3 rfl) ?_
      refine lv_iadd hx hb dX6_readStatement_138 ?_
      refine lv_aload_n hx hb dX6_readStatement_139 rfl (lv_at hl 0 rfl) ?_
      obtain ⟨r17, z17, hf⟩ := bnd_e hf
      refine r_cVi X hW kM_0 iM_0 rfl (c_X6_readDigit l D cA ad hij σ  r17 z17) gX6_readStatement_X6_readDigit rfl ⟨rfl, rfl⟩ hd_X6_readDigit ⟨Nat.le_of_ble_eq_true rfl, Nat.le_of_ble_eq_true rfl⟩ rfl (Nat.le_of_ble_eq_true rfl) hl.1 dX6_readStatement_140 (fun H locs hW => ?_)
      obtain ⟨x18, hf⟩ := chk_e hf
      obtain ⟨σ19, e19, hf⟩ := nw_e hf
      refine r_iast X hW kM_15 iM_15 nM_15 x18 e19 dX6_readStatement_143 (fun H locs hW => ?_)
      obtain ⟨v120, e20, hf⟩ := nw_e hf
      refine lv_iinc (v := v120) (lv' := [(4, .int v120), (0, .ref (ad 0)), (1, .int v1), (3, .int v3)]) hx hb dX6_readStatement_144 hl (k := 3) rfl (by rw [e20]; rfl) (by decide) rfl (fun ls hl => ?_)
      refine lv_goto (tgt := 123) hx hb dX6_readStatement_147 (by decide) ?_
      exact ih v1 v3 v120 σ19 _ _ _ hf hW (lv_sub hl [1, 2, 3, 0] rfl)
noncomputable def f_X6_readStatement_192 (s0 : Nat) (s1 : Int32) (s2 : Int32) (σ : St) : Option (St) := chk (kOK SM s0 6) <| nw (uI σ s0 19 (s1 + s2)) fun σ28 => nw (uI σ28 0 21 ((σ28.1 0 21) + 1)) fun σ29 => some σ29
set_option maxHeartbeats 4000000 in
set_option maxRecDepth 100000 in
theorem b_X6_readStatement_192 (X : Cx RX6 wsX6_readStatement cX6_readStatement 5 none D cA ad SM p s m args meth c) : ∀ (s0 : Nat) (s1 : Int32) (s2 : Int32) (σ : St) (H : Heap) (locs : List Loc) (ls : Array Slot), f_X6_readStatement_192 s0 s1 s2 σ = some r → Rn D cA ad SM s.heap σ H locs → lv_has ls 5 [(0, .ref (ad 0))] → W p l e rm_X6_readStatement s m args below meth c H locs 0 0 (MQ below (Qv D cA ad SM r) args s 0 0 (Aw ad SM)) (F0 m 192 ls [.int s2, .int s1, .ref (ad s0)]) := by
  obtain ⟨hx, hb, hml, hown, hts, hr, hlk, hK, hij⟩ := id X
  intro s0 s1 s2 σ H locs ls hf hW hl
  rw [f_X6_readStatement_192] at hf
  refine lv_iadd hx hb dX6_readStatement_192 ?_
  obtain ⟨q27, hf⟩ := chk_e hf
  obtain ⟨i27, k27⟩ := kOK_e q27
  obtain ⟨σ28, e28, hf⟩ := nw_e hf
  refine put_6_19 X hW k27 i27 inX6_readStatement_6 (List.mem_of_getElem? (i := 3) rfl) e28 dX6_readStatement_193 (fun H locs hW => ?_)
  refine lv_aload_n hx hb dX6_readStatement_196 rfl (lv_at hl 0 rfl) ?_
  refine lv_dup hx hb dX6_readStatement_197 rfl ?_
  refine get_6_21 X hW kM_0 iM_0 inX6_readStatement_6 (List.mem_of_getElem? (i := 1) rfl) dX6_readStatement_198 ?_
  refine lv_iconst (v := 1) hx hb dX6_readStatement_201 (by decide) ?_
  refine lv_iadd hx hb dX6_readStatement_202 ?_
  obtain ⟨σ29, e29, hf⟩ := nw_e hf
  refine put_6_21 X hW kM_0 iM_0 inX6_readStatement_6 (List.mem_of_getElem? (i := 1) rfl) e29 dX6_readStatement_203 (fun H locs hW => ?_)
  exact r_vret X hW rfl hf dX6_readStatement_206
noncomputable def f_X6_readStatement_172 (s0 : Nat) (s1 : Int32) (σ : St) : Option (St) := chk (kOK SM s0 6) <| chk (b01 s1) <| nw (uI σ s0 20 s1) fun σ25 => (if (σ25.1 0 20) = 0 then f_X6_readStatement_192 0 (σ25.1 0 19) 1 σ25 else f_X6_readStatement_192 0 (σ25.1 0 19) 0 σ25)
set_option maxHeartbeats 4000000 in
set_option maxRecDepth 100000 in
theorem b_X6_readStatement_172 (X : Cx RX6 wsX6_readStatement cX6_readStatement 5 none D cA ad SM p s m args meth c) : ∀ (s0 : Nat) (s1 : Int32) (σ : St) (H : Heap) (locs : List Loc) (ls : Array Slot), f_X6_readStatement_172 s0 s1 σ = some r → Rn D cA ad SM s.heap σ H locs → lv_has ls 5 [(0, .ref (ad 0))] → W p l e rm_X6_readStatement s m args below meth c H locs 0 0 (MQ below (Qv D cA ad SM r) args s 0 0 (Aw ad SM)) (F0 m 172 ls [.int s1, .ref (ad s0)]) := by
  obtain ⟨hx, hb, hml, hown, hts, hr, hlk, hK, hij⟩ := id X
  intro s0 s1 σ H locs ls hf hW hl
  rw [f_X6_readStatement_172] at hf
  obtain ⟨q23, hf⟩ := chk_e hf
  obtain ⟨i23, k23⟩ := kOK_e q23
  obtain ⟨q24, hf⟩ := chk_e hf
  obtain ⟨σ25, e25, hf⟩ := nw_e hf
  refine put_6_20 X hW k23 i23 inX6_readStatement_6 (List.mem_of_getElem? (i := 5) rfl) q24 e25 dX6_readStatement_172 (fun H locs hW => ?_)
  refine lv_aload_n hx hb dX6_readStatement_175 rfl (lv_at hl 0 rfl) ?_
  refine lv_dup hx hb dX6_readStatement_176 rfl ?_
  refine get_6_19 X hW kM_0 iM_0 inX6_readStatement_6 (List.mem_of_getElem? (i := 3) rfl) dX6_readStatement_177 ?_
  refine lv_aload_n hx hb dX6_readStatement_180 rfl (lv_at hl 0 rfl) ?_
  refine get_6_20 X hW kM_0 iM_0 inX6_readStatement_6 (List.mem_of_getElem? (i := 5) rfl) dX6_readStatement_181 ?_
  refine lv_if_eq (tgt := 191) hx hb dX6_readStatement_184 (by decide) (fun c26 => ?_) (fun c26 => ?_)
  · have hf := it_e hf c26
    refine lv_iconst (v := 1) hx hb dX6_readStatement_191 (by decide) ?_
    exact b_X6_readStatement_192 X 0 (σ25.1 0 19) 1 σ25 _ _ _ hf hW (lv_sub hl [0] rfl)
  · have hf := ie_e hf c26
    refine lv_iconst (v := 0) hx hb dX6_readStatement_187 (by decide) ?_
    refine lv_goto (tgt := 192) hx hb dX6_readStatement_188 (by decide) ?_
    exact b_X6_readStatement_192 X 0 (σ25.1 0 19) 0 σ25 _ _ _ hf hW (lv_sub hl [0] rfl)
noncomputable def f_X6_readStatement_167 (s0 : Nat) (σ : St) : Option (St) := f_X6_readStatement_172 s0 1 σ
set_option maxHeartbeats 4000000 in
set_option maxRecDepth 100000 in
theorem b_X6_readStatement_167 (X : Cx RX6 wsX6_readStatement cX6_readStatement 5 none D cA ad SM p s m args meth c) : ∀ (s0 : Nat) (σ : St) (H : Heap) (locs : List Loc) (ls : Array Slot), f_X6_readStatement_167 s0 σ = some r → Rn D cA ad SM s.heap σ H locs → lv_has ls 5 [(0, .ref (ad 0))] → W p l e rm_X6_readStatement s m args below meth c H locs 0 0 (MQ below (Qv D cA ad SM r) args s 0 0 (Aw ad SM)) (F0 m 167 ls [.ref (ad s0)]) := by
  obtain ⟨hx, hb, hml, hown, hts, hr, hlk, hK, hij⟩ := id X
  intro s0 σ H locs ls hf hW hl
  rw [f_X6_readStatement_167] at hf
  refine lv_iconst (v := 1) hx hb dX6_readStatement_167 (by decide) ?_
  refine lv_goto (tgt := 172) hx hb dX6_readStatement_168 (by decide) ?_
  exact b_X6_readStatement_172 X s0 1 σ _ _ _ hf hW (lv_sub hl [0] rfl)
noncomputable def f_X6_readStatement_119 (v1 : Int32) (s0 : Int32) (σ : St) : Option (St) := f_X6_readStatement_123 (fun  (σ21 : St) => (if (σ21.1 0 20) = 0 then bnd (f_X6_here σ21) fun r30 => (if r30 = 59 then f_X6_readStatement_172 0 0 σ21 else f_X6_readStatement_167 0 σ21) else f_X6_readStatement_167 0 σ21)) fu v1 s0 0 σ
set_option maxHeartbeats 4000000 in
set_option maxRecDepth 100000 in
theorem b_X6_readStatement_119 (X : Cx RX6 wsX6_readStatement cX6_readStatement 5 none D cA ad SM p s m args meth c) : ∀ (v1 : Int32) (s0 : Int32) (σ : St) (H : Heap) (locs : List Loc) (ls : Array Slot), f_X6_readStatement_119 v1 s0 σ = some r → Rn D cA ad SM s.heap σ H locs → lv_has ls 5 [(0, .ref (ad 0)), (1, .int v1)] → W p l e rm_X6_readStatement s m args below meth c H locs 0 0 (MQ below (Qv D cA ad SM r) args s 0 0 (Aw ad SM)) (F0 m 119 ls [.int s0]) := by
  obtain ⟨hx, hb, hml, hown, hts, hr, hlk, hK, hij⟩ := id X
  intro v1 s0 σ H locs ls hf hW hl
  rw [f_X6_readStatement_119] at hf
  refine lv_istore_n (lv' := [(3, .int s0), (0, .ref (ad 0)), (1, .int v1)]) hx hb dX6_readStatement_119 rfl hl (by decide) rfl (fun ls hl => ?_)
  refine lv_iconst (v := 0) hx hb dX6_readStatement_120 (by decide) ?_
  refine lv_istore (lv' := [(4, .int 0), (3, .int s0), (0, .ref (ad 0)), (1, .int v1)]) hx hb dX6_readStatement_121 hl (by decide) rfl (fun ls hl => ?_)
  refine b_X6_readStatement_123 X (fun σ21 H locs ls hf hW hl => ?_) fu v1 s0 0 σ _ _ _ hf hW (lv_sub hl [2, 3, 1, 0] rfl)
  · refine lv_aload_n hx hb dX6_readStatement_150 rfl (lv_at hl 0 rfl) ?_
    refine lv_aload_n hx hb dX6_readStatement_151 rfl (lv_at hl 0 rfl) ?_
    refine get_6_20 X hW kM_0 iM_0 inX6_readStatement_6 (List.mem_of_getElem? (i := 5) rfl) dX6_readStatement_152 ?_
    refine lv_if_ne (tgt := 167) hx hb dX6_readStatement_155 (by decide) (fun c22 => ?_) (fun c22 => ?_)
    · have hf := ie_e hf c22
      exact b_X6_readStatement_167 X 0 σ21 _ _ _ hf hW (lv_sub hl [0] rfl)
    · have hf := it_e hf c22
      refine lv_aload_n hx hb dX6_readStatement_158 rfl (lv_at hl 0 rfl) ?_
      obtain ⟨r30, z30, hf⟩ := bnd_e hf
      refine r_cViR X hW kM_0 iM_0 rfl (c_X6_here l D cA ad hij σ21  r30 z30) gX6_readStatement_X6_here rfl ⟨rfl, rfl⟩ hd_X6_here ⟨Nat.le_of_ble_eq_true rfl, Nat.le_of_ble_eq_true rfl⟩ rfl (Nat.le_of_ble_eq_true rfl) hl.1 dX6_readStatement_159 (fun H locs hW => ?_)
      refine lv_bipush (v := 59) hx hb dX6_readStatement_162 (by decide) ?_
      refine lv_icmp_eq (tgt := 171) hx hb dX6_readStatement_164 (by decide) (fun c31 => ?_) (fun c31 => ?_)
      · have hf := it_e hf c31
        refine lv_iconst (v := 0) hx hb dX6_readStatement_171 (by decide) ?_
        exact b_X6_readStatement_172 X 0 0 σ21 _ _ _ hf hW (lv_sub hl [0] rfl)
      · have hf := ie_e hf c31
        exact b_X6_readStatement_167 X 0 σ21 _ _ _ hf hW (lv_sub hl [0] rfl)
noncomputable def f_X6_readStatement_84 (v1 : Int32) (v2 : Int32) (s0 : Nat) (s1 : Int32) (s2 : Int32) (σ : St) : Option (St) := chk (kOK SM s0 6) <| nw (uI σ s0 19 (s1 + s2)) fun σ12 => (if v2 = 112 then f_X6_readStatement_119 v1 0 σ12 else (if v2 = 100 then f_X6_readStatement_119 v1 3 σ12 else (if v2 = 110 then f_X6_readStatement_119 v1 1 σ12 else f_X6_readStatement_119 v1 2 σ12)))
set_option maxHeartbeats 4000000 in
set_option maxRecDepth 100000 in
theorem b_X6_readStatement_84 (X : Cx RX6 wsX6_readStatement cX6_readStatement 5 none D cA ad SM p s m args meth c) : ∀ (v1 : Int32) (v2 : Int32) (s0 : Nat) (s1 : Int32) (s2 : Int32) (σ : St) (H : Heap) (locs : List Loc) (ls : Array Slot), f_X6_readStatement_84 v1 v2 s0 s1 s2 σ = some r → Rn D cA ad SM s.heap σ H locs → lv_has ls 5 [(0, .ref (ad 0)), (1, .int v1), (2, .int v2)] → W p l e rm_X6_readStatement s m args below meth c H locs 0 0 (MQ below (Qv D cA ad SM r) args s 0 0 (Aw ad SM)) (F0 m 84 ls [.int s2, .int s1, .ref (ad s0)]) := by
  obtain ⟨hx, hb, hml, hown, hts, hr, hlk, hK, hij⟩ := id X
  intro v1 v2 s0 s1 s2 σ H locs ls hf hW hl
  rw [f_X6_readStatement_84] at hf
  refine lv_iadd hx hb dX6_readStatement_84 ?_
  obtain ⟨q11, hf⟩ := chk_e hf
  obtain ⟨i11, k11⟩ := kOK_e q11
  obtain ⟨σ12, e12, hf⟩ := nw_e hf
  refine put_6_19 X hW k11 i11 inX6_readStatement_6 (List.mem_of_getElem? (i := 3) rfl) e12 dX6_readStatement_85 (fun H locs hW => ?_)
  refine lv_iload_n hx hb dX6_readStatement_88 rfl (lv_at hl 2 rfl) ?_
  refine lv_bipush (v := 112) hx hb dX6_readStatement_89 (by decide) ?_
  refine lv_icmp_ne (tgt := 98) hx hb dX6_readStatement_91 (by decide) (fun c13 => ?_) (fun c13 => ?_)
  · have hf := ie_e hf c13
    refine lv_iload_n hx hb dX6_readStatement_98 rfl (lv_at hl 2 rfl) ?_
    refine lv_bipush (v := 100) hx hb dX6_readStatement_99 (by decide) ?_
    refine lv_icmp_ne (tgt := 108) hx hb dX6_readStatement_101 (by decide) (fun c14 => ?_) (fun c14 => ?_)
    · have hf := ie_e hf c14
      refine lv_iload_n hx hb dX6_readStatement_108 rfl (lv_at hl 2 rfl) ?_
      refine lv_bipush (v := 110) hx hb dX6_readStatement_109 (by decide) ?_
      refine lv_icmp_ne (tgt := 118) hx hb dX6_readStatement_111 (by decide) (fun c15 => ?_) (fun c15 => ?_)
      · have hf := ie_e hf c15
        refine lv_iconst (v := 2) hx hb dX6_readStatement_118 (by decide) ?_
        exact b_X6_readStatement_119 X v1 2 σ12 _ _ _ hf hW (lv_sub hl [0, 1] rfl)
      · have hf := it_e hf c15
        refine lv_iconst (v := 1) hx hb dX6_readStatement_114 (by decide) ?_
        refine lv_goto (tgt := 119) hx hb dX6_readStatement_115 (by decide) ?_
        exact b_X6_readStatement_119 X v1 1 σ12 _ _ _ hf hW (lv_sub hl [0, 1] rfl)
    · have hf := it_e hf c14
      refine lv_iconst (v := 3) hx hb dX6_readStatement_104 (by decide) ?_
      refine lv_goto (tgt := 119) hx hb dX6_readStatement_105 (by decide) ?_
      exact b_X6_readStatement_119 X v1 3 σ12 _ _ _ hf hW (lv_sub hl [0, 1] rfl)
  · have hf := it_e hf c13
    refine lv_iconst (v := 0) hx hb dX6_readStatement_94 (by decide) ?_
    refine lv_goto (tgt := 119) hx hb dX6_readStatement_95 (by decide) ?_
    exact b_X6_readStatement_119 X v1 0 σ12 _ _ _ hf hW (lv_sub hl [0, 1] rfl)
noncomputable def f_X6_readStatement_64 (v1 : Int32) (v2 : Int32) (s0 : Nat) (s1 : Int32) (σ : St) : Option (St) := chk (kOK SM s0 6) <| chk (b01 s1) <| nw (uI σ s0 20 s1) fun σ9 => (if (σ9.1 0 20) = 0 then f_X6_readStatement_84 v1 v2 0 (σ9.1 0 19) 1 σ9 else f_X6_readStatement_84 v1 v2 0 (σ9.1 0 19) 0 σ9)
set_option maxHeartbeats 4000000 in
set_option maxRecDepth 100000 in
theorem b_X6_readStatement_64 (X : Cx RX6 wsX6_readStatement cX6_readStatement 5 none D cA ad SM p s m args meth c) : ∀ (v1 : Int32) (v2 : Int32) (s0 : Nat) (s1 : Int32) (σ : St) (H : Heap) (locs : List Loc) (ls : Array Slot), f_X6_readStatement_64 v1 v2 s0 s1 σ = some r → Rn D cA ad SM s.heap σ H locs → lv_has ls 5 [(0, .ref (ad 0)), (1, .int v1), (2, .int v2)] → W p l e rm_X6_readStatement s m args below meth c H locs 0 0 (MQ below (Qv D cA ad SM r) args s 0 0 (Aw ad SM)) (F0 m 64 ls [.int s1, .ref (ad s0)]) := by
  obtain ⟨hx, hb, hml, hown, hts, hr, hlk, hK, hij⟩ := id X
  intro v1 v2 s0 s1 σ H locs ls hf hW hl
  rw [f_X6_readStatement_64] at hf
  obtain ⟨q7, hf⟩ := chk_e hf
  obtain ⟨i7, k7⟩ := kOK_e q7
  obtain ⟨q8, hf⟩ := chk_e hf
  obtain ⟨σ9, e9, hf⟩ := nw_e hf
  refine put_6_20 X hW k7 i7 inX6_readStatement_6 (List.mem_of_getElem? (i := 5) rfl) q8 e9 dX6_readStatement_64 (fun H locs hW => ?_)
  refine lv_aload_n hx hb dX6_readStatement_67 rfl (lv_at hl 0 rfl) ?_
  refine lv_dup hx hb dX6_readStatement_68 rfl ?_
  refine get_6_19 X hW kM_0 iM_0 inX6_readStatement_6 (List.mem_of_getElem? (i := 3) rfl) dX6_readStatement_69 ?_
  refine lv_aload_n hx hb dX6_readStatement_72 rfl (lv_at hl 0 rfl) ?_
  refine get_6_20 X hW kM_0 iM_0 inX6_readStatement_6 (List.mem_of_getElem? (i := 5) rfl) dX6_readStatement_73 ?_
  refine lv_if_eq (tgt := 83) hx hb dX6_readStatement_76 (by decide) (fun c10 => ?_) (fun c10 => ?_)
  · have hf := it_e hf c10
    refine lv_iconst (v := 1) hx hb dX6_readStatement_83 (by decide) ?_
    exact b_X6_readStatement_84 X v1 v2 0 (σ9.1 0 19) 1 σ9 _ _ _ hf hW (lv_sub hl [0, 1, 2] rfl)
  · have hf := ie_e hf c10
    refine lv_iconst (v := 0) hx hb dX6_readStatement_79 (by decide) ?_
    refine lv_goto (tgt := 84) hx hb dX6_readStatement_80 (by decide) ?_
    exact b_X6_readStatement_84 X v1 v2 0 (σ9.1 0 19) 0 σ9 _ _ _ hf hW (lv_sub hl [0, 1, 2] rfl)
noncomputable def f_X6_readStatement_59 (v1 : Int32) (v2 : Int32) (s0 : Nat) (σ : St) : Option (St) := f_X6_readStatement_64 v1 v2 s0 1 σ
set_option maxHeartbeats 4000000 in
set_option maxRecDepth 100000 in
theorem b_X6_readStatement_59 (X : Cx RX6 wsX6_readStatement cX6_readStatement 5 none D cA ad SM p s m args meth c) : ∀ (v1 : Int32) (v2 : Int32) (s0 : Nat) (σ : St) (H : Heap) (locs : List Loc) (ls : Array Slot), f_X6_readStatement_59 v1 v2 s0 σ = some r → Rn D cA ad SM s.heap σ H locs → lv_has ls 5 [(0, .ref (ad 0)), (1, .int v1), (2, .int v2)] → W p l e rm_X6_readStatement s m args below meth c H locs 0 0 (MQ below (Qv D cA ad SM r) args s 0 0 (Aw ad SM)) (F0 m 59 ls [.ref (ad s0)]) := by
  obtain ⟨hx, hb, hml, hown, hts, hr, hlk, hK, hij⟩ := id X
  intro v1 v2 s0 σ H locs ls hf hW hl
  rw [f_X6_readStatement_59] at hf
  refine lv_iconst (v := 1) hx hb dX6_readStatement_59 (by decide) ?_
  refine lv_goto (tgt := 64) hx hb dX6_readStatement_60 (by decide) ?_
  exact b_X6_readStatement_64 X v1 v2 s0 1 σ _ _ _ hf hW (lv_sub hl [0, 1, 2] rfl)
noncomputable def f_X6_readStatement_63 (v1 : Int32) (v2 : Int32) (s0 : Nat) (σ : St) : Option (St) := f_X6_readStatement_64 v1 v2 s0 0 σ
set_option maxHeartbeats 4000000 in
set_option maxRecDepth 100000 in
theorem b_X6_readStatement_63 (X : Cx RX6 wsX6_readStatement cX6_readStatement 5 none D cA ad SM p s m args meth c) : ∀ (v1 : Int32) (v2 : Int32) (s0 : Nat) (σ : St) (H : Heap) (locs : List Loc) (ls : Array Slot), f_X6_readStatement_63 v1 v2 s0 σ = some r → Rn D cA ad SM s.heap σ H locs → lv_has ls 5 [(0, .ref (ad 0)), (1, .int v1), (2, .int v2)] → W p l e rm_X6_readStatement s m args below meth c H locs 0 0 (MQ below (Qv D cA ad SM r) args s 0 0 (Aw ad SM)) (F0 m 63 ls [.ref (ad s0)]) := by
  obtain ⟨hx, hb, hml, hown, hts, hr, hlk, hK, hij⟩ := id X
  intro v1 v2 s0 σ H locs ls hf hW hl
  rw [f_X6_readStatement_63] at hf
  refine lv_iconst (v := 0) hx hb dX6_readStatement_63 (by decide) ?_
  exact b_X6_readStatement_64 X v1 v2 s0 0 σ _ _ _ hf hW (lv_sub hl [0, 1, 2] rfl)
end S_X6_readStatement
noncomputable def f_X6_readStatement (σ : St) : Option (St) := nw (σ.1 0 21 : Int32) fun v101 => bnd (f_X6_here σ) fun r2 => chk (inb v101 51) <| nw (uI σ 13 v101.toNatClampNeg (σ.1 0 19)) fun σ4 => nw (uI σ4 14 v101.toNatClampNeg r2) fun σ5 => (if (σ5.1 0 20) = 0 then (if r2 = 112 then f_X6_readStatement_63 v101 r2 0 σ5 else (if r2 = 100 then f_X6_readStatement_63 v101 r2 0 σ5 else (if r2 = 110 then f_X6_readStatement_63 v101 r2 0 σ5 else (if r2 = 99 then f_X6_readStatement_63 v101 r2 0 σ5 else f_X6_readStatement_59 v101 r2 0 σ5)))) else f_X6_readStatement_59 v101 r2 0 σ5)
set_option maxHeartbeats 4000000 in
set_option maxRecDepth 100000 in
theorem c_X6_readStatement (l : Launch) (D : va_G) (cA : Nat → ClassId) (ad : Nat → Nat) (hij : Ij ad SM) (σ : St) (r : St) (hf : f_X6_readStatement σ = some r) : Met l yX6_readStatement wsX6_readStatement rm_X6_readStatement (PC D cA ad SM [.ref (ad 0)] σ) (Qv D cA ad SM r) 0 0 (Aw ad SM) := by
  rw [f_X6_readStatement] at hf
  refine k_head (own := RX6) (ws := wsX6_readStatement) (cc := cX6_readStatement) (nL := 5) (ret := none) pn_X6 rfl rfl hij (Nat.le_of_ble_eq_true rfl) (fun p e s m below meth c ls X hW hl => ?_)
  have hl : lv_has ls 5 [(0, .ref (ad 0))] := hl
  obtain ⟨hx, hb, hml, hown, hts, hr, hlk, hK, hij⟩ := id X
  refine lv_aload_n hx hb dX6_readStatement_0 rfl (lv_at hl 0 rfl) ?_
  refine get_6_21 X hW kM_0 iM_0 inX6_readStatement_6 (List.mem_of_getElem? (i := 1) rfl) dX6_readStatement_1 ?_
  obtain ⟨v101, e1, hf⟩ := nw_e hf
  refine tI _ e1 ?_
  refine lv_istore_n (lv' := [(1, .int v101), (0, .ref (ad 0))]) hx hb dX6_readStatement_4 rfl hl (by decide) rfl (fun ls hl => ?_)
  refine lv_aload_n hx hb dX6_readStatement_5 rfl (lv_at hl 1 rfl) ?_
  obtain ⟨r2, z2, hf⟩ := bnd_e hf
  refine r_cViR X hW kM_0 iM_0 rfl (c_X6_here l D cA ad hij σ  r2 z2) gX6_readStatement_X6_here rfl ⟨rfl, rfl⟩ hd_X6_here ⟨Nat.le_of_ble_eq_true rfl, Nat.le_of_ble_eq_true rfl⟩ rfl (Nat.le_of_ble_eq_true rfl) hl.1 dX6_readStatement_6 (fun H locs hW => ?_)
  refine lv_istore_n (lv' := [(2, .int r2), (1, .int v101), (0, .ref (ad 0))]) hx hb dX6_readStatement_9 rfl hl (by decide) rfl (fun ls hl => ?_)
  refine lv_aload_n hx hb dX6_readStatement_10 rfl (lv_at hl 2 rfl) ?_
  refine get_6_22 X hW kM_0 iM_0 inX6_readStatement_6 (List.mem_of_getElem? (i := 2) rfl) dX6_readStatement_11 ?_
  refine lv_iload_n hx hb dX6_readStatement_14 rfl (lv_at hl 1 rfl) ?_
  refine lv_aload_n hx hb dX6_readStatement_15 rfl (lv_at hl 2 rfl) ?_
  refine get_6_19 X hW kM_0 iM_0 inX6_readStatement_6 (List.mem_of_getElem? (i := 3) rfl) dX6_readStatement_16 ?_
  obtain ⟨x3, hf⟩ := chk_e hf
  obtain ⟨σ4, e4, hf⟩ := nw_e hf
  refine r_iast X hW kM_13 iM_13 nM_13 x3 e4 dX6_readStatement_19 (fun H locs hW => ?_)
  refine lv_aload_n hx hb dX6_readStatement_20 rfl (lv_at hl 2 rfl) ?_
  refine get_6_23 X hW kM_0 iM_0 inX6_readStatement_6 (List.mem_of_getElem? (i := 4) rfl) dX6_readStatement_21 ?_
  refine lv_iload_n hx hb dX6_readStatement_24 rfl (lv_at hl 1 rfl) ?_
  refine lv_iload_n hx hb dX6_readStatement_25 rfl (lv_at hl 0 rfl) ?_
  obtain ⟨σ5, e5, hf⟩ := nw_e hf
  refine r_iast X hW kM_14 iM_14 nM_14 x3 e5 dX6_readStatement_26 (fun H locs hW => ?_)
  refine lv_aload_n hx hb dX6_readStatement_27 rfl (lv_at hl 2 rfl) ?_
  refine lv_aload_n hx hb dX6_readStatement_28 rfl (lv_at hl 2 rfl) ?_
  refine get_6_20 X hW kM_0 iM_0 inX6_readStatement_6 (List.mem_of_getElem? (i := 5) rfl) dX6_readStatement_29 ?_
  refine lv_if_ne (tgt := 59) hx hb dX6_readStatement_32 (by decide) (fun c6 => ?_) (fun c6 => ?_)
  · have hf := ie_e hf c6
    exact b_X6_readStatement_59 X v101 r2 0 σ5 _ _ _ hf hW (lv_sub hl [2, 1, 0] rfl)
  · have hf := it_e hf c6
    refine lv_iload_n hx hb dX6_readStatement_35 rfl (lv_at hl 0 rfl) ?_
    refine lv_bipush (v := 112) hx hb dX6_readStatement_36 (by decide) ?_
    refine lv_icmp_eq (tgt := 63) hx hb dX6_readStatement_38 (by decide) (fun c32 => ?_) (fun c32 => ?_)
    · have hf := it_e hf c32
      exact b_X6_readStatement_63 X v101 r2 0 σ5 _ _ _ hf hW (lv_sub hl [2, 1, 0] rfl)
    · have hf := ie_e hf c32
      refine lv_iload_n hx hb dX6_readStatement_41 rfl (lv_at hl 0 rfl) ?_
      refine lv_bipush (v := 100) hx hb dX6_readStatement_42 (by decide) ?_
      refine lv_icmp_eq (tgt := 63) hx hb dX6_readStatement_44 (by decide) (fun c33 => ?_) (fun c33 => ?_)
      · have hf := it_e hf c33
        exact b_X6_readStatement_63 X v101 r2 0 σ5 _ _ _ hf hW (lv_sub hl [2, 1, 0] rfl)
      · have hf := ie_e hf c33
        refine lv_iload_n hx hb dX6_readStatement_47 rfl (lv_at hl 0 rfl) ?_
        refine lv_bipush (v := 110) hx hb dX6_readStatement_48 (by decide) ?_
        refine lv_icmp_eq (tgt := 63) hx hb dX6_readStatement_50 (by decide) (fun c34 => ?_) (fun c34 => ?_)
        · have hf := it_e hf c34
          exact b_X6_readStatement_63 X v101 r2 0 σ5 _ _ _ hf hW (lv_sub hl [2, 1, 0] rfl)
        · have hf := ie_e hf c34
          refine lv_iload_n hx hb dX6_readStatement_53 rfl (lv_at hl 0 rfl) ?_
          refine lv_bipush (v := 99) hx hb dX6_readStatement_54 (by decide) ?_
          refine lv_icmp_eq (tgt := 63) hx hb dX6_readStatement_56 (by decide) (fun c35 => ?_) (fun c35 => ?_)
          · have hf := it_e hf c35
            exact b_X6_readStatement_63 X v101 r2 0 σ5 _ _ _ hf hW (lv_sub hl [2, 1, 0] rfl)
          · have hf := ie_e hf c35
            exact b_X6_readStatement_59 X v101 r2 0 σ5 _ _ _ hf hW (lv_sub hl [2, 1, 0] rfl)

abbrev rm_X6_comes : Room := { frames := 3, cells := 0, slots := 0, locals := 74 }
theorem hd_X6_comes : yX6_comes.cls = RX6 ∧ yX6_comes.cls ≠ "java/lang/invoke/MethodHandle" ∧ yX6_comes.cls ≠ "java/lang/invoke/VarHandle" ∧ (parseMethodDescriptor yX6_comes.desc).map (fun d => d.parameters.length) = some 1 := by decide +kernel
theorem inX6_comes_6 : ∀ w ∈ wsX60, w ∈ wsX6_comes := fun _ h => List.mem_cons_of_mem _ (List.mem_append_right _ h)
section S_X6_comes
variable {p : Program} {l : Launch} {e : Env} {s : State} {m : MethodId} {args : Array Value} {below : List Frame} {meth : Method} {c : Code} {D : va_G} {cA : Nat → ClassId} {ad : Nat → Nat} {r : Int32 × St}
noncomputable def f_X6_comes_74 (s0 : Int32) (σ : St) : Option (Int32 × St) := (if s0 = 0 then chk (b01 s0) <| some (s0, σ) else bnd (f_X6_empty σ (σ.1 0 0)) fun r24 => nw (uI r24 0 0 ((r24.1 0 0) + 1)) fun σ25 => chk (b01 s0) <| some (s0, σ25))
set_option maxHeartbeats 4000000 in
set_option maxRecDepth 100000 in
theorem b_X6_comes_74 (X : Cx RX6 wsX6_comes cX6_comes 5 (some .boolean) D cA ad SM p s m args meth c) : ∀ (s0 : Int32) (σ : St) (H : Heap) (locs : List Loc) (ls : Array Slot), f_X6_comes_74 s0 σ = some r → Rn D cA ad SM s.heap σ H locs → lv_has ls 5 [(0, .ref (ad 0))] → W p l e rm_X6_comes s m args below meth c H locs 0 0 (MQ below (Qi D cA ad SM r) args s 0 0 (Aw ad SM)) (F0 m 74 ls [.int s0]) := by
  obtain ⟨hx, hb, hml, hown, hts, hr, hlk, hK, hij⟩ := id X
  intro s0 σ H locs ls hf hW hl
  rw [f_X6_comes_74] at hf
  refine lv_istore (lv' := [(4, .int s0), (0, .ref (ad 0))]) hx hb dX6_comes_74 hl (by decide) rfl (fun ls hl => ?_)
  refine lv_iload hx hb dX6_comes_76 (lv_at hl 0 rfl) ?_
  refine lv_if_eq (tgt := 99) hx hb dX6_comes_78 (by decide) (fun c22 => ?_) (fun c22 => ?_)
  · have hf := it_e hf c22
    refine lv_iload hx hb dX6_comes_99 (lv_at hl 0 rfl) ?_
    obtain ⟨q23, hf⟩ := chk_e hf
    exact r_iret X hW rfl (b01_e q23).1 hf dX6_comes_101
  · have hf := ie_e hf c22
    refine lv_aload_n hx hb dX6_comes_81 rfl (lv_at hl 1 rfl) ?_
    refine lv_aload_n hx hb dX6_comes_82 rfl (lv_at hl 1 rfl) ?_
    refine get_6_0 X hW kM_0 iM_0 inX6_comes_6 (List.mem_of_getElem? (i := 3) rfl) dX6_comes_83 ?_
    obtain ⟨r24, z24, hf⟩ := bnd_e hf
    refine r_cVv X hW kM_0 iM_0 rfl (c_X6_empty l D cA ad hij σ (σ.1 0 0) r24 z24) gX6_comes_X6_empty rfl ⟨rfl, rfl⟩ hd_X6_empty ⟨Nat.le_of_ble_eq_true rfl, Nat.le_of_ble_eq_true rfl⟩ rfl (Nat.le_of_ble_eq_true rfl) hl.1 dX6_comes_86 (fun H locs hW => ?_)
    refine lv_aload_n hx hb dX6_comes_89 rfl (lv_at hl 1 rfl) ?_
    refine lv_dup hx hb dX6_comes_90 rfl ?_
    refine get_6_0 X hW kM_0 iM_0 inX6_comes_6 (List.mem_of_getElem? (i := 3) rfl) dX6_comes_91 ?_
    refine lv_iconst (v := 1) hx hb dX6_comes_94 (by decide) ?_
    refine lv_iadd hx hb dX6_comes_95 ?_
    obtain ⟨σ25, e25, hf⟩ := nw_e hf
    refine put_6_0 X hW kM_0 iM_0 inX6_comes_6 (List.mem_of_getElem? (i := 3) rfl) e25 dX6_comes_96 (fun H locs hW => ?_)
    refine lv_iload hx hb dX6_comes_99 (lv_at hl 0 rfl) ?_
    obtain ⟨q26, hf⟩ := chk_e hf
    exact r_iret X hW rfl (b01_e q26).1 hf dX6_comes_101
noncomputable def f_X6_comes_187 (v2 : Int32) (v3 : Int32) (s0 : Int32) (σ : St) : Option (Int32 × St) := (if s0 = 0 then chk (b01 s0) <| some (s0, σ) else bnd (f_X6_same σ v2 v3) fun r31 => chk (b01 s0) <| some (s0, r31))
set_option maxHeartbeats 4000000 in
set_option maxRecDepth 100000 in
theorem b_X6_comes_187 (X : Cx RX6 wsX6_comes cX6_comes 5 (some .boolean) D cA ad SM p s m args meth c) : ∀ (v2 : Int32) (v3 : Int32) (s0 : Int32) (σ : St) (H : Heap) (locs : List Loc) (ls : Array Slot), f_X6_comes_187 v2 v3 s0 σ = some r → Rn D cA ad SM s.heap σ H locs → lv_has ls 5 [(0, .ref (ad 0)), (2, .int v2), (3, .int v3)] → W p l e rm_X6_comes s m args below meth c H locs 0 0 (MQ below (Qi D cA ad SM r) args s 0 0 (Aw ad SM)) (F0 m 187 ls [.int s0]) := by
  obtain ⟨hx, hb, hml, hown, hts, hr, hlk, hK, hij⟩ := id X
  intro v2 v3 s0 σ H locs ls hf hW hl
  rw [f_X6_comes_187] at hf
  refine lv_istore (lv' := [(4, .int s0), (0, .ref (ad 0)), (2, .int v2), (3, .int v3)]) hx hb dX6_comes_187 hl (by decide) rfl (fun ls hl => ?_)
  refine lv_iload hx hb dX6_comes_189 (lv_at hl 0 rfl) ?_
  refine lv_if_eq (tgt := 200) hx hb dX6_comes_191 (by decide) (fun c29 => ?_) (fun c29 => ?_)
  · have hf := it_e hf c29
    refine lv_iload hx hb dX6_comes_200 (lv_at hl 0 rfl) ?_
    obtain ⟨q30, hf⟩ := chk_e hf
    exact r_iret X hW rfl (b01_e q30).1 hf dX6_comes_202
  · have hf := ie_e hf c29
    refine lv_aload_n hx hb dX6_comes_194 rfl (lv_at hl 1 rfl) ?_
    refine lv_iload_n hx hb dX6_comes_195 rfl (lv_at hl 2 rfl) ?_
    refine lv_iload_n hx hb dX6_comes_196 rfl (lv_at hl 3 rfl) ?_
    obtain ⟨r31, z31, hf⟩ := bnd_e hf
    refine r_cVv X hW kM_0 iM_0 rfl (c_X6_same l D cA ad hij σ v2 v3 r31 z31) gX6_comes_X6_same rfl ⟨rfl, rfl⟩ hd_X6_same ⟨Nat.le_of_ble_eq_true rfl, Nat.le_of_ble_eq_true rfl⟩ rfl (Nat.le_of_ble_eq_true rfl) hl.1 dX6_comes_197 (fun H locs hW => ?_)
    refine lv_iload hx hb dX6_comes_200 (lv_at hl 0 rfl) ?_
    obtain ⟨q32, hf⟩ := chk_e hf
    exact r_iret X hW rfl (b01_e q32).1 hf dX6_comes_202
noncomputable def f_X6_comes_186 (v2 : Int32) (v3 : Int32) (σ : St) : Option (Int32 × St) := f_X6_comes_187 v2 v3 0 σ
set_option maxHeartbeats 4000000 in
set_option maxRecDepth 100000 in
theorem b_X6_comes_186 (X : Cx RX6 wsX6_comes cX6_comes 5 (some .boolean) D cA ad SM p s m args meth c) : ∀ (v2 : Int32) (v3 : Int32) (σ : St) (H : Heap) (locs : List Loc) (ls : Array Slot), f_X6_comes_186 v2 v3 σ = some r → Rn D cA ad SM s.heap σ H locs → lv_has ls 5 [(0, .ref (ad 0)), (2, .int v2), (3, .int v3)] → W p l e rm_X6_comes s m args below meth c H locs 0 0 (MQ below (Qi D cA ad SM r) args s 0 0 (Aw ad SM)) (F0 m 186 ls []) := by
  obtain ⟨hx, hb, hml, hown, hts, hr, hlk, hK, hij⟩ := id X
  intro v2 v3 σ H locs ls hf hW hl
  rw [f_X6_comes_186] at hf
  refine lv_iconst (v := 0) hx hb dX6_comes_186 (by decide) ?_
  exact b_X6_comes_187 X v2 v3 0 σ _ _ _ hf hW (lv_sub hl [0, 1, 2] rfl)
end S_X6_comes
noncomputable def f_X6_comes (σ : St) (a1 : Int32) : Option (Int32 × St) := chk (inb (3 * a1) 153) <| nw (σ.1 15 (3 * a1).toNatClampNeg : Int32) fun v102 => chk (inb ((3 * a1) + 1) 153) <| nw (σ.1 15 ((3 * a1) + 1).toNatClampNeg : Int32) fun v104 => chk (inb a1 51) <| nw (σ.1 14 a1.toNatClampNeg : Int32) fun v106 => (if v106 = 100 then bnd (f_X6_isPot σ v102) fun r8 => (if r8 = 0 then some (0, σ) else (if 8 ≤ v104 then some (0, σ) else chk (inb ((3 * a1) + 2) 153) <| bnd (f_X6_cooks σ v102 v104 (σ.1 15 ((3 * a1) + 2).toNatClampNeg)) fun r12 => (if r12.1 = 0 then some (0, r12.2) else some (1, r12.2)))) else (if v106 = 110 then bnd (f_X6_isPot σ v102) fun r15 => (if r15 = 0 then chk (b01 r15) <| some (r15, σ) else bnd (f_X6_empty σ v102) fun r18 => chk (b01 r15) <| some (r15, r18)) else (if v106 = 112 then (if 6 ≤ (σ.1 0 0) then f_X6_comes_74 0 σ else f_X6_comes_74 1 σ) else bnd (f_X6_isPot σ v102) fun r27 => (if r27 = 0 then f_X6_comes_186 v102 v104 σ else bnd (f_X6_isPot σ v104) fun r33 => (if r33 = 0 then f_X6_comes_186 v102 v104 σ else (if v102 = v104 then f_X6_comes_186 v102 v104 σ else f_X6_comes_187 v102 v104 1 σ))))))
set_option maxHeartbeats 4000000 in
set_option maxRecDepth 100000 in
theorem c_X6_comes (l : Launch) (D : va_G) (cA : Nat → ClassId) (ad : Nat → Nat) (hij : Ij ad SM) (σ : St) (a1 : Int32) (r : Int32 × St) (hf : f_X6_comes σ a1 = some r) : Met l yX6_comes wsX6_comes rm_X6_comes (PC D cA ad SM [.ref (ad 0), .int a1] σ) (Qi D cA ad SM r) 0 0 (Aw ad SM) := by
  rw [f_X6_comes] at hf
  refine k_head (own := RX6) (ws := wsX6_comes) (cc := cX6_comes) (nL := 5) (ret := (some .boolean)) pn_X6 rfl rfl hij (Nat.le_of_ble_eq_true rfl) (fun p e s m below meth c ls X hW hl => ?_)
  have hl : lv_has ls 5 [(0, .ref (ad 0)), (1, .int a1)] := hl
  obtain ⟨hx, hb, hml, hown, hts, hr, hlk, hK, hij⟩ := id X
  refine lv_aload_n hx hb dX6_comes_0 rfl (lv_at hl 0 rfl) ?_
  refine get_6_24 X hW kM_0 iM_0 inX6_comes_6 (List.mem_of_getElem? (i := 1) rfl) dX6_comes_1 ?_
  refine lv_iconst (v := 3) hx hb dX6_comes_4 (by decide) ?_
  refine lv_iload_n hx hb dX6_comes_5 rfl (lv_at hl 1 rfl) ?_
  refine lv_imul hx hb dX6_comes_6 ?_
  obtain ⟨x1, hf⟩ := chk_e hf
  refine r_iald X hW kM_15 iM_15 nM_15 x1 dX6_comes_7 ?_
  obtain ⟨v102, e2, hf⟩ := nw_e hf
  refine tI _ e2 ?_
  refine lv_istore_n (lv' := [(2, .int v102), (0, .ref (ad 0)), (1, .int a1)]) hx hb dX6_comes_8 rfl hl (by decide) rfl (fun ls hl => ?_)
  refine lv_aload_n hx hb dX6_comes_9 rfl (lv_at hl 1 rfl) ?_
  refine get_6_24 X hW kM_0 iM_0 inX6_comes_6 (List.mem_of_getElem? (i := 1) rfl) dX6_comes_10 ?_
  refine lv_iconst (v := 3) hx hb dX6_comes_13 (by decide) ?_
  refine lv_iload_n hx hb dX6_comes_14 rfl (lv_at hl 2 rfl) ?_
  refine lv_imul hx hb dX6_comes_15 ?_
  refine lv_iconst (v := 1) hx hb dX6_comes_16 (by decide) ?_
  refine lv_iadd hx hb dX6_comes_17 ?_
  obtain ⟨x3, hf⟩ := chk_e hf
  refine r_iald X hW kM_15 iM_15 nM_15 x3 dX6_comes_18 ?_
  obtain ⟨v104, e4, hf⟩ := nw_e hf
  refine tI _ e4 ?_
  refine lv_istore_n (lv' := [(3, .int v104), (2, .int v102), (0, .ref (ad 0)), (1, .int a1)]) hx hb dX6_comes_19 rfl hl (by decide) rfl (fun ls hl => ?_)
  refine lv_aload_n hx hb dX6_comes_20 rfl (lv_at hl 2 rfl) ?_
  refine get_6_23 X hW kM_0 iM_0 inX6_comes_6 (List.mem_of_getElem? (i := 2) rfl) dX6_comes_21 ?_
  refine lv_iload_n hx hb dX6_comes_24 rfl (lv_at hl 3 rfl) ?_
  obtain ⟨x5, hf⟩ := chk_e hf
  refine r_iald X hW kM_14 iM_14 nM_14 x5 dX6_comes_25 ?_
  obtain ⟨v106, e6, hf⟩ := nw_e hf
  refine tI _ e6 ?_
  by_cases c7 : v106 = 100
  · have hf := it_e hf c7
    refine lv_lookup (tgt := 102) hx hb dX6_comes_26 (by decide) (by rw [c7] <;> rfl) (by decide) ?_
    refine lv_aload_n hx hb dX6_comes_102 rfl (lv_at hl 2 rfl) ?_
    refine lv_iload_n hx hb dX6_comes_103 rfl (lv_at hl 1 rfl) ?_
    obtain ⟨r8, z8, hf⟩ := bnd_e hf
    refine r_cViR X hW kM_0 iM_0 rfl (c_X6_isPot l D cA ad hij σ v102 r8 z8) gX6_comes_X6_isPot rfl ⟨rfl, rfl⟩ hd_X6_isPot ⟨Nat.le_of_ble_eq_true rfl, Nat.le_of_ble_eq_true rfl⟩ rfl (Nat.le_of_ble_eq_true rfl) hl.1 dX6_comes_104 (fun H locs hW => ?_)
    refine lv_if_eq (tgt := 139) hx hb dX6_comes_107 (by decide) (fun c9 => ?_) (fun c9 => ?_)
    · have hf := it_e hf c9
      refine lv_iconst (v := 0) hx hb dX6_comes_139 (by decide) ?_
      exact r_iret X hW rfl rfl hf dX6_comes_140
    · have hf := ie_e hf c9
      refine lv_iload_n hx hb dX6_comes_110 rfl (lv_at hl 0 rfl) ?_
      refine lv_bipush (v := 8) hx hb dX6_comes_111 (by decide) ?_
      refine lv_icmp_ge (tgt := 139) hx hb dX6_comes_113 (by decide) (fun c10 => ?_) (fun c10 => ?_)
      · have hf := it_e hf c10
        refine lv_iconst (v := 0) hx hb dX6_comes_139 (by decide) ?_
        exact r_iret X hW rfl rfl hf dX6_comes_140
      · have hf := ie_e hf c10
        refine lv_aload_n hx hb dX6_comes_116 rfl (lv_at hl 2 rfl) ?_
        refine lv_iload_n hx hb dX6_comes_117 rfl (lv_at hl 1 rfl) ?_
        refine lv_iload_n hx hb dX6_comes_118 rfl (lv_at hl 0 rfl) ?_
        refine lv_aload_n hx hb dX6_comes_119 rfl (lv_at hl 2 rfl) ?_
        refine get_6_24 X hW kM_0 iM_0 inX6_comes_6 (List.mem_of_getElem? (i := 1) rfl) dX6_comes_120 ?_
        refine lv_iconst (v := 3) hx hb dX6_comes_123 (by decide) ?_
        refine lv_iload_n hx hb dX6_comes_124 rfl (lv_at hl 3 rfl) ?_
        refine lv_imul hx hb dX6_comes_125 ?_
        refine lv_iconst (v := 2) hx hb dX6_comes_126 (by decide) ?_
        refine lv_iadd hx hb dX6_comes_127 ?_
        obtain ⟨x11, hf⟩ := chk_e hf
        refine r_iald X hW kM_15 iM_15 nM_15 x11 dX6_comes_128 ?_
        obtain ⟨r12, z12, hf⟩ := bnd_e hf
        refine r_cVi X hW kM_0 iM_0 rfl (c_X6_cooks l D cA ad hij σ v102 v104 (σ.1 15 ((3 * a1) + 2).toNatClampNeg) r12 z12) gX6_comes_X6_cooks rfl ⟨rfl, rfl⟩ hd_X6_cooks ⟨Nat.le_of_ble_eq_true rfl, Nat.le_of_ble_eq_true rfl⟩ rfl (Nat.le_of_ble_eq_true rfl) hl.1 dX6_comes_129 (fun H locs hW => ?_)
        refine lv_if_eq (tgt := 139) hx hb dX6_comes_132 (by decide) (fun c13 => ?_) (fun c13 => ?_)
        · have hf := it_e hf c13
          refine lv_iconst (v := 0) hx hb dX6_comes_139 (by decide) ?_
          exact r_iret X hW rfl rfl hf dX6_comes_140
        · have hf := ie_e hf c13
          refine lv_iconst (v := 1) hx hb dX6_comes_135 (by decide) ?_
          refine lv_goto (tgt := 140) hx hb dX6_comes_136 (by decide) ?_
          exact r_iret X hW rfl rfl hf dX6_comes_140
  · have hf := ie_e hf c7
    by_cases c14 : v106 = 110
    · have hf := it_e hf c14
      refine lv_lookup (tgt := 141) hx hb dX6_comes_26 (by decide) (by rw [c14] <;> rfl) (by decide) ?_
      refine lv_aload_n hx hb dX6_comes_141 rfl (lv_at hl 2 rfl) ?_
      refine lv_iload_n hx hb dX6_comes_142 rfl (lv_at hl 1 rfl) ?_
      obtain ⟨r15, z15, hf⟩ := bnd_e hf
      refine r_cViR X hW kM_0 iM_0 rfl (c_X6_isPot l D cA ad hij σ v102 r15 z15) gX6_comes_X6_isPot rfl ⟨rfl, rfl⟩ hd_X6_isPot ⟨Nat.le_of_ble_eq_true rfl, Nat.le_of_ble_eq_true rfl⟩ rfl (Nat.le_of_ble_eq_true rfl) hl.1 dX6_comes_143 (fun H locs hW => ?_)
      refine lv_istore (lv' := [(4, .int r15), (3, .int v104), (2, .int v102), (0, .ref (ad 0)), (1, .int a1)]) hx hb dX6_comes_146 hl (by decide) rfl (fun ls hl => ?_)
      refine lv_iload hx hb dX6_comes_148 (lv_at hl 0 rfl) ?_
      refine lv_if_eq (tgt := 158) hx hb dX6_comes_150 (by decide) (fun c16 => ?_) (fun c16 => ?_)
      · have hf := it_e hf c16
        refine lv_iload hx hb dX6_comes_158 (lv_at hl 0 rfl) ?_
        obtain ⟨q17, hf⟩ := chk_e hf
        exact r_iret X hW rfl (b01_e q17).1 hf dX6_comes_160
      · have hf := ie_e hf c16
        refine lv_aload_n hx hb dX6_comes_153 rfl (lv_at hl 3 rfl) ?_
        refine lv_iload_n hx hb dX6_comes_154 rfl (lv_at hl 2 rfl) ?_
        obtain ⟨r18, z18, hf⟩ := bnd_e hf
        refine r_cVv X hW kM_0 iM_0 rfl (c_X6_empty l D cA ad hij σ v102 r18 z18) gX6_comes_X6_empty rfl ⟨rfl, rfl⟩ hd_X6_empty ⟨Nat.le_of_ble_eq_true rfl, Nat.le_of_ble_eq_true rfl⟩ rfl (Nat.le_of_ble_eq_true rfl) hl.1 dX6_comes_155 (fun H locs hW => ?_)
        refine lv_iload hx hb dX6_comes_158 (lv_at hl 0 rfl) ?_
        obtain ⟨q19, hf⟩ := chk_e hf
        exact r_iret X hW rfl (b01_e q19).1 hf dX6_comes_160
    · have hf := ie_e hf c14
      by_cases c20 : v106 = 112
      · have hf := it_e hf c20
        refine lv_lookup (tgt := 60) hx hb dX6_comes_26 (by decide) (by rw [c20] <;> rfl) (by decide) ?_
        refine lv_aload_n hx hb dX6_comes_60 rfl (lv_at hl 2 rfl) ?_
        refine get_6_0 X hW kM_0 iM_0 inX6_comes_6 (List.mem_of_getElem? (i := 3) rfl) dX6_comes_61 ?_
        refine lv_bipush (v := 6) hx hb dX6_comes_64 (by decide) ?_
        refine lv_icmp_ge (tgt := 73) hx hb dX6_comes_66 (by decide) (fun c21 => ?_) (fun c21 => ?_)
        · have hf := it_e hf c21
          refine lv_iconst (v := 0) hx hb dX6_comes_73 (by decide) ?_
          exact b_X6_comes_74 X 0 σ _ _ _ hf hW (lv_sub hl [2] rfl)
        · have hf := ie_e hf c21
          refine lv_iconst (v := 1) hx hb dX6_comes_69 (by decide) ?_
          refine lv_goto (tgt := 74) hx hb dX6_comes_70 (by decide) ?_
          exact b_X6_comes_74 X 1 σ _ _ _ hf hW (lv_sub hl [2] rfl)
      · have hf := ie_e hf c20
        refine lv_lookup (tgt := 161) hx hb dX6_comes_26 (by decide) ((lv_osw c7 (by decide)).trans ((lv_osw c14 (by decide)).trans ((lv_osw c20 (by decide)).trans rfl))) rfl ?_
        refine lv_aload_n hx hb dX6_comes_161 rfl (lv_at hl 2 rfl) ?_
        refine lv_iload_n hx hb dX6_comes_162 rfl (lv_at hl 1 rfl) ?_
        obtain ⟨r27, z27, hf⟩ := bnd_e hf
        refine r_cViR X hW kM_0 iM_0 rfl (c_X6_isPot l D cA ad hij σ v102 r27 z27) gX6_comes_X6_isPot rfl ⟨rfl, rfl⟩ hd_X6_isPot ⟨Nat.le_of_ble_eq_true rfl, Nat.le_of_ble_eq_true rfl⟩ rfl (Nat.le_of_ble_eq_true rfl) hl.1 dX6_comes_163 (fun H locs hW => ?_)
        refine lv_if_eq (tgt := 186) hx hb dX6_comes_166 (by decide) (fun c28 => ?_) (fun c28 => ?_)
        · have hf := it_e hf c28
          exact b_X6_comes_186 X v102 v104 σ _ _ _ hf hW (lv_sub hl [2, 1, 0] rfl)
        · have hf := ie_e hf c28
          refine lv_aload_n hx hb dX6_comes_169 rfl (lv_at hl 2 rfl) ?_
          refine lv_iload_n hx hb dX6_comes_170 rfl (lv_at hl 0 rfl) ?_
          obtain ⟨r33, z33, hf⟩ := bnd_e hf
          refine r_cViR X hW kM_0 iM_0 rfl (c_X6_isPot l D cA ad hij σ v104 r33 z33) gX6_comes_X6_isPot rfl ⟨rfl, rfl⟩ hd_X6_isPot ⟨Nat.le_of_ble_eq_true rfl, Nat.le_of_ble_eq_true rfl⟩ rfl (Nat.le_of_ble_eq_true rfl) hl.1 dX6_comes_171 (fun H locs hW => ?_)
          refine lv_if_eq (tgt := 186) hx hb dX6_comes_174 (by decide) (fun c34 => ?_) (fun c34 => ?_)
          · have hf := it_e hf c34
            exact b_X6_comes_186 X v102 v104 σ _ _ _ hf hW (lv_sub hl [2, 1, 0] rfl)
          · have hf := ie_e hf c34
            refine lv_iload_n hx hb dX6_comes_177 rfl (lv_at hl 1 rfl) ?_
            refine lv_iload_n hx hb dX6_comes_178 rfl (lv_at hl 0 rfl) ?_
            refine lv_icmp_eq (tgt := 186) hx hb dX6_comes_179 (by decide) (fun c35 => ?_) (fun c35 => ?_)
            · have hf := it_e hf c35
              exact b_X6_comes_186 X v102 v104 σ _ _ _ hf hW (lv_sub hl [2, 1, 0] rfl)
            · have hf := ie_e hf c35
              refine lv_iconst (v := 1) hx hb dX6_comes_182 (by decide) ?_
              refine lv_goto (tgt := 187) hx hb dX6_comes_183 (by decide) ?_
              exact b_X6_comes_187 X v102 v104 1 σ _ _ _ hf hW (lv_sub hl [2, 1, 0] rfl)

abbrev rm_X6_wrongRow : Room := { frames := 1, cells := 0, slots := 0, locals := 25 }
theorem hd_X6_wrongRow : yX6_wrongRow.cls = RX6 ∧ yX6_wrongRow.cls ≠ "java/lang/invoke/MethodHandle" ∧ yX6_wrongRow.cls ≠ "java/lang/invoke/VarHandle" ∧ (parseMethodDescriptor yX6_wrongRow.desc).map (fun d => d.parameters.length) = some 1 := by decide +kernel
theorem inX6_wrongRow_6 : ∀ w ∈ wsX60, w ∈ wsX6_wrongRow := fun _ h => List.mem_cons_of_mem _ (List.mem_append_right _ h)
section S_X6_wrongRow
variable {p : Program} {l : Launch} {e : Env} {s : State} {m : MethodId} {args : Array Value} {below : List Frame} {meth : Method} {c : Code} {D : va_G} {cA : Nat → ClassId} {ad : Nat → Nat} {r : Int32}
end S_X6_wrongRow
noncomputable def f_X6_wrongRow (σ : St) (a1 : Int32) : Option (Int32) := bnd (f_X6_in a1.toInt64 0 7) fun r1 => (if r1 = 0 then some ((-1)) else chk (inb a1 8) <| (if (σ.1 16 a1.toNatClampNeg) = 0 then some ((-11)) else (if (σ.1 16 a1.toNatClampNeg) = 2 then some 0 else some ((-12)))))
set_option maxHeartbeats 4000000 in
set_option maxRecDepth 100000 in
theorem c_X6_wrongRow (l : Launch) (D : va_G) (cA : Nat → ClassId) (ad : Nat → Nat) (hij : Ij ad SM) (σ : St) (a1 : Int32) (r : Int32) (hf : f_X6_wrongRow σ a1 = some r) : Met l yX6_wrongRow wsX6_wrongRow rm_X6_wrongRow (PC D cA ad SM [.ref (ad 0), .int a1] σ) (Qi D cA ad SM (r, σ)) 0 0 (Aw ad SM) := by
  rw [f_X6_wrongRow] at hf
  refine k_head (own := RX6) (ws := wsX6_wrongRow) (cc := cX6_wrongRow) (nL := 2) (ret := (some .int)) pn_X6 rfl rfl hij (Nat.le_of_ble_eq_true rfl) (fun p e s m below meth c ls X hW hl => ?_)
  have hl : lv_has ls 2 [(0, .ref (ad 0)), (1, .int a1)] := hl
  obtain ⟨hx, hb, hml, hown, hts, hr, hlk, hK, hij⟩ := id X
  refine lv_iload_n hx hb dX6_wrongRow_0 rfl (lv_at hl 1 rfl) ?_
  refine lv_i2l hx hb dX6_wrongRow_1 rfl ?_
  refine lv_lconst (v := 0) hx hb dX6_wrongRow_2 (by decide) ?_
  refine lv_ldc2 (v := 7) hx hb hown (hts _ (List.mem_of_getElem? (i := 1) rfl)) dX6_wrongRow_3 ?_
  obtain ⟨r1, z1, hf⟩ := bnd_e hf
  refine r_cSiR X hW (c_X6_in l D cA ad hij σ a1.toInt64 0 7 r1 z1) gX6_wrongRow_X6_in rfl ⟨rfl, rfl⟩ hd_X6_in ⟨Nat.le_of_ble_eq_true rfl, Nat.le_of_ble_eq_true rfl⟩ rfl (Nat.le_of_ble_eq_true rfl) hl.1 dX6_wrongRow_6 (fun H locs hW => ?_)
  refine lv_if_ne (tgt := 16) hx hb dX6_wrongRow_9 (by decide) (fun c2 => ?_) (fun c2 => ?_)
  · have hf := ie_e hf c2
    refine lv_aload_n hx hb dX6_wrongRow_16 rfl (lv_at hl 0 rfl) ?_
    refine get_6_26 X hW kM_0 iM_0 inX6_wrongRow_6 (List.mem_of_getElem? (i := 2) rfl) dX6_wrongRow_17 ?_
    refine lv_iload_n hx hb dX6_wrongRow_20 rfl (lv_at hl 1 rfl) ?_
    obtain ⟨x3, hf⟩ := chk_e hf
    refine r_iald X hW kM_16 iM_16 nM_16 x3 dX6_wrongRow_21 ?_
    refine lv_if_ne (tgt := 30) hx hb dX6_wrongRow_22 (by decide) (fun c4 => ?_) (fun c4 => ?_)
    · have hf := ie_e hf c4
      refine lv_aload_n hx hb dX6_wrongRow_30 rfl (lv_at hl 0 rfl) ?_
      refine get_6_26 X hW kM_0 iM_0 inX6_wrongRow_6 (List.mem_of_getElem? (i := 2) rfl) dX6_wrongRow_31 ?_
      refine lv_iload_n hx hb dX6_wrongRow_34 rfl (lv_at hl 1 rfl) ?_
      refine r_iald X hW kM_16 iM_16 nM_16 x3 dX6_wrongRow_35 ?_
      refine lv_iconst (v := 2) hx hb dX6_wrongRow_36 (by decide) ?_
      refine lv_icmp_eq (tgt := 45) hx hb dX6_wrongRow_37 (by decide) (fun c5 => ?_) (fun c5 => ?_)
      · have hf := it_e hf c5
        refine lv_iconst (v := 0) hx hb dX6_wrongRow_45 (by decide) ?_
        exact r_iretR X hW rfl rfl hf dX6_wrongRow_46
      · have hf := ie_e hf c5
        refine lv_bipush (v := (-12)) hx hb dX6_wrongRow_40 (by decide) ?_
        refine lv_goto (tgt := 46) hx hb dX6_wrongRow_42 (by decide) ?_
        exact r_iretR X hW rfl rfl hf dX6_wrongRow_46
    · have hf := it_e hf c4
      refine lv_bipush (v := (-11)) hx hb dX6_wrongRow_25 (by decide) ?_
      refine lv_goto (tgt := 46) hx hb dX6_wrongRow_27 (by decide) ?_
      exact r_iretR X hW rfl rfl hf dX6_wrongRow_46
  · have hf := it_e hf c2
    refine lv_iconst (v := (-1)) hx hb dX6_wrongRow_12 (by decide) ?_
    refine lv_goto (tgt := 46) hx hb dX6_wrongRow_13 (by decide) ?_
    exact r_iretR X hW rfl rfl hf dX6_wrongRow_46

abbrev rm_X6_wrongSort : Room := { frames := 2, cells := 0, slots := 0, locals := 46 }
theorem hd_X6_wrongSort : yX6_wrongSort.cls = RX6 ∧ yX6_wrongSort.cls ≠ "java/lang/invoke/MethodHandle" ∧ yX6_wrongSort.cls ≠ "java/lang/invoke/VarHandle" ∧ (parseMethodDescriptor yX6_wrongSort.desc).map (fun d => d.parameters.length) = some 2 := by decide +kernel
theorem inX6_wrongSort_6 : ∀ w ∈ wsX60, w ∈ wsX6_wrongSort := fun _ h => List.mem_cons_of_mem _ (List.mem_append_right _ h)
section S_X6_wrongSort
variable {p : Program} {l : Launch} {e : Env} {s : State} {m : MethodId} {args : Array Value} {below : List Frame} {meth : Method} {c : Code} {D : va_G} {cA : Nat → ClassId} {ad : Nat → Nat} {r : Int32}
end S_X6_wrongSort
noncomputable def f_X6_wrongSort (σ : St) (a1 : Int32) (a2 : Int32) : Option (Int32) := bnd (f_X6_wrongRow σ a1) fun r1 => (if 0 ≤ r1 then chk (inb a1 8) <| (if (σ.1 19 a1.toNatClampNeg) = a2 then some 0 else some ((-12))) else bnd (f_X6_wrongRow σ a1) fun r5 => some r5)
set_option maxHeartbeats 4000000 in
set_option maxRecDepth 100000 in
theorem c_X6_wrongSort (l : Launch) (D : va_G) (cA : Nat → ClassId) (ad : Nat → Nat) (hij : Ij ad SM) (σ : St) (a1 : Int32) (a2 : Int32) (r : Int32) (hf : f_X6_wrongSort σ a1 a2 = some r) : Met l yX6_wrongSort wsX6_wrongSort rm_X6_wrongSort (PC D cA ad SM [.ref (ad 0), .int a1, .int a2] σ) (Qi D cA ad SM (r, σ)) 0 0 (Aw ad SM) := by
  rw [f_X6_wrongSort] at hf
  refine k_head (own := RX6) (ws := wsX6_wrongSort) (cc := cX6_wrongSort) (nL := 3) (ret := (some .int)) pn_X6 rfl rfl hij (Nat.le_of_ble_eq_true rfl) (fun p e s m below meth c ls X hW hl => ?_)
  have hl : lv_has ls 3 [(0, .ref (ad 0)), (1, .int a1), (2, .int a2)] := hl
  obtain ⟨hx, hb, hml, hown, hts, hr, hlk, hK, hij⟩ := id X
  refine lv_aload_n hx hb dX6_wrongSort_0 rfl (lv_at hl 0 rfl) ?_
  refine lv_iload_n hx hb dX6_wrongSort_1 rfl (lv_at hl 1 rfl) ?_
  obtain ⟨r1, z1, hf⟩ := bnd_e hf
  refine r_cViR X hW kM_0 iM_0 rfl (c_X6_wrongRow l D cA ad hij σ a1 r1 z1) gX6_wrongSort_X6_wrongRow rfl ⟨rfl, rfl⟩ hd_X6_wrongRow ⟨Nat.le_of_ble_eq_true rfl, Nat.le_of_ble_eq_true rfl⟩ rfl (Nat.le_of_ble_eq_true rfl) hl.1 dX6_wrongSort_2 (fun H locs hW => ?_)
  refine lv_if_ge (tgt := 16) hx hb dX6_wrongSort_5 (by decide) (fun c2 => ?_) (fun c2 => ?_)
  · have hf := it_e hf c2
    refine lv_aload_n hx hb dX6_wrongSort_16 rfl (lv_at hl 0 rfl) ?_
    refine get_6_29 X hW kM_0 iM_0 inX6_wrongSort_6 (List.mem_of_getElem? (i := 1) rfl) dX6_wrongSort_17 ?_
    refine lv_iload_n hx hb dX6_wrongSort_20 rfl (lv_at hl 1 rfl) ?_
    obtain ⟨x3, hf⟩ := chk_e hf
    refine r_iald X hW kM_19 iM_19 nM_19 x3 dX6_wrongSort_21 ?_
    refine lv_iload_n hx hb dX6_wrongSort_22 rfl (lv_at hl 2 rfl) ?_
    refine lv_icmp_eq (tgt := 31) hx hb dX6_wrongSort_23 (by decide) (fun c4 => ?_) (fun c4 => ?_)
    · have hf := it_e hf c4
      refine lv_iconst (v := 0) hx hb dX6_wrongSort_31 (by decide) ?_
      exact r_iretR X hW rfl rfl hf dX6_wrongSort_32
    · have hf := ie_e hf c4
      refine lv_bipush (v := (-12)) hx hb dX6_wrongSort_26 (by decide) ?_
      refine lv_goto (tgt := 32) hx hb dX6_wrongSort_28 (by decide) ?_
      exact r_iretR X hW rfl rfl hf dX6_wrongSort_32
  · have hf := ie_e hf c2
    refine lv_aload_n hx hb dX6_wrongSort_8 rfl (lv_at hl 0 rfl) ?_
    refine lv_iload_n hx hb dX6_wrongSort_9 rfl (lv_at hl 1 rfl) ?_
    obtain ⟨r5, z5, hf⟩ := bnd_e hf
    refine r_cViR X hW kM_0 iM_0 rfl (c_X6_wrongRow l D cA ad hij σ a1 r5 z5) gX6_wrongSort_X6_wrongRow rfl ⟨rfl, rfl⟩ hd_X6_wrongRow ⟨Nat.le_of_ble_eq_true rfl, Nat.le_of_ble_eq_true rfl⟩ rfl (Nat.le_of_ble_eq_true rfl) hl.1 dX6_wrongSort_10 (fun H locs hW => ?_)
    refine lv_goto (tgt := 32) hx hb dX6_wrongSort_13 (by decide) ?_
    exact r_iretR X hW rfl rfl hf dX6_wrongSort_32

abbrev rm_X6_kitchen : Room := { frames := 4, cells := 0, slots := 0, locals := 98 }
theorem hd_X6_kitchen : yX6_kitchen.cls = RX6 ∧ yX6_kitchen.cls ≠ "java/lang/invoke/MethodHandle" ∧ yX6_kitchen.cls ≠ "java/lang/invoke/VarHandle" ∧ (parseMethodDescriptor yX6_kitchen.desc).map (fun d => d.parameters.length) = some 1 := by decide +kernel
theorem inX6_kitchen_6 : ∀ w ∈ wsX60, w ∈ wsX6_kitchen := fun _ h => List.mem_cons_of_mem _ (List.mem_append_right _ h)
section S_X6_kitchen
variable {p : Program} {l : Launch} {e : Env} {s : State} {m : MethodId} {args : Array Value} {below : List Frame} {meth : Method} {c : Code} {D : va_G} {cA : Nat → ClassId} {ad : Nat → Nat} {r : Int32 × St}
noncomputable def f_X6_kitchen_76 (k51 : St → Option (Int32 × St)) (σ : St) : Option (Int32 × St) := bnd (f_X6_readStatement σ) fun r12 => k51 r12
set_option maxHeartbeats 4000000 in
set_option maxRecDepth 100000 in
theorem b_X6_kitchen_76 {k51 : St → Option (Int32 × St)} (X : Cx RX6 wsX6_kitchen cX6_kitchen 4 (some .int) D cA ad SM p s m args meth c) (h51 : ∀  (σ : St) (H : Heap) (locs : List Loc) (ls : Array Slot), k51 σ = some r → Rn D cA ad SM s.heap σ H locs → lv_has ls 4 [(0, .ref (ad 0))] → W p l e rm_X6_kitchen s m args below meth c H locs 0 0 (MQ below (Qi D cA ad SM r) args s 0 0 (Aw ad SM)) (F0 m 51 ls [])) : ∀  (σ : St) (H : Heap) (locs : List Loc) (ls : Array Slot), f_X6_kitchen_76 k51 σ = some r → Rn D cA ad SM s.heap σ H locs → lv_has ls 4 [(0, .ref (ad 0))] → W p l e rm_X6_kitchen s m args below meth c H locs 0 0 (MQ below (Qi D cA ad SM r) args s 0 0 (Aw ad SM)) (F0 m 76 ls []) := by
  obtain ⟨hx, hb, hml, hown, hts, hr, hlk, hK, hij⟩ := id X
  intro σ H locs ls hf hW hl
  rw [f_X6_kitchen_76] at hf
  refine lv_aload_n hx hb dX6_kitchen_76 rfl (lv_at hl 0 rfl) ?_
  obtain ⟨r12, z12, hf⟩ := bnd_e hf
  refine r_cVv X hW kM_0 iM_0 rfl (c_X6_readStatement l D cA ad hij σ  r12 z12) gX6_kitchen_X6_readStatement rfl ⟨rfl, rfl⟩ hd_X6_readStatement ⟨Nat.le_of_ble_eq_true rfl, Nat.le_of_ble_eq_true rfl⟩ rfl (Nat.le_of_ble_eq_true rfl) hl.1 dX6_kitchen_77 (fun H locs hW => ?_)
  refine lv_goto (tgt := 51) hx hb dX6_kitchen_80 (by decide) ?_
  exact h51 r12 _ _ _ hf hW (lv_sub hl [0] rfl)
noncomputable def f_X6_kitchen_51 (k83 : St → Option (Int32 × St)) : Nat → St → Option (Int32 × St)
  | 0, _ => none
  | n + 1, σ => (if (σ.1 0 20) = 0 then (if (σ.1 0 21) = 0 then f_X6_kitchen_76 (fun  (σ13 : St) => f_X6_kitchen_51 k83 n σ13) σ else (if (σ.1 0 18) ≤ (σ.1 0 19) then k83 σ else f_X6_kitchen_76 (fun  (σ15 : St) => f_X6_kitchen_51 k83 n σ15) σ)) else k83 σ)
set_option maxHeartbeats 4000000 in
set_option maxRecDepth 100000 in
theorem b_X6_kitchen_51 {k83 : St → Option (Int32 × St)} (X : Cx RX6 wsX6_kitchen cX6_kitchen 4 (some .int) D cA ad SM p s m args meth c) (h83 : ∀  (σ : St) (H : Heap) (locs : List Loc) (ls : Array Slot), k83 σ = some r → Rn D cA ad SM s.heap σ H locs → lv_has ls 4 [(0, .ref (ad 0))] → W p l e rm_X6_kitchen s m args below meth c H locs 0 0 (MQ below (Qi D cA ad SM r) args s 0 0 (Aw ad SM)) (F0 m 83 ls [])) : ∀ (n : Nat)  (σ : St) (H : Heap) (locs : List Loc) (ls : Array Slot), f_X6_kitchen_51 k83 n σ = some r → Rn D cA ad SM s.heap σ H locs → lv_has ls 4 [(0, .ref (ad 0))] → W p l e rm_X6_kitchen s m args below meth c H locs 0 0 (MQ below (Qi D cA ad SM r) args s 0 0 (Aw ad SM)) (F0 m 51 ls []) := by
  obtain ⟨hx, hb, hml, hown, hts, hr, hlk, hK, hij⟩ := id X
  intro n
  induction n with
  | zero =>
    intro σ H locs ls hf
    exact nomatch (show (none : Option (Int32 × St)) = some r from hf)
  | succ n ih =>
    intro σ H locs ls hf hW hl
    rw [f_X6_kitchen_51] at hf
    refine lv_aload_n hx hb dX6_kitchen_51 rfl (lv_at hl 0 rfl) ?_
    refine get_6_20 X hW kM_0 iM_0 inX6_kitchen_6 (List.mem_of_getElem? (i := 6) rfl) dX6_kitchen_52 ?_
    refine lv_if_ne (tgt := 83) hx hb dX6_kitchen_55 (by decide) (fun c10 => ?_) (fun c10 => ?_)
    · have hf := ie_e hf c10
      exact h83 σ _ _ _ hf hW (lv_sub hl [0] rfl)
    · have hf := it_e hf c10
      refine lv_aload_n hx hb dX6_kitchen_58 rfl (lv_at hl 0 rfl) ?_
      refine get_6_21 X hW kM_0 iM_0 inX6_kitchen_6 (List.mem_of_getElem? (i := 7) rfl) dX6_kitchen_59 ?_
      refine lv_if_eq (tgt := 76) hx hb dX6_kitchen_62 (by decide) (fun c11 => ?_) (fun c11 => ?_)
      · have hf := it_e hf c11
        refine b_X6_kitchen_76 X (fun σ13 H locs ls hf hW hl => ?_) σ _ _ _ hf hW (lv_sub hl [0] rfl)
        · exact ih σ13 _ _ _ hf hW (lv_sub hl [0] rfl)
      · have hf := ie_e hf c11
        refine lv_aload_n hx hb dX6_kitchen_65 rfl (lv_at hl 0 rfl) ?_
        refine get_6_19 X hW kM_0 iM_0 inX6_kitchen_6 (List.mem_of_getElem? (i := 5) rfl) dX6_kitchen_66 ?_
        refine lv_aload_n hx hb dX6_kitchen_69 rfl (lv_at hl 0 rfl) ?_
        refine get_6_18 X hW kM_0 iM_0 inX6_kitchen_6 (List.mem_of_getElem? (i := 4) rfl) dX6_kitchen_70 ?_
        refine lv_icmp_ge (tgt := 83) hx hb dX6_kitchen_73 (by decide) (fun c14 => ?_) (fun c14 => ?_)
        · have hf := it_e hf c14
          exact h83 σ _ _ _ hf hW (lv_sub hl [0] rfl)
        · have hf := ie_e hf c14
          refine b_X6_kitchen_76 X (fun σ15 H locs ls hf hW hl => ?_) σ _ _ _ hf hW (lv_sub hl [0] rfl)
          · exact ih σ15 _ _ _ hf hW (lv_sub hl [0] rfl)
noncomputable def f_X6_kitchen_105 (k121 : Int32 → St → Option (Int32 × St)) (k142 : St → Option (Int32 × St)) : Nat → Int32 → St → Option (Int32 × St)
  | 0, _, _ => none
  | n + 1, v3, σ => (if (σ.1 0 21) ≤ v3 then k142 σ else bnd (f_X6_comes σ v3) fun r20 => (if r20.1 = 0 then k121 v3 r20.2 else nw (v3 + 1 : Int32) fun v122 => f_X6_kitchen_105 k121 k142 n v122 r20.2))
set_option maxHeartbeats 4000000 in
set_option maxRecDepth 100000 in
theorem b_X6_kitchen_105 {k121 : Int32 → St → Option (Int32 × St)} {k142 : St → Option (Int32 × St)} (X : Cx RX6 wsX6_kitchen cX6_kitchen 4 (some .int) D cA ad SM p s m args meth c) (h121 : ∀ (w0 : Int32) (σ : St) (H : Heap) (locs : List Loc) (ls : Array Slot), k121 w0 σ = some r → Rn D cA ad SM s.heap σ H locs → lv_has ls 4 [(0, .ref (ad 0)), (3, .int w0)] → W p l e rm_X6_kitchen s m args below meth c H locs 0 0 (MQ below (Qi D cA ad SM r) args s 0 0 (Aw ad SM)) (F0 m 121 ls [])) (h142 : ∀  (σ : St) (H : Heap) (locs : List Loc) (ls : Array Slot), k142 σ = some r → Rn D cA ad SM s.heap σ H locs → lv_has ls 4 [(0, .ref (ad 0))] → W p l e rm_X6_kitchen s m args below meth c H locs 0 0 (MQ below (Qi D cA ad SM r) args s 0 0 (Aw ad SM)) (F0 m 142 ls [])) : ∀ (n : Nat) (v3 : Int32) (σ : St) (H : Heap) (locs : List Loc) (ls : Array Slot), f_X6_kitchen_105 k121 k142 n v3 σ = some r → Rn D cA ad SM s.heap σ H locs → lv_has ls 4 [(0, .ref (ad 0)), (3, .int v3)] → W p l e rm_X6_kitchen s m args below meth c H locs 0 0 (MQ below (Qi D cA ad SM r) args s 0 0 (Aw ad SM)) (F0 m 105 ls []) := by
  obtain ⟨hx, hb, hml, hown, hts, hr, hlk, hK, hij⟩ := id X
  intro n
  induction n with
  | zero =>
    intro v3 σ H locs ls hf
    exact nomatch (show (none : Option (Int32 × St)) = some r from hf)
  | succ n ih =>
    intro v3 σ H locs ls hf hW hl
    rw [f_X6_kitchen_105] at hf
    refine lv_iload_n hx hb dX6_kitchen_105 rfl (lv_at hl 1 rfl) ?_
    refine lv_aload_n hx hb dX6_kitchen_106 rfl (lv_at hl 0 rfl) ?_
    refine get_6_21 X hW kM_0 iM_0 inX6_kitchen_6 (List.mem_of_getElem? (i := 7) rfl) dX6_kitchen_107 ?_
    refine lv_icmp_ge (tgt := 142) hx hb dX6_kitchen_110 (by decide) (fun c19 => ?_) (fun c19 => ?_)
    · have hf := it_e hf c19
      exact h142 σ _ _ _ hf hW (lv_sub hl [0] rfl)
    · have hf := ie_e hf c19
      refine lv_aload_n hx hb dX6_kitchen_113 rfl (lv_at hl 0 rfl) ?_
      refine lv_iload_n hx hb dX6_kitchen_114 rfl (lv_at hl 1 rfl) ?_
      obtain ⟨r20, z20, hf⟩ := bnd_e hf
      refine r_cVi X hW kM_0 iM_0 rfl (c_X6_comes l D cA ad hij σ v3 r20 z20) gX6_kitchen_X6_comes rfl ⟨rfl, rfl⟩ hd_X6_comes ⟨Nat.le_of_ble_eq_true rfl, Nat.le_of_ble_eq_true rfl⟩ rfl (Nat.le_of_ble_eq_true rfl) hl.1 dX6_kitchen_115 (fun H locs hW => ?_)
      refine lv_if_ne (tgt := 136) hx hb dX6_kitchen_118 (by decide) (fun c21 => ?_) (fun c21 => ?_)
      · have hf := ie_e hf c21
        obtain ⟨v122, e22, hf⟩ := nw_e hf
        refine lv_iinc (v := v122) (lv' := [(3, .int v122), (0, .ref (ad 0))]) hx hb dX6_kitchen_136 hl (k := 1) rfl (by rw [e22]; rfl) (by decide) rfl (fun ls hl => ?_)
        refine lv_goto (tgt := 105) hx hb dX6_kitchen_139 (by decide) ?_
        exact ih v122 r20.2 _ _ _ hf hW (lv_sub hl [1, 0] rfl)
      · have hf := it_e hf c21
        exact h121 v3 r20.2 _ _ _ hf hW (lv_sub hl [0, 1] rfl)
noncomputable def f_X6_kitchen_83 (σ : St) : Option (Int32 × St) := (if (σ.1 0 20) = 0 then bnd (f_X6_open σ) fun r18 => f_X6_kitchen_105 (fun (w23_0 : Int32) (σ24 : St) => bnd (f_X6_close σ24) fun r25 => chk (inb w23_0 51) <| some (((-2000)) - (r25.1 13 w23_0.toNatClampNeg), r25)) (fun  (σ27 : St) => some (σ27.1 0 21, σ27)) fu 0 r18 else some (((-1000)) - (σ.1 0 19), σ))
set_option maxHeartbeats 4000000 in
set_option maxRecDepth 100000 in
theorem b_X6_kitchen_83 (X : Cx RX6 wsX6_kitchen cX6_kitchen 4 (some .int) D cA ad SM p s m args meth c) : ∀  (σ : St) (H : Heap) (locs : List Loc) (ls : Array Slot), f_X6_kitchen_83 σ = some r → Rn D cA ad SM s.heap σ H locs → lv_has ls 4 [(0, .ref (ad 0))] → W p l e rm_X6_kitchen s m args below meth c H locs 0 0 (MQ below (Qi D cA ad SM r) args s 0 0 (Aw ad SM)) (F0 m 83 ls []) := by
  obtain ⟨hx, hb, hml, hown, hts, hr, hlk, hK, hij⟩ := id X
  intro σ H locs ls hf hW hl
  rw [f_X6_kitchen_83] at hf
  refine lv_aload_n hx hb dX6_kitchen_83 rfl (lv_at hl 0 rfl) ?_
  refine get_6_20 X hW kM_0 iM_0 inX6_kitchen_6 (List.mem_of_getElem? (i := 6) rfl) dX6_kitchen_84 ?_
  refine lv_if_eq (tgt := 99) hx hb dX6_kitchen_87 (by decide) (fun c17 => ?_) (fun c17 => ?_)
  · have hf := it_e hf c17
    refine lv_aload_n hx hb dX6_kitchen_99 rfl (lv_at hl 0 rfl) ?_
    obtain ⟨r18, z18, hf⟩ := bnd_e hf
    refine r_cVv X hW kM_0 iM_0 rfl (c_X6_open l D cA ad hij σ  r18 z18) gX6_kitchen_X6_open rfl ⟨rfl, rfl⟩ hd_X6_open ⟨Nat.le_of_ble_eq_true rfl, Nat.le_of_ble_eq_true rfl⟩ rfl (Nat.le_of_ble_eq_true rfl) hl.1 dX6_kitchen_100 (fun H locs hW => ?_)
    refine lv_iconst (v := 0) hx hb dX6_kitchen_103 (by decide) ?_
    refine lv_istore_n (lv' := [(3, .int 0), (0, .ref (ad 0))]) hx hb dX6_kitchen_104 rfl hl (by decide) rfl (fun ls hl => ?_)
    refine b_X6_kitchen_105 X (fun w23_0 σ24 H locs ls hf hW hl => ?_) (fun σ27 H locs ls hf hW hl => ?_) fu 0 r18 _ _ _ hf hW (lv_sub hl [1, 0] rfl)
    · refine lv_aload_n hx hb dX6_kitchen_121 rfl (lv_at hl 0 rfl) ?_
      obtain ⟨r25, z25, hf⟩ := bnd_e hf
      refine r_cVv X hW kM_0 iM_0 rfl (c_X6_close l D cA ad hij σ24  r25 z25) gX6_kitchen_X6_close rfl ⟨rfl, rfl⟩ hd_X6_close ⟨Nat.le_of_ble_eq_true rfl, Nat.le_of_ble_eq_true rfl⟩ rfl (Nat.le_of_ble_eq_true rfl) hl.1 dX6_kitchen_122 (fun H locs hW => ?_)
      refine lv_sipush (v := (-2000)) hx hb dX6_kitchen_125 (by decide) ?_
      refine lv_aload_n hx hb dX6_kitchen_128 rfl (lv_at hl 0 rfl) ?_
      refine get_6_22 X hW kM_0 iM_0 inX6_kitchen_6 (List.mem_of_getElem? (i := 8) rfl) dX6_kitchen_129 ?_
      refine lv_iload_n hx hb dX6_kitchen_132 rfl (lv_at hl 1 rfl) ?_
      obtain ⟨x26, hf⟩ := chk_e hf
      refine r_iald X hW kM_13 iM_13 nM_13 x26 dX6_kitchen_133 ?_
      refine lv_isub hx hb dX6_kitchen_134 ?_
      exact r_iret X hW rfl rfl hf dX6_kitchen_135
    · refine lv_aload_n hx hb dX6_kitchen_142 rfl (lv_at hl 0 rfl) ?_
      refine get_6_21 X hW kM_0 iM_0 inX6_kitchen_6 (List.mem_of_getElem? (i := 7) rfl) dX6_kitchen_143 ?_
      exact r_iret X hW rfl rfl hf dX6_kitchen_146
  · have hf := ie_e hf c17
    refine lv_sipush (v := (-1000)) hx hb dX6_kitchen_90 (by decide) ?_
    refine lv_aload_n hx hb dX6_kitchen_93 rfl (lv_at hl 0 rfl) ?_
    refine get_6_19 X hW kM_0 iM_0 inX6_kitchen_6 (List.mem_of_getElem? (i := 5) rfl) dX6_kitchen_94 ?_
    refine lv_isub hx hb dX6_kitchen_97 ?_
    exact r_iret X hW rfl rfl hf dX6_kitchen_98
end S_X6_kitchen
noncomputable def f_X6_kitchen (σ : St) (a1 : Int32) : Option (Int32 × St) := nw (uI σ 0 5 0) fun σ1 => bnd (f_X6_wrongSort σ1 a1 0) fun r2 => (if 0 ≤ r2 then nw (uI σ1 0 17 (100 * a1)) fun σ4 => chk (inb a1 8) <| nw (uI σ4 0 18 (σ4.1 20 a1.toNatClampNeg)) fun σ6 => nw (uI σ6 0 19 0) fun σ7 => nw (uI σ7 0 20 0) fun σ8 => nw (uI σ8 0 21 0) fun σ9 => f_X6_kitchen_51 (fun  (σ16 : St) => f_X6_kitchen_83 σ16) fu σ9 else some (r2, σ1))
set_option maxHeartbeats 4000000 in
set_option maxRecDepth 100000 in
theorem c_X6_kitchen (l : Launch) (D : va_G) (cA : Nat → ClassId) (ad : Nat → Nat) (hij : Ij ad SM) (σ : St) (a1 : Int32) (r : Int32 × St) (hf : f_X6_kitchen σ a1 = some r) : Met l yX6_kitchen wsX6_kitchen rm_X6_kitchen (PC D cA ad SM [.ref (ad 0), .int a1] σ) (Qi D cA ad SM r) 0 0 (Aw ad SM) := by
  rw [f_X6_kitchen] at hf
  refine k_head (own := RX6) (ws := wsX6_kitchen) (cc := cX6_kitchen) (nL := 4) (ret := (some .int)) pn_X6 rfl rfl hij (Nat.le_of_ble_eq_true rfl) (fun p e s m below meth c ls X hW hl => ?_)
  have hl : lv_has ls 4 [(0, .ref (ad 0)), (1, .int a1)] := hl
  obtain ⟨hx, hb, hml, hown, hts, hr, hlk, hK, hij⟩ := id X
  refine lv_aload_n hx hb dX6_kitchen_0 rfl (lv_at hl 0 rfl) ?_
  refine lv_iconst (v := 0) hx hb dX6_kitchen_1 (by decide) ?_
  obtain ⟨σ1, e1, hf⟩ := nw_e hf
  refine put_6_5 X hW kM_0 iM_0 inX6_kitchen_6 (List.mem_of_getElem? (i := 1) rfl) e1 dX6_kitchen_2 (fun H locs hW => ?_)
  refine lv_aload_n hx hb dX6_kitchen_5 rfl (lv_at hl 0 rfl) ?_
  refine lv_iload_n hx hb dX6_kitchen_6 rfl (lv_at hl 1 rfl) ?_
  refine lv_iconst (v := 0) hx hb dX6_kitchen_7 (by decide) ?_
  obtain ⟨r2, z2, hf⟩ := bnd_e hf
  refine r_cViR X hW kM_0 iM_0 rfl (c_X6_wrongSort l D cA ad hij σ1 a1 0 r2 z2) gX6_kitchen_X6_wrongSort rfl ⟨rfl, rfl⟩ hd_X6_wrongSort ⟨Nat.le_of_ble_eq_true rfl, Nat.le_of_ble_eq_true rfl⟩ rfl (Nat.le_of_ble_eq_true rfl) hl.1 dX6_kitchen_8 (fun H locs hW => ?_)
  refine lv_istore_n (lv' := [(2, .int r2), (0, .ref (ad 0)), (1, .int a1)]) hx hb dX6_kitchen_11 rfl hl (by decide) rfl (fun ls hl => ?_)
  refine lv_iload_n hx hb dX6_kitchen_12 rfl (lv_at hl 0 rfl) ?_
  refine lv_if_ge (tgt := 18) hx hb dX6_kitchen_13 (by decide) (fun c3 => ?_) (fun c3 => ?_)
  · have hf := it_e hf c3
    refine lv_aload_n hx hb dX6_kitchen_18 rfl (lv_at hl 1 rfl) ?_
    refine lv_bipush (v := 100) hx hb dX6_kitchen_19 (by decide) ?_
    refine lv_iload_n hx hb dX6_kitchen_21 rfl (lv_at hl 2 rfl) ?_
    refine lv_imul hx hb dX6_kitchen_22 ?_
    obtain ⟨σ4, e4, hf⟩ := nw_e hf
    refine put_6_17 X hW kM_0 iM_0 inX6_kitchen_6 (List.mem_of_getElem? (i := 2) rfl) e4 dX6_kitchen_23 (fun H locs hW => ?_)
    refine lv_aload_n hx hb dX6_kitchen_26 rfl (lv_at hl 1 rfl) ?_
    refine lv_aload_n hx hb dX6_kitchen_27 rfl (lv_at hl 1 rfl) ?_
    refine get_6_30 X hW kM_0 iM_0 inX6_kitchen_6 (List.mem_of_getElem? (i := 3) rfl) dX6_kitchen_28 ?_
    refine lv_iload_n hx hb dX6_kitchen_31 rfl (lv_at hl 2 rfl) ?_
    obtain ⟨x5, hf⟩ := chk_e hf
    refine r_iald X hW kM_20 iM_20 nM_20 x5 dX6_kitchen_32 ?_
    obtain ⟨σ6, e6, hf⟩ := nw_e hf
    refine put_6_18 X hW kM_0 iM_0 inX6_kitchen_6 (List.mem_of_getElem? (i := 4) rfl) e6 dX6_kitchen_33 (fun H locs hW => ?_)
    refine lv_aload_n hx hb dX6_kitchen_36 rfl (lv_at hl 1 rfl) ?_
    refine lv_iconst (v := 0) hx hb dX6_kitchen_37 (by decide) ?_
    obtain ⟨σ7, e7, hf⟩ := nw_e hf
    refine put_6_19 X hW kM_0 iM_0 inX6_kitchen_6 (List.mem_of_getElem? (i := 5) rfl) e7 dX6_kitchen_38 (fun H locs hW => ?_)
    refine lv_aload_n hx hb dX6_kitchen_41 rfl (lv_at hl 1 rfl) ?_
    refine lv_iconst (v := 0) hx hb dX6_kitchen_42 (by decide) ?_
    obtain ⟨σ8, e8, hf⟩ := nw_e hf
    refine put_6_20 X hW kM_0 iM_0 inX6_kitchen_6 (List.mem_of_getElem? (i := 6) rfl) (by decide) e8 dX6_kitchen_43 (fun H locs hW => ?_)
    refine lv_aload_n hx hb dX6_kitchen_46 rfl (lv_at hl 1 rfl) ?_
    refine lv_iconst (v := 0) hx hb dX6_kitchen_47 (by decide) ?_
    obtain ⟨σ9, e9, hf⟩ := nw_e hf
    refine put_6_21 X hW kM_0 iM_0 inX6_kitchen_6 (List.mem_of_getElem? (i := 7) rfl) e9 dX6_kitchen_48 (fun H locs hW => ?_)
    refine b_X6_kitchen_51 X (fun σ16 H locs ls hf hW hl => ?_) fu σ9 _ _ _ hf hW (lv_sub hl [1] rfl)
    · exact b_X6_kitchen_83 X σ16 _ _ _ hf hW (lv_sub hl [0] rfl)
  · have hf := ie_e hf c3
    refine lv_iload_n hx hb dX6_kitchen_16 rfl (lv_at hl 0 rfl) ?_
    exact r_iret X hW rfl rfl hf dX6_kitchen_17

abbrev rm_X6_pot : Room := { frames := 1, cells := 0, slots := 0, locals := 22 }
theorem hd_X6_pot : yX6_pot.cls = RX6 ∧ yX6_pot.cls ≠ "java/lang/invoke/MethodHandle" ∧ yX6_pot.cls ≠ "java/lang/invoke/VarHandle" ∧ (parseMethodDescriptor yX6_pot.desc).map (fun d => d.parameters.length) = some 0 := by decide +kernel
theorem inX6_pot_6 : ∀ w ∈ wsX60, w ∈ wsX6_pot := fun _ h => List.mem_cons_of_mem _ (List.mem_append_right _ h)
section S_X6_pot
variable {p : Program} {l : Launch} {e : Env} {s : State} {m : MethodId} {args : Array Value} {below : List Frame} {meth : Method} {c : Code} {D : va_G} {cA : Nat → ClassId} {ad : Nat → Nat} {r : Int32 × St}
end S_X6_pot
noncomputable def f_X6_pot (σ : St) : Option (Int32 × St) := nw (uI σ 0 5 0) fun σ1 => (if (σ1.1 0 0) = 6 then some ((-2), σ1) else bnd (f_X6_empty σ1 (σ1.1 0 0)) fun r3 => nw (uI r3 0 0 ((r3.1 0 0) + 1)) fun σ4 => some ((σ4.1 0 0) - 1, σ4))
set_option maxHeartbeats 4000000 in
set_option maxRecDepth 100000 in
theorem c_X6_pot (l : Launch) (D : va_G) (cA : Nat → ClassId) (ad : Nat → Nat) (hij : Ij ad SM) (σ : St) (r : Int32 × St) (hf : f_X6_pot σ = some r) : Met l yX6_pot wsX6_pot rm_X6_pot (PC D cA ad SM [.ref (ad 0)] σ) (Qi D cA ad SM r) 0 0 (Aw ad SM) := by
  rw [f_X6_pot] at hf
  refine k_head (own := RX6) (ws := wsX6_pot) (cc := cX6_pot) (nL := 1) (ret := (some .int)) pn_X6 rfl rfl hij (Nat.le_of_ble_eq_true rfl) (fun p e s m below meth c ls X hW hl => ?_)
  have hl : lv_has ls 1 [(0, .ref (ad 0))] := hl
  obtain ⟨hx, hb, hml, hown, hts, hr, hlk, hK, hij⟩ := id X
  refine lv_aload_n hx hb dX6_pot_0 rfl (lv_at hl 0 rfl) ?_
  refine lv_iconst (v := 0) hx hb dX6_pot_1 (by decide) ?_
  obtain ⟨σ1, e1, hf⟩ := nw_e hf
  refine put_6_5 X hW kM_0 iM_0 inX6_pot_6 (List.mem_of_getElem? (i := 1) rfl) e1 dX6_pot_2 (fun H locs hW => ?_)
  refine lv_aload_n hx hb dX6_pot_5 rfl (lv_at hl 0 rfl) ?_
  refine get_6_0 X hW kM_0 iM_0 inX6_pot_6 (List.mem_of_getElem? (i := 2) rfl) dX6_pot_6 ?_
  refine lv_bipush (v := 6) hx hb dX6_pot_9 (by decide) ?_
  refine lv_icmp_ne (tgt := 17) hx hb dX6_pot_11 (by decide) (fun c2 => ?_) (fun c2 => ?_)
  · have hf := ie_e hf c2
    refine lv_aload_n hx hb dX6_pot_17 rfl (lv_at hl 0 rfl) ?_
    refine lv_aload_n hx hb dX6_pot_18 rfl (lv_at hl 0 rfl) ?_
    refine get_6_0 X hW kM_0 iM_0 inX6_pot_6 (List.mem_of_getElem? (i := 2) rfl) dX6_pot_19 ?_
    obtain ⟨r3, z3, hf⟩ := bnd_e hf
    refine r_cVv X hW kM_0 iM_0 rfl (c_X6_empty l D cA ad hij σ1 (σ1.1 0 0) r3 z3) gX6_pot_X6_empty rfl ⟨rfl, rfl⟩ hd_X6_empty ⟨Nat.le_of_ble_eq_true rfl, Nat.le_of_ble_eq_true rfl⟩ rfl (Nat.le_of_ble_eq_true rfl) hl.1 dX6_pot_22 (fun H locs hW => ?_)
    refine lv_aload_n hx hb dX6_pot_25 rfl (lv_at hl 0 rfl) ?_
    refine lv_dup hx hb dX6_pot_26 rfl ?_
    refine get_6_0 X hW kM_0 iM_0 inX6_pot_6 (List.mem_of_getElem? (i := 2) rfl) dX6_pot_27 ?_
    refine lv_iconst (v := 1) hx hb dX6_pot_30 (by decide) ?_
    refine lv_iadd hx hb dX6_pot_31 ?_
    obtain ⟨σ4, e4, hf⟩ := nw_e hf
    refine put_6_0 X hW kM_0 iM_0 inX6_pot_6 (List.mem_of_getElem? (i := 2) rfl) e4 dX6_pot_32 (fun H locs hW => ?_)
    refine lv_aload_n hx hb dX6_pot_35 rfl (lv_at hl 0 rfl) ?_
    refine get_6_0 X hW kM_0 iM_0 inX6_pot_6 (List.mem_of_getElem? (i := 2) rfl) dX6_pot_36 ?_
    refine lv_iconst (v := 1) hx hb dX6_pot_39 (by decide) ?_
    refine lv_isub hx hb dX6_pot_40 ?_
    exact r_iret X hW rfl rfl hf dX6_pot_41
  · have hf := it_e hf c2
    refine lv_bipush (v := (-2)) hx hb dX6_pot_14 (by decide) ?_
    exact r_iret X hW rfl rfl hf dX6_pot_16

abbrev rm_X6_wrongDish : Room := { frames := 1, cells := 0, slots := 0, locals := 25 }
theorem hd_X6_wrongDish : yX6_wrongDish.cls = RX6 ∧ yX6_wrongDish.cls ≠ "java/lang/invoke/MethodHandle" ∧ yX6_wrongDish.cls ≠ "java/lang/invoke/VarHandle" ∧ (parseMethodDescriptor yX6_wrongDish.desc).map (fun d => d.parameters.length) = some 1 := by decide +kernel
theorem inX6_wrongDish_6 : ∀ w ∈ wsX60, w ∈ wsX6_wrongDish := fun _ h => List.mem_cons_of_mem _ (List.mem_append_right _ h)
section S_X6_wrongDish
variable {p : Program} {l : Launch} {e : Env} {s : State} {m : MethodId} {args : Array Value} {below : List Frame} {meth : Method} {c : Code} {D : va_G} {cA : Nat → ClassId} {ad : Nat → Nat} {r : Int32}
end S_X6_wrongDish
noncomputable def f_X6_wrongDish (σ : St) (a1 : Int32) : Option (Int32) := bnd (f_X6_in a1.toInt64 0 7) fun r1 => (if r1 = 0 then some ((-1)) else chk (inb a1 8) <| (if (σ.1 16 a1.toNatClampNeg) = 0 then some ((-11)) else (if (σ.1 16 a1.toNatClampNeg) = 1 then some 0 else some ((-12)))))
set_option maxHeartbeats 4000000 in
set_option maxRecDepth 100000 in
theorem c_X6_wrongDish (l : Launch) (D : va_G) (cA : Nat → ClassId) (ad : Nat → Nat) (hij : Ij ad SM) (σ : St) (a1 : Int32) (r : Int32) (hf : f_X6_wrongDish σ a1 = some r) : Met l yX6_wrongDish wsX6_wrongDish rm_X6_wrongDish (PC D cA ad SM [.ref (ad 0), .int a1] σ) (Qi D cA ad SM (r, σ)) 0 0 (Aw ad SM) := by
  rw [f_X6_wrongDish] at hf
  refine k_head (own := RX6) (ws := wsX6_wrongDish) (cc := cX6_wrongDish) (nL := 2) (ret := (some .int)) pn_X6 rfl rfl hij (Nat.le_of_ble_eq_true rfl) (fun p e s m below meth c ls X hW hl => ?_)
  have hl : lv_has ls 2 [(0, .ref (ad 0)), (1, .int a1)] := hl
  obtain ⟨hx, hb, hml, hown, hts, hr, hlk, hK, hij⟩ := id X
  refine lv_iload_n hx hb dX6_wrongDish_0 rfl (lv_at hl 1 rfl) ?_
  refine lv_i2l hx hb dX6_wrongDish_1 rfl ?_
  refine lv_lconst (v := 0) hx hb dX6_wrongDish_2 (by decide) ?_
  refine lv_ldc2 (v := 7) hx hb hown (hts _ (List.mem_of_getElem? (i := 1) rfl)) dX6_wrongDish_3 ?_
  obtain ⟨r1, z1, hf⟩ := bnd_e hf
  refine r_cSiR X hW (c_X6_in l D cA ad hij σ a1.toInt64 0 7 r1 z1) gX6_wrongDish_X6_in rfl ⟨rfl, rfl⟩ hd_X6_in ⟨Nat.le_of_ble_eq_true rfl, Nat.le_of_ble_eq_true rfl⟩ rfl (Nat.le_of_ble_eq_true rfl) hl.1 dX6_wrongDish_6 (fun H locs hW => ?_)
  refine lv_if_ne (tgt := 16) hx hb dX6_wrongDish_9 (by decide) (fun c2 => ?_) (fun c2 => ?_)
  · have hf := ie_e hf c2
    refine lv_aload_n hx hb dX6_wrongDish_16 rfl (lv_at hl 0 rfl) ?_
    refine get_6_26 X hW kM_0 iM_0 inX6_wrongDish_6 (List.mem_of_getElem? (i := 2) rfl) dX6_wrongDish_17 ?_
    refine lv_iload_n hx hb dX6_wrongDish_20 rfl (lv_at hl 1 rfl) ?_
    obtain ⟨x3, hf⟩ := chk_e hf
    refine r_iald X hW kM_16 iM_16 nM_16 x3 dX6_wrongDish_21 ?_
    refine lv_if_ne (tgt := 30) hx hb dX6_wrongDish_22 (by decide) (fun c4 => ?_) (fun c4 => ?_)
    · have hf := ie_e hf c4
      refine lv_aload_n hx hb dX6_wrongDish_30 rfl (lv_at hl 0 rfl) ?_
      refine get_6_26 X hW kM_0 iM_0 inX6_wrongDish_6 (List.mem_of_getElem? (i := 2) rfl) dX6_wrongDish_31 ?_
      refine lv_iload_n hx hb dX6_wrongDish_34 rfl (lv_at hl 1 rfl) ?_
      refine r_iald X hW kM_16 iM_16 nM_16 x3 dX6_wrongDish_35 ?_
      refine lv_iconst (v := 1) hx hb dX6_wrongDish_36 (by decide) ?_
      refine lv_icmp_eq (tgt := 45) hx hb dX6_wrongDish_37 (by decide) (fun c5 => ?_) (fun c5 => ?_)
      · have hf := it_e hf c5
        refine lv_iconst (v := 0) hx hb dX6_wrongDish_45 (by decide) ?_
        exact r_iretR X hW rfl rfl hf dX6_wrongDish_46
      · have hf := ie_e hf c5
        refine lv_bipush (v := (-12)) hx hb dX6_wrongDish_40 (by decide) ?_
        refine lv_goto (tgt := 46) hx hb dX6_wrongDish_42 (by decide) ?_
        exact r_iretR X hW rfl rfl hf dX6_wrongDish_46
    · have hf := it_e hf c4
      refine lv_bipush (v := (-11)) hx hb dX6_wrongDish_25 (by decide) ?_
      refine lv_goto (tgt := 46) hx hb dX6_wrongDish_27 (by decide) ?_
      exact r_iretR X hW rfl rfl hf dX6_wrongDish_46
  · have hf := it_e hf c2
    refine lv_iconst (v := (-1)) hx hb dX6_wrongDish_12 (by decide) ?_
    refine lv_goto (tgt := 46) hx hb dX6_wrongDish_13 (by decide) ?_
    exact r_iretR X hW rfl rfl hf dX6_wrongDish_46

abbrev rm_X6_cook : Room := { frames := 3, cells := 0, slots := 0, locals := 74 }
theorem hd_X6_cook : yX6_cook.cls = RX6 ∧ yX6_cook.cls ≠ "java/lang/invoke/MethodHandle" ∧ yX6_cook.cls ≠ "java/lang/invoke/VarHandle" ∧ (parseMethodDescriptor yX6_cook.desc).map (fun d => d.parameters.length) = some 2 := by decide +kernel
theorem inX6_cook_6 : ∀ w ∈ wsX60, w ∈ wsX6_cook := fun _ h => List.mem_cons_of_mem _ (List.mem_append_right _ h)
section S_X6_cook
variable {p : Program} {l : Launch} {e : Env} {s : State} {m : MethodId} {args : Array Value} {below : List Frame} {meth : Method} {c : Code} {D : va_G} {cA : Nat → ClassId} {ad : Nat → Nat} {r : Int32 × St}
noncomputable def f_X6_cook_22 (v1 : Int32) (v2 : Int32) (s0 : Int32) (σ : St) : Option (Int32 × St) := (if 0 ≤ s0 then chk (inb v1 8) <| bnd (f_X6_cooks σ v2 (σ.1 17 v1.toNatClampNeg) (σ.1 18 v1.toNatClampNeg)) fun r6 => (if r6.1 = 0 then some ((-2), r6.2) else chk (inb v2 7) <| some (r6.2.1 2 v2.toNatClampNeg, r6.2)) else some (s0, σ))
set_option maxHeartbeats 4000000 in
set_option maxRecDepth 100000 in
theorem b_X6_cook_22 (X : Cx RX6 wsX6_cook cX6_cook 4 (some .int) D cA ad SM p s m args meth c) : ∀ (v1 : Int32) (v2 : Int32) (s0 : Int32) (σ : St) (H : Heap) (locs : List Loc) (ls : Array Slot), f_X6_cook_22 v1 v2 s0 σ = some r → Rn D cA ad SM s.heap σ H locs → lv_has ls 4 [(0, .ref (ad 0)), (1, .int v1), (2, .int v2)] → W p l e rm_X6_cook s m args below meth c H locs 0 0 (MQ below (Qi D cA ad SM r) args s 0 0 (Aw ad SM)) (F0 m 22 ls [.int s0]) := by
  obtain ⟨hx, hb, hml, hown, hts, hr, hlk, hK, hij⟩ := id X
  intro v1 v2 s0 σ H locs ls hf hW hl
  rw [f_X6_cook_22] at hf
  refine lv_istore_n (lv' := [(3, .int s0), (0, .ref (ad 0)), (1, .int v1), (2, .int v2)]) hx hb dX6_cook_22 rfl hl (by decide) rfl (fun ls hl => ?_)
  refine lv_iload_n hx hb dX6_cook_23 rfl (lv_at hl 0 rfl) ?_
  refine lv_if_ge (tgt := 29) hx hb dX6_cook_24 (by decide) (fun c4 => ?_) (fun c4 => ?_)
  · have hf := it_e hf c4
    refine lv_aload_n hx hb dX6_cook_29 rfl (lv_at hl 1 rfl) ?_
    refine lv_iload_n hx hb dX6_cook_30 rfl (lv_at hl 3 rfl) ?_
    refine lv_aload_n hx hb dX6_cook_31 rfl (lv_at hl 1 rfl) ?_
    refine get_6_27 X hW kM_0 iM_0 inX6_cook_6 (List.mem_of_getElem? (i := 2) rfl) dX6_cook_32 ?_
    refine lv_iload_n hx hb dX6_cook_35 rfl (lv_at hl 2 rfl) ?_
    obtain ⟨x5, hf⟩ := chk_e hf
    refine r_iald X hW kM_17 iM_17 nM_17 x5 dX6_cook_36 ?_
    refine lv_aload_n hx hb dX6_cook_37 rfl (lv_at hl 1 rfl) ?_
    refine get_6_28 X hW kM_0 iM_0 inX6_cook_6 (List.mem_of_getElem? (i := 3) rfl) dX6_cook_38 ?_
    refine lv_iload_n hx hb dX6_cook_41 rfl (lv_at hl 2 rfl) ?_
    refine r_iald X hW kM_18 iM_18 nM_18 x5 dX6_cook_42 ?_
    obtain ⟨r6, z6, hf⟩ := bnd_e hf
    refine r_cVi X hW kM_0 iM_0 rfl (c_X6_cooks l D cA ad hij σ v2 (σ.1 17 v1.toNatClampNeg) (σ.1 18 v1.toNatClampNeg) r6 z6) gX6_cook_X6_cooks rfl ⟨rfl, rfl⟩ hd_X6_cooks ⟨Nat.le_of_ble_eq_true rfl, Nat.le_of_ble_eq_true rfl⟩ rfl (Nat.le_of_ble_eq_true rfl) hl.1 dX6_cook_43 (fun H locs hW => ?_)
    refine lv_if_eq (tgt := 58) hx hb dX6_cook_46 (by decide) (fun c7 => ?_) (fun c7 => ?_)
    · have hf := it_e hf c7
      refine lv_bipush (v := (-2)) hx hb dX6_cook_58 (by decide) ?_
      exact r_iret X hW rfl rfl hf dX6_cook_60
    · have hf := ie_e hf c7
      refine lv_aload_n hx hb dX6_cook_49 rfl (lv_at hl 1 rfl) ?_
      refine get_6_2 X hW kM_0 iM_0 inX6_cook_6 (List.mem_of_getElem? (i := 4) rfl) dX6_cook_50 ?_
      refine lv_iload_n hx hb dX6_cook_53 rfl (lv_at hl 3 rfl) ?_
      obtain ⟨x8, hf⟩ := chk_e hf
      refine r_iald X hW kM_2 iM_2 nM_2 x8 dX6_cook_54 ?_
      refine lv_goto (tgt := 60) hx hb dX6_cook_55 (by decide) ?_
      exact r_iret X hW rfl rfl hf dX6_cook_60
  · have hf := ie_e hf c4
    refine lv_iload_n hx hb dX6_cook_27 rfl (lv_at hl 0 rfl) ?_
    exact r_iret X hW rfl rfl hf dX6_cook_28
end S_X6_cook
noncomputable def f_X6_cook (σ : St) (a1 : Int32) (a2 : Int32) : Option (Int32 × St) := nw (uI σ 0 5 0) fun σ1 => bnd (f_X6_isPot σ1 a2) fun r2 => (if r2 = 0 then f_X6_cook_22 a1 a2 ((-1)) σ1 else bnd (f_X6_wrongDish σ1 a1) fun r9 => f_X6_cook_22 a1 a2 r9 σ1)
set_option maxHeartbeats 4000000 in
set_option maxRecDepth 100000 in
theorem c_X6_cook (l : Launch) (D : va_G) (cA : Nat → ClassId) (ad : Nat → Nat) (hij : Ij ad SM) (σ : St) (a1 : Int32) (a2 : Int32) (r : Int32 × St) (hf : f_X6_cook σ a1 a2 = some r) : Met l yX6_cook wsX6_cook rm_X6_cook (PC D cA ad SM [.ref (ad 0), .int a1, .int a2] σ) (Qi D cA ad SM r) 0 0 (Aw ad SM) := by
  rw [f_X6_cook] at hf
  refine k_head (own := RX6) (ws := wsX6_cook) (cc := cX6_cook) (nL := 4) (ret := (some .int)) pn_X6 rfl rfl hij (Nat.le_of_ble_eq_true rfl) (fun p e s m below meth c ls X hW hl => ?_)
  have hl : lv_has ls 4 [(0, .ref (ad 0)), (1, .int a1), (2, .int a2)] := hl
  obtain ⟨hx, hb, hml, hown, hts, hr, hlk, hK, hij⟩ := id X
  refine lv_aload_n hx hb dX6_cook_0 rfl (lv_at hl 0 rfl) ?_
  refine lv_iconst (v := 0) hx hb dX6_cook_1 (by decide) ?_
  obtain ⟨σ1, e1, hf⟩ := nw_e hf
  refine put_6_5 X hW kM_0 iM_0 inX6_cook_6 (List.mem_of_getElem? (i := 1) rfl) e1 dX6_cook_2 (fun H locs hW => ?_)
  refine lv_aload_n hx hb dX6_cook_5 rfl (lv_at hl 0 rfl) ?_
  refine lv_iload_n hx hb dX6_cook_6 rfl (lv_at hl 2 rfl) ?_
  obtain ⟨r2, z2, hf⟩ := bnd_e hf
  refine r_cViR X hW kM_0 iM_0 rfl (c_X6_isPot l D cA ad hij σ1 a2 r2 z2) gX6_cook_X6_isPot rfl ⟨rfl, rfl⟩ hd_X6_isPot ⟨Nat.le_of_ble_eq_true rfl, Nat.le_of_ble_eq_true rfl⟩ rfl (Nat.le_of_ble_eq_true rfl) hl.1 dX6_cook_7 (fun H locs hW => ?_)
  refine lv_if_eq (tgt := 21) hx hb dX6_cook_10 (by decide) (fun c3 => ?_) (fun c3 => ?_)
  · have hf := it_e hf c3
    refine lv_iconst (v := (-1)) hx hb dX6_cook_21 (by decide) ?_
    exact b_X6_cook_22 X a1 a2 ((-1)) σ1 _ _ _ hf hW (lv_sub hl [0, 1, 2] rfl)
  · have hf := ie_e hf c3
    refine lv_aload_n hx hb dX6_cook_13 rfl (lv_at hl 0 rfl) ?_
    refine lv_iload_n hx hb dX6_cook_14 rfl (lv_at hl 1 rfl) ?_
    obtain ⟨r9, z9, hf⟩ := bnd_e hf
    refine r_cViR X hW kM_0 iM_0 rfl (c_X6_wrongDish l D cA ad hij σ1 a1 r9 z9) gX6_cook_X6_wrongDish rfl ⟨rfl, rfl⟩ hd_X6_wrongDish ⟨Nat.le_of_ble_eq_true rfl, Nat.le_of_ble_eq_true rfl⟩ rfl (Nat.le_of_ble_eq_true rfl) hl.1 dX6_cook_15 (fun H locs hW => ?_)
    refine lv_goto (tgt := 22) hx hb dX6_cook_18 (by decide) ?_
    exact b_X6_cook_22 X a1 a2 r9 σ1 _ _ _ hf hW (lv_sub hl [0, 1, 2] rfl)

abbrev rm_X6_dish : Room := { frames := 2, cells := 0, slots := 0, locals := 46 }
theorem hd_X6_dish : yX6_dish.cls = RX6 ∧ yX6_dish.cls ≠ "java/lang/invoke/MethodHandle" ∧ yX6_dish.cls ≠ "java/lang/invoke/VarHandle" ∧ (parseMethodDescriptor yX6_dish.desc).map (fun d => d.parameters.length) = some 3 := by decide +kernel
theorem inX6_dish_6 : ∀ w ∈ wsX60, w ∈ wsX6_dish := fun _ h => List.mem_cons_of_mem _ (List.mem_append_right _ h)
section S_X6_dish
variable {p : Program} {l : Launch} {e : Env} {s : State} {m : MethodId} {args : Array Value} {below : List Frame} {meth : Method} {c : Code} {D : va_G} {cA : Nat → ClassId} {ad : Nat → Nat} {r : Int32 × St}
end S_X6_dish
noncomputable def f_X6_dish (σ : St) (a1 : Int32) (a2 : Int32) (a3 : Int32) : Option (Int32 × St) := nw (uI σ 0 5 0) fun σ1 => bnd (f_X6_isPot σ1 a1) fun r2 => (if r2 = 0 then some ((-1), σ1) else (if a2 < 0 then some ((-1), σ1) else bnd (f_X6_in a3.toInt64 0 1) fun r5 => (if r5 = 0 then some ((-1), σ1) else chk (inb a1 7) <| (if a2 < (σ1.1 2 a1.toNatClampNeg) then nw ((((12 * a1) + (σ1.1 2 a1.toNatClampNeg)) - 1) - a2 : Int32) fun v109 => (if a3 = 0 then chk (inb v109 84) <| some (σ1.1 3 v109.toNatClampNeg, σ1) else chk (inb v109 84) <| some (σ1.1 4 v109.toNatClampNeg, σ1)) else some ((-4), σ1)))))
set_option maxHeartbeats 4000000 in
set_option maxRecDepth 100000 in
theorem c_X6_dish (l : Launch) (D : va_G) (cA : Nat → ClassId) (ad : Nat → Nat) (hij : Ij ad SM) (σ : St) (a1 : Int32) (a2 : Int32) (a3 : Int32) (r : Int32 × St) (hf : f_X6_dish σ a1 a2 a3 = some r) : Met l yX6_dish wsX6_dish rm_X6_dish (PC D cA ad SM [.ref (ad 0), .int a1, .int a2, .int a3] σ) (Qi D cA ad SM r) 0 0 (Aw ad SM) := by
  rw [f_X6_dish] at hf
  refine k_head (own := RX6) (ws := wsX6_dish) (cc := cX6_dish) (nL := 5) (ret := (some .int)) pn_X6 rfl rfl hij (Nat.le_of_ble_eq_true rfl) (fun p e s m below meth c ls X hW hl => ?_)
  have hl : lv_has ls 5 [(0, .ref (ad 0)), (1, .int a1), (2, .int a2), (3, .int a3)] := hl
  obtain ⟨hx, hb, hml, hown, hts, hr, hlk, hK, hij⟩ := id X
  refine lv_aload_n hx hb dX6_dish_0 rfl (lv_at hl 0 rfl) ?_
  refine lv_iconst (v := 0) hx hb dX6_dish_1 (by decide) ?_
  obtain ⟨σ1, e1, hf⟩ := nw_e hf
  refine put_6_5 X hW kM_0 iM_0 inX6_dish_6 (List.mem_of_getElem? (i := 1) rfl) e1 dX6_dish_2 (fun H locs hW => ?_)
  refine lv_aload_n hx hb dX6_dish_5 rfl (lv_at hl 0 rfl) ?_
  refine lv_iload_n hx hb dX6_dish_6 rfl (lv_at hl 1 rfl) ?_
  obtain ⟨r2, z2, hf⟩ := bnd_e hf
  refine r_cViR X hW kM_0 iM_0 rfl (c_X6_isPot l D cA ad hij σ1 a1 r2 z2) gX6_dish_X6_isPot rfl ⟨rfl, rfl⟩ hd_X6_isPot ⟨Nat.le_of_ble_eq_true rfl, Nat.le_of_ble_eq_true rfl⟩ rfl (Nat.le_of_ble_eq_true rfl) hl.1 dX6_dish_7 (fun H locs hW => ?_)
  refine lv_if_eq (tgt := 27) hx hb dX6_dish_10 (by decide) (fun c3 => ?_) (fun c3 => ?_)
  · have hf := it_e hf c3
    refine lv_iconst (v := (-1)) hx hb dX6_dish_27 (by decide) ?_
    exact r_iret X hW rfl rfl hf dX6_dish_28
  · have hf := ie_e hf c3
    refine lv_iload_n hx hb dX6_dish_13 rfl (lv_at hl 2 rfl) ?_
    refine lv_if_lt (tgt := 27) hx hb dX6_dish_14 (by decide) (fun c4 => ?_) (fun c4 => ?_)
    · have hf := it_e hf c4
      refine lv_iconst (v := (-1)) hx hb dX6_dish_27 (by decide) ?_
      exact r_iret X hW rfl rfl hf dX6_dish_28
    · have hf := ie_e hf c4
      refine lv_iload_n hx hb dX6_dish_17 rfl (lv_at hl 3 rfl) ?_
      refine lv_i2l hx hb dX6_dish_18 rfl ?_
      refine lv_lconst (v := 0) hx hb dX6_dish_19 (by decide) ?_
      refine lv_lconst (v := 1) hx hb dX6_dish_20 (by decide) ?_
      obtain ⟨r5, z5, hf⟩ := bnd_e hf
      refine r_cSiR X hW (c_X6_in l D cA ad hij σ1 a3.toInt64 0 1 r5 z5) gX6_dish_X6_in rfl ⟨rfl, rfl⟩ hd_X6_in ⟨Nat.le_of_ble_eq_true rfl, Nat.le_of_ble_eq_true rfl⟩ rfl (Nat.le_of_ble_eq_true rfl) hl.1 dX6_dish_21 (fun H locs hW => ?_)
      refine lv_if_ne (tgt := 29) hx hb dX6_dish_24 (by decide) (fun c6 => ?_) (fun c6 => ?_)
      · have hf := ie_e hf c6
        refine lv_iload_n hx hb dX6_dish_29 rfl (lv_at hl 2 rfl) ?_
        refine lv_aload_n hx hb dX6_dish_30 rfl (lv_at hl 0 rfl) ?_
        refine get_6_2 X hW kM_0 iM_0 inX6_dish_6 (List.mem_of_getElem? (i := 2) rfl) dX6_dish_31 ?_
        refine lv_iload_n hx hb dX6_dish_34 rfl (lv_at hl 1 rfl) ?_
        obtain ⟨x7, hf⟩ := chk_e hf
        refine r_iald X hW kM_2 iM_2 nM_2 x7 dX6_dish_35 ?_
        refine lv_icmp_lt (tgt := 42) hx hb dX6_dish_36 (by decide) (fun c8 => ?_) (fun c8 => ?_)
        · have hf := it_e hf c8
          refine lv_bipush (v := 12) hx hb dX6_dish_42 (by decide) ?_
          refine lv_iload_n hx hb dX6_dish_44 rfl (lv_at hl 1 rfl) ?_
          refine lv_imul hx hb dX6_dish_45 ?_
          refine lv_aload_n hx hb dX6_dish_46 rfl (lv_at hl 0 rfl) ?_
          refine get_6_2 X hW kM_0 iM_0 inX6_dish_6 (List.mem_of_getElem? (i := 2) rfl) dX6_dish_47 ?_
          refine lv_iload_n hx hb dX6_dish_50 rfl (lv_at hl 1 rfl) ?_
          refine r_iald X hW kM_2 iM_2 nM_2 x7 dX6_dish_51 ?_
          refine lv_iadd hx hb dX6_dish_52 ?_
          refine lv_iconst (v := 1) hx hb dX6_dish_53 (by decide) ?_
          refine lv_isub hx hb dX6_dish_54 ?_
          refine lv_iload_n hx hb dX6_dish_55 rfl (lv_at hl 2 rfl) ?_
          refine lv_isub hx hb dX6_dish_56 ?_
          obtain ⟨v109, e9, hf⟩ := nw_e hf
          refine tI _ e9 ?_
          refine lv_istore (lv' := [(4, .int v109), (0, .ref (ad 0)), (1, .int a1), (2, .int a2), (3, .int a3)]) hx hb dX6_dish_57 hl (by decide) rfl (fun ls hl => ?_)
          refine lv_iload_n hx hb dX6_dish_59 rfl (lv_at hl 4 rfl) ?_
          refine lv_if_ne (tgt := 73) hx hb dX6_dish_60 (by decide) (fun c10 => ?_) (fun c10 => ?_)
          · have hf := ie_e hf c10
            refine lv_aload_n hx hb dX6_dish_73 rfl (lv_at hl 1 rfl) ?_
            refine get_6_4 X hW kM_0 iM_0 inX6_dish_6 (List.mem_of_getElem? (i := 4) rfl) dX6_dish_74 ?_
            refine lv_iload hx hb dX6_dish_77 (lv_at hl 0 rfl) ?_
            obtain ⟨x11, hf⟩ := chk_e hf
            refine r_iald X hW kM_4 iM_4 nM_4 x11 dX6_dish_79 ?_
            exact r_iret X hW rfl rfl hf dX6_dish_80
          · have hf := it_e hf c10
            refine lv_aload_n hx hb dX6_dish_63 rfl (lv_at hl 1 rfl) ?_
            refine get_6_3 X hW kM_0 iM_0 inX6_dish_6 (List.mem_of_getElem? (i := 3) rfl) dX6_dish_64 ?_
            refine lv_iload hx hb dX6_dish_67 (lv_at hl 0 rfl) ?_
            obtain ⟨x12, hf⟩ := chk_e hf
            refine r_iald X hW kM_3 iM_3 nM_3 x12 dX6_dish_69 ?_
            refine lv_goto (tgt := 80) hx hb dX6_dish_70 (by decide) ?_
            exact r_iret X hW rfl rfl hf dX6_dish_80
        · have hf := ie_e hf c8
          refine lv_bipush (v := (-4)) hx hb dX6_dish_39 (by decide) ?_
          exact r_iret X hW rfl rfl hf dX6_dish_41
      · have hf := it_e hf c6
        refine lv_iconst (v := (-1)) hx hb dX6_dish_27 (by decide) ?_
        exact r_iret X hW rfl rfl hf dX6_dish_28

abbrev rm_X6_dishes : Room := { frames := 2, cells := 0, slots := 0, locals := 46 }
theorem hd_X6_dishes : yX6_dishes.cls = RX6 ∧ yX6_dishes.cls ≠ "java/lang/invoke/MethodHandle" ∧ yX6_dishes.cls ≠ "java/lang/invoke/VarHandle" ∧ (parseMethodDescriptor yX6_dishes.desc).map (fun d => d.parameters.length) = some 1 := by decide +kernel
theorem inX6_dishes_6 : ∀ w ∈ wsX60, w ∈ wsX6_dishes := fun _ h => List.mem_cons_of_mem _ (List.mem_append_right _ h)
section S_X6_dishes
variable {p : Program} {l : Launch} {e : Env} {s : State} {m : MethodId} {args : Array Value} {below : List Frame} {meth : Method} {c : Code} {D : va_G} {cA : Nat → ClassId} {ad : Nat → Nat} {r : Int32 × St}
end S_X6_dishes
noncomputable def f_X6_dishes (σ : St) (a1 : Int32) : Option (Int32 × St) := nw (uI σ 0 5 0) fun σ1 => bnd (f_X6_isPot σ1 a1) fun r2 => (if r2 = 0 then some ((-1), σ1) else chk (inb a1 7) <| some (σ1.1 2 a1.toNatClampNeg, σ1))
set_option maxHeartbeats 4000000 in
set_option maxRecDepth 100000 in
theorem c_X6_dishes (l : Launch) (D : va_G) (cA : Nat → ClassId) (ad : Nat → Nat) (hij : Ij ad SM) (σ : St) (a1 : Int32) (r : Int32 × St) (hf : f_X6_dishes σ a1 = some r) : Met l yX6_dishes wsX6_dishes rm_X6_dishes (PC D cA ad SM [.ref (ad 0), .int a1] σ) (Qi D cA ad SM r) 0 0 (Aw ad SM) := by
  rw [f_X6_dishes] at hf
  refine k_head (own := RX6) (ws := wsX6_dishes) (cc := cX6_dishes) (nL := 2) (ret := (some .int)) pn_X6 rfl rfl hij (Nat.le_of_ble_eq_true rfl) (fun p e s m below meth c ls X hW hl => ?_)
  have hl : lv_has ls 2 [(0, .ref (ad 0)), (1, .int a1)] := hl
  obtain ⟨hx, hb, hml, hown, hts, hr, hlk, hK, hij⟩ := id X
  refine lv_aload_n hx hb dX6_dishes_0 rfl (lv_at hl 0 rfl) ?_
  refine lv_iconst (v := 0) hx hb dX6_dishes_1 (by decide) ?_
  obtain ⟨σ1, e1, hf⟩ := nw_e hf
  refine put_6_5 X hW kM_0 iM_0 inX6_dishes_6 (List.mem_of_getElem? (i := 1) rfl) e1 dX6_dishes_2 (fun H locs hW => ?_)
  refine lv_aload_n hx hb dX6_dishes_5 rfl (lv_at hl 0 rfl) ?_
  refine lv_iload_n hx hb dX6_dishes_6 rfl (lv_at hl 1 rfl) ?_
  obtain ⟨r2, z2, hf⟩ := bnd_e hf
  refine r_cViR X hW kM_0 iM_0 rfl (c_X6_isPot l D cA ad hij σ1 a1 r2 z2) gX6_dishes_X6_isPot rfl ⟨rfl, rfl⟩ hd_X6_isPot ⟨Nat.le_of_ble_eq_true rfl, Nat.le_of_ble_eq_true rfl⟩ rfl (Nat.le_of_ble_eq_true rfl) hl.1 dX6_dishes_7 (fun H locs hW => ?_)
  refine lv_if_eq (tgt := 22) hx hb dX6_dishes_10 (by decide) (fun c3 => ?_) (fun c3 => ?_)
  · have hf := it_e hf c3
    refine lv_iconst (v := (-1)) hx hb dX6_dishes_22 (by decide) ?_
    exact r_iret X hW rfl rfl hf dX6_dishes_23
  · have hf := ie_e hf c3
    refine lv_aload_n hx hb dX6_dishes_13 rfl (lv_at hl 0 rfl) ?_
    refine get_6_2 X hW kM_0 iM_0 inX6_dishes_6 (List.mem_of_getElem? (i := 2) rfl) dX6_dishes_14 ?_
    refine lv_iload_n hx hb dX6_dishes_17 rfl (lv_at hl 1 rfl) ?_
    obtain ⟨x4, hf⟩ := chk_e hf
    refine r_iald X hW kM_2 iM_2 nM_2 x4 dX6_dishes_18 ?_
    refine lv_goto (tgt := 23) hx hb dX6_dishes_19 (by decide) ?_
    exact r_iret X hW rfl rfl hf dX6_dishes_23

abbrev rm_X6_least : Room := { frames := 0, cells := 0, slots := 0, locals := 0 }
theorem hd_X6_least : yX6_least.cls = RX6 ∧ yX6_least.cls ≠ "java/lang/invoke/MethodHandle" ∧ yX6_least.cls ≠ "java/lang/invoke/VarHandle" ∧ (parseMethodDescriptor yX6_least.desc).map (fun d => d.parameters.length) = some 3 := by decide +kernel
section S_X6_least
variable {p : Program} {l : Launch} {e : Env} {s : State} {m : MethodId} {args : Array Value} {below : List Frame} {meth : Method} {c : Code} {D : va_G} {cA : Nat → ClassId} {ad : Nat → Nat} {r : Int64}
noncomputable def f_X6_least_6 (k31 : Int64 → Int64 → Int32 → Int64 → Option (Int64)) : Nat → Int64 → Int64 → Int32 → Int64 → Int64 → Option (Int64)
  | 0, _, _, _, _, _ => none
  | n + 1, v0, v2, v4, v5, v7 => (if (lg_cmp v7 0) = 0 then k31 v0 v2 v4 v5 else chk (nzl v7) <| nw (v5 - v5 / v7 * v7 : Int64) fun v103 => f_X6_least_6 k31 n v0 v2 v4 v7 v103)
set_option maxHeartbeats 4000000 in
set_option maxRecDepth 100000 in
theorem b_X6_least_6 {σ : St} {k31 : Int64 → Int64 → Int32 → Int64 → Option (Int64)} (X : Cx RX6 wsX6_least cX6_least 11 (some .long) D cA ad SM p s m args meth c) (h31 : ∀ (w0 : Int64) (w1 : Int64) (w2 : Int32) (w3 : Int64) (H : Heap) (locs : List Loc) (ls : Array Slot), k31 w0 w1 w2 w3 = some r → Rn D cA ad SM s.heap σ H locs → lv_has ls 11 [(0, .long w0), (2, .long w1), (4, .int w2), (5, .long w3)] → W p l e rm_X6_least s m args below meth c H locs 0 0 (MQ below (Ql D cA ad SM (r, σ)) args s 0 0 (Aw ad SM)) (F0 m 31 ls [])) : ∀ (n : Nat) (v0 : Int64) (v2 : Int64) (v4 : Int32) (v5 : Int64) (v7 : Int64) (H : Heap) (locs : List Loc) (ls : Array Slot), f_X6_least_6 k31 n v0 v2 v4 v5 v7 = some r → Rn D cA ad SM s.heap σ H locs → lv_has ls 11 [(0, .long v0), (2, .long v2), (4, .int v4), (5, .long v5), (7, .long v7)] → W p l e rm_X6_least s m args below meth c H locs 0 0 (MQ below (Ql D cA ad SM (r, σ)) args s 0 0 (Aw ad SM)) (F0 m 6 ls []) := by
  obtain ⟨hx, hb, hml, hown, hts, hr, hlk, hK, hij⟩ := id X
  intro n
  induction n with
  | zero =>
    intro v0 v2 v4 v5 v7 H locs ls hf
    exact nomatch (show (none : Option (Int64)) = some r from hf)
  | succ n ih =>
    intro v0 v2 v4 v5 v7 H locs ls hf hW hl
    rw [f_X6_least_6] at hf
    refine lv_lload hx hb dX6_least_6 (lv_at hl 4 rfl) ?_
    refine lv_lconst (v := 0) hx hb dX6_least_8 (by decide) ?_
    refine W.lcmp hx hb dX6_least_9 ?_
    refine lv_if_eq (tgt := 31) hx hb dX6_least_10 (by decide) (fun c1 => ?_) (fun c1 => ?_)
    · have hf := it_e hf c1
      exact h31 v0 v2 v4 v5 _ _ _ hf hW (lv_sub hl [0, 1, 2, 3] rfl)
    · have hf := ie_e hf c1
      refine lv_lload hx hb dX6_least_13 (lv_at hl 3 rfl) ?_
      refine lv_lload hx hb dX6_least_15 (lv_at hl 4 rfl) ?_
      obtain ⟨q2, hf⟩ := chk_e hf
      refine lv_lrem hx hb dX6_least_17 (nzl_e q2) ?_
      obtain ⟨v103, e3, hf⟩ := nw_e hf
      refine tL _ e3 ?_
      refine lv_lstore (lv' := [(9, .long v103), (0, .long v0), (2, .long v2), (4, .int v4), (5, .long v5), (7, .long v7)]) hx hb dX6_least_18 hl (by decide) rfl (fun ls hl => ?_)
      refine lv_lload hx hb dX6_least_20 (lv_at hl 5 rfl) ?_
      refine lv_lstore (lv' := [(5, .long v7), (9, .long v103), (0, .long v0), (2, .long v2), (4, .int v4), (7, .long v7)]) hx hb dX6_least_22 hl (by decide) rfl (fun ls hl => ?_)
      refine lv_lload hx hb dX6_least_24 (lv_at hl 1 rfl) ?_
      refine lv_lstore (lv' := [(7, .long v103), (5, .long v7), (9, .long v103), (0, .long v0), (2, .long v2), (4, .int v4)]) hx hb dX6_least_26 hl (by decide) rfl (fun ls hl => ?_)
      refine lv_goto (tgt := 6) hx hb dX6_least_28 (by decide) ?_
      exact ih v0 v2 v4 v7 v103 _ _ _ hf hW (lv_sub hl [3, 4, 5, 1, 0] rfl)
end S_X6_least
noncomputable def f_X6_least (a0 : Int64) (a2 : Int64) (a4 : Int32) : Option (Int64) := f_X6_least_6 (fun (w4_0 : Int64) (w5_1 : Int64) (w6_2 : Int32) (w7_3 : Int64) => (if w6_2 = 0 then chk (nzl w7_3) <| some (w4_0 / w7_3) else chk (nzl w7_3) <| some (w5_1 / w7_3))) fu a0 a2 a4 a0 a2
set_option maxHeartbeats 4000000 in
set_option maxRecDepth 100000 in
theorem c_X6_least (l : Launch) (D : va_G) (cA : Nat → ClassId) (ad : Nat → Nat) (hij : Ij ad SM) (σ : St) (a0 : Int64) (a2 : Int64) (a4 : Int32) (r : Int64) (hf : f_X6_least a0 a2 a4 = some r) : Met l yX6_least wsX6_least rm_X6_least (PC D cA ad SM [.long a0, .long a2, .int a4] σ) (Ql D cA ad SM (r, σ)) 0 0 (Aw ad SM) := by
  rw [f_X6_least] at hf
  refine k_head (own := RX6) (ws := wsX6_least) (cc := cX6_least) (nL := 11) (ret := (some .long)) pn_X6 rfl rfl hij (Nat.le_of_ble_eq_true rfl) (fun p e s m below meth c ls X hW hl => ?_)
  have hl : lv_has ls 11 [(0, .long a0), (2, .long a2), (4, .int a4)] := hl
  obtain ⟨hx, hb, hml, hown, hts, hr, hlk, hK, hij⟩ := id X
  refine lv_lload_n hx hb dX6_least_0 rfl (lv_at hl 0 rfl) ?_
  refine lv_lstore (lv' := [(5, .long a0), (0, .long a0), (2, .long a2), (4, .int a4)]) hx hb dX6_least_1 hl (by decide) rfl (fun ls hl => ?_)
  refine lv_lload_n hx hb dX6_least_3 rfl (lv_at hl 2 rfl) ?_
  refine lv_lstore (lv' := [(7, .long a2), (5, .long a0), (0, .long a0), (2, .long a2), (4, .int a4)]) hx hb dX6_least_4 hl (by decide) rfl (fun ls hl => ?_)
  refine b_X6_least_6 X (fun w4_0 w5_1 w6_2 w7_3 H locs ls hf hW hl => ?_) fu a0 a2 a4 a0 a2 _ _ _ hf hW (lv_sub hl [2, 3, 4, 1, 0] rfl)
  · refine lv_iload hx hb dX6_least_31 (lv_at hl 2 rfl) ?_
    refine lv_if_ne (tgt := 43) hx hb dX6_least_33 (by decide) (fun c8 => ?_) (fun c8 => ?_)
    · have hf := ie_e hf c8
      refine lv_lload_n hx hb dX6_least_43 rfl (lv_at hl 1 rfl) ?_
      refine lv_lload hx hb dX6_least_44 (lv_at hl 3 rfl) ?_
      obtain ⟨q9, hf⟩ := chk_e hf
      refine lv_ldiv hx hb dX6_least_46 (nzl_e q9) ?_
      exact r_lretR X hW rfl hf dX6_least_47
    · have hf := it_e hf c8
      refine lv_lload_n hx hb dX6_least_36 rfl (lv_at hl 0 rfl) ?_
      refine lv_lload hx hb dX6_least_37 (lv_at hl 3 rfl) ?_
      obtain ⟨q10, hf⟩ := chk_e hf
      refine lv_ldiv hx hb dX6_least_39 (nzl_e q10) ?_
      refine lv_goto (tgt := 47) hx hb dX6_least_40 (by decide) ?_
      exact r_lretR X hW rfl hf dX6_least_47

abbrev rm_X6_taste : Room := { frames := 2, cells := 0, slots := 0, locals := 46 }
theorem hd_X6_taste : yX6_taste.cls = RX6 ∧ yX6_taste.cls ≠ "java/lang/invoke/MethodHandle" ∧ yX6_taste.cls ≠ "java/lang/invoke/VarHandle" ∧ (parseMethodDescriptor yX6_taste.desc).map (fun d => d.parameters.length) = some 3 := by decide +kernel
theorem inX6_taste_6 : ∀ w ∈ wsX60, w ∈ wsX6_taste := fun _ h => List.mem_cons_of_mem _ (List.mem_append_right _ h)
section S_X6_taste
variable {p : Program} {l : Launch} {e : Env} {s : State} {m : MethodId} {args : Array Value} {below : List Frame} {meth : Method} {c : Code} {D : va_G} {cA : Nat → ClassId} {ad : Nat → Nat} {r : Int64 × St}
end S_X6_taste
noncomputable def f_X6_taste (σ : St) (a1 : Int32) (a2 : Int32) (a3 : Int32) : Option (Int64 × St) := nw (uI σ 0 5 0) fun σ1 => bnd (f_X6_isPot σ1 a1) fun r2 => (if r2 = 0 then some ((-1000000001), σ1) else bnd (f_X6_in a2.toInt64 0 3) fun r4 => (if r4 = 0 then some ((-1000000001), σ1) else bnd (f_X6_in a3.toInt64 0 1) fun r6 => (if r6 = 0 then some ((-1000000001), σ1) else chk (inb ((4 * a1) + a2) 28) <| chk (inb a1 7) <| bnd (f_X6_nine (σ1.1 2 a1.toNatClampNeg)) fun r10 => bnd (f_X6_least (σ1.2 1 ((4 * a1) + a2).toNatClampNeg) r10 a3) fun r11 => some (r11, σ1))))
set_option maxHeartbeats 4000000 in
set_option maxRecDepth 100000 in
theorem c_X6_taste (l : Launch) (D : va_G) (cA : Nat → ClassId) (ad : Nat → Nat) (hij : Ij ad SM) (σ : St) (a1 : Int32) (a2 : Int32) (a3 : Int32) (r : Int64 × St) (hf : f_X6_taste σ a1 a2 a3 = some r) : Met l yX6_taste wsX6_taste rm_X6_taste (PC D cA ad SM [.ref (ad 0), .int a1, .int a2, .int a3] σ) (Ql D cA ad SM r) 0 0 (Aw ad SM) := by
  rw [f_X6_taste] at hf
  refine k_head (own := RX6) (ws := wsX6_taste) (cc := cX6_taste) (nL := 4) (ret := (some .long)) pn_X6 rfl rfl hij (Nat.le_of_ble_eq_true rfl) (fun p e s m below meth c ls X hW hl => ?_)
  have hl : lv_has ls 4 [(0, .ref (ad 0)), (1, .int a1), (2, .int a2), (3, .int a3)] := hl
  obtain ⟨hx, hb, hml, hown, hts, hr, hlk, hK, hij⟩ := id X
  refine lv_aload_n hx hb dX6_taste_0 rfl (lv_at hl 0 rfl) ?_
  refine lv_iconst (v := 0) hx hb dX6_taste_1 (by decide) ?_
  obtain ⟨σ1, e1, hf⟩ := nw_e hf
  refine put_6_5 X hW kM_0 iM_0 inX6_taste_6 (List.mem_of_getElem? (i := 1) rfl) e1 dX6_taste_2 (fun H locs hW => ?_)
  refine lv_aload_n hx hb dX6_taste_5 rfl (lv_at hl 0 rfl) ?_
  refine lv_iload_n hx hb dX6_taste_6 rfl (lv_at hl 1 rfl) ?_
  obtain ⟨r2, z2, hf⟩ := bnd_e hf
  refine r_cViR X hW kM_0 iM_0 rfl (c_X6_isPot l D cA ad hij σ1 a1 r2 z2) gX6_taste_X6_isPot rfl ⟨rfl, rfl⟩ hd_X6_isPot ⟨Nat.le_of_ble_eq_true rfl, Nat.le_of_ble_eq_true rfl⟩ rfl (Nat.le_of_ble_eq_true rfl) hl.1 dX6_taste_7 (fun H locs hW => ?_)
  refine lv_if_eq (tgt := 35) hx hb dX6_taste_10 (by decide) (fun c3 => ?_) (fun c3 => ?_)
  · have hf := it_e hf c3
    refine lv_ldc2 (v := (-1000000001)) hx hb hown (hts _ (List.mem_of_getElem? (i := 3) rfl)) dX6_taste_35 ?_
    exact r_lret X hW rfl hf dX6_taste_38
  · have hf := ie_e hf c3
    refine lv_iload_n hx hb dX6_taste_13 rfl (lv_at hl 2 rfl) ?_
    refine lv_i2l hx hb dX6_taste_14 rfl ?_
    refine lv_lconst (v := 0) hx hb dX6_taste_15 (by decide) ?_
    refine lv_ldc2 (v := 3) hx hb hown (hts _ (List.mem_of_getElem? (i := 2) rfl)) dX6_taste_16 ?_
    obtain ⟨r4, z4, hf⟩ := bnd_e hf
    refine r_cSiR X hW (c_X6_in l D cA ad hij σ1 a2.toInt64 0 3 r4 z4) gX6_taste_X6_in rfl ⟨rfl, rfl⟩ hd_X6_in ⟨Nat.le_of_ble_eq_true rfl, Nat.le_of_ble_eq_true rfl⟩ rfl (Nat.le_of_ble_eq_true rfl) hl.1 dX6_taste_19 (fun H locs hW => ?_)
    refine lv_if_eq (tgt := 35) hx hb dX6_taste_22 (by decide) (fun c5 => ?_) (fun c5 => ?_)
    · have hf := it_e hf c5
      refine lv_ldc2 (v := (-1000000001)) hx hb hown (hts _ (List.mem_of_getElem? (i := 3) rfl)) dX6_taste_35 ?_
      exact r_lret X hW rfl hf dX6_taste_38
    · have hf := ie_e hf c5
      refine lv_iload_n hx hb dX6_taste_25 rfl (lv_at hl 3 rfl) ?_
      refine lv_i2l hx hb dX6_taste_26 rfl ?_
      refine lv_lconst (v := 0) hx hb dX6_taste_27 (by decide) ?_
      refine lv_lconst (v := 1) hx hb dX6_taste_28 (by decide) ?_
      obtain ⟨r6, z6, hf⟩ := bnd_e hf
      refine r_cSiR X hW (c_X6_in l D cA ad hij σ1 a3.toInt64 0 1 r6 z6) gX6_taste_X6_in rfl ⟨rfl, rfl⟩ hd_X6_in ⟨Nat.le_of_ble_eq_true rfl, Nat.le_of_ble_eq_true rfl⟩ rfl (Nat.le_of_ble_eq_true rfl) hl.1 dX6_taste_29 (fun H locs hW => ?_)
      refine lv_if_ne (tgt := 39) hx hb dX6_taste_32 (by decide) (fun c7 => ?_) (fun c7 => ?_)
      · have hf := ie_e hf c7
        refine lv_aload_n hx hb dX6_taste_39 rfl (lv_at hl 0 rfl) ?_
        refine get_6_1 X hW kM_0 iM_0 inX6_taste_6 (List.mem_of_getElem? (i := 4) rfl) dX6_taste_40 ?_
        refine lv_iconst (v := 4) hx hb dX6_taste_43 (by decide) ?_
        refine lv_iload_n hx hb dX6_taste_44 rfl (lv_at hl 1 rfl) ?_
        refine lv_imul hx hb dX6_taste_45 ?_
        refine lv_iload_n hx hb dX6_taste_46 rfl (lv_at hl 2 rfl) ?_
        refine lv_iadd hx hb dX6_taste_47 ?_
        obtain ⟨x8, hf⟩ := chk_e hf
        refine r_lald X hW kM_1 iM_1 nM_1 x8 dX6_taste_48 ?_
        refine lv_aload_n hx hb dX6_taste_49 rfl (lv_at hl 0 rfl) ?_
        refine get_6_2 X hW kM_0 iM_0 inX6_taste_6 (List.mem_of_getElem? (i := 5) rfl) dX6_taste_50 ?_
        refine lv_iload_n hx hb dX6_taste_53 rfl (lv_at hl 1 rfl) ?_
        obtain ⟨x9, hf⟩ := chk_e hf
        refine r_iald X hW kM_2 iM_2 nM_2 x9 dX6_taste_54 ?_
        obtain ⟨r10, z10, hf⟩ := bnd_e hf
        refine r_cSlR X hW (c_X6_nine l D cA ad hij σ1 (σ1.1 2 a1.toNatClampNeg) r10 z10) gX6_taste_X6_nine rfl ⟨rfl, rfl⟩ hd_X6_nine ⟨Nat.le_of_ble_eq_true rfl, Nat.le_of_ble_eq_true rfl⟩ rfl (Nat.le_of_ble_eq_true rfl) hl.1 dX6_taste_55 (fun H locs hW => ?_)
        refine lv_iload_n hx hb dX6_taste_58 rfl (lv_at hl 3 rfl) ?_
        obtain ⟨r11, z11, hf⟩ := bnd_e hf
        refine r_cSlR X hW (c_X6_least l D cA ad hij σ1 (σ1.2 1 ((4 * a1) + a2).toNatClampNeg) r10 a3 r11 z11) gX6_taste_X6_least rfl ⟨rfl, rfl⟩ hd_X6_least ⟨Nat.le_of_ble_eq_true rfl, Nat.le_of_ble_eq_true rfl⟩ rfl (Nat.le_of_ble_eq_true rfl) hl.1 dX6_taste_59 (fun H locs hW => ?_)
        exact r_lret X hW rfl hf dX6_taste_62
      · have hf := it_e hf c7
        refine lv_ldc2 (v := (-1000000001)) hx hb hown (hts _ (List.mem_of_getElem? (i := 3) rfl)) dX6_taste_35 ?_
        exact r_lret X hW rfl hf dX6_taste_38
