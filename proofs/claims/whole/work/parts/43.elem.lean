abbrev rm_X5_element : Room := { frames := 1, cells := 0, slots := 0, locals := 21 }
theorem hd_X5_element : yX5_element.cls = RX5 ∧ yX5_element.cls ≠ "java/lang/invoke/MethodHandle" ∧ yX5_element.cls ≠ "java/lang/invoke/VarHandle" ∧ (parseMethodDescriptor yX5_element.desc).map (fun d => d.parameters.length) = some 2 := by decide +kernel
theorem inX5_element_5 : ∀ w ∈ wsX50, w ∈ wsX5_element := fun _ h => List.mem_cons_of_mem _ (List.mem_append_left _ (List.mem_append_left _ (List.mem_append_left _ (List.mem_append_right _ h))))
theorem inX5_element_4 : ∀ w ∈ wsX40, w ∈ wsX5_element := fun _ h => List.mem_cons_of_mem _ (List.mem_append_left _ (List.mem_append_left _ (List.mem_append_right _ h)))
section S_X5_element
variable {p : Program} {l : Launch} {e : Env} {s : State} {m : MethodId} {args : Array Value} {below : List Frame} {meth : Method} {c : Code} {D : va_G} {cA : Nat → ClassId} {ad : Nat → Nat} {r : Int64}
noncomputable def f_X5_element_40 (σ : St) : Option (Int64) := (none : Option (Int64))
set_option maxHeartbeats 4000000 in
set_option maxRecDepth 100000 in
theorem b_X5_element_40 {σ : St} (X : Cx RX5 wsX5_element cX5_element 3 (some .long) D cA ad SC p s m args meth c) : ∀  (H : Heap) (locs : List Loc) (ls : Array Slot), f_X5_element_40 σ = some r → Rn D cA ad SC s.heap σ H locs → lv_has ls 3 [] → W p l e rm_X5_element s m args below meth c H locs 0 0 (MQ below (Ql D cA ad SC (r, σ)) args s 0 0 (Aw ad SC)) (F0 m 40 ls []) := by
  obtain ⟨hx, hb, hml, hown, hts, hr, hlk, hK, hij⟩ := id X
  intro H locs ls hf hW hl
  rw [f_X5_element_40] at hf
  exact nomatch (show (none : Option _) = some r from hf)
end S_X5_element
noncomputable def f_X5_element (σ : St) (a1 : Int32) (a2 : Int32) : Option (Int64) := bnd (f_X5_isNoShelf a1) fun r1 => (if r1 = 0 then chk (inb a1 8) <| chk (kOK SC (126 + 2 * a1.toNatClampNeg) 4) <| bnd (f_X4_holdsRow σ (126 + 2 * a1.toNatClampNeg)) fun r4 => (if r4 = 0 then f_X5_element_40 σ else bnd (f_X4_hasElement σ (126 + 2 * a1.toNatClampNeg) a2) fun r7 => (if r7 = 0 then f_X5_element_40 σ else chk (aOK SC (126 + 2 * a1.toNatClampNeg + 1) 20 100) <| chk (inb a2 100) <| some ((σ.1 (126 + 2 * a1.toNatClampNeg + 1) a2.toNatClampNeg).toInt64))) else (none : Option (Int64)))
set_option maxHeartbeats 4000000 in
set_option maxRecDepth 100000 in
theorem c_X5_element (l : Launch) (D : va_G) (cA : Nat → ClassId) (ad : Nat → Nat) (hij : Ij ad SC) (σ : St) (a1 : Int32) (a2 : Int32) (r : Int64) (hf : f_X5_element σ a1 a2 = some r) : Met l yX5_element wsX5_element rm_X5_element (PC D cA ad SC [.ref (ad 0), .int a1, .int a2] σ) (Ql D cA ad SC (r, σ)) 0 0 (Aw ad SC) := by
  rw [f_X5_element] at hf
  refine k_head (own := RX5) (ws := wsX5_element) (cc := cX5_element) (nL := 3) (ret := (some .long)) pn_X5 rfl rfl hij (Nat.le_of_ble_eq_true rfl) (fun p e s m below meth c ls X hW hl => ?_)
  have hl : lv_has ls 3 [(0, .ref (ad 0)), (1, .int a1), (2, .int a2)] := hl
  obtain ⟨hx, hb, hml, hown, hts, hr, hlk, hK, hij⟩ := id X
  refine lv_iload_n hx hb dX5_element_0 rfl (lv_at hl 1 rfl) ?_
  obtain ⟨r1, z1, hf⟩ := bnd_e hf
  refine r_cSiR X hW (c_X5_isNoShelf l D cA ad hij σ a1 r1 z1) gX5_element_X5_isNoShelf rfl ⟨rfl, rfl⟩ hd_X5_isNoShelf ⟨Nat.le_of_ble_eq_true rfl, Nat.le_of_ble_eq_true rfl⟩ rfl (Nat.le_of_ble_eq_true rfl) hl.1 dX5_element_1 (fun H locs hW => ?_)
  refine lv_if_eq (tgt := 15) hx hb dX5_element_4 (by decide) (fun c2 => ?_) (fun c2 => ?_)
  · have hf := it_e hf c2
    refine lv_aload_n hx hb dX5_element_15 rfl (lv_at hl 0 rfl) ?_
    refine get_5_7 X hW kC_0 iC_0 inX5_element_5 (List.mem_of_getElem? (i := 5) rfl) dX5_element_16 ?_
    refine lv_iload_n hx hb dX5_element_19 rfl (lv_at hl 1 rfl) ?_
    obtain ⟨x3, hf⟩ := chk_e hf
    refine r_aald (j := 126 + 2 * a1.toNatClampNeg) X hW kC_125 iC_125 nC_125 (by decide) rfl x3 rfl dX5_element_20 ?_
    obtain ⟨q5, hf⟩ := chk_e hf
    obtain ⟨i5, k5⟩ := kOK_e q5
    obtain ⟨r4, z4, hf⟩ := bnd_e hf
    refine r_cViR X hW k5 i5 rfl (c_X4_holdsRow l D cA ad hij σ (126 + 2 * a1.toNatClampNeg) r4 z4) gX5_element_X4_holdsRow rfl ⟨rfl, rfl⟩ hd_X4_holdsRow ⟨Nat.le_of_ble_eq_true rfl, Nat.le_of_ble_eq_true rfl⟩ rfl (Nat.le_of_ble_eq_true rfl) hl.1 dX5_element_21 (fun H locs hW => ?_)
    refine lv_if_eq (tgt := 40) hx hb dX5_element_24 (by decide) (fun c6 => ?_) (fun c6 => ?_)
    · have hf := it_e hf c6
      exact b_X5_element_40 X _ _ _ hf hW (lv_sub hl [] rfl)
    · have hf := ie_e hf c6
      refine lv_aload_n hx hb dX5_element_27 rfl (lv_at hl 0 rfl) ?_
      refine get_5_7 X hW kC_0 iC_0 inX5_element_5 (List.mem_of_getElem? (i := 5) rfl) dX5_element_28 ?_
      refine lv_iload_n hx hb dX5_element_31 rfl (lv_at hl 1 rfl) ?_
      refine r_aald (j := 126 + 2 * a1.toNatClampNeg) X hW kC_125 iC_125 nC_125 (by decide) rfl x3 rfl dX5_element_32 ?_
      refine lv_iload_n hx hb dX5_element_33 rfl (lv_at hl 2 rfl) ?_
      obtain ⟨r7, z7, hf⟩ := bnd_e hf
      refine r_cViR X hW k5 i5 rfl (c_X4_hasElement l D cA ad hij σ (126 + 2 * a1.toNatClampNeg) a2 r7 z7) gX5_element_X4_hasElement rfl ⟨rfl, rfl⟩ hd_X4_hasElement ⟨Nat.le_of_ble_eq_true rfl, Nat.le_of_ble_eq_true rfl⟩ rfl (Nat.le_of_ble_eq_true rfl) hl.1 dX5_element_34 (fun H locs hW => ?_)
      refine lv_if_ne (tgt := 48) hx hb dX5_element_37 (by decide) (fun c8 => ?_) (fun c8 => ?_)
      · have hf := ie_e hf c8
        refine lv_aload_n hx hb dX5_element_48 rfl (lv_at hl 0 rfl) ?_
        refine get_5_7 X hW kC_0 iC_0 inX5_element_5 (List.mem_of_getElem? (i := 5) rfl) dX5_element_49 ?_
        refine lv_iload_n hx hb dX5_element_52 rfl (lv_at hl 1 rfl) ?_
        refine r_aald (j := 126 + 2 * a1.toNatClampNeg) X hW kC_125 iC_125 nC_125 (by decide) rfl x3 rfl dX5_element_53 ?_
        refine get_4_5 X hW k5 i5 inX5_element_4 (List.mem_of_getElem? (i := 6) rfl) dX5_element_54 ?_
        refine lv_iload_n hx hb dX5_element_57 rfl (lv_at hl 2 rfl) ?_
        obtain ⟨q9, hf⟩ := chk_e hf
        obtain ⟨i9, k9, n9⟩ := aOK_e q9
        obtain ⟨x10, hf⟩ := chk_e hf
        refine r_iald X hW k9 i9 n9 x10 dX5_element_58 ?_
        refine lv_i2l hx hb dX5_element_59 rfl ?_
        exact r_lretR X hW rfl hf dX5_element_60
      · have hf := it_e hf c8
        exact b_X5_element_40 X _ _ _ hf hW (lv_sub hl [] rfl)
  · have hf := ie_e hf c2
    exact nomatch (show (none : Option _) = some r from hf)
