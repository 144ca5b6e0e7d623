abbrev rm_X6_all : Room := { frames := 2, cells := 0, slots := 0, locals := 46 }
theorem hd_X6_all : yX6_all.cls = RX6 ∧ yX6_all.cls ≠ "java/lang/invoke/MethodHandle" ∧ yX6_all.cls ≠ "java/lang/invoke/VarHandle" ∧ (parseMethodDescriptor yX6_all.desc).map (fun d => d.parameters.length) = some 2 := by decide +kernel
theorem inX6_all_6 : ∀ w ∈ wsX60, w ∈ wsX6_all := fun _ h => List.mem_cons_of_mem _ (List.mem_append_right _ h)
section S_X6_all
variable {p : Program} {l : Launch} {e : Env} {s : State} {m : MethodId} {args : Array Value} {below : List Frame} {meth : Method} {c : Code} {D : va_G} {cA : Nat → ClassId} {ad : Nat → Nat} {r : Int64 × St}
end S_X6_all
noncomputable def f_X6_all (σ : St) (a1 : Int32) (a2 : Int32) : Option (Int64 × St) := nw (uI σ 0 5 0) fun σ1 => bnd (f_X6_isPot σ1 a1) fun r2 => (if r2 = 0 then some ((-1000000001), σ1) else bnd (f_X6_in a2.toInt64 0 1) fun r4 => (if r4 = 0 then some ((-1000000001), σ1) else bnd (f_X6_allOf σ1 a1) fun r6 => chk (inb a1 7) <| bnd (f_X6_nine (σ1.1 2 a1.toNatClampNeg)) fun r8 => bnd (f_X6_least r6 r8 a2) fun r9 => some (r9, σ1)))
set_option maxHeartbeats 4000000 in
set_option maxRecDepth 100000 in
theorem c_X6_all (l : Launch) (D : va_G) (cA : Nat → ClassId) (ad : Nat → Nat) (hij : Ij ad SM) (σ : St) (a1 : Int32) (a2 : Int32) (r : Int64 × St) (hf : f_X6_all σ a1 a2 = some r) : Met l yX6_all wsX6_all rm_X6_all (PC D cA ad SM [.ref (ad 0), .int a1, .int a2] σ) (Ql D cA ad SM r) 0 0 (Aw ad SM) := by
  rw [f_X6_all] at hf
  refine k_head (own := RX6) (ws := wsX6_all) (cc := cX6_all) (nL := 3) (ret := (some .long)) pn_X6 rfl rfl hij (Nat.le_of_ble_eq_true rfl) (fun p e s m below meth c ls X hW hl => ?_)
  have hl : lv_has ls 3 [(0, .ref (ad 0)), (1, .int a1), (2, .int a2)] := hl
  obtain ⟨hx, hb, hml, hown, hts, hr, hlk, hK, hij⟩ := id X
  refine lv_aload_n hx hb dX6_all_0 rfl (lv_at hl 0 rfl) ?_
  refine lv_iconst (v := 0) hx hb dX6_all_1 (by decide) ?_
  obtain ⟨σ1, e1, hf⟩ := nw_e hf
  refine put_6_5 X hW kM_0 iM_0 inX6_all_6 (List.mem_of_getElem? (i := 1) rfl) e1 dX6_all_2 (fun H locs hW => ?_)
  refine lv_aload_n hx hb dX6_all_5 rfl (lv_at hl 0 rfl) ?_
  refine lv_iload_n hx hb dX6_all_6 rfl (lv_at hl 1 rfl) ?_
  obtain ⟨r2, z2, hf⟩ := bnd_e hf
  refine r_cViR X hW kM_0 iM_0 rfl (c_X6_isPot l D cA ad hij σ1 a1 r2 z2) gX6_all_X6_isPot rfl ⟨rfl, rfl⟩ hd_X6_isPot ⟨Nat.le_of_ble_eq_true rfl, Nat.le_of_ble_eq_true rfl⟩ rfl (Nat.le_of_ble_eq_true rfl) hl.1 dX6_all_7 (fun H locs hW => ?_)
  refine lv_if_eq (tgt := 23) hx hb dX6_all_10 (by decide) (fun c3 => ?_) (fun c3 => ?_)
  · have hf := it_e hf c3
    refine lv_ldc2 (v := (-1000000001)) hx hb hown (hts _ (List.mem_of_getElem? (i := 2) rfl)) dX6_all_23 ?_
    exact r_lret X hW rfl hf dX6_all_26
  · have hf := ie_e hf c3
    refine lv_iload_n hx hb dX6_all_13 rfl (lv_at hl 2 rfl) ?_
    refine lv_i2l hx hb dX6_all_14 rfl ?_
    refine lv_lconst (v := 0) hx hb dX6_all_15 (by decide) ?_
    refine lv_lconst (v := 1) hx hb dX6_all_16 (by decide) ?_
    obtain ⟨r4, z4, hf⟩ := bnd_e hf
    refine r_cSiR X hW (c_X6_in l D cA ad hij σ1 a2.toInt64 0 1 r4 z4) gX6_all_X6_in rfl ⟨rfl, rfl⟩ hd_X6_in ⟨Nat.le_of_ble_eq_true rfl, Nat.le_of_ble_eq_true rfl⟩ rfl (Nat.le_of_ble_eq_true rfl) hl.1 dX6_all_17 (fun H locs hW => ?_)
    refine lv_if_ne (tgt := 27) hx hb dX6_all_20 (by decide) (fun c5 => ?_) (fun c5 => ?_)
    · have hf := ie_e hf c5
      refine lv_aload_n hx hb dX6_all_27 rfl (lv_at hl 0 rfl) ?_
      refine lv_iload_n hx hb dX6_all_28 rfl (lv_at hl 1 rfl) ?_
      obtain ⟨r6, z6, hf⟩ := bnd_e hf
      refine r_cVlR X hW kM_0 iM_0 rfl (c_X6_allOf l D cA ad hij σ1 a1 r6 z6) gX6_all_X6_allOf rfl ⟨rfl, rfl⟩ hd_X6_allOf ⟨Nat.le_of_ble_eq_true rfl, Nat.le_of_ble_eq_true rfl⟩ rfl (Nat.le_of_ble_eq_true rfl) hl.1 dX6_all_29 (fun H locs hW => ?_)
      refine lv_aload_n hx hb dX6_all_32 rfl (lv_at hl 0 rfl) ?_
      refine get_6_2 X hW kM_0 iM_0 inX6_all_6 (List.mem_of_getElem? (i := 3) rfl) dX6_all_33 ?_
      refine lv_iload_n hx hb dX6_all_36 rfl (lv_at hl 1 rfl) ?_
      obtain ⟨x7, hf⟩ := chk_e hf
      refine r_iald X hW kM_2 iM_2 nM_2 x7 dX6_all_37 ?_
      obtain ⟨r8, z8, hf⟩ := bnd_e hf
      refine r_cSlR X hW (c_X6_nine l D cA ad hij σ1 (σ1.1 2 a1.toNatClampNeg) r8 z8) gX6_all_X6_nine rfl ⟨rfl, rfl⟩ hd_X6_nine ⟨Nat.le_of_ble_eq_true rfl, Nat.le_of_ble_eq_true rfl⟩ rfl (Nat.le_of_ble_eq_true rfl) hl.1 dX6_all_38 (fun H locs hW => ?_)
      refine lv_iload_n hx hb dX6_all_41 rfl (lv_at hl 2 rfl) ?_
      obtain ⟨r9, z9, hf⟩ := bnd_e hf
      refine r_cSlR X hW (c_X6_least l D cA ad hij σ1 r6 r8 a2 r9 z9) gX6_all_X6_least rfl ⟨rfl, rfl⟩ hd_X6_least ⟨Nat.le_of_ble_eq_true rfl, Nat.le_of_ble_eq_true rfl⟩ rfl (Nat.le_of_ble_eq_true rfl) hl.1 dX6_all_42 (fun H locs hW => ?_)
      exact r_lret X hW rfl hf dX6_all_45
    · have hf := it_e hf c5
      refine lv_ldc2 (v := (-1000000001)) hx hb hown (hts _ (List.mem_of_getElem? (i := 2) rfl)) dX6_all_23 ?_
      exact r_lret X hW rfl hf dX6_all_26

abbrev rm_X6_portion : Room := { frames := 2, cells := 0, slots := 0, locals := 48 }
theorem hd_X6_portion : yX6_portion.cls = RX6 ∧ yX6_portion.cls ≠ "java/lang/invoke/MethodHandle" ∧ yX6_portion.cls ≠ "java/lang/invoke/VarHandle" ∧ (parseMethodDescriptor yX6_portion.desc).map (fun d => d.parameters.length) = some 2 := by decide +kernel
theorem inX6_portion_6 : ∀ w ∈ wsX60, w ∈ wsX6_portion := fun _ h => List.mem_cons_of_mem _ (List.mem_append_right _ h)
section S_X6_portion
variable {p : Program} {l : Launch} {e : Env} {s : State} {m : MethodId} {args : Array Value} {below : List Frame} {meth : Method} {c : Code} {D : va_G} {cA : Nat → ClassId} {ad : Nat → Nat} {r : Int32 × St}
end S_X6_portion
noncomputable def f_X6_portion (σ : St) (a1 : Int32) (a2 : Int32) : Option (Int32 × St) := nw (uI σ 0 5 0) fun σ1 => bnd (f_X6_isPot σ1 a1) fun r2 => (if r2 = 0 then some ((-1), σ1) else bnd (f_X6_in a2.toInt64 0 3) fun r4 => (if r4 = 0 then some ((-1), σ1) else bnd (f_X6_portionOf σ1 a1 a2) fun r6 => some (r6, σ1)))
set_option maxHeartbeats 4000000 in
set_option maxRecDepth 100000 in
theorem c_X6_portion (l : Launch) (D : va_G) (cA : Nat → ClassId) (ad : Nat → Nat) (hij : Ij ad SM) (σ : St) (a1 : Int32) (a2 : Int32) (r : Int32 × St) (hf : f_X6_portion σ a1 a2 = some r) : Met l yX6_portion wsX6_portion rm_X6_portion (PC D cA ad SM [.ref (ad 0), .int a1, .int a2] σ) (Qi D cA ad SM r) 0 0 (Aw ad SM) := by
  rw [f_X6_portion] at hf
  refine k_head (own := RX6) (ws := wsX6_portion) (cc := cX6_portion) (nL := 3) (ret := (some .int)) pn_X6 rfl rfl hij (Nat.le_of_ble_eq_true rfl) (fun p e s m below meth c ls X hW hl => ?_)
  have hl : lv_has ls 3 [(0, .ref (ad 0)), (1, .int a1), (2, .int a2)] := hl
  obtain ⟨hx, hb, hml, hown, hts, hr, hlk, hK, hij⟩ := id X
  refine lv_aload_n hx hb dX6_portion_0 rfl (lv_at hl 0 rfl) ?_
  refine lv_iconst (v := 0) hx hb dX6_portion_1 (by decide) ?_
  obtain ⟨σ1, e1, hf⟩ := nw_e hf
  refine put_6_5 X hW kM_0 iM_0 inX6_portion_6 (List.mem_of_getElem? (i := 1) rfl) e1 dX6_portion_2 (fun H locs hW => ?_)
  refine lv_aload_n hx hb dX6_portion_5 rfl (lv_at hl 0 rfl) ?_
  refine lv_iload_n hx hb dX6_portion_6 rfl (lv_at hl 1 rfl) ?_
  obtain ⟨r2, z2, hf⟩ := bnd_e hf
  refine r_cViR X hW kM_0 iM_0 rfl (c_X6_isPot l D cA ad hij σ1 a1 r2 z2) gX6_portion_X6_isPot rfl ⟨rfl, rfl⟩ hd_X6_isPot ⟨Nat.le_of_ble_eq_true rfl, Nat.le_of_ble_eq_true rfl⟩ rfl (Nat.le_of_ble_eq_true rfl) hl.1 dX6_portion_7 (fun H locs hW => ?_)
  refine lv_if_eq (tgt := 34) hx hb dX6_portion_10 (by decide) (fun c3 => ?_) (fun c3 => ?_)
  · have hf := it_e hf c3
    refine lv_iconst (v := (-1)) hx hb dX6_portion_34 (by decide) ?_
    exact r_iret X hW rfl rfl hf dX6_portion_35
  · have hf := ie_e hf c3
    refine lv_iload_n hx hb dX6_portion_13 rfl (lv_at hl 2 rfl) ?_
    refine lv_i2l hx hb dX6_portion_14 rfl ?_
    refine lv_lconst (v := 0) hx hb dX6_portion_15 (by decide) ?_
    refine lv_ldc2 (v := 3) hx hb hown (hts _ (List.mem_of_getElem? (i := 2) rfl)) dX6_portion_16 ?_
    obtain ⟨r4, z4, hf⟩ := bnd_e hf
    refine r_cSiR X hW (c_X6_in l D cA ad hij σ1 a2.toInt64 0 3 r4 z4) gX6_portion_X6_in rfl ⟨rfl, rfl⟩ hd_X6_in ⟨Nat.le_of_ble_eq_true rfl, Nat.le_of_ble_eq_true rfl⟩ rfl (Nat.le_of_ble_eq_true rfl) hl.1 dX6_portion_19 (fun H locs hW => ?_)
    refine lv_if_eq (tgt := 34) hx hb dX6_portion_22 (by decide) (fun c5 => ?_) (fun c5 => ?_)
    · have hf := it_e hf c5
      refine lv_iconst (v := (-1)) hx hb dX6_portion_34 (by decide) ?_
      exact r_iret X hW rfl rfl hf dX6_portion_35
    · have hf := ie_e hf c5
      refine lv_aload_n hx hb dX6_portion_25 rfl (lv_at hl 0 rfl) ?_
      refine lv_iload_n hx hb dX6_portion_26 rfl (lv_at hl 1 rfl) ?_
      refine lv_iload_n hx hb dX6_portion_27 rfl (lv_at hl 2 rfl) ?_
      obtain ⟨r6, z6, hf⟩ := bnd_e hf
      refine r_cViR X hW kM_0 iM_0 rfl (c_X6_portionOf l D cA ad hij σ1 a1 a2 r6 z6) gX6_portion_X6_portionOf rfl ⟨rfl, rfl⟩ hd_X6_portionOf ⟨Nat.le_of_ble_eq_true rfl, Nat.le_of_ble_eq_true rfl⟩ rfl (Nat.le_of_ble_eq_true rfl) hl.1 dX6_portion_28 (fun H locs hW => ?_)
      refine lv_goto (tgt := 35) hx hb dX6_portion_31 (by decide) ?_
      exact r_iret X hW rfl rfl hf dX6_portion_35

abbrev rm_X6_over : Room := { frames := 2, cells := 0, slots := 0, locals := 47 }
theorem hd_X6_over : yX6_over.cls = RX6 ∧ yX6_over.cls ≠ "java/lang/invoke/MethodHandle" ∧ yX6_over.cls ≠ "java/lang/invoke/VarHandle" ∧ (parseMethodDescriptor yX6_over.desc).map (fun d => d.parameters.length) = some 3 := by decide +kernel
theorem inX6_over_6 : ∀ w ∈ wsX60, w ∈ wsX6_over := fun _ h => List.mem_cons_of_mem _ (List.mem_append_right _ h)
section S_X6_over
variable {p : Program} {l : Launch} {e : Env} {s : State} {m : MethodId} {args : Array Value} {below : List Frame} {meth : Method} {c : Code} {D : va_G} {cA : Nat → ClassId} {ad : Nat → Nat} {r : Int32 × St}
end S_X6_over
noncomputable def f_X6_over (σ : St) (a1 : Int32) (a2 : Int32) (a3 : Int32) : Option (Int32 × St) := nw (uI σ 0 5 0) fun σ1 => bnd (f_X6_isPot σ1 a1) fun r2 => (if r2 = 0 then some ((-1), σ1) else bnd (f_X6_in a2.toInt64 0 3) fun r4 => (if r4 = 0 then some ((-1), σ1) else bnd (f_X6_in a3.toInt64 0 100) fun r6 => (if r6 = 0 then some ((-1), σ1) else bnd (f_X6_isOver σ1 a1 a2 a3) fun r8 => (if r8 = 0 then some (0, σ1) else some (1, σ1)))))
set_option maxHeartbeats 4000000 in
set_option maxRecDepth 100000 in
theorem c_X6_over (l : Launch) (D : va_G) (cA : Nat → ClassId) (ad : Nat → Nat) (hij : Ij ad SM) (σ : St) (a1 : Int32) (a2 : Int32) (a3 : Int32) (r : Int32 × St) (hf : f_X6_over σ a1 a2 a3 = some r) : Met l yX6_over wsX6_over rm_X6_over (PC D cA ad SM [.ref (ad 0), .int a1, .int a2, .int a3] σ) (Qi D cA ad SM r) 0 0 (Aw ad SM) := by
  rw [f_X6_over] at hf
  refine k_head (own := RX6) (ws := wsX6_over) (cc := cX6_over) (nL := 4) (ret := (some .int)) pn_X6 rfl rfl hij (Nat.le_of_ble_eq_true rfl) (fun p e s m below meth c ls X hW hl => ?_)
  have hl : lv_has ls 4 [(0, .ref (ad 0)), (1, .int a1), (2, .int a2), (3, .int a3)] := hl
  obtain ⟨hx, hb, hml, hown, hts, hr, hlk, hK, hij⟩ := id X
  refine lv_aload_n hx hb dX6_over_0 rfl (lv_at hl 0 rfl) ?_
  refine lv_iconst (v := 0) hx hb dX6_over_1 (by decide) ?_
  obtain ⟨σ1, e1, hf⟩ := nw_e hf
  refine put_6_5 X hW kM_0 iM_0 inX6_over_6 (List.mem_of_getElem? (i := 1) rfl) e1 dX6_over_2 (fun H locs hW => ?_)
  refine lv_aload_n hx hb dX6_over_5 rfl (lv_at hl 0 rfl) ?_
  refine lv_iload_n hx hb dX6_over_6 rfl (lv_at hl 1 rfl) ?_
  obtain ⟨r2, z2, hf⟩ := bnd_e hf
  refine r_cViR X hW kM_0 iM_0 rfl (c_X6_isPot l D cA ad hij σ1 a1 r2 z2) gX6_over_X6_isPot rfl ⟨rfl, rfl⟩ hd_X6_isPot ⟨Nat.le_of_ble_eq_true rfl, Nat.le_of_ble_eq_true rfl⟩ rfl (Nat.le_of_ble_eq_true rfl) hl.1 dX6_over_7 (fun H locs hW => ?_)
  refine lv_if_eq (tgt := 37) hx hb dX6_over_10 (by decide) (fun c3 => ?_) (fun c3 => ?_)
  · have hf := it_e hf c3
    refine lv_iconst (v := (-1)) hx hb dX6_over_37 (by decide) ?_
    exact r_iret X hW rfl rfl hf dX6_over_38
  · have hf := ie_e hf c3
    refine lv_iload_n hx hb dX6_over_13 rfl (lv_at hl 2 rfl) ?_
    refine lv_i2l hx hb dX6_over_14 rfl ?_
    refine lv_lconst (v := 0) hx hb dX6_over_15 (by decide) ?_
    refine lv_ldc2 (v := 3) hx hb hown (hts _ (List.mem_of_getElem? (i := 2) rfl)) dX6_over_16 ?_
    obtain ⟨r4, z4, hf⟩ := bnd_e hf
    refine r_cSiR X hW (c_X6_in l D cA ad hij σ1 a2.toInt64 0 3 r4 z4) gX6_over_X6_in rfl ⟨rfl, rfl⟩ hd_X6_in ⟨Nat.le_of_ble_eq_true rfl, Nat.le_of_ble_eq_true rfl⟩ rfl (Nat.le_of_ble_eq_true rfl) hl.1 dX6_over_19 (fun H locs hW => ?_)
    refine lv_if_eq (tgt := 37) hx hb dX6_over_22 (by decide) (fun c5 => ?_) (fun c5 => ?_)
    · have hf := it_e hf c5
      refine lv_iconst (v := (-1)) hx hb dX6_over_37 (by decide) ?_
      exact r_iret X hW rfl rfl hf dX6_over_38
    · have hf := ie_e hf c5
      refine lv_iload_n hx hb dX6_over_25 rfl (lv_at hl 3 rfl) ?_
      refine lv_i2l hx hb dX6_over_26 rfl ?_
      refine lv_lconst (v := 0) hx hb dX6_over_27 (by decide) ?_
      refine lv_ldc2 (v := 100) hx hb hown (hts _ (List.mem_of_getElem? (i := 3) rfl)) dX6_over_28 ?_
      obtain ⟨r6, z6, hf⟩ := bnd_e hf
      refine r_cSiR X hW (c_X6_in l D cA ad hij σ1 a3.toInt64 0 100 r6 z6) gX6_over_X6_in rfl ⟨rfl, rfl⟩ hd_X6_in ⟨Nat.le_of_ble_eq_true rfl, Nat.le_of_ble_eq_true rfl⟩ rfl (Nat.le_of_ble_eq_true rfl) hl.1 dX6_over_31 (fun H locs hW => ?_)
      refine lv_if_ne (tgt := 39) hx hb dX6_over_34 (by decide) (fun c7 => ?_) (fun c7 => ?_)
      · have hf := ie_e hf c7
        refine lv_aload_n hx hb dX6_over_39 rfl (lv_at hl 0 rfl) ?_
        refine lv_iload_n hx hb dX6_over_40 rfl (lv_at hl 1 rfl) ?_
        refine lv_iload_n hx hb dX6_over_41 rfl (lv_at hl 2 rfl) ?_
        refine lv_iload_n hx hb dX6_over_42 rfl (lv_at hl 3 rfl) ?_
        obtain ⟨r8, z8, hf⟩ := bnd_e hf
        refine r_cViR X hW kM_0 iM_0 rfl (c_X6_isOver l D cA ad hij σ1 a1 a2 a3 r8 z8) gX6_over_X6_isOver rfl ⟨rfl, rfl⟩ hd_X6_isOver ⟨Nat.le_of_ble_eq_true rfl, Nat.le_of_ble_eq_true rfl⟩ rfl (Nat.le_of_ble_eq_true rfl) hl.1 dX6_over_43 (fun H locs hW => ?_)
        refine lv_if_eq (tgt := 53) hx hb dX6_over_46 (by decide) (fun c9 => ?_) (fun c9 => ?_)
        · have hf := it_e hf c9
          refine lv_iconst (v := 0) hx hb dX6_over_53 (by decide) ?_
          exact r_iret X hW rfl rfl hf dX6_over_54
        · have hf := ie_e hf c9
          refine lv_iconst (v := 1) hx hb dX6_over_49 (by decide) ?_
          refine lv_goto (tgt := 54) hx hb dX6_over_50 (by decide) ?_
          exact r_iret X hW rfl rfl hf dX6_over_54
      · have hf := it_e hf c7
        refine lv_iconst (v := (-1)) hx hb dX6_over_37 (by decide) ?_
        exact r_iret X hW rfl rfl hf dX6_over_38

abbrev rm_X6_partOf : Room := { frames := 1, cells := 0, slots := 0, locals := 20 }
theorem hd_X6_partOf : yX6_partOf.cls = RX6 ∧ yX6_partOf.cls ≠ "java/lang/invoke/MethodHandle" ∧ yX6_partOf.cls ≠ "java/lang/invoke/VarHandle" ∧ (parseMethodDescriptor yX6_partOf.desc).map (fun d => d.parameters.length) = some 2 := by decide +kernel
theorem inX6_partOf_6 : ∀ w ∈ wsX60, w ∈ wsX6_partOf := fun _ h => List.mem_cons_of_mem _ (List.mem_append_right _ h)
section S_X6_partOf
variable {p : Program} {l : Launch} {e : Env} {s : State} {m : MethodId} {args : Array Value} {below : List Frame} {meth : Method} {c : Code} {D : va_G} {cA : Nat → ClassId} {ad : Nat → Nat} {r : Int64}
noncomputable def f_X6_partOf_5 (σ : St) (k45 : Int64 → Option (Int64)) : Nat → Int32 → Int32 → Int64 → Int32 → Option (Int64)
  | 0, _, _, _, _ => none
  | n + 1, v1, v2, v3, v5 => (if v2 ≤ v5 then k45 v3 else chk (inb v1 7) <| chk (inb ((((12 * v1) + (σ.1 2 v1.toNatClampNeg)) - 1) - v5) 84) <| bnd (f_X6_keepsOf (σ.1 3 ((((12 * v1) + (σ.1 2 v1.toNatClampNeg)) - 1) - v5).toNatClampNeg)) fun r4 => nw (v3 * r4.toInt64 : Int64) fun v105 => nw (v5 + 1 : Int32) fun v106 => f_X6_partOf_5 σ k45 n v1 v2 v105 v106)
set_option maxHeartbeats 4000000 in
set_option maxRecDepth 100000 in
theorem b_X6_partOf_5 {σ : St} {k45 : Int64 → Option (Int64)} (X : Cx RX6 wsX6_partOf cX6_partOf 6 (some .long) D cA ad SM p s m args meth c) (h45 : ∀ (w0 : Int64) (H : Heap) (locs : List Loc) (ls : Array Slot), k45 w0 = some r → Rn D cA ad SM s.heap σ H locs → lv_has ls 6 [(3, .long w0)] → W p l e rm_X6_partOf s m args below meth c H locs 0 0 (MQ below (Ql D cA ad SM (r, σ)) args s 0 0 (Aw ad SM)) (F0 m 45 ls [])) : ∀ (n : Nat) (v1 : Int32) (v2 : Int32) (v3 : Int64) (v5 : Int32) (H : Heap) (locs : List Loc) (ls : Array Slot), f_X6_partOf_5 σ k45 n v1 v2 v3 v5 = some r → Rn D cA ad SM s.heap σ H locs → lv_has ls 6 [(0, .ref (ad 0)), (1, .int v1), (2, .int v2), (3, .long v3), (5, .int v5)] → W p l e rm_X6_partOf s m args below meth c H locs 0 0 (MQ below (Ql D cA ad SM (r, σ)) args s 0 0 (Aw ad SM)) (F0 m 5 ls []) := by
  obtain ⟨hx, hb, hml, hown, hts, hr, hlk, hK, hij⟩ := id X
  intro n
  induction n with
  | zero =>
    intro v1 v2 v3 v5 H locs ls hf
    exact nomatch (show (none : Option (Int64)) = some r from hf)
  | succ n ih =>
    intro v1 v2 v3 v5 H locs ls hf hW hl
    rw [f_X6_partOf_5] at hf
    refine lv_iload hx hb dX6_partOf_5 (lv_at hl 4 rfl) ?_
    refine lv_iload_n hx hb dX6_partOf_7 rfl (lv_at hl 2 rfl) ?_
    refine lv_icmp_ge (tgt := 45) hx hb dX6_partOf_8 (by decide) (fun c1 => ?_) (fun c1 => ?_)
    · have hf := it_e hf c1
      exact h45 v3 _ _ _ hf hW (lv_sub hl [3] rfl)
    · have hf := ie_e hf c1
      refine lv_lload_n hx hb dX6_partOf_11 rfl (lv_at hl 3 rfl) ?_
      refine lv_aload_n hx hb dX6_partOf_12 rfl (lv_at hl 0 rfl) ?_
      refine get_6_3 X hW kM_0 iM_0 inX6_partOf_6 (List.mem_of_getElem? (i := 1) rfl) dX6_partOf_13 ?_
      refine lv_bipush (v := 12) hx hb dX6_partOf_16 (by decide) ?_
      refine lv_iload_n hx hb dX6_partOf_18 rfl (lv_at hl 1 rfl) ?_
      refine lv_imul hx hb dX6_partOf_19 ?_
      refine lv_aload_n hx hb dX6_partOf_20 rfl (lv_at hl 0 rfl) ?_
      refine get_6_2 X hW kM_0 iM_0 inX6_partOf_6 (List.mem_of_getElem? (i := 2) rfl) dX6_partOf_21 ?_
      refine lv_iload_n hx hb dX6_partOf_24 rfl (lv_at hl 1 rfl) ?_
      obtain ⟨x2, hf⟩ := chk_e hf
      refine r_iald X hW kM_2 iM_2 nM_2 x2 dX6_partOf_25 ?_
      refine lv_iadd hx hb dX6_partOf_26 ?_
      refine lv_iconst (v := 1) hx hb dX6_partOf_27 (by decide) ?_
      refine lv_isub hx hb dX6_partOf_28 ?_
      refine lv_iload hx hb dX6_partOf_29 (lv_at hl 4 rfl) ?_
      refine lv_isub hx hb dX6_partOf_31 ?_
      obtain ⟨x3, hf⟩ := chk_e hf
      refine r_iald X hW kM_3 iM_3 nM_3 x3 dX6_partOf_32 ?_
      obtain ⟨r4, z4, hf⟩ := bnd_e hf
      refine r_cSiR X hW (c_X6_keepsOf l D cA ad hij σ (σ.1 3 ((((12 * v1) + (σ.1 2 v1.toNatClampNeg)) - 1) - v5).toNatClampNeg) r4 z4) gX6_partOf_X6_keepsOf rfl ⟨rfl, rfl⟩ hd_X6_keepsOf ⟨Nat.le_of_ble_eq_true rfl, Nat.le_of_ble_eq_true rfl⟩ rfl (Nat.le_of_ble_eq_true rfl) hl.1 dX6_partOf_33 (fun H locs hW => ?_)
      refine lv_i2l hx hb dX6_partOf_36 rfl ?_
      refine lv_lmul hx hb dX6_partOf_37 ?_
      obtain ⟨v105, e5, hf⟩ := nw_e hf
      refine tL _ e5 ?_
      refine lv_lstore_n (lv' := [(3, .long v105), (0, .ref (ad 0)), (1, .int v1), (2, .int v2), (5, .int v5)]) hx hb dX6_partOf_38 rfl hl (by decide) rfl (fun ls hl => ?_)
      obtain ⟨v106, e6, hf⟩ := nw_e hf
      refine lv_iinc (v := v106) (lv' := [(5, .int v106), (3, .long v105), (0, .ref (ad 0)), (1, .int v1), (2, .int v2)]) hx hb dX6_partOf_39 hl (k := 4) rfl (by rw [e6]; rfl) (by decide) rfl (fun ls hl => ?_)
      refine lv_goto (tgt := 5) hx hb dX6_partOf_42 (by decide) ?_
      exact ih v1 v2 v105 v106 _ _ _ hf hW (lv_sub hl [2, 3, 4, 1, 0] rfl)
end S_X6_partOf
noncomputable def f_X6_partOf (σ : St) (a1 : Int32) (a2 : Int32) : Option (Int64) := f_X6_partOf_5 σ (fun (w7_0 : Int64) => some w7_0) fu a1 a2 1 0
set_option maxHeartbeats 4000000 in
set_option maxRecDepth 100000 in
theorem c_X6_partOf (l : Launch) (D : va_G) (cA : Nat → ClassId) (ad : Nat → Nat) (hij : Ij ad SM) (σ : St) (a1 : Int32) (a2 : Int32) (r : Int64) (hf : f_X6_partOf σ a1 a2 = some r) : Met l yX6_partOf wsX6_partOf rm_X6_partOf (PC D cA ad SM [.ref (ad 0), .int a1, .int a2] σ) (Ql D cA ad SM (r, σ)) 0 0 (Aw ad SM) := by
  rw [f_X6_partOf] at hf
  refine k_head (own := RX6) (ws := wsX6_partOf) (cc := cX6_partOf) (nL := 6) (ret := (some .long)) pn_X6 rfl rfl hij (Nat.le_of_ble_eq_true rfl) (fun p e s m below meth c ls X hW hl => ?_)
  have hl : lv_has ls 6 [(0, .ref (ad 0)), (1, .int a1), (2, .int a2)] := hl
  obtain ⟨hx, hb, hml, hown, hts, hr, hlk, hK, hij⟩ := id X
  refine lv_lconst (v := 1) hx hb dX6_partOf_0 (by decide) ?_
  refine lv_lstore_n (lv' := [(3, .long 1), (0, .ref (ad 0)), (1, .int a1), (2, .int a2)]) hx hb dX6_partOf_1 rfl hl (by decide) rfl (fun ls hl => ?_)
  refine lv_iconst (v := 0) hx hb dX6_partOf_2 (by decide) ?_
  refine lv_istore (lv' := [(5, .int 0), (3, .long 1), (0, .ref (ad 0)), (1, .int a1), (2, .int a2)]) hx hb dX6_partOf_3 hl (by decide) rfl (fun ls hl => ?_)
  refine b_X6_partOf_5 X (fun w7_0 H locs ls hf hW hl => ?_) fu a1 a2 1 0 _ _ _ hf hW (lv_sub hl [2, 3, 4, 1, 0] rfl)
  · refine lv_lload_n hx hb dX6_partOf_45 rfl (lv_at hl 0 rfl) ?_
    exact r_lretR X hW rfl hf dX6_partOf_46

abbrev rm_X6_part : Room := { frames := 2, cells := 0, slots := 0, locals := 46 }
theorem hd_X6_part : yX6_part.cls = RX6 ∧ yX6_part.cls ≠ "java/lang/invoke/MethodHandle" ∧ yX6_part.cls ≠ "java/lang/invoke/VarHandle" ∧ (parseMethodDescriptor yX6_part.desc).map (fun d => d.parameters.length) = some 3 := by decide +kernel
theorem inX6_part_6 : ∀ w ∈ wsX60, w ∈ wsX6_part := fun _ h => List.mem_cons_of_mem _ (List.mem_append_right _ h)
section S_X6_part
variable {p : Program} {l : Launch} {e : Env} {s : State} {m : MethodId} {args : Array Value} {below : List Frame} {meth : Method} {c : Code} {D : va_G} {cA : Nat → ClassId} {ad : Nat → Nat} {r : Int64 × St}
end S_X6_part
noncomputable def f_X6_part (σ : St) (a1 : Int32) (a2 : Int32) (a3 : Int32) : Option (Int64 × St) := nw (uI σ 0 5 0) fun σ1 => bnd (f_X6_isPot σ1 a1) fun r2 => (if r2 = 0 then some ((-1000000001), σ1) else chk (inb a1 7) <| bnd (f_X6_in a2.toInt64 0 (((σ1.1 2 a1.toNatClampNeg) - 1).toInt64)) fun r5 => (if r5 = 0 then some ((-1000000001), σ1) else bnd (f_X6_in a3.toInt64 0 1) fun r7 => (if r7 = 0 then some ((-1000000001), σ1) else bnd (f_X6_partOf σ1 a1 a2) fun r9 => bnd (f_X6_nine a2) fun r10 => bnd (f_X6_least r9 r10 a3) fun r11 => some (r11, σ1))))
set_option maxHeartbeats 4000000 in
set_option maxRecDepth 100000 in
theorem c_X6_part (l : Launch) (D : va_G) (cA : Nat → ClassId) (ad : Nat → Nat) (hij : Ij ad SM) (σ : St) (a1 : Int32) (a2 : Int32) (a3 : Int32) (r : Int64 × St) (hf : f_X6_part σ a1 a2 a3 = some r) : Met l yX6_part wsX6_part rm_X6_part (PC D cA ad SM [.ref (ad 0), .int a1, .int a2, .int a3] σ) (Ql D cA ad SM r) 0 0 (Aw ad SM) := by
  rw [f_X6_part] at hf
  refine k_head (own := RX6) (ws := wsX6_part) (cc := cX6_part) (nL := 4) (ret := (some .long)) pn_X6 rfl rfl hij (Nat.le_of_ble_eq_true rfl) (fun p e s m below meth c ls X hW hl => ?_)
  have hl : lv_has ls 4 [(0, .ref (ad 0)), (1, .int a1), (2, .int a2), (3, .int a3)] := hl
  obtain ⟨hx, hb, hml, hown, hts, hr, hlk, hK, hij⟩ := id X
  refine lv_aload_n hx hb dX6_part_0 rfl (lv_at hl 0 rfl) ?_
  refine lv_iconst (v := 0) hx hb dX6_part_1 (by decide) ?_
  obtain ⟨σ1, e1, hf⟩ := nw_e hf
  refine put_6_5 X hW kM_0 iM_0 inX6_part_6 (List.mem_of_getElem? (i := 1) rfl) e1 dX6_part_2 (fun H locs hW => ?_)
  refine lv_aload_n hx hb dX6_part_5 rfl (lv_at hl 0 rfl) ?_
  refine lv_iload_n hx hb dX6_part_6 rfl (lv_at hl 1 rfl) ?_
  obtain ⟨r2, z2, hf⟩ := bnd_e hf
  refine r_cViR X hW kM_0 iM_0 rfl (c_X6_isPot l D cA ad hij σ1 a1 r2 z2) gX6_part_X6_isPot rfl ⟨rfl, rfl⟩ hd_X6_isPot ⟨Nat.le_of_ble_eq_true rfl, Nat.le_of_ble_eq_true rfl⟩ rfl (Nat.le_of_ble_eq_true rfl) hl.1 dX6_part_7 (fun H locs hW => ?_)
  refine lv_if_eq (tgt := 41) hx hb dX6_part_10 (by decide) (fun c3 => ?_) (fun c3 => ?_)
  · have hf := it_e hf c3
    refine lv_ldc2 (v := (-1000000001)) hx hb hown (hts _ (List.mem_of_getElem? (i := 3) rfl)) dX6_part_41 ?_
    exact r_lret X hW rfl hf dX6_part_44
  · have hf := ie_e hf c3
    refine lv_iload_n hx hb dX6_part_13 rfl (lv_at hl 2 rfl) ?_
    refine lv_i2l hx hb dX6_part_14 rfl ?_
    refine lv_lconst (v := 0) hx hb dX6_part_15 (by decide) ?_
    refine lv_aload_n hx hb dX6_part_16 rfl (lv_at hl 0 rfl) ?_
    refine get_6_2 X hW kM_0 iM_0 inX6_part_6 (List.mem_of_getElem? (i := 2) rfl) dX6_part_17 ?_
    refine lv_iload_n hx hb dX6_part_20 rfl (lv_at hl 1 rfl) ?_
    obtain ⟨x4, hf⟩ := chk_e hf
    refine r_iald X hW kM_2 iM_2 nM_2 x4 dX6_part_21 ?_
    refine lv_iconst (v := 1) hx hb dX6_part_22 (by decide) ?_
    refine lv_isub hx hb dX6_part_23 ?_
    refine lv_i2l hx hb dX6_part_24 rfl ?_
    obtain ⟨r5, z5, hf⟩ := bnd_e hf
    refine r_cSiR X hW (c_X6_in l D cA ad hij σ1 a2.toInt64 0 (((σ1.1 2 a1.toNatClampNeg) - 1).toInt64) r5 z5) gX6_part_X6_in rfl ⟨rfl, rfl⟩ hd_X6_in ⟨Nat.le_of_ble_eq_true rfl, Nat.le_of_ble_eq_true rfl⟩ rfl (Nat.le_of_ble_eq_true rfl) hl.1 dX6_part_25 (fun H locs hW => ?_)
    refine lv_if_eq (tgt := 41) hx hb dX6_part_28 (by decide) (fun c6 => ?_) (fun c6 => ?_)
    · have hf := it_e hf c6
      refine lv_ldc2 (v := (-1000000001)) hx hb hown (hts _ (List.mem_of_getElem? (i := 3) rfl)) dX6_part_41 ?_
      exact r_lret X hW rfl hf dX6_part_44
    · have hf := ie_e hf c6
      refine lv_iload_n hx hb dX6_part_31 rfl (lv_at hl 3 rfl) ?_
      refine lv_i2l hx hb dX6_part_32 rfl ?_
      refine lv_lconst (v := 0) hx hb dX6_part_33 (by decide) ?_
      refine lv_lconst (v := 1) hx hb dX6_part_34 (by decide) ?_
      obtain ⟨r7, z7, hf⟩ := bnd_e hf
      refine r_cSiR X hW (c_X6_in l D cA ad hij σ1 a3.toInt64 0 1 r7 z7) gX6_part_X6_in rfl ⟨rfl, rfl⟩ hd_X6_in ⟨Nat.le_of_ble_eq_true rfl, Nat.le_of_ble_eq_true rfl⟩ rfl (Nat.le_of_ble_eq_true rfl) hl.1 dX6_part_35 (fun H locs hW => ?_)
      refine lv_if_ne (tgt := 45) hx hb dX6_part_38 (by decide) (fun c8 => ?_) (fun c8 => ?_)
      · have hf := ie_e hf c8
        refine lv_aload_n hx hb dX6_part_45 rfl (lv_at hl 0 rfl) ?_
        refine lv_iload_n hx hb dX6_part_46 rfl (lv_at hl 1 rfl) ?_
        refine lv_iload_n hx hb dX6_part_47 rfl (lv_at hl 2 rfl) ?_
        obtain ⟨r9, z9, hf⟩ := bnd_e hf
        refine r_cVlR X hW kM_0 iM_0 rfl (c_X6_partOf l D cA ad hij σ1 a1 a2 r9 z9) gX6_part_X6_partOf rfl ⟨rfl, rfl⟩ hd_X6_partOf ⟨Nat.le_of_ble_eq_true rfl, Nat.le_of_ble_eq_true rfl⟩ rfl (Nat.le_of_ble_eq_true rfl) hl.1 dX6_part_48 (fun H locs hW => ?_)
        refine lv_iload_n hx hb dX6_part_51 rfl (lv_at hl 2 rfl) ?_
        obtain ⟨r10, z10, hf⟩ := bnd_e hf
        refine r_cSlR X hW (c_X6_nine l D cA ad hij σ1 a2 r10 z10) gX6_part_X6_nine rfl ⟨rfl, rfl⟩ hd_X6_nine ⟨Nat.le_of_ble_eq_true rfl, Nat.le_of_ble_eq_true rfl⟩ rfl (Nat.le_of_ble_eq_true rfl) hl.1 dX6_part_52 (fun H locs hW => ?_)
        refine lv_iload_n hx hb dX6_part_55 rfl (lv_at hl 3 rfl) ?_
        obtain ⟨r11, z11, hf⟩ := bnd_e hf
        refine r_cSlR X hW (c_X6_least l D cA ad hij σ1 r9 r10 a3 r11 z11) gX6_part_X6_least rfl ⟨rfl, rfl⟩ hd_X6_least ⟨Nat.le_of_ble_eq_true rfl, Nat.le_of_ble_eq_true rfl⟩ rfl (Nat.le_of_ble_eq_true rfl) hl.1 dX6_part_56 (fun H locs hW => ?_)
        exact r_lret X hW rfl hf dX6_part_59
      · have hf := it_e hf c8
        refine lv_ldc2 (v := (-1000000001)) hx hb hown (hts _ (List.mem_of_getElem? (i := 3) rfl)) dX6_part_41 ?_
        exact r_lret X hW rfl hf dX6_part_44

abbrev rm_X6_back : Room := { frames := 2, cells := 0, slots := 0, locals := 46 }
theorem hd_X6_back : yX6_back.cls = RX6 ∧ yX6_back.cls ≠ "java/lang/invoke/MethodHandle" ∧ yX6_back.cls ≠ "java/lang/invoke/VarHandle" ∧ (parseMethodDescriptor yX6_back.desc).map (fun d => d.parameters.length) = some 2 := by decide +kernel
theorem inX6_back_6 : ∀ w ∈ wsX60, w ∈ wsX6_back := fun _ h => List.mem_cons_of_mem _ (List.mem_append_right _ h)
section S_X6_back
variable {p : Program} {l : Launch} {e : Env} {s : State} {m : MethodId} {args : Array Value} {below : List Frame} {meth : Method} {c : Code} {D : va_G} {cA : Nat → ClassId} {ad : Nat → Nat} {r : Int32 × St}
noncomputable def f_X6_back_29 (k66 : Int32 → St → Option (Int32 × St)) : Nat → Int32 → Int32 → Int32 → St → Option (Int32 × St)
  | 0, _, _, _, _ => none
  | n + 1, v1, v2, v3, σ => chk (inb v1 7) <| (if (σ.1 2 v1.toNatClampNeg) ≤ v3 then k66 v3 σ else bnd (f_X6_partOf σ v1 v3) fun r8 => bnd (f_X6_nine v3) fun r9 => (if (lg_cmp (100 * r8) (v2.toInt64 * r9)) < 0 then k66 v3 σ else nw (v3 + 1 : Int32) fun v111 => f_X6_back_29 k66 n v1 v2 v111 σ))
set_option maxHeartbeats 4000000 in
set_option maxRecDepth 100000 in
theorem b_X6_back_29 {k66 : Int32 → St → Option (Int32 × St)} (X : Cx RX6 wsX6_back cX6_back 4 (some .int) D cA ad SM p s m args meth c) (h66 : ∀ (w0 : Int32) (σ : St) (H : Heap) (locs : List Loc) (ls : Array Slot), k66 w0 σ = some r → Rn D cA ad SM s.heap σ H locs → lv_has ls 4 [(3, .int w0)] → W p l e rm_X6_back s m args below meth c H locs 0 0 (MQ below (Qi D cA ad SM r) args s 0 0 (Aw ad SM)) (F0 m 66 ls [])) : ∀ (n : Nat) (v1 : Int32) (v2 : Int32) (v3 : Int32) (σ : St) (H : Heap) (locs : List Loc) (ls : Array Slot), f_X6_back_29 k66 n v1 v2 v3 σ = some r → Rn D cA ad SM s.heap σ H locs → lv_has ls 4 [(0, .ref (ad 0)), (1, .int v1), (2, .int v2), (3, .int v3)] → W p l e rm_X6_back s m args below meth c H locs 0 0 (MQ below (Qi D cA ad SM r) args s 0 0 (Aw ad SM)) (F0 m 29 ls []) := by
  obtain ⟨hx, hb, hml, hown, hts, hr, hlk, hK, hij⟩ := id X
  intro n
  induction n with
  | zero =>
    intro v1 v2 v3 σ H locs ls hf
    exact nomatch (show (none : Option (Int32 × St)) = some r from hf)
  | succ n ih =>
    intro v1 v2 v3 σ H locs ls hf hW hl
    rw [f_X6_back_29] at hf
    refine lv_iload_n hx hb dX6_back_29 rfl (lv_at hl 3 rfl) ?_
    refine lv_aload_n hx hb dX6_back_30 rfl (lv_at hl 0 rfl) ?_
    refine get_6_2 X hW kM_0 iM_0 inX6_back_6 (List.mem_of_getElem? (i := 3) rfl) dX6_back_31 ?_
    refine lv_iload_n hx hb dX6_back_34 rfl (lv_at hl 1 rfl) ?_
    obtain ⟨x6, hf⟩ := chk_e hf
    refine r_iald X hW kM_2 iM_2 nM_2 x6 dX6_back_35 ?_
    refine lv_icmp_ge (tgt := 66) hx hb dX6_back_36 (by decide) (fun c7 => ?_) (fun c7 => ?_)
    · have hf := it_e hf c7
      exact h66 v3 σ _ _ _ hf hW (lv_sub hl [3] rfl)
    · have hf := ie_e hf c7
      refine lv_ldc2 (v := 100) hx hb hown (hts _ (List.mem_of_getElem? (i := 2) rfl)) dX6_back_39 ?_
      refine lv_aload_n hx hb dX6_back_42 rfl (lv_at hl 0 rfl) ?_
      refine lv_iload_n hx hb dX6_back_43 rfl (lv_at hl 1 rfl) ?_
      refine lv_iload_n hx hb dX6_back_44 rfl (lv_at hl 3 rfl) ?_
      obtain ⟨r8, z8, hf⟩ := bnd_e hf
      refine r_cVlR X hW kM_0 iM_0 rfl (c_X6_partOf l D cA ad hij σ v1 v3 r8 z8) gX6_back_X6_partOf rfl ⟨rfl, rfl⟩ hd_X6_partOf ⟨Nat.le_of_ble_eq_true rfl, Nat.le_of_ble_eq_true rfl⟩ rfl (Nat.le_of_ble_eq_true rfl) hl.1 dX6_back_45 (fun H locs hW => ?_)
      refine lv_lmul hx hb dX6_back_48 ?_
      refine lv_iload_n hx hb dX6_back_49 rfl (lv_at hl 2 rfl) ?_
      refine lv_i2l hx hb dX6_back_50 rfl ?_
      refine lv_iload_n hx hb dX6_back_51 rfl (lv_at hl 3 rfl) ?_
      obtain ⟨r9, z9, hf⟩ := bnd_e hf
      refine r_cSlR X hW (c_X6_nine l D cA ad hij σ v3 r9 z9) gX6_back_X6_nine rfl ⟨rfl, rfl⟩ hd_X6_nine ⟨Nat.le_of_ble_eq_true rfl, Nat.le_of_ble_eq_true rfl⟩ rfl (Nat.le_of_ble_eq_true rfl) hl.1 dX6_back_52 (fun H locs hW => ?_)
      refine lv_lmul hx hb dX6_back_55 ?_
      refine W.lcmp hx hb dX6_back_56 ?_
      refine lv_if_lt (tgt := 66) hx hb dX6_back_57 (by decide) (fun c10 => ?_) (fun c10 => ?_)
      · have hf := it_e hf c10
        exact h66 v3 σ _ _ _ hf hW (lv_sub hl [3] rfl)
      · have hf := ie_e hf c10
        obtain ⟨v111, e11, hf⟩ := nw_e hf
        refine lv_iinc (v := v111) (lv' := [(3, .int v111), (0, .ref (ad 0)), (1, .int v1), (2, .int v2)]) hx hb dX6_back_60 hl (k := 3) rfl (by rw [e11]; rfl) (by decide) rfl (fun ls hl => ?_)
        refine lv_goto (tgt := 29) hx hb dX6_back_63 (by decide) ?_
        exact ih v1 v2 v111 σ _ _ _ hf hW (lv_sub hl [1, 2, 3, 0] rfl)
end S_X6_back
noncomputable def f_X6_back (σ : St) (a1 : Int32) (a2 : Int32) : Option (Int32 × St) := nw (uI σ 0 5 0) fun σ1 => bnd (f_X6_isPot σ1 a1) fun r2 => (if r2 = 0 then some ((-1), σ1) else bnd (f_X6_in a2.toInt64 1 100) fun r4 => (if r4 = 0 then some ((-1), σ1) else f_X6_back_29 (fun (w12_0 : Int32) (σ13 : St) => some (w12_0, σ13)) fu a1 a2 0 σ1))
set_option maxHeartbeats 4000000 in
set_option maxRecDepth 100000 in
theorem c_X6_back (l : Launch) (D : va_G) (cA : Nat → ClassId) (ad : Nat → Nat) (hij : Ij ad SM) (σ : St) (a1 : Int32) (a2 : Int32) (r : Int32 × St) (hf : f_X6_back σ a1 a2 = some r) : Met l yX6_back wsX6_back rm_X6_back (PC D cA ad SM [.ref (ad 0), .int a1, .int a2] σ) (Qi D cA ad SM r) 0 0 (Aw ad SM) := by
  rw [f_X6_back] at hf
  refine k_head (own := RX6) (ws := wsX6_back) (cc := cX6_back) (nL := 4) (ret := (some .int)) pn_X6 rfl rfl hij (Nat.le_of_ble_eq_true rfl) (fun p e s m below meth c ls X hW hl => ?_)
  have hl : lv_has ls 4 [(0, .ref (ad 0)), (1, .int a1), (2, .int a2)] := hl
  obtain ⟨hx, hb, hml, hown, hts, hr, hlk, hK, hij⟩ := id X
  refine lv_aload_n hx hb dX6_back_0 rfl (lv_at hl 0 rfl) ?_
  refine lv_iconst (v := 0) hx hb dX6_back_1 (by decide) ?_
  obtain ⟨σ1, e1, hf⟩ := nw_e hf
  refine put_6_5 X hW kM_0 iM_0 inX6_back_6 (List.mem_of_getElem? (i := 1) rfl) e1 dX6_back_2 (fun H locs hW => ?_)
  refine lv_aload_n hx hb dX6_back_5 rfl (lv_at hl 0 rfl) ?_
  refine lv_iload_n hx hb dX6_back_6 rfl (lv_at hl 1 rfl) ?_
  obtain ⟨r2, z2, hf⟩ := bnd_e hf
  refine r_cViR X hW kM_0 iM_0 rfl (c_X6_isPot l D cA ad hij σ1 a1 r2 z2) gX6_back_X6_isPot rfl ⟨rfl, rfl⟩ hd_X6_isPot ⟨Nat.le_of_ble_eq_true rfl, Nat.le_of_ble_eq_true rfl⟩ rfl (Nat.le_of_ble_eq_true rfl) hl.1 dX6_back_7 (fun H locs hW => ?_)
  refine lv_if_eq (tgt := 25) hx hb dX6_back_10 (by decide) (fun c3 => ?_) (fun c3 => ?_)
  · have hf := it_e hf c3
    refine lv_iconst (v := (-1)) hx hb dX6_back_25 (by decide) ?_
    exact r_iret X hW rfl rfl hf dX6_back_26
  · have hf := ie_e hf c3
    refine lv_iload_n hx hb dX6_back_13 rfl (lv_at hl 2 rfl) ?_
    refine lv_i2l hx hb dX6_back_14 rfl ?_
    refine lv_lconst (v := 1) hx hb dX6_back_15 (by decide) ?_
    refine lv_ldc2 (v := 100) hx hb hown (hts _ (List.mem_of_getElem? (i := 2) rfl)) dX6_back_16 ?_
    obtain ⟨r4, z4, hf⟩ := bnd_e hf
    refine r_cSiR X hW (c_X6_in l D cA ad hij σ1 a2.toInt64 1 100 r4 z4) gX6_back_X6_in rfl ⟨rfl, rfl⟩ hd_X6_in ⟨Nat.le_of_ble_eq_true rfl, Nat.le_of_ble_eq_true rfl⟩ rfl (Nat.le_of_ble_eq_true rfl) hl.1 dX6_back_19 (fun H locs hW => ?_)
    refine lv_if_ne (tgt := 27) hx hb dX6_back_22 (by decide) (fun c5 => ?_) (fun c5 => ?_)
    · have hf := ie_e hf c5
      refine lv_iconst (v := 0) hx hb dX6_back_27 (by decide) ?_
      refine lv_istore_n (lv' := [(3, .int 0), (0, .ref (ad 0)), (1, .int a1), (2, .int a2)]) hx hb dX6_back_28 rfl hl (by decide) rfl (fun ls hl => ?_)
      refine b_X6_back_29 X (fun w12_0 σ13 H locs ls hf hW hl => ?_) fu a1 a2 0 σ1 _ _ _ hf hW (lv_sub hl [1, 2, 3, 0] rfl)
      · refine lv_iload_n hx hb dX6_back_66 rfl (lv_at hl 0 rfl) ?_
        exact r_iret X hW rfl rfl hf dX6_back_67
    · have hf := it_e hf c5
      refine lv_iconst (v := (-1)) hx hb dX6_back_25 (by decide) ?_
      exact r_iret X hW rfl rfl hf dX6_back_26

abbrev rm_X6_strongest : Room := { frames := 2, cells := 0, slots := 0, locals := 46 }
theorem hd_X6_strongest : yX6_strongest.cls = RX6 ∧ yX6_strongest.cls ≠ "java/lang/invoke/MethodHandle" ∧ yX6_strongest.cls ≠ "java/lang/invoke/VarHandle" ∧ (parseMethodDescriptor yX6_strongest.desc).map (fun d => d.parameters.length) = some 1 := by decide +kernel
theorem inX6_strongest_6 : ∀ w ∈ wsX60, w ∈ wsX6_strongest := fun _ h => List.mem_cons_of_mem _ (List.mem_append_right _ h)
section S_X6_strongest
variable {p : Program} {l : Launch} {e : Env} {s : State} {m : MethodId} {args : Array Value} {below : List Frame} {meth : Method} {c : Code} {D : va_G} {cA : Nat → ClassId} {ad : Nat → Nat} {r : Int32 × St}
noncomputable def f_X6_strongest_53 (k19 : Int32 → Int32 → Int32 → St → Option (Int32 × St)) (v1 : Int32) (v3 : Int32) (s0 : Int32) (σ : St) : Option (Int32 × St) := nw (v3 + 1 : Int32) fun v108 => k19 v1 s0 v108 σ
set_option maxHeartbeats 4000000 in
set_option maxRecDepth 100000 in
theorem b_X6_strongest_53 {k19 : Int32 → Int32 → Int32 → St → Option (Int32 × St)} (X : Cx RX6 wsX6_strongest cX6_strongest 4 (some .int) D cA ad SM p s m args meth c) (h19 : ∀ (w0 : Int32) (w1 : Int32) (w2 : Int32) (σ : St) (H : Heap) (locs : List Loc) (ls : Array Slot), k19 w0 w1 w2 σ = some r → Rn D cA ad SM s.heap σ H locs → lv_has ls 4 [(0, .ref (ad 0)), (1, .int w0), (2, .int w1), (3, .int w2)] → W p l e rm_X6_strongest s m args below meth c H locs 0 0 (MQ below (Qi D cA ad SM r) args s 0 0 (Aw ad SM)) (F0 m 19 ls [])) : ∀ (v1 : Int32) (v3 : Int32) (s0 : Int32) (σ : St) (H : Heap) (locs : List Loc) (ls : Array Slot), f_X6_strongest_53 k19 v1 v3 s0 σ = some r → Rn D cA ad SM s.heap σ H locs → lv_has ls 4 [(0, .ref (ad 0)), (1, .int v1), (3, .int v3)] → W p l e rm_X6_strongest s m args below meth c H locs 0 0 (MQ below (Qi D cA ad SM r) args s 0 0 (Aw ad SM)) (F0 m 53 ls [.int s0]) := by
  obtain ⟨hx, hb, hml, hown, hts, hr, hlk, hK, hij⟩ := id X
  intro v1 v3 s0 σ H locs ls hf hW hl
  rw [f_X6_strongest_53] at hf
  refine lv_istore_n (lv' := [(2, .int s0), (0, .ref (ad 0)), (1, .int v1), (3, .int v3)]) hx hb dX6_strongest_53 rfl hl (by decide) rfl (fun ls hl => ?_)
  obtain ⟨v108, e8, hf⟩ := nw_e hf
  refine lv_iinc (v := v108) (lv' := [(3, .int v108), (2, .int s0), (0, .ref (ad 0)), (1, .int v1)]) hx hb dX6_strongest_54 hl (k := 3) rfl (by rw [e8]; rfl) (by decide) rfl (fun ls hl => ?_)
  refine lv_goto (tgt := 19) hx hb dX6_strongest_57 (by decide) ?_
  exact h19 v1 s0 v108 σ _ _ _ hf hW (lv_sub hl [2, 3, 1, 0] rfl)
noncomputable def f_X6_strongest_19 (k60 : Int32 → Int32 → St → Option (Int32 × St)) : Nat → Int32 → Int32 → Int32 → St → Option (Int32 × St)
  | 0, _, _, _, _ => none
  | n + 1, v1, v2, v3, σ => (if 4 ≤ v3 then k60 v1 v2 σ else chk (inb ((4 * v1) + v3) 28) <| chk (inb ((4 * v1) + v2) 28) <| (if (lg_cmp (σ.2 1 ((4 * v1) + v3).toNatClampNeg) (σ.2 1 ((4 * v1) + v2).toNatClampNeg)) ≤ 0 then f_X6_strongest_53 (fun (w9_0 : Int32) (w10_1 : Int32) (w11_2 : Int32) (σ12 : St) => f_X6_strongest_19 k60 n w9_0 w10_1 w11_2 σ12) v1 v3 v2 σ else f_X6_strongest_53 (fun (w13_0 : Int32) (w14_1 : Int32) (w15_2 : Int32) (σ16 : St) => f_X6_strongest_19 k60 n w13_0 w14_1 w15_2 σ16) v1 v3 v3 σ))
set_option maxHeartbeats 4000000 in
set_option maxRecDepth 100000 in
theorem b_X6_strongest_19 {k60 : Int32 → Int32 → St → Option (Int32 × St)} (X : Cx RX6 wsX6_strongest cX6_strongest 4 (some .int) D cA ad SM p s m args meth c) (h60 : ∀ (w0 : Int32) (w1 : Int32) (σ : St) (H : Heap) (locs : List Loc) (ls : Array Slot), k60 w0 w1 σ = some r → Rn D cA ad SM s.heap σ H locs → lv_has ls 4 [(0, .ref (ad 0)), (1, .int w0), (2, .int w1)] → W p l e rm_X6_strongest s m args below meth c H locs 0 0 (MQ below (Qi D cA ad SM r) args s 0 0 (Aw ad SM)) (F0 m 60 ls [])) : ∀ (n : Nat) (v1 : Int32) (v2 : Int32) (v3 : Int32) (σ : St) (H : Heap) (locs : List Loc) (ls : Array Slot), f_X6_strongest_19 k60 n v1 v2 v3 σ = some r → Rn D cA ad SM s.heap σ H locs → lv_has ls 4 [(0, .ref (ad 0)), (1, .int v1), (2, .int v2), (3, .int v3)] → W p l e rm_X6_strongest s m args below meth c H locs 0 0 (MQ below (Qi D cA ad SM r) args s 0 0 (Aw ad SM)) (F0 m 19 ls []) := by
  obtain ⟨hx, hb, hml, hown, hts, hr, hlk, hK, hij⟩ := id X
  intro n
  induction n with
  | zero =>
    intro v1 v2 v3 σ H locs ls hf
    exact nomatch (show (none : Option (Int32 × St)) = some r from hf)
  | succ n ih =>
    intro v1 v2 v3 σ H locs ls hf hW hl
    rw [f_X6_strongest_19] at hf
    refine lv_iload_n hx hb dX6_strongest_19 rfl (lv_at hl 3 rfl) ?_
    refine lv_iconst (v := 4) hx hb dX6_strongest_20 (by decide) ?_
    refine lv_icmp_ge (tgt := 60) hx hb dX6_strongest_21 (by decide) (fun c4 => ?_) (fun c4 => ?_)
    · have hf := it_e hf c4
      exact h60 v1 v2 σ _ _ _ hf hW (lv_sub hl [0, 1, 2] rfl)
    · have hf := ie_e hf c4
      refine lv_aload_n hx hb dX6_strongest_24 rfl (lv_at hl 0 rfl) ?_
      refine get_6_1 X hW kM_0 iM_0 inX6_strongest_6 (List.mem_of_getElem? (i := 2) rfl) dX6_strongest_25 ?_
      refine lv_iconst (v := 4) hx hb dX6_strongest_28 (by decide) ?_
      refine lv_iload_n hx hb dX6_strongest_29 rfl (lv_at hl 1 rfl) ?_
      refine lv_imul hx hb dX6_strongest_30 ?_
      refine lv_iload_n hx hb dX6_strongest_31 rfl (lv_at hl 3 rfl) ?_
      refine lv_iadd hx hb dX6_strongest_32 ?_
      obtain ⟨x5, hf⟩ := chk_e hf
      refine r_lald X hW kM_1 iM_1 nM_1 x5 dX6_strongest_33 ?_
      refine lv_aload_n hx hb dX6_strongest_34 rfl (lv_at hl 0 rfl) ?_
      refine get_6_1 X hW kM_0 iM_0 inX6_strongest_6 (List.mem_of_getElem? (i := 2) rfl) dX6_strongest_35 ?_
      refine lv_iconst (v := 4) hx hb dX6_strongest_38 (by decide) ?_
      refine lv_iload_n hx hb dX6_strongest_39 rfl (lv_at hl 1 rfl) ?_
      refine lv_imul hx hb dX6_strongest_40 ?_
      refine lv_iload_n hx hb dX6_strongest_41 rfl (lv_at hl 2 rfl) ?_
      refine lv_iadd hx hb dX6_strongest_42 ?_
      obtain ⟨x6, hf⟩ := chk_e hf
      refine r_lald X hW kM_1 iM_1 nM_1 x6 dX6_strongest_43 ?_
      refine W.lcmp hx hb dX6_strongest_44 ?_
      refine lv_if_le (tgt := 52) hx hb dX6_strongest_45 (by decide) (fun c7 => ?_) (fun c7 => ?_)
      · have hf := it_e hf c7
        refine lv_iload_n hx hb dX6_strongest_52 rfl (lv_at hl 2 rfl) ?_
        refine b_X6_strongest_53 X (fun w9_0 w10_1 w11_2 σ12 H locs ls hf hW hl => ?_) v1 v3 v2 σ _ _ _ hf hW (lv_sub hl [0, 1, 3] rfl)
        · exact ih w9_0 w10_1 w11_2 σ12 _ _ _ hf hW (lv_sub hl [0, 1, 2, 3] rfl)
      · have hf := ie_e hf c7
        refine lv_iload_n hx hb dX6_strongest_48 rfl (lv_at hl 3 rfl) ?_
        refine lv_goto (tgt := 53) hx hb dX6_strongest_49 (by decide) ?_
        refine b_X6_strongest_53 X (fun w13_0 w14_1 w15_2 σ16 H locs ls hf hW hl => ?_) v1 v3 v3 σ _ _ _ hf hW (lv_sub hl [0, 1, 3] rfl)
        · exact ih w13_0 w14_1 w15_2 σ16 _ _ _ hf hW (lv_sub hl [0, 1, 2, 3] rfl)
end S_X6_strongest
noncomputable def f_X6_strongest (σ : St) (a1 : Int32) : Option (Int32 × St) := nw (uI σ 0 5 0) fun σ1 => bnd (f_X6_isPot σ1 a1) fun r2 => (if r2 = 0 then some ((-1), σ1) else f_X6_strongest_19 (fun (w17_0 : Int32) (w18_1 : Int32) (σ19 : St) => bnd (f_X6_allOf σ19 w17_0) fun r20 => (if (lg_cmp r20 0) = 0 then some ((-4), σ19) else some (w18_1, σ19))) fu a1 0 1 σ1)
set_option maxHeartbeats 4000000 in
set_option maxRecDepth 100000 in
theorem c_X6_strongest (l : Launch) (D : va_G) (cA : Nat → ClassId) (ad : Nat → Nat) (hij : Ij ad SM) (σ : St) (a1 : Int32) (r : Int32 × St) (hf : f_X6_strongest σ a1 = some r) : Met l yX6_strongest wsX6_strongest rm_X6_strongest (PC D cA ad SM [.ref (ad 0), .int a1] σ) (Qi D cA ad SM r) 0 0 (Aw ad SM) := by
  rw [f_X6_strongest] at hf
  refine k_head (own := RX6) (ws := wsX6_strongest) (cc := cX6_strongest) (nL := 4) (ret := (some .int)) pn_X6 rfl rfl hij (Nat.le_of_ble_eq_true rfl) (fun p e s m below meth c ls X hW hl => ?_)
  have hl : lv_has ls 4 [(0, .ref (ad 0)), (1, .int a1)] := hl
  obtain ⟨hx, hb, hml, hown, hts, hr, hlk, hK, hij⟩ := id X
  refine lv_aload_n hx hb dX6_strongest_0 rfl (lv_at hl 0 rfl) ?_
  refine lv_iconst (v := 0) hx hb dX6_strongest_1 (by decide) ?_
  obtain ⟨σ1, e1, hf⟩ := nw_e hf
  refine put_6_5 X hW kM_0 iM_0 inX6_strongest_6 (List.mem_of_getElem? (i := 1) rfl) e1 dX6_strongest_2 (fun H locs hW => ?_)
  refine lv_aload_n hx hb dX6_strongest_5 rfl (lv_at hl 0 rfl) ?_
  refine lv_iload_n hx hb dX6_strongest_6 rfl (lv_at hl 1 rfl) ?_
  obtain ⟨r2, z2, hf⟩ := bnd_e hf
  refine r_cViR X hW kM_0 iM_0 rfl (c_X6_isPot l D cA ad hij σ1 a1 r2 z2) gX6_strongest_X6_isPot rfl ⟨rfl, rfl⟩ hd_X6_isPot ⟨Nat.le_of_ble_eq_true rfl, Nat.le_of_ble_eq_true rfl⟩ rfl (Nat.le_of_ble_eq_true rfl) hl.1 dX6_strongest_7 (fun H locs hW => ?_)
  refine lv_if_ne (tgt := 15) hx hb dX6_strongest_10 (by decide) (fun c3 => ?_) (fun c3 => ?_)
  · have hf := ie_e hf c3
    refine lv_iconst (v := 0) hx hb dX6_strongest_15 (by decide) ?_
    refine lv_istore_n (lv' := [(2, .int 0), (0, .ref (ad 0)), (1, .int a1)]) hx hb dX6_strongest_16 rfl hl (by decide) rfl (fun ls hl => ?_)
    refine lv_iconst (v := 1) hx hb dX6_strongest_17 (by decide) ?_
    refine lv_istore_n (lv' := [(3, .int 1), (2, .int 0), (0, .ref (ad 0)), (1, .int a1)]) hx hb dX6_strongest_18 rfl hl (by decide) rfl (fun ls hl => ?_)
    refine b_X6_strongest_19 X (fun w17_0 w18_1 σ19 H locs ls hf hW hl => ?_) fu a1 0 1 σ1 _ _ _ hf hW (lv_sub hl [2, 3, 1, 0] rfl)
    · refine lv_aload_n hx hb dX6_strongest_60 rfl (lv_at hl 0 rfl) ?_
      refine lv_iload_n hx hb dX6_strongest_61 rfl (lv_at hl 1 rfl) ?_
      obtain ⟨r20, z20, hf⟩ := bnd_e hf
      refine r_cVlR X hW kM_0 iM_0 rfl (c_X6_allOf l D cA ad hij σ19 w17_0 r20 z20) gX6_strongest_X6_allOf rfl ⟨rfl, rfl⟩ hd_X6_allOf ⟨Nat.le_of_ble_eq_true rfl, Nat.le_of_ble_eq_true rfl⟩ rfl (Nat.le_of_ble_eq_true rfl) hl.1 dX6_strongest_62 (fun H locs hW => ?_)
      refine lv_lconst (v := 0) hx hb dX6_strongest_65 (by decide) ?_
      refine W.lcmp hx hb dX6_strongest_66 ?_
      refine lv_if_ne (tgt := 75) hx hb dX6_strongest_67 (by decide) (fun c21 => ?_) (fun c21 => ?_)
      · have hf := ie_e hf c21
        refine lv_iload_n hx hb dX6_strongest_75 rfl (lv_at hl 2 rfl) ?_
        exact r_iret X hW rfl rfl hf dX6_strongest_76
      · have hf := it_e hf c21
        refine lv_bipush (v := (-4)) hx hb dX6_strongest_70 (by decide) ?_
        refine lv_goto (tgt := 76) hx hb dX6_strongest_72 (by decide) ?_
        exact r_iret X hW rfl rfl hf dX6_strongest_76
  · have hf := it_e hf c3
    refine lv_iconst (v := (-1)) hx hb dX6_strongest_13 (by decide) ?_
    exact r_iret X hW rfl rfl hf dX6_strongest_14

abbrev rm_X6_isLine : Room := { frames := 1, cells := 0, slots := 0, locals := 25 }
theorem hd_X6_isLine : yX6_isLine.cls = RX6 ∧ yX6_isLine.cls ≠ "java/lang/invoke/MethodHandle" ∧ yX6_isLine.cls ≠ "java/lang/invoke/VarHandle" ∧ (parseMethodDescriptor yX6_isLine.desc).map (fun d => d.parameters.length) = some 2 := by decide +kernel
section S_X6_isLine
variable {p : Program} {l : Launch} {e : Env} {s : State} {m : MethodId} {args : Array Value} {below : List Frame} {meth : Method} {c : Code} {D : va_G} {cA : Nat → ClassId} {ad : Nat → Nat} {r : Int32}
end S_X6_isLine
noncomputable def f_X6_isLine (a0 : Int32) (a1 : Int32) : Option (Int32) := bnd (f_X6_in a0.toInt64 0 15) fun r1 => (if r1 = 0 then some 0 else bnd (f_X6_in a1.toInt64 0 100) fun r3 => (if r3 = 0 then some 0 else some 1))
set_option maxHeartbeats 4000000 in
set_option maxRecDepth 100000 in
theorem c_X6_isLine (l : Launch) (D : va_G) (cA : Nat → ClassId) (ad : Nat → Nat) (hij : Ij ad SM) (σ : St) (a0 : Int32) (a1 : Int32) (r : Int32) (hf : f_X6_isLine a0 a1 = some r) : Met l yX6_isLine wsX6_isLine rm_X6_isLine (PC D cA ad SM [.int a0, .int a1] σ) (Qi D cA ad SM (r, σ)) 0 0 (Aw ad SM) := by
  rw [f_X6_isLine] at hf
  refine k_head (own := RX6) (ws := wsX6_isLine) (cc := cX6_isLine) (nL := 2) (ret := (some .boolean)) pn_X6 rfl rfl hij (Nat.le_of_ble_eq_true rfl) (fun p e s m below meth c ls X hW hl => ?_)
  have hl : lv_has ls 2 [(0, .int a0), (1, .int a1)] := hl
  obtain ⟨hx, hb, hml, hown, hts, hr, hlk, hK, hij⟩ := id X
  refine lv_iload_n hx hb dX6_isLine_0 rfl (lv_at hl 0 rfl) ?_
  refine lv_i2l hx hb dX6_isLine_1 rfl ?_
  refine lv_lconst (v := 0) hx hb dX6_isLine_2 (by decide) ?_
  refine lv_ldc2 (v := 15) hx hb hown (hts _ (List.mem_of_getElem? (i := 1) rfl)) dX6_isLine_3 ?_
  obtain ⟨r1, z1, hf⟩ := bnd_e hf
  refine r_cSiR X hW (c_X6_in l D cA ad hij σ a0.toInt64 0 15 r1 z1) gX6_isLine_X6_in rfl ⟨rfl, rfl⟩ hd_X6_in ⟨Nat.le_of_ble_eq_true rfl, Nat.le_of_ble_eq_true rfl⟩ rfl (Nat.le_of_ble_eq_true rfl) hl.1 dX6_isLine_6 (fun H locs hW => ?_)
  refine lv_if_eq (tgt := 28) hx hb dX6_isLine_9 (by decide) (fun c2 => ?_) (fun c2 => ?_)
  · have hf := it_e hf c2
    refine lv_iconst (v := 0) hx hb dX6_isLine_28 (by decide) ?_
    exact r_iretR X hW rfl rfl hf dX6_isLine_29
  · have hf := ie_e hf c2
    refine lv_iload_n hx hb dX6_isLine_12 rfl (lv_at hl 1 rfl) ?_
    refine lv_i2l hx hb dX6_isLine_13 rfl ?_
    refine lv_lconst (v := 0) hx hb dX6_isLine_14 (by decide) ?_
    refine lv_ldc2 (v := 100) hx hb hown (hts _ (List.mem_of_getElem? (i := 2) rfl)) dX6_isLine_15 ?_
    obtain ⟨r3, z3, hf⟩ := bnd_e hf
    refine r_cSiR X hW (c_X6_in l D cA ad hij σ a1.toInt64 0 100 r3 z3) gX6_isLine_X6_in rfl ⟨rfl, rfl⟩ hd_X6_in ⟨Nat.le_of_ble_eq_true rfl, Nat.le_of_ble_eq_true rfl⟩ rfl (Nat.le_of_ble_eq_true rfl) hl.1 dX6_isLine_18 (fun H locs hW => ?_)
    refine lv_if_eq (tgt := 28) hx hb dX6_isLine_21 (by decide) (fun c4 => ?_) (fun c4 => ?_)
    · have hf := it_e hf c4
      refine lv_iconst (v := 0) hx hb dX6_isLine_28 (by decide) ?_
      exact r_iretR X hW rfl rfl hf dX6_isLine_29
    · have hf := ie_e hf c4
      refine lv_iconst (v := 1) hx hb dX6_isLine_24 (by decide) ?_
      refine lv_goto (tgt := 29) hx hb dX6_isLine_25 (by decide) ?_
      exact r_iretR X hW rfl rfl hf dX6_isLine_29

abbrev rm_X6_harms : Room := { frames := 3, cells := 0, slots := 0, locals := 72 }
theorem hd_X6_harms : yX6_harms.cls = RX6 ∧ yX6_harms.cls ≠ "java/lang/invoke/MethodHandle" ∧ yX6_harms.cls ≠ "java/lang/invoke/VarHandle" ∧ (parseMethodDescriptor yX6_harms.desc).map (fun d => d.parameters.length) = some 3 := by decide +kernel
theorem inX6_harms_6 : ∀ w ∈ wsX60, w ∈ wsX6_harms := fun _ h => List.mem_cons_of_mem _ (List.mem_append_right _ h)
section S_X6_harms
variable {p : Program} {l : Launch} {e : Env} {s : State} {m : MethodId} {args : Array Value} {below : List Frame} {meth : Method} {c : Code} {D : va_G} {cA : Nat → ClassId} {ad : Nat → Nat} {r : Int32 × St}
end S_X6_harms
noncomputable def f_X6_harms (σ : St) (a1 : Int32) (a2 : Int32) (a3 : Int32) : Option (Int32 × St) := nw (uI σ 0 5 0) fun σ1 => bnd (f_X6_isPot σ1 a1) fun r2 => (if r2 = 0 then some ((-1), σ1) else bnd (f_X6_isLine a2 a3) fun r4 => (if r4 = 0 then some ((-1), σ1) else bnd (f_X6_doesHarm σ1 a1 a2 a3) fun r6 => (if r6 = 0 then some (0, σ1) else some (1, σ1))))
set_option maxHeartbeats 4000000 in
set_option maxRecDepth 100000 in
theorem c_X6_harms (l : Launch) (D : va_G) (cA : Nat → ClassId) (ad : Nat → Nat) (hij : Ij ad SM) (σ : St) (a1 : Int32) (a2 : Int32) (a3 : Int32) (r : Int32 × St) (hf : f_X6_harms σ a1 a2 a3 = some r) : Met l yX6_harms wsX6_harms rm_X6_harms (PC D cA ad SM [.ref (ad 0), .int a1, .int a2, .int a3] σ) (Qi D cA ad SM r) 0 0 (Aw ad SM) := by
  rw [f_X6_harms] at hf
  refine k_head (own := RX6) (ws := wsX6_harms) (cc := cX6_harms) (nL := 4) (ret := (some .int)) pn_X6 rfl rfl hij (Nat.le_of_ble_eq_true rfl) (fun p e s m below meth c ls X hW hl => ?_)
  have hl : lv_has ls 4 [(0, .ref (ad 0)), (1, .int a1), (2, .int a2), (3, .int a3)] := hl
  obtain ⟨hx, hb, hml, hown, hts, hr, hlk, hK, hij⟩ := id X
  refine lv_aload_n hx hb dX6_harms_0 rfl (lv_at hl 0 rfl) ?_
  refine lv_iconst (v := 0) hx hb dX6_harms_1 (by decide) ?_
  obtain ⟨σ1, e1, hf⟩ := nw_e hf
  refine put_6_5 X hW kM_0 iM_0 inX6_harms_6 (List.mem_of_getElem? (i := 1) rfl) e1 dX6_harms_2 (fun H locs hW => ?_)
  refine lv_aload_n hx hb dX6_harms_5 rfl (lv_at hl 0 rfl) ?_
  refine lv_iload_n hx hb dX6_harms_6 rfl (lv_at hl 1 rfl) ?_
  obtain ⟨r2, z2, hf⟩ := bnd_e hf
  refine r_cViR X hW kM_0 iM_0 rfl (c_X6_isPot l D cA ad hij σ1 a1 r2 z2) gX6_harms_X6_isPot rfl ⟨rfl, rfl⟩ hd_X6_isPot ⟨Nat.le_of_ble_eq_true rfl, Nat.le_of_ble_eq_true rfl⟩ rfl (Nat.le_of_ble_eq_true rfl) hl.1 dX6_harms_7 (fun H locs hW => ?_)
  refine lv_if_eq (tgt := 21) hx hb dX6_harms_10 (by decide) (fun c3 => ?_) (fun c3 => ?_)
  · have hf := it_e hf c3
    refine lv_iconst (v := (-1)) hx hb dX6_harms_21 (by decide) ?_
    exact r_iret X hW rfl rfl hf dX6_harms_22
  · have hf := ie_e hf c3
    refine lv_iload_n hx hb dX6_harms_13 rfl (lv_at hl 2 rfl) ?_
    refine lv_iload_n hx hb dX6_harms_14 rfl (lv_at hl 3 rfl) ?_
    obtain ⟨r4, z4, hf⟩ := bnd_e hf
    refine r_cSiR X hW (c_X6_isLine l D cA ad hij σ1 a2 a3 r4 z4) gX6_harms_X6_isLine rfl ⟨rfl, rfl⟩ hd_X6_isLine ⟨Nat.le_of_ble_eq_true rfl, Nat.le_of_ble_eq_true rfl⟩ rfl (Nat.le_of_ble_eq_true rfl) hl.1 dX6_harms_15 (fun H locs hW => ?_)
    refine lv_if_ne (tgt := 23) hx hb dX6_harms_18 (by decide) (fun c5 => ?_) (fun c5 => ?_)
    · have hf := ie_e hf c5
      refine lv_aload_n hx hb dX6_harms_23 rfl (lv_at hl 0 rfl) ?_
      refine lv_iload_n hx hb dX6_harms_24 rfl (lv_at hl 1 rfl) ?_
      refine lv_iload_n hx hb dX6_harms_25 rfl (lv_at hl 2 rfl) ?_
      refine lv_iload_n hx hb dX6_harms_26 rfl (lv_at hl 3 rfl) ?_
      obtain ⟨r6, z6, hf⟩ := bnd_e hf
      refine r_cViR X hW kM_0 iM_0 rfl (c_X6_doesHarm l D cA ad hij σ1 a1 a2 a3 r6 z6) gX6_harms_X6_doesHarm rfl ⟨rfl, rfl⟩ hd_X6_doesHarm ⟨Nat.le_of_ble_eq_true rfl, Nat.le_of_ble_eq_true rfl⟩ rfl (Nat.le_of_ble_eq_true rfl) hl.1 dX6_harms_27 (fun H locs hW => ?_)
      refine lv_if_eq (tgt := 37) hx hb dX6_harms_30 (by decide) (fun c7 => ?_) (fun c7 => ?_)
      · have hf := it_e hf c7
        refine lv_iconst (v := 0) hx hb dX6_harms_37 (by decide) ?_
        exact r_iret X hW rfl rfl hf dX6_harms_38
      · have hf := ie_e hf c7
        refine lv_iconst (v := 1) hx hb dX6_harms_33 (by decide) ?_
        refine lv_goto (tgt := 38) hx hb dX6_harms_34 (by decide) ?_
        exact r_iret X hW rfl rfl hf dX6_harms_38
    · have hf := it_e hf c5
      refine lv_iconst (v := (-1)) hx hb dX6_harms_21 (by decide) ?_
      exact r_iret X hW rfl rfl hf dX6_harms_22

abbrev rm_X6_wrongDishes : Room := { frames := 3, cells := 0, slots := 0, locals := 68 }
theorem hd_X6_wrongDishes : yX6_wrongDishes.cls = RX6 ∧ yX6_wrongDishes.cls ≠ "java/lang/invoke/MethodHandle" ∧ yX6_wrongDishes.cls ≠ "java/lang/invoke/VarHandle" ∧ (parseMethodDescriptor yX6_wrongDishes.desc).map (fun d => d.parameters.length) = some 3 := by decide +kernel
theorem inX6_wrongDishes_6 : ∀ w ∈ wsX60, w ∈ wsX6_wrongDishes := fun _ h => List.mem_cons_of_mem _ (List.mem_append_right _ h)
section S_X6_wrongDishes
variable {p : Program} {l : Launch} {e : Env} {s : State} {m : MethodId} {args : Array Value} {below : List Frame} {meth : Method} {c : Code} {D : va_G} {cA : Nat → ClassId} {ad : Nat → Nat} {r : Int32}
noncomputable def f_X6_wrongDishes_118 (σ : St) (k49 : Int32 → Int32 → Int32 → Int32 → Option (Int32)) (v1 : Int32) (v2 : Int32) (v6 : Int32) (s0 : Int64) (s1 : Int64) (s2 : Int64) : Option (Int32) := bnd (f_X6_in s0 s1 s2) fun r14 => nw (v6 + 1 : Int32) fun v115 => k49 v1 v2 r14 v115
set_option maxHeartbeats 4000000 in
set_option maxRecDepth 100000 in
theorem b_X6_wrongDishes_118 {σ : St} {k49 : Int32 → Int32 → Int32 → Int32 → Option (Int32)} (X : Cx RX6 wsX6_wrongDishes cX6_wrongDishes 8 (some .int) D cA ad SM p s m args meth c) (h49 : ∀ (w0 : Int32) (w1 : Int32) (w2 : Int32) (w3 : Int32) (H : Heap) (locs : List Loc) (ls : Array Slot), k49 w0 w1 w2 w3 = some r → Rn D cA ad SM s.heap σ H locs → lv_has ls 8 [(0, .ref (ad 0)), (1, .int w0), (2, .int w1), (5, .int w2), (6, .int w3)] → W p l e rm_X6_wrongDishes s m args below meth c H locs 0 0 (MQ below (Qi D cA ad SM (r, σ)) args s 0 0 (Aw ad SM)) (F0 m 49 ls [])) : ∀ (v1 : Int32) (v2 : Int32) (v6 : Int32) (s0 : Int64) (s1 : Int64) (s2 : Int64) (H : Heap) (locs : List Loc) (ls : Array Slot), f_X6_wrongDishes_118 σ k49 v1 v2 v6 s0 s1 s2 = some r → Rn D cA ad SM s.heap σ H locs → lv_has ls 8 [(0, .ref (ad 0)), (1, .int v1), (2, .int v2), (6, .int v6)] → W p l e rm_X6_wrongDishes s m args below meth c H locs 0 0 (MQ below (Qi D cA ad SM (r, σ)) args s 0 0 (Aw ad SM)) (F0 m 118 ls [.long s2, .long s1, .long s0]) := by
  obtain ⟨hx, hb, hml, hown, hts, hr, hlk, hK, hij⟩ := id X
  intro v1 v2 v6 s0 s1 s2 H locs ls hf hW hl
  rw [f_X6_wrongDishes_118] at hf
  obtain ⟨r14, z14, hf⟩ := bnd_e hf
  refine r_cSiR X hW (c_X6_in l D cA ad hij σ s0 s1 s2 r14 z14) gX6_wrongDishes_X6_in rfl ⟨rfl, rfl⟩ hd_X6_in ⟨Nat.le_of_ble_eq_true rfl, Nat.le_of_ble_eq_true rfl⟩ rfl (Nat.le_of_ble_eq_true rfl) hl.1 dX6_wrongDishes_118 (fun H locs hW => ?_)
  refine lv_istore (lv' := [(5, .int r14), (0, .ref (ad 0)), (1, .int v1), (2, .int v2), (6, .int v6)]) hx hb dX6_wrongDishes_121 hl (by decide) rfl (fun ls hl => ?_)
  obtain ⟨v115, e15, hf⟩ := nw_e hf
  refine lv_iinc (v := v115) (lv' := [(6, .int v115), (5, .int r14), (0, .ref (ad 0)), (1, .int v1), (2, .int v2)]) hx hb dX6_wrongDishes_123 hl (k := 4) rfl (by rw [e15]; rfl) (by decide) rfl (fun ls hl => ?_)
  refine lv_goto (tgt := 49) hx hb dX6_wrongDishes_126 (by decide) ?_
  exact h49 v1 v2 r14 v115 _ _ _ hf hW (lv_sub hl [2, 3, 4, 1, 0] rfl)
noncomputable def f_X6_wrongDishes_49 (σ : St) (k129 : Int32 → Option (Int32)) : Nat → Int32 → Int32 → Int32 → Int32 → Option (Int32)
  | 0, _, _, _, _ => none
  | n + 1, v1, v2, v5, v6 => chk (inb v1 8) <| (if (σ.1 20 v1.toNatClampNeg) ≤ v6 then k129 v5 else (if v5 = 0 then k129 v5 else chk (nz v2) <| nw ((v2 - 1) - (v6 - v6 / v2 * v2) : Int32) fun v110 => chk (inb ((100 * v1) + v6) 800) <| (if v110 = 0 then f_X6_wrongDishes_118 σ (fun (w24_0 : Int32) (w25_1 : Int32) (w26_2 : Int32) (w27_3 : Int32) => f_X6_wrongDishes_49 σ k129 n w24_0 w25_1 w26_2 w27_3) v1 v2 v6 (σ.2 21 ((100 * v1) + v6).toNatClampNeg) 0 9 else (if v110 = 1 then f_X6_wrongDishes_118 σ (fun (w20_0 : Int32) (w21_1 : Int32) (w22_2 : Int32) (w23_3 : Int32) => f_X6_wrongDishes_49 σ k129 n w20_0 w21_1 w22_2 w23_3) v1 v2 v6 (σ.2 21 ((100 * v1) + v6).toNatClampNeg) 0 7 else f_X6_wrongDishes_118 σ (fun (w16_0 : Int32) (w17_1 : Int32) (w18_2 : Int32) (w19_3 : Int32) => f_X6_wrongDishes_49 σ k129 n w16_0 w17_1 w18_2 w19_3) v1 v2 v6 (σ.2 21 ((100 * v1) + v6).toNatClampNeg) 0 (((σ.1 0 0) - 1).toInt64)))))
set_option maxHeartbeats 4000000 in
set_option maxRecDepth 100000 in
theorem b_X6_wrongDishes_49 {σ : St} {k129 : Int32 → Option (Int32)} (X : Cx RX6 wsX6_wrongDishes cX6_wrongDishes 8 (some .int) D cA ad SM p s m args meth c) (h129 : ∀ (w0 : Int32) (H : Heap) (locs : List Loc) (ls : Array Slot), k129 w0 = some r → Rn D cA ad SM s.heap σ H locs → lv_has ls 8 [(5, .int w0)] → W p l e rm_X6_wrongDishes s m args below meth c H locs 0 0 (MQ below (Qi D cA ad SM (r, σ)) args s 0 0 (Aw ad SM)) (F0 m 129 ls [])) : ∀ (n : Nat) (v1 : Int32) (v2 : Int32) (v5 : Int32) (v6 : Int32) (H : Heap) (locs : List Loc) (ls : Array Slot), f_X6_wrongDishes_49 σ k129 n v1 v2 v5 v6 = some r → Rn D cA ad SM s.heap σ H locs → lv_has ls 8 [(0, .ref (ad 0)), (1, .int v1), (2, .int v2), (5, .int v5), (6, .int v6)] → W p l e rm_X6_wrongDishes s m args below meth c H locs 0 0 (MQ below (Qi D cA ad SM (r, σ)) args s 0 0 (Aw ad SM)) (F0 m 49 ls []) := by
  obtain ⟨hx, hb, hml, hown, hts, hr, hlk, hK, hij⟩ := id X
  intro n
  induction n with
  | zero =>
    intro v1 v2 v5 v6 H locs ls hf
    exact nomatch (show (none : Option (Int32)) = some r from hf)
  | succ n ih =>
    intro v1 v2 v5 v6 H locs ls hf hW hl
    rw [f_X6_wrongDishes_49] at hf
    refine lv_iload hx hb dX6_wrongDishes_49 (lv_at hl 4 rfl) ?_
    refine lv_aload_n hx hb dX6_wrongDishes_51 rfl (lv_at hl 0 rfl) ?_
    refine get_6_30 X hW kM_0 iM_0 inX6_wrongDishes_6 (List.mem_of_getElem? (i := 1) rfl) dX6_wrongDishes_52 ?_
    refine lv_iload_n hx hb dX6_wrongDishes_55 rfl (lv_at hl 1 rfl) ?_
    obtain ⟨x6, hf⟩ := chk_e hf
    refine r_iald X hW kM_20 iM_20 nM_20 x6 dX6_wrongDishes_56 ?_
    refine lv_icmp_ge (tgt := 129) hx hb dX6_wrongDishes_57 (by decide) (fun c7 => ?_) (fun c7 => ?_)
    · have hf := it_e hf c7
      exact h129 v5 _ _ _ hf hW (lv_sub hl [3] rfl)
    · have hf := ie_e hf c7
      refine lv_iload hx hb dX6_wrongDishes_60 (lv_at hl 3 rfl) ?_
      refine lv_if_eq (tgt := 129) hx hb dX6_wrongDishes_62 (by decide) (fun c8 => ?_) (fun c8 => ?_)
      · have hf := it_e hf c8
        exact h129 v5 _ _ _ hf hW (lv_sub hl [3] rfl)
      · have hf := ie_e hf c8
        refine lv_iload_n hx hb dX6_wrongDishes_65 rfl (lv_at hl 2 rfl) ?_
        refine lv_iconst (v := 1) hx hb dX6_wrongDishes_66 (by decide) ?_
        refine lv_isub hx hb dX6_wrongDishes_67 ?_
        refine lv_iload hx hb dX6_wrongDishes_68 (lv_at hl 4 rfl) ?_
        refine lv_iload_n hx hb dX6_wrongDishes_70 rfl (lv_at hl 2 rfl) ?_
        obtain ⟨q9, hf⟩ := chk_e hf
        refine lv_irem hx hb dX6_wrongDishes_71 (nz_e q9) ?_
        refine lv_isub hx hb dX6_wrongDishes_72 ?_
        obtain ⟨v110, e10, hf⟩ := nw_e hf
        refine tI _ e10 ?_
        refine lv_istore (lv' := [(7, .int v110), (0, .ref (ad 0)), (1, .int v1), (2, .int v2), (5, .int v5), (6, .int v6)]) hx hb dX6_wrongDishes_73 hl (by decide) rfl (fun ls hl => ?_)
        refine lv_aload_n hx hb dX6_wrongDishes_75 rfl (lv_at hl 1 rfl) ?_
        refine get_6_31 X hW kM_0 iM_0 inX6_wrongDishes_6 (List.mem_of_getElem? (i := 2) rfl) dX6_wrongDishes_76 ?_
        refine lv_bipush (v := 100) hx hb dX6_wrongDishes_79 (by decide) ?_
        refine lv_iload_n hx hb dX6_wrongDishes_81 rfl (lv_at hl 2 rfl) ?_
        refine lv_imul hx hb dX6_wrongDishes_82 ?_
        refine lv_iload hx hb dX6_wrongDishes_83 (lv_at hl 5 rfl) ?_
        refine lv_iadd hx hb dX6_wrongDishes_85 ?_
        obtain ⟨x11, hf⟩ := chk_e hf
        refine r_lald X hW kM_21 iM_21 nM_21 x11 dX6_wrongDishes_86 ?_
        refine lv_lconst (v := 0) hx hb dX6_wrongDishes_87 (by decide) ?_
        refine lv_iload hx hb dX6_wrongDishes_88 (lv_at hl 0 rfl) ?_
        refine lv_if_ne (tgt := 99) hx hb dX6_wrongDishes_90 (by decide) (fun c12 => ?_) (fun c12 => ?_)
        · have hf := ie_e hf c12
          refine lv_iload hx hb dX6_wrongDishes_99 (lv_at hl 0 rfl) ?_
          refine lv_iconst (v := 1) hx hb dX6_wrongDishes_101 (by decide) ?_
          refine lv_icmp_ne (tgt := 111) hx hb dX6_wrongDishes_102 (by decide) (fun c13 => ?_) (fun c13 => ?_)
          · have hf := ie_e hf c13
            refine lv_aload_n hx hb dX6_wrongDishes_111 rfl (lv_at hl 1 rfl) ?_
            refine get_6_0 X hW kM_0 iM_0 inX6_wrongDishes_6 (List.mem_of_getElem? (i := 5) rfl) dX6_wrongDishes_112 ?_
            refine lv_iconst (v := 1) hx hb dX6_wrongDishes_115 (by decide) ?_
            refine lv_isub hx hb dX6_wrongDishes_116 ?_
            refine lv_i2l hx hb dX6_wrongDishes_117 rfl ?_
            refine b_X6_wrongDishes_118 X (fun w16_0 w17_1 w18_2 w19_3 H locs ls hf hW hl => ?_) v1 v2 v6 (σ.2 21 ((100 * v1) + v6).toNatClampNeg) 0 (((σ.1 0 0) - 1).toInt64) _ _ _ hf hW (lv_sub hl [1, 2, 3, 5] rfl)
            · exact ih w16_0 w17_1 w18_2 w19_3 _ _ _ hf hW (lv_sub hl [0, 1, 2, 3, 4] rfl)
          · have hf := it_e hf c13
            refine lv_ldc2 (v := 7) hx hb hown (hts _ (List.mem_of_getElem? (i := 4) rfl)) dX6_wrongDishes_105 ?_
            refine lv_goto (tgt := 118) hx hb dX6_wrongDishes_108 (by decide) ?_
            refine b_X6_wrongDishes_118 X (fun w20_0 w21_1 w22_2 w23_3 H locs ls hf hW hl => ?_) v1 v2 v6 (σ.2 21 ((100 * v1) + v6).toNatClampNeg) 0 7 _ _ _ hf hW (lv_sub hl [1, 2, 3, 5] rfl)
            · exact ih w20_0 w21_1 w22_2 w23_3 _ _ _ hf hW (lv_sub hl [0, 1, 2, 3, 4] rfl)
        · have hf := it_e hf c12
          refine lv_ldc2 (v := 9) hx hb hown (hts _ (List.mem_of_getElem? (i := 3) rfl)) dX6_wrongDishes_93 ?_
          refine lv_goto (tgt := 118) hx hb dX6_wrongDishes_96 (by decide) ?_
          refine b_X6_wrongDishes_118 X (fun w24_0 w25_1 w26_2 w27_3 H locs ls hf hW hl => ?_) v1 v2 v6 (σ.2 21 ((100 * v1) + v6).toNatClampNeg) 0 9 _ _ _ hf hW (lv_sub hl [1, 2, 3, 5] rfl)
          · exact ih w24_0 w25_1 w26_2 w27_3 _ _ _ hf hW (lv_sub hl [0, 1, 2, 3, 4] rfl)
noncomputable def f_X6_wrongDishes_129 (σ : St) (v5 : Int32) : Option (Int32) := (if v5 = 0 then some ((-13)) else some 0)
set_option maxHeartbeats 4000000 in
set_option maxRecDepth 100000 in
theorem b_X6_wrongDishes_129 {σ : St} (X : Cx RX6 wsX6_wrongDishes cX6_wrongDishes 8 (some .int) D cA ad SM p s m args meth c) : ∀ (v5 : Int32) (H : Heap) (locs : List Loc) (ls : Array Slot), f_X6_wrongDishes_129 σ v5 = some r → Rn D cA ad SM s.heap σ H locs → lv_has ls 8 [(5, .int v5)] → W p l e rm_X6_wrongDishes s m args below meth c H locs 0 0 (MQ below (Qi D cA ad SM (r, σ)) args s 0 0 (Aw ad SM)) (F0 m 129 ls []) := by
  obtain ⟨hx, hb, hml, hown, hts, hr, hlk, hK, hij⟩ := id X
  intro v5 H locs ls hf hW hl
  rw [f_X6_wrongDishes_129] at hf
  refine lv_iload hx hb dX6_wrongDishes_129 (lv_at hl 0 rfl) ?_
  refine lv_if_eq (tgt := 138) hx hb dX6_wrongDishes_131 (by decide) (fun c29 => ?_) (fun c29 => ?_)
  · have hf := it_e hf c29
    refine lv_bipush (v := (-13)) hx hb dX6_wrongDishes_138 (by decide) ?_
    exact r_iretR X hW rfl rfl hf dX6_wrongDishes_140
  · have hf := ie_e hf c29
    refine lv_iconst (v := 0) hx hb dX6_wrongDishes_134 (by decide) ?_
    refine lv_goto (tgt := 140) hx hb dX6_wrongDishes_135 (by decide) ?_
    exact r_iretR X hW rfl rfl hf dX6_wrongDishes_140
noncomputable def f_X6_wrongDishes_44 (σ : St) (v1 : Int32) (v2 : Int32) (s0 : Int32) : Option (Int32) := f_X6_wrongDishes_49 σ (fun (w28_0 : Int32) => f_X6_wrongDishes_129 σ w28_0) fu v1 v2 s0 0
set_option maxHeartbeats 4000000 in
set_option maxRecDepth 100000 in
theorem b_X6_wrongDishes_44 {σ : St} (X : Cx RX6 wsX6_wrongDishes cX6_wrongDishes 8 (some .int) D cA ad SM p s m args meth c) : ∀ (v1 : Int32) (v2 : Int32) (s0 : Int32) (H : Heap) (locs : List Loc) (ls : Array Slot), f_X6_wrongDishes_44 σ v1 v2 s0 = some r → Rn D cA ad SM s.heap σ H locs → lv_has ls 8 [(0, .ref (ad 0)), (1, .int v1), (2, .int v2)] → W p l e rm_X6_wrongDishes s m args below meth c H locs 0 0 (MQ below (Qi D cA ad SM (r, σ)) args s 0 0 (Aw ad SM)) (F0 m 44 ls [.int s0]) := by
  obtain ⟨hx, hb, hml, hown, hts, hr, hlk, hK, hij⟩ := id X
  intro v1 v2 s0 H locs ls hf hW hl
  rw [f_X6_wrongDishes_44] at hf
  refine lv_istore (lv' := [(5, .int s0), (0, .ref (ad 0)), (1, .int v1), (2, .int v2)]) hx hb dX6_wrongDishes_44 hl (by decide) rfl (fun ls hl => ?_)
  refine lv_iconst (v := 0) hx hb dX6_wrongDishes_46 (by decide) ?_
  refine lv_istore (lv' := [(6, .int 0), (5, .int s0), (0, .ref (ad 0)), (1, .int v1), (2, .int v2)]) hx hb dX6_wrongDishes_47 hl (by decide) rfl (fun ls hl => ?_)
  refine b_X6_wrongDishes_49 X (fun w28_0 H locs ls hf hW hl => ?_) fu v1 v2 s0 0 _ _ _ hf hW (lv_sub hl [2, 3, 4, 1, 0] rfl)
  · exact b_X6_wrongDishes_129 X w28_0 _ _ _ hf hW (lv_sub hl [0] rfl)
noncomputable def f_X6_wrongDishes_43 (σ : St) (v1 : Int32) (v2 : Int32) : Option (Int32) := f_X6_wrongDishes_44 σ v1 v2 0
set_option maxHeartbeats 4000000 in
set_option maxRecDepth 100000 in
theorem b_X6_wrongDishes_43 {σ : St} (X : Cx RX6 wsX6_wrongDishes cX6_wrongDishes 8 (some .int) D cA ad SM p s m args meth c) : ∀ (v1 : Int32) (v2 : Int32) (H : Heap) (locs : List Loc) (ls : Array Slot), f_X6_wrongDishes_43 σ v1 v2 = some r → Rn D cA ad SM s.heap σ H locs → lv_has ls 8 [(0, .ref (ad 0)), (1, .int v1), (2, .int v2)] → W p l e rm_X6_wrongDishes s m args below meth c H locs 0 0 (MQ below (Qi D cA ad SM (r, σ)) args s 0 0 (Aw ad SM)) (F0 m 43 ls []) := by
  obtain ⟨hx, hb, hml, hown, hts, hr, hlk, hK, hij⟩ := id X
  intro v1 v2 H locs ls hf hW hl
  rw [f_X6_wrongDishes_43] at hf
  refine lv_iconst (v := 0) hx hb dX6_wrongDishes_43 (by decide) ?_
  exact b_X6_wrongDishes_44 X v1 v2 0 _ _ _ hf hW (lv_sub hl [0, 1, 2] rfl)
end S_X6_wrongDishes
noncomputable def f_X6_wrongDishes (σ : St) (a1 : Int32) (a2 : Int32) (a3 : Int32) : Option (Int32) := bnd (f_X6_wrongSort σ a1 0) fun r1 => (if 0 ≤ r1 then chk (inb a1 8) <| chk (nz a2) <| (if ((σ.1 20 a1.toNatClampNeg) - (σ.1 20 a1.toNatClampNeg) / a2 * a2) = 0 then (if (a2 * a3) < (σ.1 20 a1.toNatClampNeg) then f_X6_wrongDishes_43 σ a1 a2 else f_X6_wrongDishes_44 σ a1 a2 1) else f_X6_wrongDishes_43 σ a1 a2) else some r1)
set_option maxHeartbeats 4000000 in
set_option maxRecDepth 100000 in
theorem c_X6_wrongDishes (l : Launch) (D : va_G) (cA : Nat → ClassId) (ad : Nat → Nat) (hij : Ij ad SM) (σ : St) (a1 : Int32) (a2 : Int32) (a3 : Int32) (r : Int32) (hf : f_X6_wrongDishes σ a1 a2 a3 = some r) : Met l yX6_wrongDishes wsX6_wrongDishes rm_X6_wrongDishes (PC D cA ad SM [.ref (ad 0), .int a1, .int a2, .int a3] σ) (Qi D cA ad SM (r, σ)) 0 0 (Aw ad SM) := by
  rw [f_X6_wrongDishes] at hf
  refine k_head (own := RX6) (ws := wsX6_wrongDishes) (cc := cX6_wrongDishes) (nL := 8) (ret := (some .int)) pn_X6 rfl rfl hij (Nat.le_of_ble_eq_true rfl) (fun p e s m below meth c ls X hW hl => ?_)
  have hl : lv_has ls 8 [(0, .ref (ad 0)), (1, .int a1), (2, .int a2), (3, .int a3)] := hl
  obtain ⟨hx, hb, hml, hown, hts, hr, hlk, hK, hij⟩ := id X
  refine lv_aload_n hx hb dX6_wrongDishes_0 rfl (lv_at hl 0 rfl) ?_
  refine lv_iload_n hx hb dX6_wrongDishes_1 rfl (lv_at hl 1 rfl) ?_
  refine lv_iconst (v := 0) hx hb dX6_wrongDishes_2 (by decide) ?_
  obtain ⟨r1, z1, hf⟩ := bnd_e hf
  refine r_cViR X hW kM_0 iM_0 rfl (c_X6_wrongSort l D cA ad hij σ a1 0 r1 z1) gX6_wrongDishes_X6_wrongSort rfl ⟨rfl, rfl⟩ hd_X6_wrongSort ⟨Nat.le_of_ble_eq_true rfl, Nat.le_of_ble_eq_true rfl⟩ rfl (Nat.le_of_ble_eq_true rfl) hl.1 dX6_wrongDishes_3 (fun H locs hW => ?_)
  refine lv_istore (lv' := [(4, .int r1), (0, .ref (ad 0)), (1, .int a1), (2, .int a2), (3, .int a3)]) hx hb dX6_wrongDishes_6 hl (by decide) rfl (fun ls hl => ?_)
  refine lv_iload hx hb dX6_wrongDishes_8 (lv_at hl 0 rfl) ?_
  refine lv_if_ge (tgt := 16) hx hb dX6_wrongDishes_10 (by decide) (fun c2 => ?_) (fun c2 => ?_)
  · have hf := it_e hf c2
    refine lv_aload_n hx hb dX6_wrongDishes_16 rfl (lv_at hl 1 rfl) ?_
    refine get_6_30 X hW kM_0 iM_0 inX6_wrongDishes_6 (List.mem_of_getElem? (i := 1) rfl) dX6_wrongDishes_17 ?_
    refine lv_iload_n hx hb dX6_wrongDishes_20 rfl (lv_at hl 2 rfl) ?_
    obtain ⟨x3, hf⟩ := chk_e hf
    refine r_iald X hW kM_20 iM_20 nM_20 x3 dX6_wrongDishes_21 ?_
    refine lv_iload_n hx hb dX6_wrongDishes_22 rfl (lv_at hl 3 rfl) ?_
    obtain ⟨q4, hf⟩ := chk_e hf
    refine lv_irem hx hb dX6_wrongDishes_23 (nz_e q4) ?_
    refine lv_if_ne (tgt := 43) hx hb dX6_wrongDishes_24 (by decide) (fun c5 => ?_) (fun c5 => ?_)
    · have hf := ie_e hf c5
      exact b_X6_wrongDishes_43 X a1 a2 _ _ _ hf hW (lv_sub hl [1, 2, 3] rfl)
    · have hf := it_e hf c5
      refine lv_aload_n hx hb dX6_wrongDishes_27 rfl (lv_at hl 1 rfl) ?_
      refine get_6_30 X hW kM_0 iM_0 inX6_wrongDishes_6 (List.mem_of_getElem? (i := 1) rfl) dX6_wrongDishes_28 ?_
      refine lv_iload_n hx hb dX6_wrongDishes_31 rfl (lv_at hl 2 rfl) ?_
      refine r_iald X hW kM_20 iM_20 nM_20 x3 dX6_wrongDishes_32 ?_
      refine lv_iload_n hx hb dX6_wrongDishes_33 rfl (lv_at hl 3 rfl) ?_
      refine lv_iload_n hx hb dX6_wrongDishes_34 rfl (lv_at hl 4 rfl) ?_
      refine lv_imul hx hb dX6_wrongDishes_35 ?_
      refine lv_icmp_gt (tgt := 43) hx hb dX6_wrongDishes_36 (by decide) (fun c30 => ?_) (fun c30 => ?_)
      · have hf := it_e hf c30
        exact b_X6_wrongDishes_43 X a1 a2 _ _ _ hf hW (lv_sub hl [1, 2, 3] rfl)
      · have hf := ie_e hf c30
        refine lv_iconst (v := 1) hx hb dX6_wrongDishes_39 (by decide) ?_
        refine lv_goto (tgt := 44) hx hb dX6_wrongDishes_40 (by decide) ?_
        exact b_X6_wrongDishes_44 X a1 a2 1 _ _ _ hf hW (lv_sub hl [1, 2, 3] rfl)
  · have hf := ie_e hf c2
    refine lv_iload hx hb dX6_wrongDishes_13 (lv_at hl 0 rfl) ?_
    exact r_iretR X hW rfl rfl hf dX6_wrongDishes_15

abbrev rm_X6_element0 : Room := { frames := 0, cells := 0, slots := 0, locals := 0 }
theorem hd_X6_element0 : yX6_element0.cls = RX6 ∧ yX6_element0.cls ≠ "java/lang/invoke/MethodHandle" ∧ yX6_element0.cls ≠ "java/lang/invoke/VarHandle" ∧ (parseMethodDescriptor yX6_element0.desc).map (fun d => d.parameters.length) = some 2 := by decide +kernel
theorem inX6_element0_6 : ∀ w ∈ wsX60, w ∈ wsX6_element0 := fun _ h => List.mem_cons_of_mem _ (List.mem_append_right _ h)
section S_X6_element0
variable {p : Program} {l : Launch} {e : Env} {s : State} {m : MethodId} {args : Array Value} {below : List Frame} {meth : Method} {c : Code} {D : va_G} {cA : Nat → ClassId} {ad : Nat → Nat} {r : Int32}
end S_X6_element0
noncomputable def f_X6_element0 (σ : St) (a1 : Int32) (a2 : Int32) : Option (Int32) := chk (inb ((100 * a1) + a2) 800) <| some ((σ.2 21 ((100 * a1) + a2).toNatClampNeg).toInt32)
set_option maxHeartbeats 4000000 in
set_option maxRecDepth 100000 in
theorem c_X6_element0 (l : Launch) (D : va_G) (cA : Nat → ClassId) (ad : Nat → Nat) (hij : Ij ad SM) (σ : St) (a1 : Int32) (a2 : Int32) (r : Int32) (hf : f_X6_element0 σ a1 a2 = some r) : Met l yX6_element0 wsX6_element0 rm_X6_element0 (PC D cA ad SM [.ref (ad 0), .int a1, .int a2] σ) (Qi D cA ad SM (r, σ)) 0 0 (Aw ad SM) := by
  rw [f_X6_element0] at hf
  refine k_head (own := RX6) (ws := wsX6_element0) (cc := cX6_element0) (nL := 3) (ret := (some .int)) pn_X6 rfl rfl hij (Nat.le_of_ble_eq_true rfl) (fun p e s m below meth c ls X hW hl => ?_)
  have hl : lv_has ls 3 [(0, .ref (ad 0)), (1, .int a1), (2, .int a2)] := hl
  obtain ⟨hx, hb, hml, hown, hts, hr, hlk, hK, hij⟩ := id X
  refine lv_aload_n hx hb dX6_element0_0 rfl (lv_at hl 0 rfl) ?_
  refine get_6_31 X hW kM_0 iM_0 inX6_element0_6 (List.mem_of_getElem? (i := 1) rfl) dX6_element0_1 ?_
  refine lv_bipush (v := 100) hx hb dX6_element0_4 (by decide) ?_
  refine lv_iload_n hx hb dX6_element0_6 rfl (lv_at hl 1 rfl) ?_
  refine lv_imul hx hb dX6_element0_7 ?_
  refine lv_iload_n hx hb dX6_element0_8 rfl (lv_at hl 2 rfl) ?_
  refine lv_iadd hx hb dX6_element0_9 ?_
  obtain ⟨x1, hf⟩ := chk_e hf
  refine r_lald X hW kM_21 iM_21 nM_21 x1 dX6_element0_10 ?_
  refine lv_l2i hx hb dX6_element0_11 rfl ?_
  exact r_iretR X hW rfl rfl hf dX6_element0_12

abbrev rm_X6_first : Room := { frames := 4, cells := 0, slots := 0, locals := 95 }
theorem hd_X6_first : yX6_first.cls = RX6 ∧ yX6_first.cls ≠ "java/lang/invoke/MethodHandle" ∧ yX6_first.cls ≠ "java/lang/invoke/VarHandle" ∧ (parseMethodDescriptor yX6_first.desc).map (fun d => d.parameters.length) = some 3 := by decide +kernel
theorem inX6_first_6 : ∀ w ∈ wsX60, w ∈ wsX6_first := fun _ h => List.mem_cons_of_mem _ (List.mem_append_right _ h)
section S_X6_first
variable {p : Program} {l : Launch} {e : Env} {s : State} {m : MethodId} {args : Array Value} {below : List Frame} {meth : Method} {c : Code} {D : va_G} {cA : Nat → ClassId} {ad : Nat → Nat} {r : Int32 × St}
noncomputable def f_X6_first_136 (k46 : Int32 → Int32 → Int32 → Int32 → Int32 → St → Option (Int32 × St)) (v1 : Int32) (v2 : Int32) (v3 : Int32) (v6 : Int32) (s0 : Int32) (σ : St) : Option (Int32 × St) := nw (v6 + 1 : Int32) fun v116 => k46 v1 v2 v3 s0 v116 σ
set_option maxHeartbeats 4000000 in
set_option maxRecDepth 100000 in
theorem b_X6_first_136 {k46 : Int32 → Int32 → Int32 → Int32 → Int32 → St → Option (Int32 × St)} (X : Cx RX6 wsX6_first cX6_first 9 (some .int) D cA ad SM p s m args meth c) (h46 : ∀ (w0 : Int32) (w1 : Int32) (w2 : Int32) (w3 : Int32) (w4 : Int32) (σ : St) (H : Heap) (locs : List Loc) (ls : Array Slot), k46 w0 w1 w2 w3 w4 σ = some r → Rn D cA ad SM s.heap σ H locs → lv_has ls 9 [(0, .ref (ad 0)), (1, .int w0), (2, .int w1), (3, .int w2), (5, .int w3), (6, .int w4)] → W p l e rm_X6_first s m args below meth c H locs 0 0 (MQ below (Qi D cA ad SM r) args s 0 0 (Aw ad SM)) (F0 m 46 ls [])) : ∀ (v1 : Int32) (v2 : Int32) (v3 : Int32) (v6 : Int32) (s0 : Int32) (σ : St) (H : Heap) (locs : List Loc) (ls : Array Slot), f_X6_first_136 k46 v1 v2 v3 v6 s0 σ = some r → Rn D cA ad SM s.heap σ H locs → lv_has ls 9 [(0, .ref (ad 0)), (1, .int v1), (2, .int v2), (3, .int v3), (6, .int v6)] → W p l e rm_X6_first s m args below meth c H locs 0 0 (MQ below (Qi D cA ad SM r) args s 0 0 (Aw ad SM)) (F0 m 136 ls [.int s0]) := by
  obtain ⟨hx, hb, hml, hown, hts, hr, hlk, hK, hij⟩ := id X
  intro v1 v2 v3 v6 s0 σ H locs ls hf hW hl
  rw [f_X6_first_136] at hf
  refine lv_istore (lv' := [(5, .int s0), (0, .ref (ad 0)), (1, .int v1), (2, .int v2), (3, .int v3), (6, .int v6)]) hx hb dX6_first_136 hl (by decide) rfl (fun ls hl => ?_)
  obtain ⟨v116, e16, hf⟩ := nw_e hf
  refine lv_iinc (v := v116) (lv' := [(6, .int v116), (5, .int s0), (0, .ref (ad 0)), (1, .int v1), (2, .int v2), (3, .int v3)]) hx hb dX6_first_138 hl (k := 5) rfl (by rw [e16]; rfl) (by decide) rfl (fun ls hl => ?_)
  refine lv_goto (tgt := 46) hx hb dX6_first_141 (by decide) ?_
  exact h46 v1 v2 v3 s0 v116 σ _ _ _ hf hW (lv_sub hl [2, 3, 4, 5, 1, 0] rfl)
noncomputable def f_X6_first_122 (k46 : Int32 → Int32 → Int32 → Int32 → Int32 → St → Option (Int32 × St)) (v1 : Int32) (v2 : Int32) (v3 : Int32) (v6 : Int32) (s0 : Int32) (σ : St) : Option (Int32 × St) := (if s0 = 0 then f_X6_first_136 k46 v1 v2 v3 v6 v6 σ else f_X6_first_136 k46 v1 v2 v3 v6 ((-4)) σ)
set_option maxHeartbeats 4000000 in
set_option maxRecDepth 100000 in
theorem b_X6_first_122 {k46 : Int32 → Int32 → Int32 → Int32 → Int32 → St → Option (Int32 × St)} (X : Cx RX6 wsX6_first cX6_first 9 (some .int) D cA ad SM p s m args meth c) (h46 : ∀ (w0 : Int32) (w1 : Int32) (w2 : Int32) (w3 : Int32) (w4 : Int32) (σ : St) (H : Heap) (locs : List Loc) (ls : Array Slot), k46 w0 w1 w2 w3 w4 σ = some r → Rn D cA ad SM s.heap σ H locs → lv_has ls 9 [(0, .ref (ad 0)), (1, .int w0), (2, .int w1), (3, .int w2), (5, .int w3), (6, .int w4)] → W p l e rm_X6_first s m args below meth c H locs 0 0 (MQ below (Qi D cA ad SM r) args s 0 0 (Aw ad SM)) (F0 m 46 ls [])) : ∀ (v1 : Int32) (v2 : Int32) (v3 : Int32) (v6 : Int32) (s0 : Int32) (σ : St) (H : Heap) (locs : List Loc) (ls : Array Slot), f_X6_first_122 k46 v1 v2 v3 v6 s0 σ = some r → Rn D cA ad SM s.heap σ H locs → lv_has ls 9 [(0, .ref (ad 0)), (1, .int v1), (2, .int v2), (3, .int v3), (6, .int v6)] → W p l e rm_X6_first s m args below meth c H locs 0 0 (MQ below (Qi D cA ad SM r) args s 0 0 (Aw ad SM)) (F0 m 122 ls [.int s0]) := by
  obtain ⟨hx, hb, hml, hown, hts, hr, hlk, hK, hij⟩ := id X
  intro v1 v2 v3 v6 s0 σ H locs ls hf hW hl
  rw [f_X6_first_122] at hf
  refine lv_istore (lv' := [(8, .int s0), (0, .ref (ad 0)), (1, .int v1), (2, .int v2), (3, .int v3), (6, .int v6)]) hx hb dX6_first_122 hl (by decide) rfl (fun ls hl => ?_)
  refine lv_iload hx hb dX6_first_124 (lv_at hl 0 rfl) ?_
  refine lv_if_eq (tgt := 134) hx hb dX6_first_126 (by decide) (fun c15 => ?_) (fun c15 => ?_)
  · have hf := it_e hf c15
    refine lv_iload hx hb dX6_first_134 (lv_at hl 5 rfl) ?_
    exact b_X6_first_136 X h46 v1 v2 v3 v6 v6 σ _ _ _ hf hW (lv_sub hl [1, 2, 3, 4, 5] rfl)
  · have hf := ie_e hf c15
    refine lv_bipush (v := (-4)) hx hb dX6_first_129 (by decide) ?_
    refine lv_goto (tgt := 136) hx hb dX6_first_131 (by decide) ?_
    exact b_X6_first_136 X h46 v1 v2 v3 v6 ((-4)) σ _ _ _ hf hW (lv_sub hl [1, 2, 3, 4, 5] rfl)
noncomputable def f_X6_first_121 (k46 : Int32 → Int32 → Int32 → Int32 → Int32 → St → Option (Int32 × St)) (v1 : Int32) (v2 : Int32) (v3 : Int32) (v6 : Int32) (σ : St) : Option (Int32 × St) := f_X6_first_122 k46 v1 v2 v3 v6 0 σ
set_option maxHeartbeats 4000000 in
set_option maxRecDepth 100000 in
theorem b_X6_first_121 {k46 : Int32 → Int32 → Int32 → Int32 → Int32 → St → Option (Int32 × St)} (X : Cx RX6 wsX6_first cX6_first 9 (some .int) D cA ad SM p s m args meth c) (h46 : ∀ (w0 : Int32) (w1 : Int32) (w2 : Int32) (w3 : Int32) (w4 : Int32) (σ : St) (H : Heap) (locs : List Loc) (ls : Array Slot), k46 w0 w1 w2 w3 w4 σ = some r → Rn D cA ad SM s.heap σ H locs → lv_has ls 9 [(0, .ref (ad 0)), (1, .int w0), (2, .int w1), (3, .int w2), (5, .int w3), (6, .int w4)] → W p l e rm_X6_first s m args below meth c H locs 0 0 (MQ below (Qi D cA ad SM r) args s 0 0 (Aw ad SM)) (F0 m 46 ls [])) : ∀ (v1 : Int32) (v2 : Int32) (v3 : Int32) (v6 : Int32) (σ : St) (H : Heap) (locs : List Loc) (ls : Array Slot), f_X6_first_121 k46 v1 v2 v3 v6 σ = some r → Rn D cA ad SM s.heap σ H locs → lv_has ls 9 [(0, .ref (ad 0)), (1, .int v1), (2, .int v2), (3, .int v3), (6, .int v6)] → W p l e rm_X6_first s m args below meth c H locs 0 0 (MQ below (Qi D cA ad SM r) args s 0 0 (Aw ad SM)) (F0 m 121 ls []) := by
  obtain ⟨hx, hb, hml, hown, hts, hr, hlk, hK, hij⟩ := id X
  intro v1 v2 v3 v6 σ H locs ls hf hW hl
  rw [f_X6_first_121] at hf
  refine lv_iconst (v := 0) hx hb dX6_first_121 (by decide) ?_
  exact b_X6_first_122 X h46 v1 v2 v3 v6 0 σ _ _ _ hf hW (lv_sub hl [0, 1, 2, 3, 4] rfl)
noncomputable def f_X6_first_46 (k144 : Int32 → St → Option (Int32 × St)) : Nat → Int32 → Int32 → Int32 → Int32 → Int32 → St → Option (Int32 × St)
  | 0, _, _, _, _, _, _ => none
  | n + 1, v1, v2, v3, v5, v6, σ => chk (inb v1 8) <| (if ((σ.1 20 v1.toNatClampNeg) / 3) ≤ v6 then k144 v5 σ else (if 0 ≤ v5 then k144 v5 σ else bnd (f_X6_element0 σ v1 (3 * v6)) fun r10 => bnd (f_X6_element0 σ v1 ((3 * v6) + 1)) fun r11 => bnd (f_X6_element0 σ v1 ((3 * v6) + 2)) fun r12 => bnd (f_X6_cooks σ r10 r11 r12) fun r13 => (if r13.1 = 0 then f_X6_first_121 (fun (w17_0 : Int32) (w18_1 : Int32) (w19_2 : Int32) (w20_3 : Int32) (w21_4 : Int32) (σ22 : St) => f_X6_first_46 k144 n w17_0 w18_1 w19_2 w20_3 w21_4 σ22) v1 v2 v3 v6 r13.2 else bnd (f_X6_doesHarm r13.2 r10 v2 v3) fun r23 => (if r23 = 0 then f_X6_first_122 (fun (w31_0 : Int32) (w32_1 : Int32) (w33_2 : Int32) (w34_3 : Int32) (w35_4 : Int32) (σ36 : St) => f_X6_first_46 k144 n w31_0 w32_1 w33_2 w34_3 w35_4 σ36) v1 v2 v3 v6 1 r13.2 else f_X6_first_121 (fun (w25_0 : Int32) (w26_1 : Int32) (w27_2 : Int32) (w28_3 : Int32) (w29_4 : Int32) (σ30 : St) => f_X6_first_46 k144 n w25_0 w26_1 w27_2 w28_3 w29_4 σ30) v1 v2 v3 v6 r13.2))))
set_option maxHeartbeats 4000000 in
set_option maxRecDepth 100000 in
theorem b_X6_first_46 {k144 : Int32 → St → Option (Int32 × St)} (X : Cx RX6 wsX6_first cX6_first 9 (some .int) D cA ad SM p s m args meth c) (h144 : ∀ (w0 : Int32) (σ : St) (H : Heap) (locs : List Loc) (ls : Array Slot), k144 w0 σ = some r → Rn D cA ad SM s.heap σ H locs → lv_has ls 9 [(0, .ref (ad 0)), (5, .int w0)] → W p l e rm_X6_first s m args below meth c H locs 0 0 (MQ below (Qi D cA ad SM r) args s 0 0 (Aw ad SM)) (F0 m 144 ls [])) : ∀ (n : Nat) (v1 : Int32) (v2 : Int32) (v3 : Int32) (v5 : Int32) (v6 : Int32) (σ : St) (H : Heap) (locs : List Loc) (ls : Array Slot), f_X6_first_46 k144 n v1 v2 v3 v5 v6 σ = some r → Rn D cA ad SM s.heap σ H locs → lv_has ls 9 [(0, .ref (ad 0)), (1, .int v1), (2, .int v2), (3, .int v3), (5, .int v5), (6, .int v6)] → W p l e rm_X6_first s m args below meth c H locs 0 0 (MQ below (Qi D cA ad SM r) args s 0 0 (Aw ad SM)) (F0 m 46 ls []) := by
  obtain ⟨hx, hb, hml, hown, hts, hr, hlk, hK, hij⟩ := id X
  intro n
  induction n with
  | zero =>
    intro v1 v2 v3 v5 v6 σ H locs ls hf
    exact nomatch (show (none : Option (Int32 × St)) = some r from hf)
  | succ n ih =>
    intro v1 v2 v3 v5 v6 σ H locs ls hf hW hl
    rw [f_X6_first_46] at hf
    refine lv_iload hx hb dX6_first_46 (lv_at hl 5 rfl) ?_
    refine lv_aload_n hx hb dX6_first_48 rfl (lv_at hl 0 rfl) ?_
    refine get_6_30 X hW kM_0 iM_0 inX6_first_6 (List.mem_of_getElem? (i := 2) rfl) dX6_first_49 ?_
    refine lv_iload_n hx hb dX6_first_52 rfl (lv_at hl 1 rfl) ?_
    obtain ⟨x7, hf⟩ := chk_e hf
    refine r_iald X hW kM_20 iM_20 nM_20 x7 dX6_first_53 ?_
    refine lv_iconst (v := 3) hx hb dX6_first_54 (by decide) ?_
    refine lv_idiv hx hb dX6_first_55 (by decide) ?_
    refine lv_icmp_ge (tgt := 144) hx hb dX6_first_56 (by decide) (fun c8 => ?_) (fun c8 => ?_)
    · have hf := it_e hf c8
      exact h144 v5 σ _ _ _ hf hW (lv_sub hl [0, 4] rfl)
    · have hf := ie_e hf c8
      refine lv_iload hx hb dX6_first_59 (lv_at hl 4 rfl) ?_
      refine lv_if_ge (tgt := 144) hx hb dX6_first_61 (by decide) (fun c9 => ?_) (fun c9 => ?_)
      · have hf := it_e hf c9
        exact h144 v5 σ _ _ _ hf hW (lv_sub hl [0, 4] rfl)
      · have hf := ie_e hf c9
        refine lv_aload_n hx hb dX6_first_64 rfl (lv_at hl 0 rfl) ?_
        refine lv_iload_n hx hb dX6_first_65 rfl (lv_at hl 1 rfl) ?_
        refine lv_iconst (v := 3) hx hb dX6_first_66 (by decide) ?_
        refine lv_iload hx hb dX6_first_67 (lv_at hl 5 rfl) ?_
        refine lv_imul hx hb dX6_first_69 ?_
        obtain ⟨r10, z10, hf⟩ := bnd_e hf
        refine r_cViR X hW kM_0 iM_0 rfl (c_X6_element0 l D cA ad hij σ v1 (3 * v6) r10 z10) gX6_first_X6_element0 rfl ⟨rfl, rfl⟩ hd_X6_element0 ⟨Nat.le_of_ble_eq_true rfl, Nat.le_of_ble_eq_true rfl⟩ rfl (Nat.le_of_ble_eq_true rfl) hl.1 dX6_first_70 (fun H locs hW => ?_)
        refine lv_istore (lv' := [(7, .int r10), (0, .ref (ad 0)), (1, .int v1), (2, .int v2), (3, .int v3), (5, .int v5), (6, .int v6)]) hx hb dX6_first_73 hl (by decide) rfl (fun ls hl => ?_)
        refine lv_aload_n hx hb dX6_first_75 rfl (lv_at hl 1 rfl) ?_
        refine lv_iload hx hb dX6_first_76 (lv_at hl 0 rfl) ?_
        refine lv_aload_n hx hb dX6_first_78 rfl (lv_at hl 1 rfl) ?_
        refine lv_iload_n hx hb dX6_first_79 rfl (lv_at hl 2 rfl) ?_
        refine lv_iconst (v := 3) hx hb dX6_first_80 (by decide) ?_
        refine lv_iload hx hb dX6_first_81 (lv_at hl 6 rfl) ?_
        refine lv_imul hx hb dX6_first_83 ?_
        refine lv_iconst (v := 1) hx hb dX6_first_84 (by decide) ?_
        refine lv_iadd hx hb dX6_first_85 ?_
        obtain ⟨r11, z11, hf⟩ := bnd_e hf
        refine r_cViR X hW kM_0 iM_0 rfl (c_X6_element0 l D cA ad hij σ v1 ((3 * v6) + 1) r11 z11) gX6_first_X6_element0 rfl ⟨rfl, rfl⟩ hd_X6_element0 ⟨Nat.le_of_ble_eq_true rfl, Nat.le_of_ble_eq_true rfl⟩ rfl (Nat.le_of_ble_eq_true rfl) hl.1 dX6_first_86 (fun H locs hW => ?_)
        refine lv_aload_n hx hb dX6_first_89 rfl (lv_at hl 1 rfl) ?_
        refine lv_iload_n hx hb dX6_first_90 rfl (lv_at hl 2 rfl) ?_
        refine lv_iconst (v := 3) hx hb dX6_first_91 (by decide) ?_
        refine lv_iload hx hb dX6_first_92 (lv_at hl 6 rfl) ?_
        refine lv_imul hx hb dX6_first_94 ?_
        refine lv_iconst (v := 2) hx hb dX6_first_95 (by decide) ?_
        refine lv_iadd hx hb dX6_first_96 ?_
        obtain ⟨r12, z12, hf⟩ := bnd_e hf
        refine r_cViR X hW kM_0 iM_0 rfl (c_X6_element0 l D cA ad hij σ v1 ((3 * v6) + 2) r12 z12) gX6_first_X6_element0 rfl ⟨rfl, rfl⟩ hd_X6_element0 ⟨Nat.le_of_ble_eq_true rfl, Nat.le_of_ble_eq_true rfl⟩ rfl (Nat.le_of_ble_eq_true rfl) hl.1 dX6_first_97 (fun H locs hW => ?_)
        obtain ⟨r13, z13, hf⟩ := bnd_e hf
        refine r_cVi X hW kM_0 iM_0 rfl (c_X6_cooks l D cA ad hij σ r10 r11 r12 r13 z13) gX6_first_X6_cooks rfl ⟨rfl, rfl⟩ hd_X6_cooks ⟨Nat.le_of_ble_eq_true rfl, Nat.le_of_ble_eq_true rfl⟩ rfl (Nat.le_of_ble_eq_true rfl) hl.1 dX6_first_100 (fun H locs hW => ?_)
        refine lv_if_eq (tgt := 121) hx hb dX6_first_103 (by decide) (fun c14 => ?_) (fun c14 => ?_)
        · have hf := it_e hf c14
          refine b_X6_first_121 X (fun w17_0 w18_1 w19_2 w20_3 w21_4 σ22 H locs ls hf hW hl => ?_) v1 v2 v3 v6 r13.2 _ _ _ hf hW (lv_sub hl [1, 2, 3, 4, 6] rfl)
          · exact ih w17_0 w18_1 w19_2 w20_3 w21_4 σ22 _ _ _ hf hW (lv_sub hl [0, 1, 2, 3, 4, 5] rfl)
        · have hf := ie_e hf c14
          refine lv_aload_n hx hb dX6_first_106 rfl (lv_at hl 1 rfl) ?_
          refine lv_iload hx hb dX6_first_107 (lv_at hl 0 rfl) ?_
          refine lv_iload_n hx hb dX6_first_109 rfl (lv_at hl 3 rfl) ?_
          refine lv_iload_n hx hb dX6_first_110 rfl (lv_at hl 4 rfl) ?_
          obtain ⟨r23, z23, hf⟩ := bnd_e hf
          refine r_cViR X hW kM_0 iM_0 rfl (c_X6_doesHarm l D cA ad hij r13.2 r10 v2 v3 r23 z23) gX6_first_X6_doesHarm rfl ⟨rfl, rfl⟩ hd_X6_doesHarm ⟨Nat.le_of_ble_eq_true rfl, Nat.le_of_ble_eq_true rfl⟩ rfl (Nat.le_of_ble_eq_true rfl) hl.1 dX6_first_111 (fun H locs hW => ?_)
          refine lv_if_ne (tgt := 121) hx hb dX6_first_114 (by decide) (fun c24 => ?_) (fun c24 => ?_)
          · have hf := ie_e hf c24
            refine b_X6_first_121 X (fun w25_0 w26_1 w27_2 w28_3 w29_4 σ30 H locs ls hf hW hl => ?_) v1 v2 v3 v6 r13.2 _ _ _ hf hW (lv_sub hl [1, 2, 3, 4, 6] rfl)
            · exact ih w25_0 w26_1 w27_2 w28_3 w29_4 σ30 _ _ _ hf hW (lv_sub hl [0, 1, 2, 3, 4, 5] rfl)
          · have hf := it_e hf c24
            refine lv_iconst (v := 1) hx hb dX6_first_117 (by decide) ?_
            refine lv_goto (tgt := 122) hx hb dX6_first_118 (by decide) ?_
            refine b_X6_first_122 X (fun w31_0 w32_1 w33_2 w34_3 w35_4 σ36 H locs ls hf hW hl => ?_) v1 v2 v3 v6 1 r13.2 _ _ _ hf hW (lv_sub hl [1, 2, 3, 4, 6] rfl)
            · exact ih w31_0 w32_1 w33_2 w34_3 w35_4 σ36 _ _ _ hf hW (lv_sub hl [0, 1, 2, 3, 4, 5] rfl)
noncomputable def f_X6_first_144 (v5 : Int32) (σ : St) : Option (Int32 × St) := bnd (f_X6_close σ) fun r39 => some (v5, r39)
set_option maxHeartbeats 4000000 in
set_option maxRecDepth 100000 in
theorem b_X6_first_144 (X : Cx RX6 wsX6_first cX6_first 9 (some .int) D cA ad SM p s m args meth c) : ∀ (v5 : Int32) (σ : St) (H : Heap) (locs : List Loc) (ls : Array Slot), f_X6_first_144 v5 σ = some r → Rn D cA ad SM s.heap σ H locs → lv_has ls 9 [(0, .ref (ad 0)), (5, .int v5)] → W p l e rm_X6_first s m args below meth c H locs 0 0 (MQ below (Qi D cA ad SM r) args s 0 0 (Aw ad SM)) (F0 m 144 ls []) := by
  obtain ⟨hx, hb, hml, hown, hts, hr, hlk, hK, hij⟩ := id X
  intro v5 σ H locs ls hf hW hl
  rw [f_X6_first_144] at hf
  refine lv_aload_n hx hb dX6_first_144 rfl (lv_at hl 0 rfl) ?_
  obtain ⟨r39, z39, hf⟩ := bnd_e hf
  refine r_cVv X hW kM_0 iM_0 rfl (c_X6_close l D cA ad hij σ  r39 z39) gX6_first_X6_close rfl ⟨rfl, rfl⟩ hd_X6_close ⟨Nat.le_of_ble_eq_true rfl, Nat.le_of_ble_eq_true rfl⟩ rfl (Nat.le_of_ble_eq_true rfl) hl.1 dX6_first_145 (fun H locs hW => ?_)
  refine lv_iload hx hb dX6_first_148 (lv_at hl 1 rfl) ?_
  exact r_iret X hW rfl rfl hf dX6_first_150
noncomputable def f_X6_first_25 (v1 : Int32) (v2 : Int32) (v3 : Int32) (s0 : Int32) (σ : St) : Option (Int32 × St) := (if 0 ≤ s0 then bnd (f_X6_open σ) fun r5 => nw ((-4) : Int32) fun v106 => f_X6_first_46 (fun (w37_0 : Int32) (σ38 : St) => f_X6_first_144 w37_0 σ38) fu v1 v2 v3 v106 0 r5 else some (s0, σ))
set_option maxHeartbeats 4000000 in
set_option maxRecDepth 100000 in
theorem b_X6_first_25 (X : Cx RX6 wsX6_first cX6_first 9 (some .int) D cA ad SM p s m args meth c) : ∀ (v1 : Int32) (v2 : Int32) (v3 : Int32) (s0 : Int32) (σ : St) (H : Heap) (locs : List Loc) (ls : Array Slot), f_X6_first_25 v1 v2 v3 s0 σ = some r → Rn D cA ad SM s.heap σ H locs → lv_has ls 9 [(0, .ref (ad 0)), (1, .int v1), (2, .int v2), (3, .int v3)] → W p l e rm_X6_first s m args below meth c H locs 0 0 (MQ below (Qi D cA ad SM r) args s 0 0 (Aw ad SM)) (F0 m 25 ls [.int s0]) := by
  obtain ⟨hx, hb, hml, hown, hts, hr, hlk, hK, hij⟩ := id X
  intro v1 v2 v3 s0 σ H locs ls hf hW hl
  rw [f_X6_first_25] at hf
  refine lv_istore (lv' := [(4, .int s0), (0, .ref (ad 0)), (1, .int v1), (2, .int v2), (3, .int v3)]) hx hb dX6_first_25 hl (by decide) rfl (fun ls hl => ?_)
  refine lv_iload hx hb dX6_first_27 (lv_at hl 0 rfl) ?_
  refine lv_if_ge (tgt := 35) hx hb dX6_first_29 (by decide) (fun c4 => ?_) (fun c4 => ?_)
  · have hf := it_e hf c4
    refine lv_aload_n hx hb dX6_first_35 rfl (lv_at hl 1 rfl) ?_
    obtain ⟨r5, z5, hf⟩ := bnd_e hf
    refine r_cVv X hW kM_0 iM_0 rfl (c_X6_open l D cA ad hij σ  r5 z5) gX6_first_X6_open rfl ⟨rfl, rfl⟩ hd_X6_open ⟨Nat.le_of_ble_eq_true rfl, Nat.le_of_ble_eq_true rfl⟩ rfl (Nat.le_of_ble_eq_true rfl) hl.1 dX6_first_36 (fun H locs hW => ?_)
    refine lv_bipush (v := (-4)) hx hb dX6_first_39 (by decide) ?_
    obtain ⟨v106, e6, hf⟩ := nw_e hf
    refine tI _ e6 ?_
    refine lv_istore (lv' := [(5, .int v106), (4, .int s0), (0, .ref (ad 0)), (1, .int v1), (2, .int v2), (3, .int v3)]) hx hb dX6_first_41 hl (by decide) rfl (fun ls hl => ?_)
    refine lv_iconst (v := 0) hx hb dX6_first_43 (by decide) ?_
    refine lv_istore (lv' := [(6, .int 0), (5, .int v106), (4, .int s0), (0, .ref (ad 0)), (1, .int v1), (2, .int v2), (3, .int v3)]) hx hb dX6_first_44 hl (by decide) rfl (fun ls hl => ?_)
    refine b_X6_first_46 X (fun w37_0 σ38 H locs ls hf hW hl => ?_) fu v1 v2 v3 v106 0 r5 _ _ _ hf hW (lv_sub hl [3, 4, 5, 6, 1, 0] rfl)
    · exact b_X6_first_144 X w37_0 σ38 _ _ _ hf hW (lv_sub hl [0, 1] rfl)
  · have hf := ie_e hf c4
    refine lv_iload hx hb dX6_first_32 (lv_at hl 0 rfl) ?_
    exact r_iret X hW rfl rfl hf dX6_first_34
end S_X6_first
noncomputable def f_X6_first (σ : St) (a1 : Int32) (a2 : Int32) (a3 : Int32) : Option (Int32 × St) := nw (uI σ 0 5 0) fun σ1 => bnd (f_X6_isLine a2 a3) fun r2 => (if r2 = 0 then f_X6_first_25 a1 a2 a3 ((-1)) σ1 else bnd (f_X6_wrongDishes σ1 a1 3 8) fun r40 => f_X6_first_25 a1 a2 a3 r40 σ1)
set_option maxHeartbeats 4000000 in
set_option maxRecDepth 100000 in
theorem c_X6_first (l : Launch) (D : va_G) (cA : Nat → ClassId) (ad : Nat → Nat) (hij : Ij ad SM) (σ : St) (a1 : Int32) (a2 : Int32) (a3 : Int32) (r : Int32 × St) (hf : f_X6_first σ a1 a2 a3 = some r) : Met l yX6_first wsX6_first rm_X6_first (PC D cA ad SM [.ref (ad 0), .int a1, .int a2, .int a3] σ) (Qi D cA ad SM r) 0 0 (Aw ad SM) := by
  rw [f_X6_first] at hf
  refine k_head (own := RX6) (ws := wsX6_first) (cc := cX6_first) (nL := 9) (ret := (some .int)) pn_X6 rfl rfl hij (Nat.le_of_ble_eq_true rfl) (fun p e s m below meth c ls X hW hl => ?_)
  have hl : lv_has ls 9 [(0, .ref (ad 0)), (1, .int a1), (2, .int a2), (3, .int a3)] := hl
  obtain ⟨hx, hb, hml, hown, hts, hr, hlk, hK, hij⟩ := id X
  refine lv_aload_n hx hb dX6_first_0 rfl (lv_at hl 0 rfl) ?_
  refine lv_iconst (v := 0) hx hb dX6_first_1 (by decide) ?_
  obtain ⟨σ1, e1, hf⟩ := nw_e hf
  refine put_6_5 X hW kM_0 iM_0 inX6_first_6 (List.mem_of_getElem? (i := 1) rfl) e1 dX6_first_2 (fun H locs hW => ?_)
  refine lv_iload_n hx hb dX6_first_5 rfl (lv_at hl 2 rfl) ?_
  refine lv_iload_n hx hb dX6_first_6 rfl (lv_at hl 3 rfl) ?_
  obtain ⟨r2, z2, hf⟩ := bnd_e hf
  refine r_cSiR X hW (c_X6_isLine l D cA ad hij σ1 a2 a3 r2 z2) gX6_first_X6_isLine rfl ⟨rfl, rfl⟩ hd_X6_isLine ⟨Nat.le_of_ble_eq_true rfl, Nat.le_of_ble_eq_true rfl⟩ rfl (Nat.le_of_ble_eq_true rfl) hl.1 dX6_first_7 (fun H locs hW => ?_)
  refine lv_if_eq (tgt := 24) hx hb dX6_first_10 (by decide) (fun c3 => ?_) (fun c3 => ?_)
  · have hf := it_e hf c3
    refine lv_iconst (v := (-1)) hx hb dX6_first_24 (by decide) ?_
    exact b_X6_first_25 X a1 a2 a3 ((-1)) σ1 _ _ _ hf hW (lv_sub hl [0, 1, 2, 3] rfl)
  · have hf := ie_e hf c3
    refine lv_aload_n hx hb dX6_first_13 rfl (lv_at hl 0 rfl) ?_
    refine lv_iload_n hx hb dX6_first_14 rfl (lv_at hl 1 rfl) ?_
    refine lv_iconst (v := 3) hx hb dX6_first_15 (by decide) ?_
    refine lv_bipush (v := 8) hx hb dX6_first_16 (by decide) ?_
    obtain ⟨r40, z40, hf⟩ := bnd_e hf
    refine r_cViR X hW kM_0 iM_0 rfl (c_X6_wrongDishes l D cA ad hij σ1 a1 3 8 r40 z40) gX6_first_X6_wrongDishes rfl ⟨rfl, rfl⟩ hd_X6_wrongDishes ⟨Nat.le_of_ble_eq_true rfl, Nat.le_of_ble_eq_true rfl⟩ rfl (Nat.le_of_ble_eq_true rfl) hl.1 dX6_first_18 (fun H locs hW => ?_)
    refine lv_goto (tgt := 25) hx hb dX6_first_21 (by decide) ?_
    exact b_X6_first_25 X a1 a2 a3 r40 σ1 _ _ _ hf hW (lv_sub hl [0, 1, 2, 3] rfl)

abbrev rm_X6_power : Room := { frames := 0, cells := 0, slots := 0, locals := 0 }
theorem hd_X6_power : yX6_power.cls = RX6 ∧ yX6_power.cls ≠ "java/lang/invoke/MethodHandle" ∧ yX6_power.cls ≠ "java/lang/invoke/VarHandle" ∧ (parseMethodDescriptor yX6_power.desc).map (fun d => d.parameters.length) = some 2 := by decide +kernel
section S_X6_power
variable {p : Program} {l : Launch} {e : Env} {s : State} {m : MethodId} {args : Array Value} {below : List Frame} {meth : Method} {c : Code} {D : va_G} {cA : Nat → ClassId} {ad : Nat → Nat} {r : Int32}
noncomputable def f_X6_power_4 (k19 : Int32 → Option (Int32)) : Nat → Int32 → Int32 → Int32 → Int32 → Option (Int32)
  | 0, _, _, _, _ => none
  | n + 1, v0, v1, v2, v3 => (if v1 ≤ v3 then k19 v2 else nw (v2 * v0 : Int32) fun v102 => nw (v3 + 1 : Int32) fun v103 => f_X6_power_4 k19 n v0 v1 v102 v103)
set_option maxHeartbeats 4000000 in
set_option maxRecDepth 100000 in
theorem b_X6_power_4 {σ : St} {k19 : Int32 → Option (Int32)} (X : Cx RX6 wsX6_power cX6_power 4 (some .int) D cA ad SM p s m args meth c) (h19 : ∀ (w0 : Int32) (H : Heap) (locs : List Loc) (ls : Array Slot), k19 w0 = some r → Rn D cA ad SM s.heap σ H locs → lv_has ls 4 [(2, .int w0)] → W p l e rm_X6_power s m args below meth c H locs 0 0 (MQ below (Qi D cA ad SM (r, σ)) args s 0 0 (Aw ad SM)) (F0 m 19 ls [])) : ∀ (n : Nat) (v0 : Int32) (v1 : Int32) (v2 : Int32) (v3 : Int32) (H : Heap) (locs : List Loc) (ls : Array Slot), f_X6_power_4 k19 n v0 v1 v2 v3 = some r → Rn D cA ad SM s.heap σ H locs → lv_has ls 4 [(0, .int v0), (1, .int v1), (2, .int v2), (3, .int v3)] → W p l e rm_X6_power s m args below meth c H locs 0 0 (MQ below (Qi D cA ad SM (r, σ)) args s 0 0 (Aw ad SM)) (F0 m 4 ls []) := by
  obtain ⟨hx, hb, hml, hown, hts, hr, hlk, hK, hij⟩ := id X
  intro n
  induction n with
  | zero =>
    intro v0 v1 v2 v3 H locs ls hf
    exact nomatch (show (none : Option (Int32)) = some r from hf)
  | succ n ih =>
    intro v0 v1 v2 v3 H locs ls hf hW hl
    rw [f_X6_power_4] at hf
    refine lv_iload_n hx hb dX6_power_4 rfl (lv_at hl 3 rfl) ?_
    refine lv_iload_n hx hb dX6_power_5 rfl (lv_at hl 1 rfl) ?_
    refine lv_icmp_ge (tgt := 19) hx hb dX6_power_6 (by decide) (fun c1 => ?_) (fun c1 => ?_)
    · have hf := it_e hf c1
      exact h19 v2 _ _ _ hf hW (lv_sub hl [2] rfl)
    · have hf := ie_e hf c1
      refine lv_iload_n hx hb dX6_power_9 rfl (lv_at hl 2 rfl) ?_
      refine lv_iload_n hx hb dX6_power_10 rfl (lv_at hl 0 rfl) ?_
      refine lv_imul hx hb dX6_power_11 ?_
      obtain ⟨v102, e2, hf⟩ := nw_e hf
      refine tI _ e2 ?_
      refine lv_istore_n (lv' := [(2, .int v102), (0, .int v0), (1, .int v1), (3, .int v3)]) hx hb dX6_power_12 rfl hl (by decide) rfl (fun ls hl => ?_)
      obtain ⟨v103, e3, hf⟩ := nw_e hf
      refine lv_iinc (v := v103) (lv' := [(3, .int v103), (2, .int v102), (0, .int v0), (1, .int v1)]) hx hb dX6_power_13 hl (k := 3) rfl (by rw [e3]; rfl) (by decide) rfl (fun ls hl => ?_)
      refine lv_goto (tgt := 4) hx hb dX6_power_16 (by decide) ?_
      exact ih v0 v1 v102 v103 _ _ _ hf hW (lv_sub hl [2, 3, 1, 0] rfl)
end S_X6_power
noncomputable def f_X6_power (a0 : Int32) (a1 : Int32) : Option (Int32) := f_X6_power_4 (fun (w4_0 : Int32) => some w4_0) fu a0 a1 1 0
set_option maxHeartbeats 4000000 in
set_option maxRecDepth 100000 in
theorem c_X6_power (l : Launch) (D : va_G) (cA : Nat → ClassId) (ad : Nat → Nat) (hij : Ij ad SM) (σ : St) (a0 : Int32) (a1 : Int32) (r : Int32) (hf : f_X6_power a0 a1 = some r) : Met l yX6_power wsX6_power rm_X6_power (PC D cA ad SM [.int a0, .int a1] σ) (Qi D cA ad SM (r, σ)) 0 0 (Aw ad SM) := by
  rw [f_X6_power] at hf
  refine k_head (own := RX6) (ws := wsX6_power) (cc := cX6_power) (nL := 4) (ret := (some .int)) pn_X6 rfl rfl hij (Nat.le_of_ble_eq_true rfl) (fun p e s m below meth c ls X hW hl => ?_)
  have hl : lv_has ls 4 [(0, .int a0), (1, .int a1)] := hl
  obtain ⟨hx, hb, hml, hown, hts, hr, hlk, hK, hij⟩ := id X
  refine lv_iconst (v := 1) hx hb dX6_power_0 (by decide) ?_
  refine lv_istore_n (lv' := [(2, .int 1), (0, .int a0), (1, .int a1)]) hx hb dX6_power_1 rfl hl (by decide) rfl (fun ls hl => ?_)
  refine lv_iconst (v := 0) hx hb dX6_power_2 (by decide) ?_
  refine lv_istore_n (lv' := [(3, .int 0), (2, .int 1), (0, .int a0), (1, .int a1)]) hx hb dX6_power_3 rfl hl (by decide) rfl (fun ls hl => ?_)
  refine b_X6_power_4 X (fun w4_0 H locs ls hf hW hl => ?_) fu a0 a1 1 0 _ _ _ hf hW (lv_sub hl [2, 3, 1, 0] rfl)
  · refine lv_iload_n hx hb dX6_power_19 rfl (lv_at hl 0 rfl) ?_
    exact r_iretR X hW rfl rfl hf dX6_power_20

abbrev rm_X6_week : Room := { frames := 4, cells := 0, slots := 0, locals := 95 }
theorem hd_X6_week : yX6_week.cls = RX6 ∧ yX6_week.cls ≠ "java/lang/invoke/MethodHandle" ∧ yX6_week.cls ≠ "java/lang/invoke/VarHandle" ∧ (parseMethodDescriptor yX6_week.desc).map (fun d => d.parameters.length) = some 4 := by decide +kernel
theorem inX6_week_6 : ∀ w ∈ wsX60, w ∈ wsX6_week := fun _ h => List.mem_cons_of_mem _ (List.mem_append_right _ h)
section S_X6_week
variable {p : Program} {l : Launch} {e : Env} {s : State} {m : MethodId} {args : Array Value} {below : List Frame} {meth : Method} {c : Code} {D : va_G} {cA : Nat → ClassId} {ad : Nat → Nat} {r : Int32 × St}
noncomputable def f_X6_week_213 (k125 : Int32 → Int32 → Int32 → Int32 → Int32 → Int32 → Int32 → Int32 → Int32 → Int32 → Int32 → Int32 → St → Option (Int32 × St)) (v1 : Int32) (v2 : Int32) (v3 : Int32) (v4 : Int32) (v6 : Int32) (v7 : Int32) (v8 : Int32) (v9 : Int32) (v11 : Int32) (v12 : Int32) (v13 : Int32) (s0 : Int32) (σ : St) : Option (Int32 × St) := nw (v13 + 1 : Int32) fun v130 => k125 v1 v2 v3 v4 v6 v7 v8 v9 s0 v11 v12 v130 σ
set_option maxHeartbeats 4000000 in
set_option maxRecDepth 100000 in
theorem b_X6_week_213 {k125 : Int32 → Int32 → Int32 → Int32 → Int32 → Int32 → Int32 → Int32 → Int32 → Int32 → Int32 → Int32 → St → Option (Int32 × St)} (X : Cx RX6 wsX6_week cX6_week 15 (some .int) D cA ad SM p s m args meth c) (h125 : ∀ (w0 : Int32) (w1 : Int32) (w2 : Int32) (w3 : Int32) (w4 : Int32) (w5 : Int32) (w6 : Int32) (w7 : Int32) (w8 : Int32) (w9 : Int32) (w10 : Int32) (w11 : Int32) (σ : St) (H : Heap) (locs : List Loc) (ls : Array Slot), k125 w0 w1 w2 w3 w4 w5 w6 w7 w8 w9 w10 w11 σ = some r → Rn D cA ad SM s.heap σ H locs → lv_has ls 15 [(0, .ref (ad 0)), (1, .int w0), (2, .int w1), (3, .int w2), (4, .int w3), (6, .int w4), (7, .int w5), (8, .int w6), (9, .int w7), (10, .int w8), (11, .int w9), (12, .int w10), (13, .int w11)] → W p l e rm_X6_week s m args below meth c H locs 0 0 (MQ below (Qi D cA ad SM r) args s 0 0 (Aw ad SM)) (F0 m 125 ls [])) : ∀ (v1 : Int32) (v2 : Int32) (v3 : Int32) (v4 : Int32) (v6 : Int32) (v7 : Int32) (v8 : Int32) (v9 : Int32) (v11 : Int32) (v12 : Int32) (v13 : Int32) (s0 : Int32) (σ : St) (H : Heap) (locs : List Loc) (ls : Array Slot), f_X6_week_213 k125 v1 v2 v3 v4 v6 v7 v8 v9 v11 v12 v13 s0 σ = some r → Rn D cA ad SM s.heap σ H locs → lv_has ls 15 [(0, .ref (ad 0)), (1, .int v1), (2, .int v2), (3, .int v3), (4, .int v4), (6, .int v6), (7, .int v7), (8, .int v8), (9, .int v9), (11, .int v11), (12, .int v12), (13, .int v13)] → W p l e rm_X6_week s m args below meth c H locs 0 0 (MQ below (Qi D cA ad SM r) args s 0 0 (Aw ad SM)) (F0 m 213 ls [.int s0]) := by
  obtain ⟨hx, hb, hml, hown, hts, hr, hlk, hK, hij⟩ := id X
  intro v1 v2 v3 v4 v6 v7 v8 v9 v11 v12 v13 s0 σ H locs ls hf hW hl
  rw [f_X6_week_213] at hf
  refine lv_istore (lv' := [(10, .int s0), (0, .ref (ad 0)), (1, .int v1), (2, .int v2), (3, .int v3), (4, .int v4), (6, .int v6), (7, .int v7), (8, .int v8), (9, .int v9), (11, .int v11), (12, .int v12), (13, .int v13)]) hx hb dX6_week_213 hl (by decide) rfl (fun ls hl => ?_)
  obtain ⟨v130, e30, hf⟩ := nw_e hf
  refine lv_iinc (v := v130) (lv' := [(13, .int v130), (10, .int s0), (0, .ref (ad 0)), (1, .int v1), (2, .int v2), (3, .int v3), (4, .int v4), (6, .int v6), (7, .int v7), (8, .int v8), (9, .int v9), (11, .int v11), (12, .int v12)]) hx hb dX6_week_215 hl (k := 12) rfl (by rw [e30]; rfl) (by decide) rfl (fun ls hl => ?_)
  refine lv_goto (tgt := 125) hx hb dX6_week_218 (by decide) ?_
  exact h125 v1 v2 v3 v4 v6 v7 v8 v9 s0 v11 v12 v130 σ _ _ _ hf hW (lv_sub hl [2, 3, 4, 5, 6, 7, 8, 9, 10, 1, 11, 12, 0] rfl)
noncomputable def f_X6_week_212 (k125 : Int32 → Int32 → Int32 → Int32 → Int32 → Int32 → Int32 → Int32 → Int32 → Int32 → Int32 → Int32 → St → Option (Int32 × St)) (v1 : Int32) (v2 : Int32) (v3 : Int32) (v4 : Int32) (v6 : Int32) (v7 : Int32) (v8 : Int32) (v9 : Int32) (v11 : Int32) (v12 : Int32) (v13 : Int32) (σ : St) : Option (Int32 × St) := f_X6_week_213 k125 v1 v2 v3 v4 v6 v7 v8 v9 v11 v12 v13 0 σ
set_option maxHeartbeats 4000000 in
set_option maxRecDepth 100000 in
theorem b_X6_week_212 {k125 : Int32 → Int32 → Int32 → Int32 → Int32 → Int32 → Int32 → Int32 → Int32 → Int32 → Int32 → Int32 → St → Option (Int32 × St)} (X : Cx RX6 wsX6_week cX6_week 15 (some .int) D cA ad SM p s m args meth c) (h125 : ∀ (w0 : Int32) (w1 : Int32) (w2 : Int32) (w3 : Int32) (w4 : Int32) (w5 : Int32) (w6 : Int32) (w7 : Int32) (w8 : Int32) (w9 : Int32) (w10 : Int32) (w11 : Int32) (σ : St) (H : Heap) (locs : List Loc) (ls : Array Slot), k125 w0 w1 w2 w3 w4 w5 w6 w7 w8 w9 w10 w11 σ = some r → Rn D cA ad SM s.heap σ H locs → lv_has ls 15 [(0, .ref (ad 0)), (1, .int w0), (2, .int w1), (3, .int w2), (4, .int w3), (6, .int w4), (7, .int w5), (8, .int w6), (9, .int w7), (10, .int w8), (11, .int w9), (12, .int w10), (13, .int w11)] → W p l e rm_X6_week s m args below meth c H locs 0 0 (MQ below (Qi D cA ad SM r) args s 0 0 (Aw ad SM)) (F0 m 125 ls [])) : ∀ (v1 : Int32) (v2 : Int32) (v3 : Int32) (v4 : Int32) (v6 : Int32) (v7 : Int32) (v8 : Int32) (v9 : Int32) (v11 : Int32) (v12 : Int32) (v13 : Int32) (σ : St) (H : Heap) (locs : List Loc) (ls : Array Slot), f_X6_week_212 k125 v1 v2 v3 v4 v6 v7 v8 v9 v11 v12 v13 σ = some r → Rn D cA ad SM s.heap σ H locs → lv_has ls 15 [(0, .ref (ad 0)), (1, .int v1), (2, .int v2), (3, .int v3), (4, .int v4), (6, .int v6), (7, .int v7), (8, .int v8), (9, .int v9), (11, .int v11), (12, .int v12), (13, .int v13)] → W p l e rm_X6_week s m args below meth c H locs 0 0 (MQ below (Qi D cA ad SM r) args s 0 0 (Aw ad SM)) (F0 m 212 ls []) := by
  obtain ⟨hx, hb, hml, hown, hts, hr, hlk, hK, hij⟩ := id X
  intro v1 v2 v3 v4 v6 v7 v8 v9 v11 v12 v13 σ H locs ls hf hW hl
  rw [f_X6_week_212] at hf
  refine lv_iconst (v := 0) hx hb dX6_week_212 (by decide) ?_
  exact b_X6_week_213 X h125 v1 v2 v3 v4 v6 v7 v8 v9 v11 v12 v13 0 σ _ _ _ hf hW (lv_sub hl [0, 1, 2, 3, 4, 5, 6, 7, 8, 9, 10, 11] rfl)
noncomputable def f_X6_week_125 (k221 : Int32 → Int32 → Int32 → Int32 → Int32 → Int32 → Int32 → Int32 → Int32 → Int32 → St → Option (Int32 × St)) : Nat → Int32 → Int32 → Int32 → Int32 → Int32 → Int32 → Int32 → Int32 → Int32 → Int32 → Int32 → Int32 → St → Option (Int32 × St)
  | 0, _, _, _, _, _, _, _, _, _, _, _, _, _ => none
  | n + 1, v1, v2, v3, v4, v6, v7, v8, v9, v10, v11, v12, v13, σ => (if v6 ≤ v13 then k221 v1 v2 v3 v4 v6 v7 v8 v9 v10 v11 σ else (if v10 = 0 then k221 v1 v2 v3 v4 v6 v7 v8 v9 v10 v11 σ else chk (nz (σ.1 0 0)) <| nw (v12 / (σ.1 0 0) : Int32) fun v121 => chk (nz v121) <| chk (nz (σ.1 0 0)) <| nw ((v9 / v121) - (v9 / v121) / (σ.1 0 0) * (σ.1 0 0) : Int32) fun v124 => nw ((10 * v11) + v124 : Int32) fun v125 => bnd (f_X6_element0 σ v1 (2 * v13)) fun r26 => bnd (f_X6_element0 σ v1 ((2 * v13) + 1)) fun r27 => bnd (f_X6_cooks σ v124 r26 r27) fun r28 => (if r28.1 = 0 then f_X6_week_212 (fun (w31_0 : Int32) (w32_1 : Int32) (w33_2 : Int32) (w34_3 : Int32) (w35_4 : Int32) (w36_5 : Int32) (w37_6 : Int32) (w38_7 : Int32) (w39_8 : Int32) (w40_9 : Int32) (w41_10 : Int32) (w42_11 : Int32) (σ43 : St) => f_X6_week_125 k221 n w31_0 w32_1 w33_2 w34_3 w35_4 w36_5 w37_6 w38_7 w39_8 w40_9 w41_10 w42_11 σ43) v1 v2 v3 v4 v6 v7 v8 v9 v125 v121 v13 r28.2 else bnd (f_X6_doesHarm r28.2 v124 v2 v3) fun r44 => (if r44 = 0 then f_X6_week_213 (fun (w59_0 : Int32) (w60_1 : Int32) (w61_2 : Int32) (w62_3 : Int32) (w63_4 : Int32) (w64_5 : Int32) (w65_6 : Int32) (w66_7 : Int32) (w67_8 : Int32) (w68_9 : Int32) (w69_10 : Int32) (w70_11 : Int32) (σ71 : St) => f_X6_week_125 k221 n w59_0 w60_1 w61_2 w62_3 w63_4 w64_5 w65_6 w66_7 w67_8 w68_9 w69_10 w70_11 σ71) v1 v2 v3 v4 v6 v7 v8 v9 v125 v121 v13 1 r28.2 else f_X6_week_212 (fun (w46_0 : Int32) (w47_1 : Int32) (w48_2 : Int32) (w49_3 : Int32) (w50_4 : Int32) (w51_5 : Int32) (w52_6 : Int32) (w53_7 : Int32) (w54_8 : Int32) (w55_9 : Int32) (w56_10 : Int32) (w57_11 : Int32) (σ58 : St) => f_X6_week_125 k221 n w46_0 w47_1 w48_2 w49_3 w50_4 w51_5 w52_6 w53_7 w54_8 w55_9 w56_10 w57_11 σ58) v1 v2 v3 v4 v6 v7 v8 v9 v125 v121 v13 r28.2))))
set_option maxHeartbeats 4000000 in
set_option maxRecDepth 100000 in
theorem b_X6_week_125 {k221 : Int32 → Int32 → Int32 → Int32 → Int32 → Int32 → Int32 → Int32 → Int32 → Int32 → St → Option (Int32 × St)} (X : Cx RX6 wsX6_week cX6_week 15 (some .int) D cA ad SM p s m args meth c) (h221 : ∀ (w0 : Int32) (w1 : Int32) (w2 : Int32) (w3 : Int32) (w4 : Int32) (w5 : Int32) (w6 : Int32) (w7 : Int32) (w8 : Int32) (w9 : Int32) (σ : St) (H : Heap) (locs : List Loc) (ls : Array Slot), k221 w0 w1 w2 w3 w4 w5 w6 w7 w8 w9 σ = some r → Rn D cA ad SM s.heap σ H locs → lv_has ls 15 [(0, .ref (ad 0)), (1, .int w0), (2, .int w1), (3, .int w2), (4, .int w3), (6, .int w4), (7, .int w5), (8, .int w6), (9, .int w7), (10, .int w8), (11, .int w9)] → W p l e rm_X6_week s m args below meth c H locs 0 0 (MQ below (Qi D cA ad SM r) args s 0 0 (Aw ad SM)) (F0 m 221 ls [])) : ∀ (n : Nat) (v1 : Int32) (v2 : Int32) (v3 : Int32) (v4 : Int32) (v6 : Int32) (v7 : Int32) (v8 : Int32) (v9 : Int32) (v10 : Int32) (v11 : Int32) (v12 : Int32) (v13 : Int32) (σ : St) (H : Heap) (locs : List Loc) (ls : Array Slot), f_X6_week_125 k221 n v1 v2 v3 v4 v6 v7 v8 v9 v10 v11 v12 v13 σ = some r → Rn D cA ad SM s.heap σ H locs → lv_has ls 15 [(0, .ref (ad 0)), (1, .int v1), (2, .int v2), (3, .int v3), (4, .int v4), (6, .int v6), (7, .int v7), (8, .int v8), (9, .int v9), (10, .int v10), (11, .int v11), (12, .int v12), (13, .int v13)] → W p l e rm_X6_week s m args below meth c H locs 0 0 (MQ below (Qi D cA ad SM r) args s 0 0 (Aw ad SM)) (F0 m 125 ls []) := by
  obtain ⟨hx, hb, hml, hown, hts, hr, hlk, hK, hij⟩ := id X
  intro n
  induction n with
  | zero =>
    intro v1 v2 v3 v4 v6 v7 v8 v9 v10 v11 v12 v13 σ H locs ls hf
    exact nomatch (show (none : Option (Int32 × St)) = some r from hf)
  | succ n ih =>
    intro v1 v2 v3 v4 v6 v7 v8 v9 v10 v11 v12 v13 σ H locs ls hf hW hl
    rw [f_X6_week_125] at hf
    refine lv_iload hx hb dX6_week_125 (lv_at hl 12 rfl) ?_
    refine lv_iload hx hb dX6_week_127 (lv_at hl 5 rfl) ?_
    refine lv_icmp_ge (tgt := 221) hx hb dX6_week_129 (by decide) (fun c18 => ?_) (fun c18 => ?_)
    · have hf := it_e hf c18
      exact h221 v1 v2 v3 v4 v6 v7 v8 v9 v10 v11 σ _ _ _ hf hW (lv_sub hl [0, 1, 2, 3, 4, 5, 6, 7, 8, 9, 10] rfl)
    · have hf := ie_e hf c18
      refine lv_iload hx hb dX6_week_132 (lv_at hl 9 rfl) ?_
      refine lv_if_eq (tgt := 221) hx hb dX6_week_134 (by decide) (fun c19 => ?_) (fun c19 => ?_)
      · have hf := it_e hf c19
        exact h221 v1 v2 v3 v4 v6 v7 v8 v9 v10 v11 σ _ _ _ hf hW (lv_sub hl [0, 1, 2, 3, 4, 5, 6, 7, 8, 9, 10] rfl)
      · have hf := ie_e hf c19
        refine lv_iload hx hb dX6_week_137 (lv_at hl 11 rfl) ?_
        refine lv_aload_n hx hb dX6_week_139 rfl (lv_at hl 0 rfl) ?_
        refine get_6_0 X hW kM_0 iM_0 inX6_week_6 (List.mem_of_getElem? (i := 3) rfl) dX6_week_140 ?_
        obtain ⟨q20, hf⟩ := chk_e hf
        refine lv_idiv hx hb dX6_week_143 (nz_e q20) ?_
        obtain ⟨v121, e21, hf⟩ := nw_e hf
        refine tI _ e21 ?_
        refine lv_istore (lv' := [(12, .int v121), (0, .ref (ad 0)), (1, .int v1), (2, .int v2), (3, .int v3), (4, .int v4), (6, .int v6), (7, .int v7), (8, .int v8), (9, .int v9), (10, .int v10), (11, .int v11), (13, .int v13)]) hx hb dX6_week_144 hl (by decide) rfl (fun ls hl => ?_)
        refine lv_iload hx hb dX6_week_146 (lv_at hl 9 rfl) ?_
        refine lv_iload hx hb dX6_week_148 (lv_at hl 0 rfl) ?_
        obtain ⟨q22, hf⟩ := chk_e hf
        refine lv_idiv hx hb dX6_week_150 (nz_e q22) ?_
        refine lv_aload_n hx hb dX6_week_151 rfl (lv_at hl 1 rfl) ?_
        refine get_6_0 X hW kM_0 iM_0 inX6_week_6 (List.mem_of_getElem? (i := 3) rfl) dX6_week_152 ?_
        obtain ⟨q23, hf⟩ := chk_e hf
        refine lv_irem hx hb dX6_week_155 (nz_e q23) ?_
        obtain ⟨v124, e24, hf⟩ := nw_e hf
        refine tI _ e24 ?_
        refine lv_istore (lv' := [(14, .int v124), (12, .int v121), (0, .ref (ad 0)), (1, .int v1), (2, .int v2), (3, .int v3), (4, .int v4), (6, .int v6), (7, .int v7), (8, .int v8), (9, .int v9), (10, .int v10), (11, .int v11), (13, .int v13)]) hx hb dX6_week_156 hl (by decide) rfl (fun ls hl => ?_)
        refine lv_bipush (v := 10) hx hb dX6_week_158 (by decide) ?_
        refine lv_iload hx hb dX6_week_160 (lv_at hl 12 rfl) ?_
        refine lv_imul hx hb dX6_week_162 ?_
        refine lv_iload hx hb dX6_week_163 (lv_at hl 0 rfl) ?_
        refine lv_iadd hx hb dX6_week_165 ?_
        obtain ⟨v125, e25, hf⟩ := nw_e hf
        refine tI _ e25 ?_
        refine lv_istore (lv' := [(11, .int v125), (14, .int v124), (12, .int v121), (0, .ref (ad 0)), (1, .int v1), (2, .int v2), (3, .int v3), (4, .int v4), (6, .int v6), (7, .int v7), (8, .int v8), (9, .int v9), (10, .int v10), (13, .int v13)]) hx hb dX6_week_166 hl (by decide) rfl (fun ls hl => ?_)
        refine lv_aload_n hx hb dX6_week_168 rfl (lv_at hl 3 rfl) ?_
        refine lv_iload hx hb dX6_week_169 (lv_at hl 1 rfl) ?_
        refine lv_aload_n hx hb dX6_week_171 rfl (lv_at hl 3 rfl) ?_
        refine lv_iload_n hx hb dX6_week_172 rfl (lv_at hl 4 rfl) ?_
        refine lv_iconst (v := 2) hx hb dX6_week_173 (by decide) ?_
        refine lv_iload hx hb dX6_week_174 (lv_at hl 13 rfl) ?_
        refine lv_imul hx hb dX6_week_176 ?_
        obtain ⟨r26, z26, hf⟩ := bnd_e hf
        refine r_cViR X hW kM_0 iM_0 rfl (c_X6_element0 l D cA ad hij σ v1 (2 * v13) r26 z26) gX6_week_X6_element0 rfl ⟨rfl, rfl⟩ hd_X6_element0 ⟨Nat.le_of_ble_eq_true rfl, Nat.le_of_ble_eq_true rfl⟩ rfl (Nat.le_of_ble_eq_true rfl) hl.1 dX6_week_177 (fun H locs hW => ?_)
        refine lv_aload_n hx hb dX6_week_180 rfl (lv_at hl 3 rfl) ?_
        refine lv_iload_n hx hb dX6_week_181 rfl (lv_at hl 4 rfl) ?_
        refine lv_iconst (v := 2) hx hb dX6_week_182 (by decide) ?_
        refine lv_iload hx hb dX6_week_183 (lv_at hl 13 rfl) ?_
        refine lv_imul hx hb dX6_week_185 ?_
        refine lv_iconst (v := 1) hx hb dX6_week_186 (by decide) ?_
        refine lv_iadd hx hb dX6_week_187 ?_
        obtain ⟨r27, z27, hf⟩ := bnd_e hf
        refine r_cViR X hW kM_0 iM_0 rfl (c_X6_element0 l D cA ad hij σ v1 ((2 * v13) + 1) r27 z27) gX6_week_X6_element0 rfl ⟨rfl, rfl⟩ hd_X6_element0 ⟨Nat.le_of_ble_eq_true rfl, Nat.le_of_ble_eq_true rfl⟩ rfl (Nat.le_of_ble_eq_true rfl) hl.1 dX6_week_188 (fun H locs hW => ?_)
        obtain ⟨r28, z28, hf⟩ := bnd_e hf
        refine r_cVi X hW kM_0 iM_0 rfl (c_X6_cooks l D cA ad hij σ v124 r26 r27 r28 z28) gX6_week_X6_cooks rfl ⟨rfl, rfl⟩ hd_X6_cooks ⟨Nat.le_of_ble_eq_true rfl, Nat.le_of_ble_eq_true rfl⟩ rfl (Nat.le_of_ble_eq_true rfl) hl.1 dX6_week_191 (fun H locs hW => ?_)
        refine lv_if_eq (tgt := 212) hx hb dX6_week_194 (by decide) (fun c29 => ?_) (fun c29 => ?_)
        · have hf := it_e hf c29
          refine b_X6_week_212 X (fun w31_0 w32_1 w33_2 w34_3 w35_4 w36_5 w37_6 w38_7 w39_8 w40_9 w41_10 w42_11 σ43 H locs ls hf hW hl => ?_) v1 v2 v3 v4 v6 v7 v8 v9 v125 v121 v13 r28.2 _ _ _ hf hW (lv_sub hl [3, 4, 5, 6, 7, 8, 9, 10, 11, 0, 2, 13] rfl)
          · exact ih w31_0 w32_1 w33_2 w34_3 w35_4 w36_5 w37_6 w38_7 w39_8 w40_9 w41_10 w42_11 σ43 _ _ _ hf hW (lv_sub hl [0, 1, 2, 3, 4, 5, 6, 7, 8, 9, 10, 11, 12] rfl)
        · have hf := ie_e hf c29
          refine lv_aload_n hx hb dX6_week_197 rfl (lv_at hl 3 rfl) ?_
          refine lv_iload hx hb dX6_week_198 (lv_at hl 1 rfl) ?_
          refine lv_iload_n hx hb dX6_week_200 rfl (lv_at hl 5 rfl) ?_
          refine lv_iload_n hx hb dX6_week_201 rfl (lv_at hl 6 rfl) ?_
          obtain ⟨r44, z44, hf⟩ := bnd_e hf
          refine r_cViR X hW kM_0 iM_0 rfl (c_X6_doesHarm l D cA ad hij r28.2 v124 v2 v3 r44 z44) gX6_week_X6_doesHarm rfl ⟨rfl, rfl⟩ hd_X6_doesHarm ⟨Nat.le_of_ble_eq_true rfl, Nat.le_of_ble_eq_true rfl⟩ rfl (Nat.le_of_ble_eq_true rfl) hl.1 dX6_week_202 (fun H locs hW => ?_)
          refine lv_if_ne (tgt := 212) hx hb dX6_week_205 (by decide) (fun c45 => ?_) (fun c45 => ?_)
          · have hf := ie_e hf c45
            refine b_X6_week_212 X (fun w46_0 w47_1 w48_2 w49_3 w50_4 w51_5 w52_6 w53_7 w54_8 w55_9 w56_10 w57_11 σ58 H locs ls hf hW hl => ?_) v1 v2 v3 v4 v6 v7 v8 v9 v125 v121 v13 r28.2 _ _ _ hf hW (lv_sub hl [3, 4, 5, 6, 7, 8, 9, 10, 11, 0, 2, 13] rfl)
            · exact ih w46_0 w47_1 w48_2 w49_3 w50_4 w51_5 w52_6 w53_7 w54_8 w55_9 w56_10 w57_11 σ58 _ _ _ hf hW (lv_sub hl [0, 1, 2, 3, 4, 5, 6, 7, 8, 9, 10, 11, 12] rfl)
          · have hf := it_e hf c45
            refine lv_iconst (v := 1) hx hb dX6_week_208 (by decide) ?_
            refine lv_goto (tgt := 213) hx hb dX6_week_209 (by decide) ?_
            refine b_X6_week_213 X (fun w59_0 w60_1 w61_2 w62_3 w63_4 w64_5 w65_6 w66_7 w67_8 w68_9 w69_10 w70_11 σ71 H locs ls hf hW hl => ?_) v1 v2 v3 v4 v6 v7 v8 v9 v125 v121 v13 1 r28.2 _ _ _ hf hW (lv_sub hl [3, 4, 5, 6, 7, 8, 9, 10, 11, 0, 2, 13] rfl)
            · exact ih w59_0 w60_1 w61_2 w62_3 w63_4 w64_5 w65_6 w66_7 w67_8 w68_9 w69_10 w70_11 σ71 _ _ _ hf hW (lv_sub hl [0, 1, 2, 3, 4, 5, 6, 7, 8, 9, 10, 11, 12] rfl)
noncomputable def f_X6_week_256 (k87 : Int32 → Int32 → Int32 → Int32 → Int32 → Int32 → Int32 → Int32 → St → Option (Int32 × St)) (v1 : Int32) (v2 : Int32) (v3 : Int32) (v4 : Int32) (v6 : Int32) (v8 : Int32) (v9 : Int32) (s0 : Int32) (s1 : Int32) (σ : St) : Option (Int32 × St) := nw (s0 + s1 : Int32) fun v186 => nw (v9 + 1 : Int32) fun v187 => k87 v1 v2 v3 v4 v6 v186 v8 v187 σ
set_option maxHeartbeats 4000000 in
set_option maxRecDepth 100000 in
theorem b_X6_week_256 {k87 : Int32 → Int32 → Int32 → Int32 → Int32 → Int32 → Int32 → Int32 → St → Option (Int32 × St)} (X : Cx RX6 wsX6_week cX6_week 15 (some .int) D cA ad SM p s m args meth c) (h87 : ∀ (w0 : Int32) (w1 : Int32) (w2 : Int32) (w3 : Int32) (w4 : Int32) (w5 : Int32) (w6 : Int32) (w7 : Int32) (σ : St) (H : Heap) (locs : List Loc) (ls : Array Slot), k87 w0 w1 w2 w3 w4 w5 w6 w7 σ = some r → Rn D cA ad SM s.heap σ H locs → lv_has ls 15 [(0, .ref (ad 0)), (1, .int w0), (2, .int w1), (3, .int w2), (4, .int w3), (6, .int w4), (7, .int w5), (8, .int w6), (9, .int w7)] → W p l e rm_X6_week s m args below meth c H locs 0 0 (MQ below (Qi D cA ad SM r) args s 0 0 (Aw ad SM)) (F0 m 87 ls [])) : ∀ (v1 : Int32) (v2 : Int32) (v3 : Int32) (v4 : Int32) (v6 : Int32) (v8 : Int32) (v9 : Int32) (s0 : Int32) (s1 : Int32) (σ : St) (H : Heap) (locs : List Loc) (ls : Array Slot), f_X6_week_256 k87 v1 v2 v3 v4 v6 v8 v9 s0 s1 σ = some r → Rn D cA ad SM s.heap σ H locs → lv_has ls 15 [(0, .ref (ad 0)), (1, .int v1), (2, .int v2), (3, .int v3), (4, .int v4), (6, .int v6), (8, .int v8), (9, .int v9)] → W p l e rm_X6_week s m args below meth c H locs 0 0 (MQ below (Qi D cA ad SM r) args s 0 0 (Aw ad SM)) (F0 m 256 ls [.int s1, .int s0]) := by
  obtain ⟨hx, hb, hml, hown, hts, hr, hlk, hK, hij⟩ := id X
  intro v1 v2 v3 v4 v6 v8 v9 s0 s1 σ H locs ls hf hW hl
  rw [f_X6_week_256] at hf
  refine lv_iadd hx hb dX6_week_256 ?_
  obtain ⟨v186, e86, hf⟩ := nw_e hf
  refine tI _ e86 ?_
  refine lv_istore (lv' := [(7, .int v186), (0, .ref (ad 0)), (1, .int v1), (2, .int v2), (3, .int v3), (4, .int v4), (6, .int v6), (8, .int v8), (9, .int v9)]) hx hb dX6_week_257 hl (by decide) rfl (fun ls hl => ?_)
  obtain ⟨v187, e87, hf⟩ := nw_e hf
  refine lv_iinc (v := v187) (lv' := [(9, .int v187), (7, .int v186), (0, .ref (ad 0)), (1, .int v1), (2, .int v2), (3, .int v3), (4, .int v4), (6, .int v6), (8, .int v8)]) hx hb dX6_week_259 hl (k := 8) rfl (by rw [e87]; rfl) (by decide) rfl (fun ls hl => ?_)
  refine lv_goto (tgt := 87) hx hb dX6_week_262 (by decide) ?_
  exact h87 v1 v2 v3 v4 v6 v186 v8 v187 σ _ _ _ hf hW (lv_sub hl [2, 3, 4, 5, 6, 7, 1, 8, 0] rfl)
noncomputable def f_X6_week_242 (k87 : Int32 → Int32 → Int32 → Int32 → Int32 → Int32 → Int32 → Int32 → St → Option (Int32 × St)) (v1 : Int32) (v2 : Int32) (v3 : Int32) (v4 : Int32) (v6 : Int32) (v7 : Int32) (v9 : Int32) (v10 : Int32) (s0 : Int32) (σ : St) : Option (Int32 × St) := (if v10 = 0 then f_X6_week_256 k87 v1 v2 v3 v4 v6 s0 v9 v7 0 σ else f_X6_week_256 k87 v1 v2 v3 v4 v6 s0 v9 v7 1 σ)
set_option maxHeartbeats 4000000 in
set_option maxRecDepth 100000 in
theorem b_X6_week_242 {k87 : Int32 → Int32 → Int32 → Int32 → Int32 → Int32 → Int32 → Int32 → St → Option (Int32 × St)} (X : Cx RX6 wsX6_week cX6_week 15 (some .int) D cA ad SM p s m args meth c) (h87 : ∀ (w0 : Int32) (w1 : Int32) (w2 : Int32) (w3 : Int32) (w4 : Int32) (w5 : Int32) (w6 : Int32) (w7 : Int32) (σ : St) (H : Heap) (locs : List Loc) (ls : Array Slot), k87 w0 w1 w2 w3 w4 w5 w6 w7 σ = some r → Rn D cA ad SM s.heap σ H locs → lv_has ls 15 [(0, .ref (ad 0)), (1, .int w0), (2, .int w1), (3, .int w2), (4, .int w3), (6, .int w4), (7, .int w5), (8, .int w6), (9, .int w7)] → W p l e rm_X6_week s m args below meth c H locs 0 0 (MQ below (Qi D cA ad SM r) args s 0 0 (Aw ad SM)) (F0 m 87 ls [])) : ∀ (v1 : Int32) (v2 : Int32) (v3 : Int32) (v4 : Int32) (v6 : Int32) (v7 : Int32) (v9 : Int32) (v10 : Int32) (s0 : Int32) (σ : St) (H : Heap) (locs : List Loc) (ls : Array Slot), f_X6_week_242 k87 v1 v2 v3 v4 v6 v7 v9 v10 s0 σ = some r → Rn D cA ad SM s.heap σ H locs → lv_has ls 15 [(0, .ref (ad 0)), (1, .int v1), (2, .int v2), (3, .int v3), (4, .int v4), (6, .int v6), (7, .int v7), (9, .int v9), (10, .int v10)] → W p l e rm_X6_week s m args below meth c H locs 0 0 (MQ below (Qi D cA ad SM r) args s 0 0 (Aw ad SM)) (F0 m 242 ls [.int s0]) := by
  obtain ⟨hx, hb, hml, hown, hts, hr, hlk, hK, hij⟩ := id X
  intro v1 v2 v3 v4 v6 v7 v9 v10 s0 σ H locs ls hf hW hl
  rw [f_X6_week_242] at hf
  refine lv_istore (lv' := [(8, .int s0), (0, .ref (ad 0)), (1, .int v1), (2, .int v2), (3, .int v3), (4, .int v4), (6, .int v6), (7, .int v7), (9, .int v9), (10, .int v10)]) hx hb dX6_week_242 hl (by decide) rfl (fun ls hl => ?_)
  refine lv_iload hx hb dX6_week_244 (lv_at hl 7 rfl) ?_
  refine lv_iload hx hb dX6_week_246 (lv_at hl 9 rfl) ?_
  refine lv_if_eq (tgt := 255) hx hb dX6_week_248 (by decide) (fun c85 => ?_) (fun c85 => ?_)
  · have hf := it_e hf c85
    refine lv_iconst (v := 0) hx hb dX6_week_255 (by decide) ?_
    exact b_X6_week_256 X h87 v1 v2 v3 v4 v6 s0 v9 v7 0 σ _ _ _ hf hW (lv_sub hl [1, 2, 3, 4, 5, 6, 0, 8] rfl)
  · have hf := ie_e hf c85
    refine lv_iconst (v := 1) hx hb dX6_week_251 (by decide) ?_
    refine lv_goto (tgt := 256) hx hb dX6_week_252 (by decide) ?_
    exact b_X6_week_256 X h87 v1 v2 v3 v4 v6 s0 v9 v7 1 σ _ _ _ hf hW (lv_sub hl [1, 2, 3, 4, 5, 6, 0, 8] rfl)
noncomputable def f_X6_week_240 (k87 : Int32 → Int32 → Int32 → Int32 → Int32 → Int32 → Int32 → Int32 → St → Option (Int32 × St)) (v1 : Int32) (v2 : Int32) (v3 : Int32) (v4 : Int32) (v6 : Int32) (v7 : Int32) (v8 : Int32) (v9 : Int32) (v10 : Int32) (σ : St) : Option (Int32 × St) := f_X6_week_242 k87 v1 v2 v3 v4 v6 v7 v9 v10 v8 σ
set_option maxHeartbeats 4000000 in
set_option maxRecDepth 100000 in
theorem b_X6_week_240 {k87 : Int32 → Int32 → Int32 → Int32 → Int32 → Int32 → Int32 → Int32 → St → Option (Int32 × St)} (X : Cx RX6 wsX6_week cX6_week 15 (some .int) D cA ad SM p s m args meth c) (h87 : ∀ (w0 : Int32) (w1 : Int32) (w2 : Int32) (w3 : Int32) (w4 : Int32) (w5 : Int32) (w6 : Int32) (w7 : Int32) (σ : St) (H : Heap) (locs : List Loc) (ls : Array Slot), k87 w0 w1 w2 w3 w4 w5 w6 w7 σ = some r → Rn D cA ad SM s.heap σ H locs → lv_has ls 15 [(0, .ref (ad 0)), (1, .int w0), (2, .int w1), (3, .int w2), (4, .int w3), (6, .int w4), (7, .int w5), (8, .int w6), (9, .int w7)] → W p l e rm_X6_week s m args below meth c H locs 0 0 (MQ below (Qi D cA ad SM r) args s 0 0 (Aw ad SM)) (F0 m 87 ls [])) : ∀ (v1 : Int32) (v2 : Int32) (v3 : Int32) (v4 : Int32) (v6 : Int32) (v7 : Int32) (v8 : Int32) (v9 : Int32) (v10 : Int32) (σ : St) (H : Heap) (locs : List Loc) (ls : Array Slot), f_X6_week_240 k87 v1 v2 v3 v4 v6 v7 v8 v9 v10 σ = some r → Rn D cA ad SM s.heap σ H locs → lv_has ls 15 [(0, .ref (ad 0)), (1, .int v1), (2, .int v2), (3, .int v3), (4, .int v4), (6, .int v6), (7, .int v7), (8, .int v8), (9, .int v9), (10, .int v10)] → W p l e rm_X6_week s m args below meth c H locs 0 0 (MQ below (Qi D cA ad SM r) args s 0 0 (Aw ad SM)) (F0 m 240 ls []) := by
  obtain ⟨hx, hb, hml, hown, hts, hr, hlk, hK, hij⟩ := id X
  intro v1 v2 v3 v4 v6 v7 v8 v9 v10 σ H locs ls hf hW hl
  rw [f_X6_week_240] at hf
  refine lv_iload hx hb dX6_week_240 (lv_at hl 7 rfl) ?_
  exact b_X6_week_242 X h87 v1 v2 v3 v4 v6 v7 v9 v10 v8 σ _ _ _ hf hW (lv_sub hl [0, 1, 2, 3, 4, 5, 6, 8, 9] rfl)
noncomputable def f_X6_week_221 (k87 : Int32 → Int32 → Int32 → Int32 → Int32 → Int32 → Int32 → Int32 → St → Option (Int32 × St)) (v1 : Int32) (v2 : Int32) (v3 : Int32) (v4 : Int32) (v6 : Int32) (v7 : Int32) (v8 : Int32) (v9 : Int32) (v10 : Int32) (v11 : Int32) (σ : St) : Option (Int32 × St) := bnd (f_X6_close σ) fun r83 => (if v10 = 0 then f_X6_week_240 k87 v1 v2 v3 v4 v6 v7 v8 v9 v10 r83 else (if v7 = 0 then f_X6_week_242 k87 v1 v2 v3 v4 v6 v7 v9 v10 v11 r83 else f_X6_week_240 k87 v1 v2 v3 v4 v6 v7 v8 v9 v10 r83))
set_option maxHeartbeats 4000000 in
set_option maxRecDepth 100000 in
theorem b_X6_week_221 {k87 : Int32 → Int32 → Int32 → Int32 → Int32 → Int32 → Int32 → Int32 → St → Option (Int32 × St)} (X : Cx RX6 wsX6_week cX6_week 15 (some .int) D cA ad SM p s m args meth c) (h87 : ∀ (w0 : Int32) (w1 : Int32) (w2 : Int32) (w3 : Int32) (w4 : Int32) (w5 : Int32) (w6 : Int32) (w7 : Int32) (σ : St) (H : Heap) (locs : List Loc) (ls : Array Slot), k87 w0 w1 w2 w3 w4 w5 w6 w7 σ = some r → Rn D cA ad SM s.heap σ H locs → lv_has ls 15 [(0, .ref (ad 0)), (1, .int w0), (2, .int w1), (3, .int w2), (4, .int w3), (6, .int w4), (7, .int w5), (8, .int w6), (9, .int w7)] → W p l e rm_X6_week s m args below meth c H locs 0 0 (MQ below (Qi D cA ad SM r) args s 0 0 (Aw ad SM)) (F0 m 87 ls [])) : ∀ (v1 : Int32) (v2 : Int32) (v3 : Int32) (v4 : Int32) (v6 : Int32) (v7 : Int32) (v8 : Int32) (v9 : Int32) (v10 : Int32) (v11 : Int32) (σ : St) (H : Heap) (locs : List Loc) (ls : Array Slot), f_X6_week_221 k87 v1 v2 v3 v4 v6 v7 v8 v9 v10 v11 σ = some r → Rn D cA ad SM s.heap σ H locs → lv_has ls 15 [(0, .ref (ad 0)), (1, .int v1), (2, .int v2), (3, .int v3), (4, .int v4), (6, .int v6), (7, .int v7), (8, .int v8), (9, .int v9), (10, .int v10), (11, .int v11)] → W p l e rm_X6_week s m args below meth c H locs 0 0 (MQ below (Qi D cA ad SM r) args s 0 0 (Aw ad SM)) (F0 m 221 ls []) := by
  obtain ⟨hx, hb, hml, hown, hts, hr, hlk, hK, hij⟩ := id X
  intro v1 v2 v3 v4 v6 v7 v8 v9 v10 v11 σ H locs ls hf hW hl
  rw [f_X6_week_221] at hf
  refine lv_aload_n hx hb dX6_week_221 rfl (lv_at hl 0 rfl) ?_
  obtain ⟨r83, z83, hf⟩ := bnd_e hf
  refine r_cVv X hW kM_0 iM_0 rfl (c_X6_close l D cA ad hij σ  r83 z83) gX6_week_X6_close rfl ⟨rfl, rfl⟩ hd_X6_close ⟨Nat.le_of_ble_eq_true rfl, Nat.le_of_ble_eq_true rfl⟩ rfl (Nat.le_of_ble_eq_true rfl) hl.1 dX6_week_222 (fun H locs hW => ?_)
  refine lv_iload hx hb dX6_week_225 (lv_at hl 9 rfl) ?_
  refine lv_if_eq (tgt := 240) hx hb dX6_week_227 (by decide) (fun c84 => ?_) (fun c84 => ?_)
  · have hf := it_e hf c84
    exact b_X6_week_240 X h87 v1 v2 v3 v4 v6 v7 v8 v9 v10 r83 _ _ _ hf hW (lv_sub hl [0, 1, 2, 3, 4, 5, 6, 7, 8, 9] rfl)
  · have hf := ie_e hf c84
    refine lv_iload hx hb dX6_week_230 (lv_at hl 6 rfl) ?_
    refine lv_if_ne (tgt := 240) hx hb dX6_week_232 (by decide) (fun c88 => ?_) (fun c88 => ?_)
    · have hf := ie_e hf c88
      exact b_X6_week_240 X h87 v1 v2 v3 v4 v6 v7 v8 v9 v10 r83 _ _ _ hf hW (lv_sub hl [0, 1, 2, 3, 4, 5, 6, 7, 8, 9] rfl)
    · have hf := it_e hf c88
      refine lv_iload hx hb dX6_week_235 (lv_at hl 10 rfl) ?_
      refine lv_goto (tgt := 242) hx hb dX6_week_237 (by decide) ?_
      exact b_X6_week_242 X h87 v1 v2 v3 v4 v6 v7 v9 v10 v11 r83 _ _ _ hf hW (lv_sub hl [0, 1, 2, 3, 4, 5, 6, 8, 9] rfl)
noncomputable def f_X6_week_87 (k265 : Int32 → Int32 → Int32 → St → Option (Int32 × St)) : Nat → Int32 → Int32 → Int32 → Int32 → Int32 → Int32 → Int32 → Int32 → St → Option (Int32 × St)
  | 0, _, _, _, _, _, _, _, _, _ => none
  | n + 1, v1, v2, v3, v4, v6, v7, v8, v9, σ => bnd (f_X6_power (σ.1 0 0) v6) fun r14 => (if r14 ≤ v9 then k265 v4 v7 v8 σ else bnd (f_X6_open σ) fun r16 => bnd (f_X6_power (r16.1 0 0) v6) fun r17 => f_X6_week_125 (fun (w72_0 : Int32) (w73_1 : Int32) (w74_2 : Int32) (w75_3 : Int32) (w76_4 : Int32) (w77_5 : Int32) (w78_6 : Int32) (w79_7 : Int32) (w80_8 : Int32) (w81_9 : Int32) (σ82 : St) => f_X6_week_221 (fun (w89_0 : Int32) (w90_1 : Int32) (w91_2 : Int32) (w92_3 : Int32) (w93_4 : Int32) (w94_5 : Int32) (w95_6 : Int32) (w96_7 : Int32) (σ97 : St) => f_X6_week_87 k265 n w89_0 w90_1 w91_2 w92_3 w93_4 w94_5 w95_6 w96_7 σ97) w72_0 w73_1 w74_2 w75_3 w76_4 w77_5 w78_6 w79_7 w80_8 w81_9 σ82) fu v1 v2 v3 v4 v6 v7 v8 v9 1 0 r17 0 r16)
set_option maxHeartbeats 4000000 in
set_option maxRecDepth 100000 in
theorem b_X6_week_87 {k265 : Int32 → Int32 → Int32 → St → Option (Int32 × St)} (X : Cx RX6 wsX6_week cX6_week 15 (some .int) D cA ad SM p s m args meth c) (h265 : ∀ (w0 : Int32) (w1 : Int32) (w2 : Int32) (σ : St) (H : Heap) (locs : List Loc) (ls : Array Slot), k265 w0 w1 w2 σ = some r → Rn D cA ad SM s.heap σ H locs → lv_has ls 15 [(4, .int w0), (7, .int w1), (8, .int w2)] → W p l e rm_X6_week s m args below meth c H locs 0 0 (MQ below (Qi D cA ad SM r) args s 0 0 (Aw ad SM)) (F0 m 265 ls [])) : ∀ (n : Nat) (v1 : Int32) (v2 : Int32) (v3 : Int32) (v4 : Int32) (v6 : Int32) (v7 : Int32) (v8 : Int32) (v9 : Int32) (σ : St) (H : Heap) (locs : List Loc) (ls : Array Slot), f_X6_week_87 k265 n v1 v2 v3 v4 v6 v7 v8 v9 σ = some r → Rn D cA ad SM s.heap σ H locs → lv_has ls 15 [(0, .ref (ad 0)), (1, .int v1), (2, .int v2), (3, .int v3), (4, .int v4), (6, .int v6), (7, .int v7), (8, .int v8), (9, .int v9)] → W p l e rm_X6_week s m args below meth c H locs 0 0 (MQ below (Qi D cA ad SM r) args s 0 0 (Aw ad SM)) (F0 m 87 ls []) := by
  obtain ⟨hx, hb, hml, hown, hts, hr, hlk, hK, hij⟩ := id X
  intro n
  induction n with
  | zero =>
    intro v1 v2 v3 v4 v6 v7 v8 v9 σ H locs ls hf
    exact nomatch (show (none : Option (Int32 × St)) = some r from hf)
  | succ n ih =>
    intro v1 v2 v3 v4 v6 v7 v8 v9 σ H locs ls hf hW hl
    rw [f_X6_week_87] at hf
    refine lv_iload hx hb dX6_week_87 (lv_at hl 8 rfl) ?_
    refine lv_aload_n hx hb dX6_week_89 rfl (lv_at hl 0 rfl) ?_
    refine get_6_0 X hW kM_0 iM_0 inX6_week_6 (List.mem_of_getElem? (i := 3) rfl) dX6_week_90 ?_
    refine lv_iload hx hb dX6_week_93 (lv_at hl 5 rfl) ?_
    obtain ⟨r14, z14, hf⟩ := bnd_e hf
    refine r_cSiR X hW (c_X6_power l D cA ad hij σ (σ.1 0 0) v6 r14 z14) gX6_week_X6_power rfl ⟨rfl, rfl⟩ hd_X6_power ⟨Nat.le_of_ble_eq_true rfl, Nat.le_of_ble_eq_true rfl⟩ rfl (Nat.le_of_ble_eq_true rfl) hl.1 dX6_week_95 (fun H locs hW => ?_)
    refine lv_icmp_ge (tgt := 265) hx hb dX6_week_98 (by decide) (fun c15 => ?_) (fun c15 => ?_)
    · have hf := it_e hf c15
      exact h265 v4 v7 v8 σ _ _ _ hf hW (lv_sub hl [4, 6, 7] rfl)
    · have hf := ie_e hf c15
      refine lv_aload_n hx hb dX6_week_101 rfl (lv_at hl 0 rfl) ?_
      obtain ⟨r16, z16, hf⟩ := bnd_e hf
      refine r_cVv X hW kM_0 iM_0 rfl (c_X6_open l D cA ad hij σ  r16 z16) gX6_week_X6_open rfl ⟨rfl, rfl⟩ hd_X6_open ⟨Nat.le_of_ble_eq_true rfl, Nat.le_of_ble_eq_true rfl⟩ rfl (Nat.le_of_ble_eq_true rfl) hl.1 dX6_week_102 (fun H locs hW => ?_)
      refine lv_iconst (v := 1) hx hb dX6_week_105 (by decide) ?_
      refine lv_istore (lv' := [(10, .int 1), (0, .ref (ad 0)), (1, .int v1), (2, .int v2), (3, .int v3), (4, .int v4), (6, .int v6), (7, .int v7), (8, .int v8), (9, .int v9)]) hx hb dX6_week_106 hl (by decide) rfl (fun ls hl => ?_)
      refine lv_iconst (v := 0) hx hb dX6_week_108 (by decide) ?_
      refine lv_istore (lv' := [(11, .int 0), (10, .int 1), (0, .ref (ad 0)), (1, .int v1), (2, .int v2), (3, .int v3), (4, .int v4), (6, .int v6), (7, .int v7), (8, .int v8), (9, .int v9)]) hx hb dX6_week_109 hl (by decide) rfl (fun ls hl => ?_)
      refine lv_aload_n hx hb dX6_week_111 rfl (lv_at hl 2 rfl) ?_
      refine get_6_0 X hW kM_0 iM_0 inX6_week_6 (List.mem_of_getElem? (i := 3) rfl) dX6_week_112 ?_
      refine lv_iload hx hb dX6_week_115 (lv_at hl 7 rfl) ?_
      obtain ⟨r17, z17, hf⟩ := bnd_e hf
      refine r_cSiR X hW (c_X6_power l D cA ad hij r16 (r16.1 0 0) v6 r17 z17) gX6_week_X6_power rfl ⟨rfl, rfl⟩ hd_X6_power ⟨Nat.le_of_ble_eq_true rfl, Nat.le_of_ble_eq_true rfl⟩ rfl (Nat.le_of_ble_eq_true rfl) hl.1 dX6_week_117 (fun H locs hW => ?_)
      refine lv_istore (lv' := [(12, .int r17), (11, .int 0), (10, .int 1), (0, .ref (ad 0)), (1, .int v1), (2, .int v2), (3, .int v3), (4, .int v4), (6, .int v6), (7, .int v7), (8, .int v8), (9, .int v9)]) hx hb dX6_week_120 hl (by decide) rfl (fun ls hl => ?_)
      refine lv_iconst (v := 0) hx hb dX6_week_122 (by decide) ?_
      refine lv_istore (lv' := [(13, .int 0), (12, .int r17), (11, .int 0), (10, .int 1), (0, .ref (ad 0)), (1, .int v1), (2, .int v2), (3, .int v3), (4, .int v4), (6, .int v6), (7, .int v7), (8, .int v8), (9, .int v9)]) hx hb dX6_week_123 hl (by decide) rfl (fun ls hl => ?_)
      refine b_X6_week_125 X (fun w72_0 w73_1 w74_2 w75_3 w76_4 w77_5 w78_6 w79_7 w80_8 w81_9 σ82 H locs ls hf hW hl => ?_) fu v1 v2 v3 v4 v6 v7 v8 v9 1 0 r17 0 r16 _ _ _ hf hW (lv_sub hl [4, 5, 6, 7, 8, 9, 10, 11, 12, 3, 2, 1, 0] rfl)
      · refine b_X6_week_221 X (fun w89_0 w90_1 w91_2 w92_3 w93_4 w94_5 w95_6 w96_7 σ97 H locs ls hf hW hl => ?_) w72_0 w73_1 w74_2 w75_3 w76_4 w77_5 w78_6 w79_7 w80_8 w81_9 σ82 _ _ _ hf hW (lv_sub hl [0, 1, 2, 3, 4, 5, 6, 7, 8, 9, 10] rfl)
        · exact ih w89_0 w90_1 w91_2 w92_3 w93_4 w94_5 w95_6 w96_7 σ97 _ _ _ hf hW (lv_sub hl [0, 1, 2, 3, 4, 5, 6, 7, 8] rfl)
noncomputable def f_X6_week_57 (v1 : Int32) (v2 : Int32) (v3 : Int32) (v4 : Int32) (s0 : Int32) (σ : St) : Option (Int32 × St) := (if 0 ≤ s0 then chk (inb v1 8) <| nw ((σ.1 20 v1.toNatClampNeg) / 2 : Int32) fun v112 => nw ((-4) : Int32) fun v113 => f_X6_week_87 (fun (w98_0 : Int32) (w99_1 : Int32) (w100_2 : Int32) (σ101 : St) => (if w98_0 = 0 then some (w99_1, σ101) else some (w100_2, σ101))) fu v1 v2 v3 v4 v112 0 v113 0 σ else some (s0, σ))
set_option maxHeartbeats 4000000 in
set_option maxRecDepth 100000 in
theorem b_X6_week_57 (X : Cx RX6 wsX6_week cX6_week 15 (some .int) D cA ad SM p s m args meth c) : ∀ (v1 : Int32) (v2 : Int32) (v3 : Int32) (v4 : Int32) (s0 : Int32) (σ : St) (H : Heap) (locs : List Loc) (ls : Array Slot), f_X6_week_57 v1 v2 v3 v4 s0 σ = some r → Rn D cA ad SM s.heap σ H locs → lv_has ls 15 [(0, .ref (ad 0)), (1, .int v1), (2, .int v2), (3, .int v3), (4, .int v4)] → W p l e rm_X6_week s m args below meth c H locs 0 0 (MQ below (Qi D cA ad SM r) args s 0 0 (Aw ad SM)) (F0 m 57 ls [.int s0]) := by
  obtain ⟨hx, hb, hml, hown, hts, hr, hlk, hK, hij⟩ := id X
  intro v1 v2 v3 v4 s0 σ H locs ls hf hW hl
  rw [f_X6_week_57] at hf
  refine lv_istore (lv' := [(5, .int s0), (0, .ref (ad 0)), (1, .int v1), (2, .int v2), (3, .int v3), (4, .int v4)]) hx hb dX6_week_57 hl (by decide) rfl (fun ls hl => ?_)
  refine lv_iload hx hb dX6_week_59 (lv_at hl 0 rfl) ?_
  refine lv_if_ge (tgt := 67) hx hb dX6_week_61 (by decide) (fun c10 => ?_) (fun c10 => ?_)
  · have hf := it_e hf c10
    refine lv_aload_n hx hb dX6_week_67 rfl (lv_at hl 1 rfl) ?_
    refine get_6_30 X hW kM_0 iM_0 inX6_week_6 (List.mem_of_getElem? (i := 4) rfl) dX6_week_68 ?_
    refine lv_iload_n hx hb dX6_week_71 rfl (lv_at hl 2 rfl) ?_
    obtain ⟨x11, hf⟩ := chk_e hf
    refine r_iald X hW kM_20 iM_20 nM_20 x11 dX6_week_72 ?_
    refine lv_iconst (v := 2) hx hb dX6_week_73 (by decide) ?_
    refine lv_idiv hx hb dX6_week_74 (by decide) ?_
    obtain ⟨v112, e12, hf⟩ := nw_e hf
    refine tI _ e12 ?_
    refine lv_istore (lv' := [(6, .int v112), (5, .int s0), (0, .ref (ad 0)), (1, .int v1), (2, .int v2), (3, .int v3), (4, .int v4)]) hx hb dX6_week_75 hl (by decide) rfl (fun ls hl => ?_)
    refine lv_iconst (v := 0) hx hb dX6_week_77 (by decide) ?_
    refine lv_istore (lv' := [(7, .int 0), (6, .int v112), (5, .int s0), (0, .ref (ad 0)), (1, .int v1), (2, .int v2), (3, .int v3), (4, .int v4)]) hx hb dX6_week_78 hl (by decide) rfl (fun ls hl => ?_)
    refine lv_bipush (v := (-4)) hx hb dX6_week_80 (by decide) ?_
    obtain ⟨v113, e13, hf⟩ := nw_e hf
    refine tI _ e13 ?_
    refine lv_istore (lv' := [(8, .int v113), (7, .int 0), (6, .int v112), (5, .int s0), (0, .ref (ad 0)), (1, .int v1), (2, .int v2), (3, .int v3), (4, .int v4)]) hx hb dX6_week_82 hl (by decide) rfl (fun ls hl => ?_)
    refine lv_iconst (v := 0) hx hb dX6_week_84 (by decide) ?_
    refine lv_istore (lv' := [(9, .int 0), (8, .int v113), (7, .int 0), (6, .int v112), (5, .int s0), (0, .ref (ad 0)), (1, .int v1), (2, .int v2), (3, .int v3), (4, .int v4)]) hx hb dX6_week_85 hl (by decide) rfl (fun ls hl => ?_)
    refine b_X6_week_87 X (fun w98_0 w99_1 w100_2 σ101 H locs ls hf hW hl => ?_) fu v1 v2 v3 v4 v112 0 v113 0 σ _ _ _ hf hW (lv_sub hl [5, 6, 7, 8, 9, 3, 2, 1, 0] rfl)
    · refine lv_iload hx hb dX6_week_265 (lv_at hl 0 rfl) ?_
      refine lv_if_ne (tgt := 275) hx hb dX6_week_267 (by decide) (fun c102 => ?_) (fun c102 => ?_)
      · have hf := ie_e hf c102
        refine lv_iload hx hb dX6_week_275 (lv_at hl 2 rfl) ?_
        exact r_iret X hW rfl rfl hf dX6_week_277
      · have hf := it_e hf c102
        refine lv_iload hx hb dX6_week_270 (lv_at hl 1 rfl) ?_
        refine lv_goto (tgt := 277) hx hb dX6_week_272 (by decide) ?_
        exact r_iret X hW rfl rfl hf dX6_week_277
  · have hf := ie_e hf c10
    refine lv_iload hx hb dX6_week_64 (lv_at hl 0 rfl) ?_
    exact r_iret X hW rfl rfl hf dX6_week_66
end S_X6_week
noncomputable def f_X6_week (σ : St) (a1 : Int32) (a2 : Int32) (a3 : Int32) (a4 : Int32) : Option (Int32 × St) := nw (uI σ 0 5 0) fun σ1 => bnd (f_X6_in a1.toInt64 0 7) fun r2 => (if r2 = 0 then some ((-1), σ1) else bnd (f_X6_isLine a2 a3) fun r4 => (if r4 = 0 then some ((-1), σ1) else bnd (f_X6_in a4.toInt64 0 1) fun r6 => (if r6 = 0 then some ((-1), σ1) else (if (σ1.1 0 0) = 0 then f_X6_week_57 a1 a2 a3 a4 ((-3)) σ1 else bnd (f_X6_wrongDishes σ1 a1 2 5) fun r9 => f_X6_week_57 a1 a2 a3 a4 r9 σ1))))
set_option maxHeartbeats 4000000 in
set_option maxRecDepth 100000 in
theorem c_X6_week (l : Launch) (D : va_G) (cA : Nat → ClassId) (ad : Nat → Nat) (hij : Ij ad SM) (σ : St) (a1 : Int32) (a2 : Int32) (a3 : Int32) (a4 : Int32) (r : Int32 × St) (hf : f_X6_week σ a1 a2 a3 a4 = some r) : Met l yX6_week wsX6_week rm_X6_week (PC D cA ad SM [.ref (ad 0), .int a1, .int a2, .int a3, .int a4] σ) (Qi D cA ad SM r) 0 0 (Aw ad SM) := by
  rw [f_X6_week] at hf
  refine k_head (own := RX6) (ws := wsX6_week) (cc := cX6_week) (nL := 15) (ret := (some .int)) pn_X6 rfl rfl hij (Nat.le_of_ble_eq_true rfl) (fun p e s m below meth c ls X hW hl => ?_)
  have hl : lv_has ls 15 [(0, .ref (ad 0)), (1, .int a1), (2, .int a2), (3, .int a3), (4, .int a4)] := hl
  obtain ⟨hx, hb, hml, hown, hts, hr, hlk, hK, hij⟩ := id X
  refine lv_aload_n hx hb dX6_week_0 rfl (lv_at hl 0 rfl) ?_
  refine lv_iconst (v := 0) hx hb dX6_week_1 (by decide) ?_
  obtain ⟨σ1, e1, hf⟩ := nw_e hf
  refine put_6_5 X hW kM_0 iM_0 inX6_week_6 (List.mem_of_getElem? (i := 1) rfl) e1 dX6_week_2 (fun H locs hW => ?_)
  refine lv_iload_n hx hb dX6_week_5 rfl (lv_at hl 1 rfl) ?_
  refine lv_i2l hx hb dX6_week_6 rfl ?_
  refine lv_lconst (v := 0) hx hb dX6_week_7 (by decide) ?_
  refine lv_ldc2 (v := 7) hx hb hown (hts _ (List.mem_of_getElem? (i := 2) rfl)) dX6_week_8 ?_
  obtain ⟨r2, z2, hf⟩ := bnd_e hf
  refine r_cSiR X hW (c_X6_in l D cA ad hij σ1 a1.toInt64 0 7 r2 z2) gX6_week_X6_in rfl ⟨rfl, rfl⟩ hd_X6_in ⟨Nat.le_of_ble_eq_true rfl, Nat.le_of_ble_eq_true rfl⟩ rfl (Nat.le_of_ble_eq_true rfl) hl.1 dX6_week_11 (fun H locs hW => ?_)
  refine lv_if_eq (tgt := 36) hx hb dX6_week_14 (by decide) (fun c3 => ?_) (fun c3 => ?_)
  · have hf := it_e hf c3
    refine lv_iconst (v := (-1)) hx hb dX6_week_36 (by decide) ?_
    exact r_iret X hW rfl rfl hf dX6_week_37
  · have hf := ie_e hf c3
    refine lv_iload_n hx hb dX6_week_17 rfl (lv_at hl 2 rfl) ?_
    refine lv_iload_n hx hb dX6_week_18 rfl (lv_at hl 3 rfl) ?_
    obtain ⟨r4, z4, hf⟩ := bnd_e hf
    refine r_cSiR X hW (c_X6_isLine l D cA ad hij σ1 a2 a3 r4 z4) gX6_week_X6_isLine rfl ⟨rfl, rfl⟩ hd_X6_isLine ⟨Nat.le_of_ble_eq_true rfl, Nat.le_of_ble_eq_true rfl⟩ rfl (Nat.le_of_ble_eq_true rfl) hl.1 dX6_week_19 (fun H locs hW => ?_)
    refine lv_if_eq (tgt := 36) hx hb dX6_week_22 (by decide) (fun c5 => ?_) (fun c5 => ?_)
    · have hf := it_e hf c5
      refine lv_iconst (v := (-1)) hx hb dX6_week_36 (by decide) ?_
      exact r_iret X hW rfl rfl hf dX6_week_37
    · have hf := ie_e hf c5
      refine lv_iload hx hb dX6_week_25 (lv_at hl 4 rfl) ?_
      refine lv_i2l hx hb dX6_week_27 rfl ?_
      refine lv_lconst (v := 0) hx hb dX6_week_28 (by decide) ?_
      refine lv_lconst (v := 1) hx hb dX6_week_29 (by decide) ?_
      obtain ⟨r6, z6, hf⟩ := bnd_e hf
      refine r_cSiR X hW (c_X6_in l D cA ad hij σ1 a4.toInt64 0 1 r6 z6) gX6_week_X6_in rfl ⟨rfl, rfl⟩ hd_X6_in ⟨Nat.le_of_ble_eq_true rfl, Nat.le_of_ble_eq_true rfl⟩ rfl (Nat.le_of_ble_eq_true rfl) hl.1 dX6_week_30 (fun H locs hW => ?_)
      refine lv_if_ne (tgt := 38) hx hb dX6_week_33 (by decide) (fun c7 => ?_) (fun c7 => ?_)
      · have hf := ie_e hf c7
        refine lv_aload_n hx hb dX6_week_38 rfl (lv_at hl 0 rfl) ?_
        refine get_6_0 X hW kM_0 iM_0 inX6_week_6 (List.mem_of_getElem? (i := 3) rfl) dX6_week_39 ?_
        refine lv_if_ne (tgt := 50) hx hb dX6_week_42 (by decide) (fun c8 => ?_) (fun c8 => ?_)
        · have hf := ie_e hf c8
          refine lv_aload_n hx hb dX6_week_50 rfl (lv_at hl 0 rfl) ?_
          refine lv_iload_n hx hb dX6_week_51 rfl (lv_at hl 1 rfl) ?_
          refine lv_iconst (v := 2) hx hb dX6_week_52 (by decide) ?_
          refine lv_iconst (v := 5) hx hb dX6_week_53 (by decide) ?_
          obtain ⟨r9, z9, hf⟩ := bnd_e hf
          refine r_cViR X hW kM_0 iM_0 rfl (c_X6_wrongDishes l D cA ad hij σ1 a1 2 5 r9 z9) gX6_week_X6_wrongDishes rfl ⟨rfl, rfl⟩ hd_X6_wrongDishes ⟨Nat.le_of_ble_eq_true rfl, Nat.le_of_ble_eq_true rfl⟩ rfl (Nat.le_of_ble_eq_true rfl) hl.1 dX6_week_54 (fun H locs hW => ?_)
          exact b_X6_week_57 X a1 a2 a3 a4 r9 σ1 _ _ _ hf hW (lv_sub hl [0, 1, 2, 3, 4] rfl)
        · have hf := it_e hf c8
          refine lv_bipush (v := (-3)) hx hb dX6_week_45 (by decide) ?_
          refine lv_goto (tgt := 57) hx hb dX6_week_47 (by decide) ?_
          exact b_X6_week_57 X a1 a2 a3 a4 ((-3)) σ1 _ _ _ hf hW (lv_sub hl [0, 1, 2, 3, 4] rfl)
      · have hf := it_e hf c7
        refine lv_iconst (v := (-1)) hx hb dX6_week_36 (by decide) ?_
        exact r_iret X hW rfl rfl hf dX6_week_37
