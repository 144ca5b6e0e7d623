abbrev rm_X6_thrown : Room := { frames := 0, cells := 0, slots := 0, locals := 0 }
theorem hd_X6_thrown : yX6_thrown.cls = RX6 ∧ yX6_thrown.cls ≠ "java/lang/invoke/MethodHandle" ∧ yX6_thrown.cls ≠ "java/lang/invoke/VarHandle" ∧ (parseMethodDescriptor yX6_thrown.desc).map (fun d => d.parameters.length) = some 0 := by decide +kernel
theorem inX6_thrown_6 : ∀ w ∈ wsX60, w ∈ wsX6_thrown := fun _ h => List.mem_cons_of_mem _ (List.mem_append_right _ h)
section S_X6_thrown
variable {p : Program} {l : Launch} {e : Env} {s : State} {m : MethodId} {args : Array Value} {below : List Frame} {meth : Method} {c : Code} {D : va_G} {cA : Nat → ClassId} {ad : Nat → Nat} {r : Int32}
end S_X6_thrown
noncomputable def f_X6_thrown (σ : St) : Option (Int32) := some (σ.1 0 5)
set_option maxHeartbeats 4000000 in
set_option maxRecDepth 100000 in
theorem c_X6_thrown (l : Launch) (D : va_G) (cA : Nat → ClassId) (ad : Nat → Nat) (hij : Ij ad SM) (σ : St) (r : Int32) (hf : f_X6_thrown σ = some r) : Met l yX6_thrown wsX6_thrown rm_X6_thrown (PC D cA ad SM [.ref (ad 0)] σ) (Qi D cA ad SM (r, σ)) 0 0 (Aw ad SM) := by
  rw [f_X6_thrown] at hf
  refine k_head (own := RX6) (ws := wsX6_thrown) (cc := cX6_thrown) (nL := 1) (ret := (some .int)) pn_X6 rfl rfl hij (Nat.le_of_ble_eq_true rfl) (fun p e s m below meth c ls X hW hl => ?_)
  have hl : lv_has ls 1 [(0, .ref (ad 0))] := hl
  obtain ⟨hx, hb, hml, hown, hts, hr, hlk, hK, hij⟩ := id X
  refine lv_aload_n hx hb dX6_thrown_0 rfl (lv_at hl 0 rfl) ?_
  refine get_6_5 X hW kM_0 iM_0 inX6_thrown_6 (List.mem_of_getElem? (i := 1) rfl) dX6_thrown_1 ?_
  exact r_iretR X hW rfl rfl hf dX6_thrown_4

abbrev rm_X6_in : Room := { frames := 0, cells := 0, slots := 0, locals := 0 }
theorem hd_X6_in : yX6_in.cls = RX6 ∧ yX6_in.cls ≠ "java/lang/invoke/MethodHandle" ∧ yX6_in.cls ≠ "java/lang/invoke/VarHandle" ∧ (parseMethodDescriptor yX6_in.desc).map (fun d => d.parameters.length) = some 3 := by decide +kernel
section S_X6_in
variable {p : Program} {l : Launch} {e : Env} {s : State} {m : MethodId} {args : Array Value} {below : List Frame} {meth : Method} {c : Code} {D : va_G} {cA : Nat → ClassId} {ad : Nat → Nat} {r : Int32}
end S_X6_in
noncomputable def f_X6_in (a0 : Int64) (a2 : Int64) (a4 : Int64) : Option (Int32) := (if (lg_cmp a0 a2) < 0 then some 0 else (if 0 < (lg_cmp a0 a4) then some 0 else some 1))
set_option maxHeartbeats 4000000 in
set_option maxRecDepth 100000 in
theorem c_X6_in (l : Launch) (D : va_G) (cA : Nat → ClassId) (ad : Nat → Nat) (hij : Ij ad SM) (σ : St) (a0 : Int64) (a2 : Int64) (a4 : Int64) (r : Int32) (hf : f_X6_in a0 a2 a4 = some r) : Met l yX6_in wsX6_in rm_X6_in (PC D cA ad SM [.long a0, .long a2, .long a4] σ) (Qi D cA ad SM (r, σ)) 0 0 (Aw ad SM) := by
  rw [f_X6_in] at hf
  refine k_head (own := RX6) (ws := wsX6_in) (cc := cX6_in) (nL := 6) (ret := (some .boolean)) pn_X6 rfl rfl hij (Nat.le_of_ble_eq_true rfl) (fun p e s m below meth c ls X hW hl => ?_)
  have hl : lv_has ls 6 [(0, .long a0), (2, .long a2), (4, .long a4)] := hl
  obtain ⟨hx, hb, hml, hown, hts, hr, hlk, hK, hij⟩ := id X
  refine lv_lload_n hx hb dX6_in_0 rfl (lv_at hl 0 rfl) ?_
  refine lv_lload_n hx hb dX6_in_1 rfl (lv_at hl 1 rfl) ?_
  refine W.lcmp hx hb dX6_in_2 ?_
  refine lv_if_lt (tgt := 17) hx hb dX6_in_3 (by decide) (fun c1 => ?_) (fun c1 => ?_)
  · have hf := it_e hf c1
    refine lv_iconst (v := 0) hx hb dX6_in_17 (by decide) ?_
    exact r_iretR X hW rfl rfl hf dX6_in_18
  · have hf := ie_e hf c1
    refine lv_lload_n hx hb dX6_in_6 rfl (lv_at hl 0 rfl) ?_
    refine lv_lload hx hb dX6_in_7 (lv_at hl 2 rfl) ?_
    refine W.lcmp hx hb dX6_in_9 ?_
    refine lv_if_gt (tgt := 17) hx hb dX6_in_10 (by decide) (fun c2 => ?_) (fun c2 => ?_)
    · have hf := it_e hf c2
      refine lv_iconst (v := 0) hx hb dX6_in_17 (by decide) ?_
      exact r_iretR X hW rfl rfl hf dX6_in_18
    · have hf := ie_e hf c2
      refine lv_iconst (v := 1) hx hb dX6_in_13 (by decide) ?_
      refine lv_goto (tgt := 18) hx hb dX6_in_14 (by decide) ?_
      exact r_iretR X hW rfl rfl hf dX6_in_18

abbrev rm_X6_isPot : Room := { frames := 1, cells := 0, slots := 0, locals := 25 }
theorem hd_X6_isPot : yX6_isPot.cls = RX6 ∧ yX6_isPot.cls ≠ "java/lang/invoke/MethodHandle" ∧ yX6_isPot.cls ≠ "java/lang/invoke/VarHandle" ∧ (parseMethodDescriptor yX6_isPot.desc).map (fun d => d.parameters.length) = some 1 := by decide +kernel
theorem inX6_isPot_6 : ∀ w ∈ wsX60, w ∈ wsX6_isPot := fun _ h => List.mem_cons_of_mem _ (List.mem_append_right _ h)
section S_X6_isPot
variable {p : Program} {l : Launch} {e : Env} {s : State} {m : MethodId} {args : Array Value} {below : List Frame} {meth : Method} {c : Code} {D : va_G} {cA : Nat → ClassId} {ad : Nat → Nat} {r : Int32}
end S_X6_isPot
noncomputable def f_X6_isPot (σ : St) (a1 : Int32) : Option (Int32) := bnd (f_X6_in a1.toInt64 0 (((σ.1 0 0) - 1).toInt64)) fun r1 => chk (b01 r1) <| some r1
set_option maxHeartbeats 4000000 in
set_option maxRecDepth 100000 in
theorem c_X6_isPot (l : Launch) (D : va_G) (cA : Nat → ClassId) (ad : Nat → Nat) (hij : Ij ad SM) (σ : St) (a1 : Int32) (r : Int32) (hf : f_X6_isPot σ a1 = some r) : Met l yX6_isPot wsX6_isPot rm_X6_isPot (PC D cA ad SM [.ref (ad 0), .int a1] σ) (Qi D cA ad SM (r, σ)) 0 0 (Aw ad SM) := by
  rw [f_X6_isPot] at hf
  refine k_head (own := RX6) (ws := wsX6_isPot) (cc := cX6_isPot) (nL := 2) (ret := (some .boolean)) pn_X6 rfl rfl hij (Nat.le_of_ble_eq_true rfl) (fun p e s m below meth c ls X hW hl => ?_)
  have hl : lv_has ls 2 [(0, .ref (ad 0)), (1, .int a1)] := hl
  obtain ⟨hx, hb, hml, hown, hts, hr, hlk, hK, hij⟩ := id X
  refine lv_iload_n hx hb dX6_isPot_0 rfl (lv_at hl 1 rfl) ?_
  refine lv_i2l hx hb dX6_isPot_1 rfl ?_
  refine lv_lconst (v := 0) hx hb dX6_isPot_2 (by decide) ?_
  refine lv_aload_n hx hb dX6_isPot_3 rfl (lv_at hl 0 rfl) ?_
  refine get_6_0 X hW kM_0 iM_0 inX6_isPot_6 (List.mem_of_getElem? (i := 1) rfl) dX6_isPot_4 ?_
  refine lv_iconst (v := 1) hx hb dX6_isPot_7 (by decide) ?_
  refine lv_isub hx hb dX6_isPot_8 ?_
  refine lv_i2l hx hb dX6_isPot_9 rfl ?_
  obtain ⟨r1, z1, hf⟩ := bnd_e hf
  refine r_cSiR X hW (c_X6_in l D cA ad hij σ a1.toInt64 0 (((σ.1 0 0) - 1).toInt64) r1 z1) gX6_isPot_X6_in rfl ⟨rfl, rfl⟩ hd_X6_in ⟨Nat.le_of_ble_eq_true rfl, Nat.le_of_ble_eq_true rfl⟩ rfl (Nat.le_of_ble_eq_true rfl) hl.1 dX6_isPot_10 (fun H locs hW => ?_)
  obtain ⟨q2, hf⟩ := chk_e hf
  exact r_iretR X hW rfl (b01_e q2).1 hf dX6_isPot_13

abbrev rm_X6_ownOf : Room := { frames := 0, cells := 0, slots := 0, locals := 0 }
theorem hd_X6_ownOf : yX6_ownOf.cls = RX6 ∧ yX6_ownOf.cls ≠ "java/lang/invoke/MethodHandle" ∧ yX6_ownOf.cls ≠ "java/lang/invoke/VarHandle" ∧ (parseMethodDescriptor yX6_ownOf.desc).map (fun d => d.parameters.length) = some 3 := by decide +kernel
section S_X6_ownOf
variable {p : Program} {l : Launch} {e : Env} {s : State} {m : MethodId} {args : Array Value} {below : List Frame} {meth : Method} {c : Code} {D : va_G} {cA : Nat → ClassId} {ad : Nat → Nat} {r : Int32}
noncomputable def f_X6_ownOf_105 (v2 : Int32) (s0 : Int32) (s1 : Int32) : Option (Int32) := (if v2 = 0 then some ((s0 + s1) + 5) else some ((s0 + s1) + 0))
set_option maxHeartbeats 4000000 in
set_option maxRecDepth 100000 in
theorem b_X6_ownOf_105 {σ : St} (X : Cx RX6 wsX6_ownOf cX6_ownOf 4 (some .int) D cA ad SM p s m args meth c) : ∀ (v2 : Int32) (s0 : Int32) (s1 : Int32) (H : Heap) (locs : List Loc) (ls : Array Slot), f_X6_ownOf_105 v2 s0 s1 = some r → Rn D cA ad SM s.heap σ H locs → lv_has ls 4 [(2, .int v2)] → W p l e rm_X6_ownOf s m args below meth c H locs 0 0 (MQ below (Qi D cA ad SM (r, σ)) args s 0 0 (Aw ad SM)) (F0 m 105 ls [.int s1, .int s0]) := by
  obtain ⟨hx, hb, hml, hown, hts, hr, hlk, hK, hij⟩ := id X
  intro v2 s0 s1 H locs ls hf hW hl
  rw [f_X6_ownOf_105] at hf
  refine lv_iadd hx hb dX6_ownOf_105 ?_
  refine lv_iload_n hx hb dX6_ownOf_106 rfl (lv_at hl 0 rfl) ?_
  refine lv_if_ne (tgt := 114) hx hb dX6_ownOf_107 (by decide) (fun c11 => ?_) (fun c11 => ?_)
  · have hf := ie_e hf c11
    refine lv_iconst (v := 0) hx hb dX6_ownOf_114 (by decide) ?_
    refine lv_iadd hx hb dX6_ownOf_115 ?_
    exact r_iretR X hW rfl rfl hf dX6_ownOf_116
  · have hf := it_e hf c11
    refine lv_iconst (v := 5) hx hb dX6_ownOf_110 (by decide) ?_
    refine lv_goto (tgt := 115) hx hb dX6_ownOf_111 (by decide) ?_
    refine lv_iadd hx hb dX6_ownOf_115 ?_
    exact r_iretR X hW rfl rfl hf dX6_ownOf_116
noncomputable def f_X6_ownOf_14 (v0 : Int32) (v2 : Int32) (s0 : Int32) : Option (Int32) := (if v0 = 1 then some (s0 + 1) else (if v0 = 2 then some (2 * s0) else (if v0 = 3 then (if v2 = 2 then some (s0 + 3) else some s0) else (if v0 = 4 then some 0 else (if v0 = 5 then (if v2 = 3 then some (s0 + 3) else some (s0 + 1)) else (if v0 = 6 then (if v2 = 2 then f_X6_ownOf_105 v2 s0 3 else f_X6_ownOf_105 v2 s0 0) else some s0))))))
set_option maxHeartbeats 4000000 in
set_option maxRecDepth 100000 in
theorem b_X6_ownOf_14 {σ : St} (X : Cx RX6 wsX6_ownOf cX6_ownOf 4 (some .int) D cA ad SM p s m args meth c) : ∀ (v0 : Int32) (v2 : Int32) (s0 : Int32) (H : Heap) (locs : List Loc) (ls : Array Slot), f_X6_ownOf_14 v0 v2 s0 = some r → Rn D cA ad SM s.heap σ H locs → lv_has ls 4 [(0, .int v0), (2, .int v2)] → W p l e rm_X6_ownOf s m args below meth c H locs 0 0 (MQ below (Qi D cA ad SM (r, σ)) args s 0 0 (Aw ad SM)) (F0 m 14 ls [.int s0]) := by
  obtain ⟨hx, hb, hml, hown, hts, hr, hlk, hK, hij⟩ := id X
  intro v0 v2 s0 H locs ls hf hW hl
  rw [f_X6_ownOf_14] at hf
  refine lv_istore_n (lv' := [(3, .int s0), (0, .int v0), (2, .int v2)]) hx hb dX6_ownOf_14 rfl hl (by decide) rfl (fun ls hl => ?_)
  refine lv_iload_n hx hb dX6_ownOf_15 rfl (lv_at hl 1 rfl) ?_
  by_cases c2 : v0 = 1
  · have hf := it_e hf c2
    refine lv_tableIn (tgt := 56) hx hb dX6_ownOf_16 (by rw [c2]; decide) (by rw [c2]; decide) (by rw [c2]; rfl) (by decide) ?_
    refine lv_iload_n hx hb dX6_ownOf_56 rfl (lv_at hl 0 rfl) ?_
    refine lv_iconst (v := 1) hx hb dX6_ownOf_57 (by decide) ?_
    refine lv_iadd hx hb dX6_ownOf_58 ?_
    exact r_iretR X hW rfl rfl hf dX6_ownOf_59
  · have hf := ie_e hf c2
    by_cases c3 : v0 = 2
    · have hf := it_e hf c3
      refine lv_tableIn (tgt := 60) hx hb dX6_ownOf_16 (by rw [c3]; decide) (by rw [c3]; decide) (by rw [c3]; rfl) (by decide) ?_
      refine lv_iconst (v := 2) hx hb dX6_ownOf_60 (by decide) ?_
      refine lv_iload_n hx hb dX6_ownOf_61 rfl (lv_at hl 0 rfl) ?_
      refine lv_imul hx hb dX6_ownOf_62 ?_
      exact r_iretR X hW rfl rfl hf dX6_ownOf_63
    · have hf := ie_e hf c3
      by_cases c4 : v0 = 3
      · have hf := it_e hf c4
        refine lv_tableIn (tgt := 64) hx hb dX6_ownOf_16 (by rw [c4]; decide) (by rw [c4]; decide) (by rw [c4]; rfl) (by decide) ?_
        refine lv_iload_n hx hb dX6_ownOf_64 rfl (lv_at hl 2 rfl) ?_
        refine lv_iconst (v := 2) hx hb dX6_ownOf_65 (by decide) ?_
        refine lv_icmp_ne (tgt := 75) hx hb dX6_ownOf_66 (by decide) (fun c5 => ?_) (fun c5 => ?_)
        · have hf := ie_e hf c5
          refine lv_iload_n hx hb dX6_ownOf_75 rfl (lv_at hl 0 rfl) ?_
          exact r_iretR X hW rfl rfl hf dX6_ownOf_76
        · have hf := it_e hf c5
          refine lv_iload_n hx hb dX6_ownOf_69 rfl (lv_at hl 0 rfl) ?_
          refine lv_iconst (v := 3) hx hb dX6_ownOf_70 (by decide) ?_
          refine lv_iadd hx hb dX6_ownOf_71 ?_
          refine lv_goto (tgt := 76) hx hb dX6_ownOf_72 (by decide) ?_
          exact r_iretR X hW rfl rfl hf dX6_ownOf_76
      · have hf := ie_e hf c4
        by_cases c6 : v0 = 4
        · have hf := it_e hf c6
          refine lv_tableIn (tgt := 77) hx hb dX6_ownOf_16 (by rw [c6]; decide) (by rw [c6]; decide) (by rw [c6]; rfl) (by decide) ?_
          refine lv_iconst (v := 0) hx hb dX6_ownOf_77 (by decide) ?_
          exact r_iretR X hW rfl rfl hf dX6_ownOf_78
        · have hf := ie_e hf c6
          by_cases c7 : v0 = 5
          · have hf := it_e hf c7
            refine lv_tableIn (tgt := 79) hx hb dX6_ownOf_16 (by rw [c7]; decide) (by rw [c7]; decide) (by rw [c7]; rfl) (by decide) ?_
            refine lv_iload_n hx hb dX6_ownOf_79 rfl (lv_at hl 2 rfl) ?_
            refine lv_iconst (v := 3) hx hb dX6_ownOf_80 (by decide) ?_
            refine lv_icmp_ne (tgt := 90) hx hb dX6_ownOf_81 (by decide) (fun c8 => ?_) (fun c8 => ?_)
            · have hf := ie_e hf c8
              refine lv_iload_n hx hb dX6_ownOf_90 rfl (lv_at hl 0 rfl) ?_
              refine lv_iconst (v := 1) hx hb dX6_ownOf_91 (by decide) ?_
              refine lv_iadd hx hb dX6_ownOf_92 ?_
              exact r_iretR X hW rfl rfl hf dX6_ownOf_93
            · have hf := it_e hf c8
              refine lv_iload_n hx hb dX6_ownOf_84 rfl (lv_at hl 0 rfl) ?_
              refine lv_iconst (v := 3) hx hb dX6_ownOf_85 (by decide) ?_
              refine lv_iadd hx hb dX6_ownOf_86 ?_
              refine lv_goto (tgt := 93) hx hb dX6_ownOf_87 (by decide) ?_
              exact r_iretR X hW rfl rfl hf dX6_ownOf_93
          · have hf := ie_e hf c7
            by_cases c9 : v0 = 6
            · have hf := it_e hf c9
              refine lv_tableIn (tgt := 94) hx hb dX6_ownOf_16 (by rw [c9]; decide) (by rw [c9]; decide) (by rw [c9]; rfl) (by decide) ?_
              refine lv_iload_n hx hb dX6_ownOf_94 rfl (lv_at hl 0 rfl) ?_
              refine lv_iload_n hx hb dX6_ownOf_95 rfl (lv_at hl 2 rfl) ?_
              refine lv_iconst (v := 2) hx hb dX6_ownOf_96 (by decide) ?_
              refine lv_icmp_ne (tgt := 104) hx hb dX6_ownOf_97 (by decide) (fun c10 => ?_) (fun c10 => ?_)
              · have hf := ie_e hf c10
                refine lv_iconst (v := 0) hx hb dX6_ownOf_104 (by decide) ?_
                exact b_X6_ownOf_105 X v2 s0 0 _ _ _ hf hW (lv_sub hl [2] rfl)
              · have hf := it_e hf c10
                refine lv_iconst (v := 3) hx hb dX6_ownOf_100 (by decide) ?_
                refine lv_goto (tgt := 105) hx hb dX6_ownOf_101 (by decide) ?_
                exact b_X6_ownOf_105 X v2 s0 3 _ _ _ hf hW (lv_sub hl [2] rfl)
            · have hf := ie_e hf c9
              refine lv_tableOut (tgt := 117) hx hb dX6_ownOf_16 (by have z0 := lv_neT c2 (a := 1) (by decide); have z1 := lv_neT c3 (a := 2) (by decide); have z2 := lv_neT c4 (a := 3) (by decide); have z3 := lv_neT c6 (a := 4) (by decide); have z4 := lv_neT c7 (a := 5) (by decide); have z5 := lv_neT c9 (a := 6) (by decide); omega) (by decide) ?_
              refine lv_iload_n hx hb dX6_ownOf_117 rfl (lv_at hl 0 rfl) ?_
              exact r_iretR X hW rfl rfl hf dX6_ownOf_118
end S_X6_ownOf
noncomputable def f_X6_ownOf (a0 : Int32) (a1 : Int32) (a2 : Int32) : Option (Int32) := (if a2 = (a1 - a1 / 4 * 4) then f_X6_ownOf_14 a0 a2 (a1 + 1) else f_X6_ownOf_14 a0 a2 0)
set_option maxHeartbeats 4000000 in
set_option maxRecDepth 100000 in
theorem c_X6_ownOf (l : Launch) (D : va_G) (cA : Nat → ClassId) (ad : Nat → Nat) (hij : Ij ad SM) (σ : St) (a0 : Int32) (a1 : Int32) (a2 : Int32) (r : Int32) (hf : f_X6_ownOf a0 a1 a2 = some r) : Met l yX6_ownOf wsX6_ownOf rm_X6_ownOf (PC D cA ad SM [.int a0, .int a1, .int a2] σ) (Qi D cA ad SM (r, σ)) 0 0 (Aw ad SM) := by
  rw [f_X6_ownOf] at hf
  refine k_head (own := RX6) (ws := wsX6_ownOf) (cc := cX6_ownOf) (nL := 4) (ret := (some .int)) pn_X6 rfl rfl hij (Nat.le_of_ble_eq_true rfl) (fun p e s m below meth c ls X hW hl => ?_)
  have hl : lv_has ls 4 [(0, .int a0), (1, .int a1), (2, .int a2)] := hl
  obtain ⟨hx, hb, hml, hown, hts, hr, hlk, hK, hij⟩ := id X
  refine lv_iload_n hx hb dX6_ownOf_0 rfl (lv_at hl 2 rfl) ?_
  refine lv_iload_n hx hb dX6_ownOf_1 rfl (lv_at hl 1 rfl) ?_
  refine lv_iconst (v := 4) hx hb dX6_ownOf_2 (by decide) ?_
  refine lv_irem hx hb dX6_ownOf_3 (by decide) ?_
  refine lv_icmp_ne (tgt := 13) hx hb dX6_ownOf_4 (by decide) (fun c1 => ?_) (fun c1 => ?_)
  · have hf := ie_e hf c1
    refine lv_iconst (v := 0) hx hb dX6_ownOf_13 (by decide) ?_
    exact b_X6_ownOf_14 X a0 a2 0 _ _ _ hf hW (lv_sub hl [0, 2] rfl)
  · have hf := it_e hf c1
    refine lv_iload_n hx hb dX6_ownOf_7 rfl (lv_at hl 1 rfl) ?_
    refine lv_iconst (v := 1) hx hb dX6_ownOf_8 (by decide) ?_
    refine lv_iadd hx hb dX6_ownOf_9 ?_
    refine lv_goto (tgt := 14) hx hb dX6_ownOf_10 (by decide) ?_
    exact b_X6_ownOf_14 X a0 a2 (a1 + 1) _ _ _ hf hW (lv_sub hl [0, 2] rfl)

abbrev rm_X6_keepsOf : Room := { frames := 0, cells := 0, slots := 0, locals := 0 }
theorem hd_X6_keepsOf : yX6_keepsOf.cls = RX6 ∧ yX6_keepsOf.cls ≠ "java/lang/invoke/MethodHandle" ∧ yX6_keepsOf.cls ≠ "java/lang/invoke/VarHandle" ∧ (parseMethodDescriptor yX6_keepsOf.desc).map (fun d => d.parameters.length) = some 1 := by decide +kernel
section S_X6_keepsOf
variable {p : Program} {l : Launch} {e : Env} {s : State} {m : MethodId} {args : Array Value} {below : List Frame} {meth : Method} {c : Code} {D : va_G} {cA : Nat → ClassId} {ad : Nat → Nat} {r : Int32}
end S_X6_keepsOf
noncomputable def f_X6_keepsOf (a0 : Int32) : Option (Int32) := (if a0 = 2 then some 6 else (if a0 = 3 then some 2 else (if a0 = 4 then some 0 else (if a0 = 5 then some 4 else (if a0 = 6 then some 2 else (if a0 = 7 then some 6 else some 3))))))
set_option maxHeartbeats 4000000 in
set_option maxRecDepth 100000 in
theorem c_X6_keepsOf (l : Launch) (D : va_G) (cA : Nat → ClassId) (ad : Nat → Nat) (hij : Ij ad SM) (σ : St) (a0 : Int32) (r : Int32) (hf : f_X6_keepsOf a0 = some r) : Met l yX6_keepsOf wsX6_keepsOf rm_X6_keepsOf (PC D cA ad SM [.int a0] σ) (Qi D cA ad SM (r, σ)) 0 0 (Aw ad SM) := by
  rw [f_X6_keepsOf] at hf
  refine k_head (own := RX6) (ws := wsX6_keepsOf) (cc := cX6_keepsOf) (nL := 1) (ret := (some .int)) pn_X6 rfl rfl hij (Nat.le_of_ble_eq_true rfl) (fun p e s m below meth c ls X hW hl => ?_)
  have hl : lv_has ls 1 [(0, .int a0)] := hl
  obtain ⟨hx, hb, hml, hown, hts, hr, hlk, hK, hij⟩ := id X
  refine lv_iload_n hx hb dX6_keepsOf_0 rfl (lv_at hl 0 rfl) ?_
  by_cases c1 : a0 = 2
  · have hf := it_e hf c1
    refine lv_tableIn (tgt := 40) hx hb dX6_keepsOf_1 (by rw [c1]; decide) (by rw [c1]; decide) (by rw [c1]; rfl) (by decide) ?_
    refine lv_bipush (v := 6) hx hb dX6_keepsOf_40 (by decide) ?_
    exact r_iretR X hW rfl rfl hf dX6_keepsOf_42
  · have hf := ie_e hf c1
    by_cases c2 : a0 = 3
    · have hf := it_e hf c2
      refine lv_tableIn (tgt := 43) hx hb dX6_keepsOf_1 (by rw [c2]; decide) (by rw [c2]; decide) (by rw [c2]; rfl) (by decide) ?_
      refine lv_iconst (v := 2) hx hb dX6_keepsOf_43 (by decide) ?_
      exact r_iretR X hW rfl rfl hf dX6_keepsOf_44
    · have hf := ie_e hf c2
      by_cases c3 : a0 = 4
      · have hf := it_e hf c3
        refine lv_tableIn (tgt := 45) hx hb dX6_keepsOf_1 (by rw [c3]; decide) (by rw [c3]; decide) (by rw [c3]; rfl) (by decide) ?_
        refine lv_iconst (v := 0) hx hb dX6_keepsOf_45 (by decide) ?_
        exact r_iretR X hW rfl rfl hf dX6_keepsOf_46
      · have hf := ie_e hf c3
        by_cases c4 : a0 = 5
        · have hf := it_e hf c4
          refine lv_tableIn (tgt := 47) hx hb dX6_keepsOf_1 (by rw [c4]; decide) (by rw [c4]; decide) (by rw [c4]; rfl) (by decide) ?_
          refine lv_iconst (v := 4) hx hb dX6_keepsOf_47 (by decide) ?_
          exact r_iretR X hW rfl rfl hf dX6_keepsOf_48
        · have hf := ie_e hf c4
          by_cases c5 : a0 = 6
          · have hf := it_e hf c5
            refine lv_tableIn (tgt := 43) hx hb dX6_keepsOf_1 (by rw [c5]; decide) (by rw [c5]; decide) (by rw [c5]; rfl) (by decide) ?_
            refine lv_iconst (v := 2) hx hb dX6_keepsOf_43 (by decide) ?_
            exact r_iretR X hW rfl rfl hf dX6_keepsOf_44
          · have hf := ie_e hf c5
            by_cases c6 : a0 = 7
            · have hf := it_e hf c6
              refine lv_tableIn (tgt := 40) hx hb dX6_keepsOf_1 (by rw [c6]; decide) (by rw [c6]; decide) (by rw [c6]; rfl) (by decide) ?_
              refine lv_bipush (v := 6) hx hb dX6_keepsOf_40 (by decide) ?_
              exact r_iretR X hW rfl rfl hf dX6_keepsOf_42
            · have hf := ie_e hf c6
              refine lv_tableOut (tgt := 49) hx hb dX6_keepsOf_1 (by have z0 := lv_neT c1 (a := 2) (by decide); have z1 := lv_neT c2 (a := 3) (by decide); have z2 := lv_neT c3 (a := 4) (by decide); have z3 := lv_neT c4 (a := 5) (by decide); have z4 := lv_neT c5 (a := 6) (by decide); have z5 := lv_neT c6 (a := 7) (by decide); omega) (by decide) ?_
              refine lv_iconst (v := 3) hx hb dX6_keepsOf_49 (by decide) ?_
              exact r_iretR X hW rfl rfl hf dX6_keepsOf_50

abbrev rm_X6_priceOf : Room := { frames := 0, cells := 0, slots := 0, locals := 0 }
theorem hd_X6_priceOf : yX6_priceOf.cls = RX6 ∧ yX6_priceOf.cls ≠ "java/lang/invoke/MethodHandle" ∧ yX6_priceOf.cls ≠ "java/lang/invoke/VarHandle" ∧ (parseMethodDescriptor yX6_priceOf.desc).map (fun d => d.parameters.length) = some 2 := by decide +kernel
section S_X6_priceOf
variable {p : Program} {l : Launch} {e : Env} {s : State} {m : MethodId} {args : Array Value} {below : List Frame} {meth : Method} {c : Code} {D : va_G} {cA : Nat → ClassId} {ad : Nat → Nat} {r : Int32}
end S_X6_priceOf
noncomputable def f_X6_priceOf (a0 : Int32) (a1 : Int32) : Option (Int32) := (if a0 = 0 then some 3 else (if a0 = 1 then some (3 + a1) else (if a0 = 2 then some 6 else (if a0 = 3 then some 7 else (if a0 = 4 then some 1 else (if a0 = 5 then some (5 + a1) else (if a0 = 6 then some (7 * (a1 + 1)) else some (2 + a1))))))))
set_option maxHeartbeats 4000000 in
set_option maxRecDepth 100000 in
theorem c_X6_priceOf (l : Launch) (D : va_G) (cA : Nat → ClassId) (ad : Nat → Nat) (hij : Ij ad SM) (σ : St) (a0 : Int32) (a1 : Int32) (r : Int32) (hf : f_X6_priceOf a0 a1 = some r) : Met l yX6_priceOf wsX6_priceOf rm_X6_priceOf (PC D cA ad SM [.int a0, .int a1] σ) (Qi D cA ad SM (r, σ)) 0 0 (Aw ad SM) := by
  rw [f_X6_priceOf] at hf
  refine k_head (own := RX6) (ws := wsX6_priceOf) (cc := cX6_priceOf) (nL := 2) (ret := (some .int)) pn_X6 rfl rfl hij (Nat.le_of_ble_eq_true rfl) (fun p e s m below meth c ls X hW hl => ?_)
  have hl : lv_has ls 2 [(0, .int a0), (1, .int a1)] := hl
  obtain ⟨hx, hb, hml, hown, hts, hr, hlk, hK, hij⟩ := id X
  refine lv_iload_n hx hb dX6_priceOf_0 rfl (lv_at hl 0 rfl) ?_
  by_cases c1 : a0 = 0
  · have hf := it_e hf c1
    refine lv_tableIn (tgt := 44) hx hb dX6_priceOf_1 (by rw [c1]; decide) (by rw [c1]; decide) (by rw [c1]; rfl) (by decide) ?_
    refine lv_iconst (v := 3) hx hb dX6_priceOf_44 (by decide) ?_
    exact r_iretR X hW rfl rfl hf dX6_priceOf_45
  · have hf := ie_e hf c1
    by_cases c2 : a0 = 1
    · have hf := it_e hf c2
      refine lv_tableIn (tgt := 46) hx hb dX6_priceOf_1 (by rw [c2]; decide) (by rw [c2]; decide) (by rw [c2]; rfl) (by decide) ?_
      refine lv_iconst (v := 3) hx hb dX6_priceOf_46 (by decide) ?_
      refine lv_iload_n hx hb dX6_priceOf_47 rfl (lv_at hl 1 rfl) ?_
      refine lv_iadd hx hb dX6_priceOf_48 ?_
      exact r_iretR X hW rfl rfl hf dX6_priceOf_49
    · have hf := ie_e hf c2
      by_cases c3 : a0 = 2
      · have hf := it_e hf c3
        refine lv_tableIn (tgt := 50) hx hb dX6_priceOf_1 (by rw [c3]; decide) (by rw [c3]; decide) (by rw [c3]; rfl) (by decide) ?_
        refine lv_bipush (v := 6) hx hb dX6_priceOf_50 (by decide) ?_
        exact r_iretR X hW rfl rfl hf dX6_priceOf_52
      · have hf := ie_e hf c3
        by_cases c4 : a0 = 3
        · have hf := it_e hf c4
          refine lv_tableIn (tgt := 53) hx hb dX6_priceOf_1 (by rw [c4]; decide) (by rw [c4]; decide) (by rw [c4]; rfl) (by decide) ?_
          refine lv_bipush (v := 7) hx hb dX6_priceOf_53 (by decide) ?_
          exact r_iretR X hW rfl rfl hf dX6_priceOf_55
        · have hf := ie_e hf c4
          by_cases c5 : a0 = 4
          · have hf := it_e hf c5
            refine lv_tableIn (tgt := 56) hx hb dX6_priceOf_1 (by rw [c5]; decide) (by rw [c5]; decide) (by rw [c5]; rfl) (by decide) ?_
            refine lv_iconst (v := 1) hx hb dX6_priceOf_56 (by decide) ?_
            exact r_iretR X hW rfl rfl hf dX6_priceOf_57
          · have hf := ie_e hf c5
            by_cases c6 : a0 = 5
            · have hf := it_e hf c6
              refine lv_tableIn (tgt := 58) hx hb dX6_priceOf_1 (by rw [c6]; decide) (by rw [c6]; decide) (by rw [c6]; rfl) (by decide) ?_
              refine lv_iconst (v := 5) hx hb dX6_priceOf_58 (by decide) ?_
              refine lv_iload_n hx hb dX6_priceOf_59 rfl (lv_at hl 1 rfl) ?_
              refine lv_iadd hx hb dX6_priceOf_60 ?_
              exact r_iretR X hW rfl rfl hf dX6_priceOf_61
            · have hf := ie_e hf c6
              by_cases c7 : a0 = 6
              · have hf := it_e hf c7
                refine lv_tableIn (tgt := 62) hx hb dX6_priceOf_1 (by rw [c7]; decide) (by rw [c7]; decide) (by rw [c7]; rfl) (by decide) ?_
                refine lv_bipush (v := 7) hx hb dX6_priceOf_62 (by decide) ?_
                refine lv_iload_n hx hb dX6_priceOf_64 rfl (lv_at hl 1 rfl) ?_
                refine lv_iconst (v := 1) hx hb dX6_priceOf_65 (by decide) ?_
                refine lv_iadd hx hb dX6_priceOf_66 ?_
                refine lv_imul hx hb dX6_priceOf_67 ?_
                exact r_iretR X hW rfl rfl hf dX6_priceOf_68
              · have hf := ie_e hf c7
                refine lv_tableOut (tgt := 69) hx hb dX6_priceOf_1 (by have z0 := lv_neT c1 (a := 0) (by decide); have z1 := lv_neT c2 (a := 1) (by decide); have z2 := lv_neT c3 (a := 2) (by decide); have z3 := lv_neT c4 (a := 3) (by decide); have z4 := lv_neT c5 (a := 4) (by decide); have z5 := lv_neT c6 (a := 5) (by decide); have z6 := lv_neT c7 (a := 6) (by decide); omega) (by decide) ?_
                refine lv_iconst (v := 2) hx hb dX6_priceOf_69 (by decide) ?_
                refine lv_iload_n hx hb dX6_priceOf_70 rfl (lv_at hl 1 rfl) ?_
                refine lv_iadd hx hb dX6_priceOf_71 ?_
                exact r_iretR X hW rfl rfl hf dX6_priceOf_72

abbrev rm_X6_nine : Room := { frames := 0, cells := 0, slots := 0, locals := 0 }
theorem hd_X6_nine : yX6_nine.cls = RX6 ∧ yX6_nine.cls ≠ "java/lang/invoke/MethodHandle" ∧ yX6_nine.cls ≠ "java/lang/invoke/VarHandle" ∧ (parseMethodDescriptor yX6_nine.desc).map (fun d => d.parameters.length) = some 1 := by decide +kernel
section S_X6_nine
variable {p : Program} {l : Launch} {e : Env} {s : State} {m : MethodId} {args : Array Value} {below : List Frame} {meth : Method} {c : Code} {D : va_G} {cA : Nat → ClassId} {ad : Nat → Nat} {r : Int64}
noncomputable def f_X6_nine_4 (k21 : Int64 → Option (Int64)) : Nat → Int32 → Int64 → Int32 → Option (Int64)
  | 0, _, _, _ => none
  | n + 1, v0, v1, v3 => (if v0 ≤ v3 then k21 v1 else nw (v1 * 9 : Int64) fun v102 => nw (v3 + 1 : Int32) fun v103 => f_X6_nine_4 k21 n v0 v102 v103)
set_option maxHeartbeats 4000000 in
set_option maxRecDepth 100000 in
theorem b_X6_nine_4 {σ : St} {k21 : Int64 → Option (Int64)} (X : Cx RX6 wsX6_nine cX6_nine 4 (some .long) D cA ad SM p s m args meth c) (h21 : ∀ (w0 : Int64) (H : Heap) (locs : List Loc) (ls : Array Slot), k21 w0 = some r → Rn D cA ad SM s.heap σ H locs → lv_has ls 4 [(1, .long w0)] → W p l e rm_X6_nine s m args below meth c H locs 0 0 (MQ below (Ql D cA ad SM (r, σ)) args s 0 0 (Aw ad SM)) (F0 m 21 ls [])) : ∀ (n : Nat) (v0 : Int32) (v1 : Int64) (v3 : Int32) (H : Heap) (locs : List Loc) (ls : Array Slot), f_X6_nine_4 k21 n v0 v1 v3 = some r → Rn D cA ad SM s.heap σ H locs → lv_has ls 4 [(0, .int v0), (1, .long v1), (3, .int v3)] → W p l e rm_X6_nine s m args below meth c H locs 0 0 (MQ below (Ql D cA ad SM (r, σ)) args s 0 0 (Aw ad SM)) (F0 m 4 ls []) := by
  obtain ⟨hx, hb, hml, hown, hts, hr, hlk, hK, hij⟩ := id X
  intro n
  induction n with
  | zero =>
    intro v0 v1 v3 H locs ls hf
    exact nomatch (show (none : Option (Int64)) = some r from hf)
  | succ n ih =>
    intro v0 v1 v3 H locs ls hf hW hl
    rw [f_X6_nine_4] at hf
    refine lv_iload_n hx hb dX6_nine_4 rfl (lv_at hl 2 rfl) ?_
    refine lv_iload_n hx hb dX6_nine_5 rfl (lv_at hl 0 rfl) ?_
    refine lv_icmp_ge (tgt := 21) hx hb dX6_nine_6 (by decide) (fun c1 => ?_) (fun c1 => ?_)
    · have hf := it_e hf c1
      exact h21 v1 _ _ _ hf hW (lv_sub hl [1] rfl)
    · have hf := ie_e hf c1
      refine lv_lload_n hx hb dX6_nine_9 rfl (lv_at hl 1 rfl) ?_
      refine lv_ldc2 (v := 9) hx hb hown (hts _ (List.mem_of_getElem? (i := 1) rfl)) dX6_nine_10 ?_
      refine lv_lmul hx hb dX6_nine_13 ?_
      obtain ⟨v102, e2, hf⟩ := nw_e hf
      refine tL _ e2 ?_
      refine lv_lstore_n (lv' := [(1, .long v102), (0, .int v0), (3, .int v3)]) hx hb dX6_nine_14 rfl hl (by decide) rfl (fun ls hl => ?_)
      obtain ⟨v103, e3, hf⟩ := nw_e hf
      refine lv_iinc (v := v103) (lv' := [(3, .int v103), (1, .long v102), (0, .int v0)]) hx hb dX6_nine_15 hl (k := 2) rfl (by rw [e3]; rfl) (by decide) rfl (fun ls hl => ?_)
      refine lv_goto (tgt := 4) hx hb dX6_nine_18 (by decide) ?_
      exact ih v0 v102 v103 _ _ _ hf hW (lv_sub hl [2, 1, 0] rfl)
end S_X6_nine
noncomputable def f_X6_nine (a0 : Int32) : Option (Int64) := f_X6_nine_4 (fun (w4_0 : Int64) => some w4_0) fu a0 1 0
set_option maxHeartbeats 4000000 in
set_option maxRecDepth 100000 in
theorem c_X6_nine (l : Launch) (D : va_G) (cA : Nat → ClassId) (ad : Nat → Nat) (hij : Ij ad SM) (σ : St) (a0 : Int32) (r : Int64) (hf : f_X6_nine a0 = some r) : Met l yX6_nine wsX6_nine rm_X6_nine (PC D cA ad SM [.int a0] σ) (Ql D cA ad SM (r, σ)) 0 0 (Aw ad SM) := by
  rw [f_X6_nine] at hf
  refine k_head (own := RX6) (ws := wsX6_nine) (cc := cX6_nine) (nL := 4) (ret := (some .long)) pn_X6 rfl rfl hij (Nat.le_of_ble_eq_true rfl) (fun p e s m below meth c ls X hW hl => ?_)
  have hl : lv_has ls 4 [(0, .int a0)] := hl
  obtain ⟨hx, hb, hml, hown, hts, hr, hlk, hK, hij⟩ := id X
  refine lv_lconst (v := 1) hx hb dX6_nine_0 (by decide) ?_
  refine lv_lstore_n (lv' := [(1, .long 1), (0, .int a0)]) hx hb dX6_nine_1 rfl hl (by decide) rfl (fun ls hl => ?_)
  refine lv_iconst (v := 0) hx hb dX6_nine_2 (by decide) ?_
  refine lv_istore_n (lv' := [(3, .int 0), (1, .long 1), (0, .int a0)]) hx hb dX6_nine_3 rfl hl (by decide) rfl (fun ls hl => ?_)
  refine b_X6_nine_4 X (fun w4_0 H locs ls hf hW hl => ?_) fu a0 1 0 _ _ _ hf hW (lv_sub hl [2, 1, 0] rfl)
  · refine lv_lload_n hx hb dX6_nine_21 rfl (lv_at hl 0 rfl) ?_
    exact r_lretR X hW rfl hf dX6_nine_22

abbrev rm_X6_becomes : Room := { frames := 1, cells := 0, slots := 0, locals := 23 }
theorem hd_X6_becomes : yX6_becomes.cls = RX6 ∧ yX6_becomes.cls ≠ "java/lang/invoke/MethodHandle" ∧ yX6_becomes.cls ≠ "java/lang/invoke/VarHandle" ∧ (parseMethodDescriptor yX6_becomes.desc).map (fun d => d.parameters.length) = some 3 := by decide +kernel
theorem inX6_becomes_6 : ∀ w ∈ wsX60, w ∈ wsX6_becomes := fun _ h => List.mem_cons_of_mem _ (List.mem_append_right _ h)
section S_X6_becomes
variable {p : Program} {l : Launch} {e : Env} {s : State} {m : MethodId} {args : Array Value} {below : List Frame} {meth : Method} {c : Code} {D : va_G} {cA : Nat → ClassId} {ad : Nat → Nat} {r : St}
noncomputable def f_X6_becomes_20 (k72 : Int32 → Int32 → Int32 → Int32 → St → Option (St)) : Nat → Int32 → Int32 → Int32 → Int32 → Int64 → Int32 → St → Option (St)
  | 0, _, _, _, _, _, _, _ => none
  | n + 1, v1, v2, v3, v4, v5, v7, σ => (if 4 ≤ v7 then k72 v1 v2 v3 v4 σ else bnd (f_X6_ownOf v2 v3 v7) fun r5 => bnd (f_X6_keepsOf v2) fun r6 => chk (inb ((4 * v1) + v7) 28) <| nw (uL σ 1 ((4 * v1) + v7).toNatClampNeg ((r5.toInt64 * v5) + (r6.toInt64 * (σ.2 1 ((4 * v1) + v7).toNatClampNeg)))) fun σ8 => nw (v7 + 1 : Int32) fun v109 => f_X6_becomes_20 k72 n v1 v2 v3 v4 v5 v109 σ8)
set_option maxHeartbeats 4000000 in
set_option maxRecDepth 100000 in
theorem b_X6_becomes_20 {k72 : Int32 → Int32 → Int32 → Int32 → St → Option (St)} (X : Cx RX6 wsX6_becomes cX6_becomes 8 none D cA ad SM p s m args meth c) (h72 : ∀ (w0 : Int32) (w1 : Int32) (w2 : Int32) (w3 : Int32) (σ : St) (H : Heap) (locs : List Loc) (ls : Array Slot), k72 w0 w1 w2 w3 σ = some r → Rn D cA ad SM s.heap σ H locs → lv_has ls 8 [(0, .ref (ad 0)), (1, .int w0), (2, .int w1), (3, .int w2), (4, .int w3)] → W p l e rm_X6_becomes s m args below meth c H locs 0 0 (MQ below (Qv D cA ad SM r) args s 0 0 (Aw ad SM)) (F0 m 72 ls [])) : ∀ (n : Nat) (v1 : Int32) (v2 : Int32) (v3 : Int32) (v4 : Int32) (v5 : Int64) (v7 : Int32) (σ : St) (H : Heap) (locs : List Loc) (ls : Array Slot), f_X6_becomes_20 k72 n v1 v2 v3 v4 v5 v7 σ = some r → Rn D cA ad SM s.heap σ H locs → lv_has ls 8 [(0, .ref (ad 0)), (1, .int v1), (2, .int v2), (3, .int v3), (4, .int v4), (5, .long v5), (7, .int v7)] → W p l e rm_X6_becomes s m args below meth c H locs 0 0 (MQ below (Qv D cA ad SM r) args s 0 0 (Aw ad SM)) (F0 m 20 ls []) := by
  obtain ⟨hx, hb, hml, hown, hts, hr, hlk, hK, hij⟩ := id X
  intro n
  induction n with
  | zero =>
    intro v1 v2 v3 v4 v5 v7 σ H locs ls hf
    exact nomatch (show (none : Option (St)) = some r from hf)
  | succ n ih =>
    intro v1 v2 v3 v4 v5 v7 σ H locs ls hf hW hl
    rw [f_X6_becomes_20] at hf
    refine lv_iload hx hb dX6_becomes_20 (lv_at hl 6 rfl) ?_
    refine lv_iconst (v := 4) hx hb dX6_becomes_22 (by decide) ?_
    refine lv_icmp_ge (tgt := 72) hx hb dX6_becomes_23 (by decide) (fun c4 => ?_) (fun c4 => ?_)
    · have hf := it_e hf c4
      exact h72 v1 v2 v3 v4 σ _ _ _ hf hW (lv_sub hl [0, 1, 2, 3, 4] rfl)
    · have hf := ie_e hf c4
      refine lv_aload_n hx hb dX6_becomes_26 rfl (lv_at hl 0 rfl) ?_
      refine get_6_1 X hW kM_0 iM_0 inX6_becomes_6 (List.mem_of_getElem? (i := 2) rfl) dX6_becomes_27 ?_
      refine lv_iconst (v := 4) hx hb dX6_becomes_30 (by decide) ?_
      refine lv_iload_n hx hb dX6_becomes_31 rfl (lv_at hl 1 rfl) ?_
      refine lv_imul hx hb dX6_becomes_32 ?_
      refine lv_iload hx hb dX6_becomes_33 (lv_at hl 6 rfl) ?_
      refine lv_iadd hx hb dX6_becomes_35 ?_
      refine lv_iload_n hx hb dX6_becomes_36 rfl (lv_at hl 2 rfl) ?_
      refine lv_iload_n hx hb dX6_becomes_37 rfl (lv_at hl 3 rfl) ?_
      refine lv_iload hx hb dX6_becomes_38 (lv_at hl 6 rfl) ?_
      obtain ⟨r5, z5, hf⟩ := bnd_e hf
      refine r_cSiR X hW (c_X6_ownOf l D cA ad hij σ v2 v3 v7 r5 z5) gX6_becomes_X6_ownOf rfl ⟨rfl, rfl⟩ hd_X6_ownOf ⟨Nat.le_of_ble_eq_true rfl, Nat.le_of_ble_eq_true rfl⟩ rfl (Nat.le_of_ble_eq_true rfl) hl.1 dX6_becomes_40 (fun H locs hW => ?_)
      refine lv_i2l hx hb dX6_becomes_43 rfl ?_
      refine lv_lload hx hb dX6_becomes_44 (lv_at hl 5 rfl) ?_
      refine lv_lmul hx hb dX6_becomes_46 ?_
      refine lv_iload_n hx hb dX6_becomes_47 rfl (lv_at hl 2 rfl) ?_
      obtain ⟨r6, z6, hf⟩ := bnd_e hf
      refine r_cSiR X hW (c_X6_keepsOf l D cA ad hij σ v2 r6 z6) gX6_becomes_X6_keepsOf rfl ⟨rfl, rfl⟩ hd_X6_keepsOf ⟨Nat.le_of_ble_eq_true rfl, Nat.le_of_ble_eq_true rfl⟩ rfl (Nat.le_of_ble_eq_true rfl) hl.1 dX6_becomes_48 (fun H locs hW => ?_)
      refine lv_i2l hx hb dX6_becomes_51 rfl ?_
      refine lv_aload_n hx hb dX6_becomes_52 rfl (lv_at hl 0 rfl) ?_
      refine get_6_1 X hW kM_0 iM_0 inX6_becomes_6 (List.mem_of_getElem? (i := 2) rfl) dX6_becomes_53 ?_
      refine lv_iconst (v := 4) hx hb dX6_becomes_56 (by decide) ?_
      refine lv_iload_n hx hb dX6_becomes_57 rfl (lv_at hl 1 rfl) ?_
      refine lv_imul hx hb dX6_becomes_58 ?_
      refine lv_iload hx hb dX6_becomes_59 (lv_at hl 6 rfl) ?_
      refine lv_iadd hx hb dX6_becomes_61 ?_
      obtain ⟨x7, hf⟩ := chk_e hf
      refine r_lald X hW kM_1 iM_1 nM_1 x7 dX6_becomes_62 ?_
      refine lv_lmul hx hb dX6_becomes_63 ?_
      refine lv_ladd hx hb dX6_becomes_64 ?_
      obtain ⟨σ8, e8, hf⟩ := nw_e hf
      refine r_last X hW kM_1 iM_1 nM_1 x7 e8 dX6_becomes_65 (fun H locs hW => ?_)
      obtain ⟨v109, e9, hf⟩ := nw_e hf
      refine lv_iinc (v := v109) (lv' := [(7, .int v109), (0, .ref (ad 0)), (1, .int v1), (2, .int v2), (3, .int v3), (4, .int v4), (5, .long v5)]) hx hb dX6_becomes_66 hl (k := 6) rfl (by rw [e9]; rfl) (by decide) rfl (fun ls hl => ?_)
      refine lv_goto (tgt := 20) hx hb dX6_becomes_69 (by decide) ?_
      exact ih v1 v2 v3 v4 v5 v109 σ8 _ _ _ hf hW (lv_sub hl [1, 2, 3, 4, 5, 6, 0] rfl)
noncomputable def f_X6_becomes_105 (v1 : Int32) (v4 : Int32) (σ : St) : Option (St) := chk (inb v1 7) <| nw (uI σ 2 v1.toNatClampNeg (v4 + 1)) fun σ17 => some σ17
set_option maxHeartbeats 4000000 in
set_option maxRecDepth 100000 in
theorem b_X6_becomes_105 (X : Cx RX6 wsX6_becomes cX6_becomes 8 none D cA ad SM p s m args meth c) : ∀ (v1 : Int32) (v4 : Int32) (σ : St) (H : Heap) (locs : List Loc) (ls : Array Slot), f_X6_becomes_105 v1 v4 σ = some r → Rn D cA ad SM s.heap σ H locs → lv_has ls 8 [(0, .ref (ad 0)), (1, .int v1), (4, .int v4)] → W p l e rm_X6_becomes s m args below meth c H locs 0 0 (MQ below (Qv D cA ad SM r) args s 0 0 (Aw ad SM)) (F0 m 105 ls []) := by
  obtain ⟨hx, hb, hml, hown, hts, hr, hlk, hK, hij⟩ := id X
  intro v1 v4 σ H locs ls hf hW hl
  rw [f_X6_becomes_105] at hf
  refine lv_aload_n hx hb dX6_becomes_105 rfl (lv_at hl 0 rfl) ?_
  refine get_6_2 X hW kM_0 iM_0 inX6_becomes_6 (List.mem_of_getElem? (i := 1) rfl) dX6_becomes_106 ?_
  refine lv_iload_n hx hb dX6_becomes_109 rfl (lv_at hl 1 rfl) ?_
  refine lv_iload hx hb dX6_becomes_110 (lv_at hl 2 rfl) ?_
  refine lv_iconst (v := 1) hx hb dX6_becomes_112 (by decide) ?_
  refine lv_iadd hx hb dX6_becomes_113 ?_
  obtain ⟨x16, hf⟩ := chk_e hf
  obtain ⟨σ17, e17, hf⟩ := nw_e hf
  refine r_iast X hW kM_2 iM_2 nM_2 x16 e17 dX6_becomes_114 (fun H locs hW => ?_)
  exact r_vret X hW rfl hf dX6_becomes_115
end S_X6_becomes
noncomputable def f_X6_becomes (σ : St) (a1 : Int32) (a2 : Int32) (a3 : Int32) : Option (St) := chk (inb a1 7) <| nw (σ.1 2 a1.toNatClampNeg : Int32) fun v102 => bnd (f_X6_nine (v102 + 1)) fun r3 => f_X6_becomes_20 (fun (w10_0 : Int32) (w11_1 : Int32) (w12_2 : Int32) (w13_3 : Int32) (σ14 : St) => (if 12 ≤ w13_3 then f_X6_becomes_105 w10_0 w13_3 σ14 else chk (inb ((12 * w10_0) + w13_3) 84) <| nw (uI σ14 3 ((12 * w10_0) + w13_3).toNatClampNeg w11_1) fun σ19 => nw (uI σ19 4 ((12 * w10_0) + w13_3).toNatClampNeg w12_2) fun σ20 => f_X6_becomes_105 w10_0 w13_3 σ20)) fu a1 a2 a3 v102 r3 0 σ
set_option maxHeartbeats 4000000 in
set_option maxRecDepth 100000 in
theorem c_X6_becomes (l : Launch) (D : va_G) (cA : Nat → ClassId) (ad : Nat → Nat) (hij : Ij ad SM) (σ : St) (a1 : Int32) (a2 : Int32) (a3 : Int32) (r : St) (hf : f_X6_becomes σ a1 a2 a3 = some r) : Met l yX6_becomes wsX6_becomes rm_X6_becomes (PC D cA ad SM [.ref (ad 0), .int a1, .int a2, .int a3] σ) (Qv D cA ad SM r) 0 0 (Aw ad SM) := by
  rw [f_X6_becomes] at hf
  refine k_head (own := RX6) (ws := wsX6_becomes) (cc := cX6_becomes) (nL := 8) (ret := none) pn_X6 rfl rfl hij (Nat.le_of_ble_eq_true rfl) (fun p e s m below meth c ls X hW hl => ?_)
  have hl : lv_has ls 8 [(0, .ref (ad 0)), (1, .int a1), (2, .int a2), (3, .int a3)] := hl
  obtain ⟨hx, hb, hml, hown, hts, hr, hlk, hK, hij⟩ := id X
  refine lv_aload_n hx hb dX6_becomes_0 rfl (lv_at hl 0 rfl) ?_
  refine get_6_2 X hW kM_0 iM_0 inX6_becomes_6 (List.mem_of_getElem? (i := 1) rfl) dX6_becomes_1 ?_
  refine lv_iload_n hx hb dX6_becomes_4 rfl (lv_at hl 1 rfl) ?_
  obtain ⟨x1, hf⟩ := chk_e hf
  refine r_iald X hW kM_2 iM_2 nM_2 x1 dX6_becomes_5 ?_
  obtain ⟨v102, e2, hf⟩ := nw_e hf
  refine tI _ e2 ?_
  refine lv_istore (lv' := [(4, .int v102), (0, .ref (ad 0)), (1, .int a1), (2, .int a2), (3, .int a3)]) hx hb dX6_becomes_6 hl (by decide) rfl (fun ls hl => ?_)
  refine lv_iload hx hb dX6_becomes_8 (lv_at hl 0 rfl) ?_
  refine lv_iconst (v := 1) hx hb dX6_becomes_10 (by decide) ?_
  refine lv_iadd hx hb dX6_becomes_11 ?_
  obtain ⟨r3, z3, hf⟩ := bnd_e hf
  refine r_cSlR X hW (c_X6_nine l D cA ad hij σ (v102 + 1) r3 z3) gX6_becomes_X6_nine rfl ⟨rfl, rfl⟩ hd_X6_nine ⟨Nat.le_of_ble_eq_true rfl, Nat.le_of_ble_eq_true rfl⟩ rfl (Nat.le_of_ble_eq_true rfl) hl.1 dX6_becomes_12 (fun H locs hW => ?_)
  refine lv_lstore (lv' := [(5, .long r3), (4, .int v102), (0, .ref (ad 0)), (1, .int a1), (2, .int a2), (3, .int a3)]) hx hb dX6_becomes_15 hl (by decide) rfl (fun ls hl => ?_)
  refine lv_iconst (v := 0) hx hb dX6_becomes_17 (by decide) ?_
  refine lv_istore (lv' := [(7, .int 0), (5, .long r3), (4, .int v102), (0, .ref (ad 0)), (1, .int a1), (2, .int a2), (3, .int a3)]) hx hb dX6_becomes_18 hl (by decide) rfl (fun ls hl => ?_)
  refine b_X6_becomes_20 X (fun w10_0 w11_1 w12_2 w13_3 σ14 H locs ls hf hW hl => ?_) fu a1 a2 a3 v102 r3 0 σ _ _ _ hf hW (lv_sub hl [3, 4, 5, 6, 2, 1, 0] rfl)
  · refine lv_iload hx hb dX6_becomes_72 (lv_at hl 4 rfl) ?_
    refine lv_bipush (v := 12) hx hb dX6_becomes_74 (by decide) ?_
    refine lv_icmp_ge (tgt := 105) hx hb dX6_becomes_76 (by decide) (fun c15 => ?_) (fun c15 => ?_)
    · have hf := it_e hf c15
      exact b_X6_becomes_105 X w10_0 w13_3 σ14 _ _ _ hf hW (lv_sub hl [0, 1, 4] rfl)
    · have hf := ie_e hf c15
      refine lv_aload_n hx hb dX6_becomes_79 rfl (lv_at hl 0 rfl) ?_
      refine get_6_3 X hW kM_0 iM_0 inX6_becomes_6 (List.mem_of_getElem? (i := 3) rfl) dX6_becomes_80 ?_
      refine lv_bipush (v := 12) hx hb dX6_becomes_83 (by decide) ?_
      refine lv_iload_n hx hb dX6_becomes_85 rfl (lv_at hl 1 rfl) ?_
      refine lv_imul hx hb dX6_becomes_86 ?_
      refine lv_iload hx hb dX6_becomes_87 (lv_at hl 4 rfl) ?_
      refine lv_iadd hx hb dX6_becomes_89 ?_
      refine lv_iload_n hx hb dX6_becomes_90 rfl (lv_at hl 2 rfl) ?_
      obtain ⟨x18, hf⟩ := chk_e hf
      obtain ⟨σ19, e19, hf⟩ := nw_e hf
      refine r_iast X hW kM_3 iM_3 nM_3 x18 e19 dX6_becomes_91 (fun H locs hW => ?_)
      refine lv_aload_n hx hb dX6_becomes_92 rfl (lv_at hl 0 rfl) ?_
      refine get_6_4 X hW kM_0 iM_0 inX6_becomes_6 (List.mem_of_getElem? (i := 4) rfl) dX6_becomes_93 ?_
      refine lv_bipush (v := 12) hx hb dX6_becomes_96 (by decide) ?_
      refine lv_iload_n hx hb dX6_becomes_98 rfl (lv_at hl 1 rfl) ?_
      refine lv_imul hx hb dX6_becomes_99 ?_
      refine lv_iload hx hb dX6_becomes_100 (lv_at hl 4 rfl) ?_
      refine lv_iadd hx hb dX6_becomes_102 ?_
      refine lv_iload_n hx hb dX6_becomes_103 rfl (lv_at hl 3 rfl) ?_
      obtain ⟨σ20, e20, hf⟩ := nw_e hf
      refine r_iast X hW kM_4 iM_4 nM_4 x18 e20 dX6_becomes_104 (fun H locs hW => ?_)
      exact b_X6_becomes_105 X w10_0 w13_3 σ20 _ _ _ hf hW (lv_sub hl [0, 1, 4] rfl)

abbrev rm_X6_cooks : Room := { frames := 2, cells := 0, slots := 0, locals := 50 }
theorem hd_X6_cooks : yX6_cooks.cls = RX6 ∧ yX6_cooks.cls ≠ "java/lang/invoke/MethodHandle" ∧ yX6_cooks.cls ≠ "java/lang/invoke/VarHandle" ∧ (parseMethodDescriptor yX6_cooks.desc).map (fun d => d.parameters.length) = some 3 := by decide +kernel
theorem inX6_cooks_6 : ∀ w ∈ wsX60, w ∈ wsX6_cooks := fun _ h => List.mem_cons_of_mem _ (List.mem_append_right _ h)
section S_X6_cooks
variable {p : Program} {l : Launch} {e : Env} {s : State} {m : MethodId} {args : Array Value} {below : List Frame} {meth : Method} {c : Code} {D : va_G} {cA : Nat → ClassId} {ad : Nat → Nat} {r : Int32 × St}
noncomputable def f_X6_cooks_16 (v1 : Int32) (v2 : Int32) (v3 : Int32) (s0 : Int32) (σ : St) : Option (Int32 × St) := (if s0 = 0 then chk (b01 s0) <| some (s0, σ) else bnd (f_X6_becomes σ v1 v2 v3) fun r5 => chk (b01 s0) <| some (s0, r5))
set_option maxHeartbeats 4000000 in
set_option maxRecDepth 100000 in
theorem b_X6_cooks_16 (X : Cx RX6 wsX6_cooks cX6_cooks 5 (some .boolean) D cA ad SM p s m args meth c) : ∀ (v1 : Int32) (v2 : Int32) (v3 : Int32) (s0 : Int32) (σ : St) (H : Heap) (locs : List Loc) (ls : Array Slot), f_X6_cooks_16 v1 v2 v3 s0 σ = some r → Rn D cA ad SM s.heap σ H locs → lv_has ls 5 [(0, .ref (ad 0)), (1, .int v1), (2, .int v2), (3, .int v3)] → W p l e rm_X6_cooks s m args below meth c H locs 0 0 (MQ below (Qi D cA ad SM r) args s 0 0 (Aw ad SM)) (F0 m 16 ls [.int s0]) := by
  obtain ⟨hx, hb, hml, hown, hts, hr, hlk, hK, hij⟩ := id X
  intro v1 v2 v3 s0 σ H locs ls hf hW hl
  rw [f_X6_cooks_16] at hf
  refine lv_istore (lv' := [(4, .int s0), (0, .ref (ad 0)), (1, .int v1), (2, .int v2), (3, .int v3)]) hx hb dX6_cooks_16 hl (by decide) rfl (fun ls hl => ?_)
  refine lv_iload hx hb dX6_cooks_18 (lv_at hl 0 rfl) ?_
  refine lv_if_eq (tgt := 30) hx hb dX6_cooks_20 (by decide) (fun c3 => ?_) (fun c3 => ?_)
  · have hf := it_e hf c3
    refine lv_iload hx hb dX6_cooks_30 (lv_at hl 0 rfl) ?_
    obtain ⟨q4, hf⟩ := chk_e hf
    exact r_iret X hW rfl (b01_e q4).1 hf dX6_cooks_32
  · have hf := ie_e hf c3
    refine lv_aload_n hx hb dX6_cooks_23 rfl (lv_at hl 1 rfl) ?_
    refine lv_iload_n hx hb dX6_cooks_24 rfl (lv_at hl 2 rfl) ?_
    refine lv_iload_n hx hb dX6_cooks_25 rfl (lv_at hl 3 rfl) ?_
    refine lv_iload_n hx hb dX6_cooks_26 rfl (lv_at hl 4 rfl) ?_
    obtain ⟨r5, z5, hf⟩ := bnd_e hf
    refine r_cVv X hW kM_0 iM_0 rfl (c_X6_becomes l D cA ad hij σ v1 v2 v3 r5 z5) gX6_cooks_X6_becomes rfl ⟨rfl, rfl⟩ hd_X6_becomes ⟨Nat.le_of_ble_eq_true rfl, Nat.le_of_ble_eq_true rfl⟩ rfl (Nat.le_of_ble_eq_true rfl) hl.1 dX6_cooks_27 (fun H locs hW => ?_)
    refine lv_iload hx hb dX6_cooks_30 (lv_at hl 0 rfl) ?_
    obtain ⟨q6, hf⟩ := chk_e hf
    exact r_iret X hW rfl (b01_e q6).1 hf dX6_cooks_32
end S_X6_cooks
noncomputable def f_X6_cooks (σ : St) (a1 : Int32) (a2 : Int32) (a3 : Int32) : Option (Int32 × St) := chk (inb a1 7) <| (if 12 ≤ (σ.1 2 a1.toNatClampNeg) then f_X6_cooks_16 a1 a2 a3 0 σ else f_X6_cooks_16 a1 a2 a3 1 σ)
set_option maxHeartbeats 4000000 in
set_option maxRecDepth 100000 in
theorem c_X6_cooks (l : Launch) (D : va_G) (cA : Nat → ClassId) (ad : Nat → Nat) (hij : Ij ad SM) (σ : St) (a1 : Int32) (a2 : Int32) (a3 : Int32) (r : Int32 × St) (hf : f_X6_cooks σ a1 a2 a3 = some r) : Met l yX6_cooks wsX6_cooks rm_X6_cooks (PC D cA ad SM [.ref (ad 0), .int a1, .int a2, .int a3] σ) (Qi D cA ad SM r) 0 0 (Aw ad SM) := by
  rw [f_X6_cooks] at hf
  refine k_head (own := RX6) (ws := wsX6_cooks) (cc := cX6_cooks) (nL := 5) (ret := (some .boolean)) pn_X6 rfl rfl hij (Nat.le_of_ble_eq_true rfl) (fun p e s m below meth c ls X hW hl => ?_)
  have hl : lv_has ls 5 [(0, .ref (ad 0)), (1, .int a1), (2, .int a2), (3, .int a3)] := hl
  obtain ⟨hx, hb, hml, hown, hts, hr, hlk, hK, hij⟩ := id X
  refine lv_aload_n hx hb dX6_cooks_0 rfl (lv_at hl 0 rfl) ?_
  refine get_6_2 X hW kM_0 iM_0 inX6_cooks_6 (List.mem_of_getElem? (i := 1) rfl) dX6_cooks_1 ?_
  refine lv_iload_n hx hb dX6_cooks_4 rfl (lv_at hl 1 rfl) ?_
  obtain ⟨x1, hf⟩ := chk_e hf
  refine r_iald X hW kM_2 iM_2 nM_2 x1 dX6_cooks_5 ?_
  refine lv_bipush (v := 12) hx hb dX6_cooks_6 (by decide) ?_
  refine lv_icmp_ge (tgt := 15) hx hb dX6_cooks_8 (by decide) (fun c2 => ?_) (fun c2 => ?_)
  · have hf := it_e hf c2
    refine lv_iconst (v := 0) hx hb dX6_cooks_15 (by decide) ?_
    exact b_X6_cooks_16 X a1 a2 a3 0 σ _ _ _ hf hW (lv_sub hl [0, 1, 2, 3] rfl)
  · have hf := ie_e hf c2
    refine lv_iconst (v := 1) hx hb dX6_cooks_11 (by decide) ?_
    refine lv_goto (tgt := 16) hx hb dX6_cooks_12 (by decide) ?_
    exact b_X6_cooks_16 X a1 a2 a3 1 σ _ _ _ hf hW (lv_sub hl [0, 1, 2, 3] rfl)

abbrev rm_X6_empty : Room := { frames := 0, cells := 0, slots := 0, locals := 0 }
theorem hd_X6_empty : yX6_empty.cls = RX6 ∧ yX6_empty.cls ≠ "java/lang/invoke/MethodHandle" ∧ yX6_empty.cls ≠ "java/lang/invoke/VarHandle" ∧ (parseMethodDescriptor yX6_empty.desc).map (fun d => d.parameters.length) = some 1 := by decide +kernel
theorem inX6_empty_6 : ∀ w ∈ wsX60, w ∈ wsX6_empty := fun _ h => List.mem_cons_of_mem _ (List.mem_append_right _ h)
section S_X6_empty
variable {p : Program} {l : Launch} {e : Env} {s : State} {m : MethodId} {args : Array Value} {below : List Frame} {meth : Method} {c : Code} {D : va_G} {cA : Nat → ClassId} {ad : Nat → Nat} {r : St}
noncomputable def f_X6_empty_9 (k31 : St → Option (St)) : Nat → Int32 → Int32 → St → Option (St)
  | 0, _, _, _ => none
  | n + 1, v1, v2, σ => (if 4 ≤ v2 then k31 σ else chk (inb ((4 * v1) + v2) 28) <| nw (uL σ 1 ((4 * v1) + v2).toNatClampNeg 0) fun σ5 => nw (v2 + 1 : Int32) fun v106 => f_X6_empty_9 k31 n v1 v106 σ5)
set_option maxHeartbeats 4000000 in
set_option maxRecDepth 100000 in
theorem b_X6_empty_9 {k31 : St → Option (St)} (X : Cx RX6 wsX6_empty cX6_empty 3 none D cA ad SM p s m args meth c) (h31 : ∀  (σ : St) (H : Heap) (locs : List Loc) (ls : Array Slot), k31 σ = some r → Rn D cA ad SM s.heap σ H locs → lv_has ls 3 [] → W p l e rm_X6_empty s m args below meth c H locs 0 0 (MQ below (Qv D cA ad SM r) args s 0 0 (Aw ad SM)) (F0 m 31 ls [])) : ∀ (n : Nat) (v1 : Int32) (v2 : Int32) (σ : St) (H : Heap) (locs : List Loc) (ls : Array Slot), f_X6_empty_9 k31 n v1 v2 σ = some r → Rn D cA ad SM s.heap σ H locs → lv_has ls 3 [(0, .ref (ad 0)), (1, .int v1), (2, .int v2)] → W p l e rm_X6_empty s m args below meth c H locs 0 0 (MQ below (Qv D cA ad SM r) args s 0 0 (Aw ad SM)) (F0 m 9 ls []) := by
  obtain ⟨hx, hb, hml, hown, hts, hr, hlk, hK, hij⟩ := id X
  intro n
  induction n with
  | zero =>
    intro v1 v2 σ H locs ls hf
    exact nomatch (show (none : Option (St)) = some r from hf)
  | succ n ih =>
    intro v1 v2 σ H locs ls hf hW hl
    rw [f_X6_empty_9] at hf
    refine lv_iload_n hx hb dX6_empty_9 rfl (lv_at hl 2 rfl) ?_
    refine lv_iconst (v := 4) hx hb dX6_empty_10 (by decide) ?_
    refine lv_icmp_ge (tgt := 31) hx hb dX6_empty_11 (by decide) (fun c3 => ?_) (fun c3 => ?_)
    · have hf := it_e hf c3
      exact h31 σ _ _ _ hf hW (lv_sub hl [] rfl)
    · have hf := ie_e hf c3
      refine lv_aload_n hx hb dX6_empty_14 rfl (lv_at hl 0 rfl) ?_
      refine get_6_1 X hW kM_0 iM_0 inX6_empty_6 (List.mem_of_getElem? (i := 2) rfl) dX6_empty_15 ?_
      refine lv_iconst (v := 4) hx hb dX6_empty_18 (by decide) ?_
      refine lv_iload_n hx hb dX6_empty_19 rfl (lv_at hl 1 rfl) ?_
      refine lv_imul hx hb dX6_empty_20 ?_
      refine lv_iload_n hx hb dX6_empty_21 rfl (lv_at hl 2 rfl) ?_
      refine lv_iadd hx hb dX6_empty_22 ?_
      refine lv_lconst (v := 0) hx hb dX6_empty_23 (by decide) ?_
      obtain ⟨x4, hf⟩ := chk_e hf
      obtain ⟨σ5, e5, hf⟩ := nw_e hf
      refine r_last X hW kM_1 iM_1 nM_1 x4 e5 dX6_empty_24 (fun H locs hW => ?_)
      obtain ⟨v106, e6, hf⟩ := nw_e hf
      refine lv_iinc (v := v106) (lv' := [(2, .int v106), (0, .ref (ad 0)), (1, .int v1)]) hx hb dX6_empty_25 hl (k := 2) rfl (by rw [e6]; rfl) (by decide) rfl (fun ls hl => ?_)
      refine lv_goto (tgt := 9) hx hb dX6_empty_28 (by decide) ?_
      exact ih v1 v106 σ5 _ _ _ hf hW (lv_sub hl [1, 2, 0] rfl)
end S_X6_empty
noncomputable def f_X6_empty (σ : St) (a1 : Int32) : Option (St) := chk (inb a1 7) <| nw (uI σ 2 a1.toNatClampNeg 0) fun σ2 => f_X6_empty_9 (fun  (σ7 : St) => some σ7) fu a1 0 σ2
set_option maxHeartbeats 4000000 in
set_option maxRecDepth 100000 in
theorem c_X6_empty (l : Launch) (D : va_G) (cA : Nat → ClassId) (ad : Nat → Nat) (hij : Ij ad SM) (σ : St) (a1 : Int32) (r : St) (hf : f_X6_empty σ a1 = some r) : Met l yX6_empty wsX6_empty rm_X6_empty (PC D cA ad SM [.ref (ad 0), .int a1] σ) (Qv D cA ad SM r) 0 0 (Aw ad SM) := by
  rw [f_X6_empty] at hf
  refine k_head (own := RX6) (ws := wsX6_empty) (cc := cX6_empty) (nL := 3) (ret := none) pn_X6 rfl rfl hij (Nat.le_of_ble_eq_true rfl) (fun p e s m below meth c ls X hW hl => ?_)
  have hl : lv_has ls 3 [(0, .ref (ad 0)), (1, .int a1)] := hl
  obtain ⟨hx, hb, hml, hown, hts, hr, hlk, hK, hij⟩ := id X
  refine lv_aload_n hx hb dX6_empty_0 rfl (lv_at hl 0 rfl) ?_
  refine get_6_2 X hW kM_0 iM_0 inX6_empty_6 (List.mem_of_getElem? (i := 1) rfl) dX6_empty_1 ?_
  refine lv_iload_n hx hb dX6_empty_4 rfl (lv_at hl 1 rfl) ?_
  refine lv_iconst (v := 0) hx hb dX6_empty_5 (by decide) ?_
  obtain ⟨x1, hf⟩ := chk_e hf
  obtain ⟨σ2, e2, hf⟩ := nw_e hf
  refine r_iast X hW kM_2 iM_2 nM_2 x1 e2 dX6_empty_6 (fun H locs hW => ?_)
  refine lv_iconst (v := 0) hx hb dX6_empty_7 (by decide) ?_
  refine lv_istore_n (lv' := [(2, .int 0), (0, .ref (ad 0)), (1, .int a1)]) hx hb dX6_empty_8 rfl hl (by decide) rfl (fun ls hl => ?_)
  refine b_X6_empty_9 X (fun σ7 H locs ls hf hW hl => ?_) fu a1 0 σ2 _ _ _ hf hW (lv_sub hl [1, 2, 0] rfl)
  · exact r_vret X hW rfl hf dX6_empty_31

abbrev rm_X6_same : Room := { frames := 0, cells := 0, slots := 0, locals := 0 }
theorem hd_X6_same : yX6_same.cls = RX6 ∧ yX6_same.cls ≠ "java/lang/invoke/MethodHandle" ∧ yX6_same.cls ≠ "java/lang/invoke/VarHandle" ∧ (parseMethodDescriptor yX6_same.desc).map (fun d => d.parameters.length) = some 2 := by decide +kernel
theorem inX6_same_6 : ∀ w ∈ wsX60, w ∈ wsX6_same := fun _ h => List.mem_cons_of_mem _ (List.mem_append_right _ h)
section S_X6_same
variable {p : Program} {l : Launch} {e : Env} {s : State} {m : MethodId} {args : Array Value} {below : List Frame} {meth : Method} {c : Code} {D : va_G} {cA : Nat → ClassId} {ad : Nat → Nat} {r : St}
noncomputable def f_X6_same_14 (k45 : Int32 → Int32 → St → Option (St)) : Nat → Int32 → Int32 → Int32 → St → Option (St)
  | 0, _, _, _, _ => none
  | n + 1, v1, v2, v3, σ => (if 4 ≤ v3 then k45 v1 v2 σ else chk (inb ((4 * v1) + v3) 28) <| chk (inb ((4 * v2) + v3) 28) <| nw (uL σ 1 ((4 * v2) + v3).toNatClampNeg (σ.2 1 ((4 * v1) + v3).toNatClampNeg)) fun σ7 => nw (v3 + 1 : Int32) fun v108 => f_X6_same_14 k45 n v1 v2 v108 σ7)
set_option maxHeartbeats 4000000 in
set_option maxRecDepth 100000 in
theorem b_X6_same_14 {k45 : Int32 → Int32 → St → Option (St)} (X : Cx RX6 wsX6_same cX6_same 4 none D cA ad SM p s m args meth c) (h45 : ∀ (w0 : Int32) (w1 : Int32) (σ : St) (H : Heap) (locs : List Loc) (ls : Array Slot), k45 w0 w1 σ = some r → Rn D cA ad SM s.heap σ H locs → lv_has ls 4 [(0, .ref (ad 0)), (1, .int w0), (2, .int w1)] → W p l e rm_X6_same s m args below meth c H locs 0 0 (MQ below (Qv D cA ad SM r) args s 0 0 (Aw ad SM)) (F0 m 45 ls [])) : ∀ (n : Nat) (v1 : Int32) (v2 : Int32) (v3 : Int32) (σ : St) (H : Heap) (locs : List Loc) (ls : Array Slot), f_X6_same_14 k45 n v1 v2 v3 σ = some r → Rn D cA ad SM s.heap σ H locs → lv_has ls 4 [(0, .ref (ad 0)), (1, .int v1), (2, .int v2), (3, .int v3)] → W p l e rm_X6_same s m args below meth c H locs 0 0 (MQ below (Qv D cA ad SM r) args s 0 0 (Aw ad SM)) (F0 m 14 ls []) := by
  obtain ⟨hx, hb, hml, hown, hts, hr, hlk, hK, hij⟩ := id X
  intro n
  induction n with
  | zero =>
    intro v1 v2 v3 σ H locs ls hf
    exact nomatch (show (none : Option (St)) = some r from hf)
  | succ n ih =>
    intro v1 v2 v3 σ H locs ls hf hW hl
    rw [f_X6_same_14] at hf
    refine lv_iload_n hx hb dX6_same_14 rfl (lv_at hl 3 rfl) ?_
    refine lv_iconst (v := 4) hx hb dX6_same_15 (by decide) ?_
    refine lv_icmp_ge (tgt := 45) hx hb dX6_same_16 (by decide) (fun c4 => ?_) (fun c4 => ?_)
    · have hf := it_e hf c4
      exact h45 v1 v2 σ _ _ _ hf hW (lv_sub hl [0, 1, 2] rfl)
    · have hf := ie_e hf c4
      refine lv_aload_n hx hb dX6_same_19 rfl (lv_at hl 0 rfl) ?_
      refine get_6_1 X hW kM_0 iM_0 inX6_same_6 (List.mem_of_getElem? (i := 2) rfl) dX6_same_20 ?_
      refine lv_iconst (v := 4) hx hb dX6_same_23 (by decide) ?_
      refine lv_iload_n hx hb dX6_same_24 rfl (lv_at hl 2 rfl) ?_
      refine lv_imul hx hb dX6_same_25 ?_
      refine lv_iload_n hx hb dX6_same_26 rfl (lv_at hl 3 rfl) ?_
      refine lv_iadd hx hb dX6_same_27 ?_
      refine lv_aload_n hx hb dX6_same_28 rfl (lv_at hl 0 rfl) ?_
      refine get_6_1 X hW kM_0 iM_0 inX6_same_6 (List.mem_of_getElem? (i := 2) rfl) dX6_same_29 ?_
      refine lv_iconst (v := 4) hx hb dX6_same_32 (by decide) ?_
      refine lv_iload_n hx hb dX6_same_33 rfl (lv_at hl 1 rfl) ?_
      refine lv_imul hx hb dX6_same_34 ?_
      refine lv_iload_n hx hb dX6_same_35 rfl (lv_at hl 3 rfl) ?_
      refine lv_iadd hx hb dX6_same_36 ?_
      obtain ⟨x5, hf⟩ := chk_e hf
      refine r_lald X hW kM_1 iM_1 nM_1 x5 dX6_same_37 ?_
      obtain ⟨x6, hf⟩ := chk_e hf
      obtain ⟨σ7, e7, hf⟩ := nw_e hf
      refine r_last X hW kM_1 iM_1 nM_1 x6 e7 dX6_same_38 (fun H locs hW => ?_)
      obtain ⟨v108, e8, hf⟩ := nw_e hf
      refine lv_iinc (v := v108) (lv' := [(3, .int v108), (0, .ref (ad 0)), (1, .int v1), (2, .int v2)]) hx hb dX6_same_39 hl (k := 3) rfl (by rw [e8]; rfl) (by decide) rfl (fun ls hl => ?_)
      refine lv_goto (tgt := 14) hx hb dX6_same_42 (by decide) ?_
      exact ih v1 v2 v108 σ7 _ _ _ hf hW (lv_sub hl [1, 2, 3, 0] rfl)
noncomputable def f_X6_same_47 (k103 : St → Option (St)) : Nat → Int32 → Int32 → Int32 → St → Option (St)
  | 0, _, _, _, _ => none
  | n + 1, v1, v2, v3, σ => (if 12 ≤ v3 then k103 σ else chk (inb ((12 * v1) + v3) 84) <| chk (inb ((12 * v2) + v3) 84) <| nw (uI σ 3 ((12 * v2) + v3).toNatClampNeg (σ.1 3 ((12 * v1) + v3).toNatClampNeg)) fun σ15 => nw (uI σ15 4 ((12 * v2) + v3).toNatClampNeg (σ15.1 4 ((12 * v1) + v3).toNatClampNeg)) fun σ16 => nw (v3 + 1 : Int32) fun v117 => f_X6_same_47 k103 n v1 v2 v117 σ16)
set_option maxHeartbeats 4000000 in
set_option maxRecDepth 100000 in
theorem b_X6_same_47 {k103 : St → Option (St)} (X : Cx RX6 wsX6_same cX6_same 4 none D cA ad SM p s m args meth c) (h103 : ∀  (σ : St) (H : Heap) (locs : List Loc) (ls : Array Slot), k103 σ = some r → Rn D cA ad SM s.heap σ H locs → lv_has ls 4 [] → W p l e rm_X6_same s m args below meth c H locs 0 0 (MQ below (Qv D cA ad SM r) args s 0 0 (Aw ad SM)) (F0 m 103 ls [])) : ∀ (n : Nat) (v1 : Int32) (v2 : Int32) (v3 : Int32) (σ : St) (H : Heap) (locs : List Loc) (ls : Array Slot), f_X6_same_47 k103 n v1 v2 v3 σ = some r → Rn D cA ad SM s.heap σ H locs → lv_has ls 4 [(0, .ref (ad 0)), (1, .int v1), (2, .int v2), (3, .int v3)] → W p l e rm_X6_same s m args below meth c H locs 0 0 (MQ below (Qv D cA ad SM r) args s 0 0 (Aw ad SM)) (F0 m 47 ls []) := by
  obtain ⟨hx, hb, hml, hown, hts, hr, hlk, hK, hij⟩ := id X
  intro n
  induction n with
  | zero =>
    intro v1 v2 v3 σ H locs ls hf
    exact nomatch (show (none : Option (St)) = some r from hf)
  | succ n ih =>
    intro v1 v2 v3 σ H locs ls hf hW hl
    rw [f_X6_same_47] at hf
    refine lv_iload_n hx hb dX6_same_47 rfl (lv_at hl 3 rfl) ?_
    refine lv_bipush (v := 12) hx hb dX6_same_48 (by decide) ?_
    refine lv_icmp_ge (tgt := 103) hx hb dX6_same_50 (by decide) (fun c12 => ?_) (fun c12 => ?_)
    · have hf := it_e hf c12
      exact h103 σ _ _ _ hf hW (lv_sub hl [] rfl)
    · have hf := ie_e hf c12
      refine lv_aload_n hx hb dX6_same_53 rfl (lv_at hl 0 rfl) ?_
      refine get_6_3 X hW kM_0 iM_0 inX6_same_6 (List.mem_of_getElem? (i := 3) rfl) dX6_same_54 ?_
      refine lv_bipush (v := 12) hx hb dX6_same_57 (by decide) ?_
      refine lv_iload_n hx hb dX6_same_59 rfl (lv_at hl 2 rfl) ?_
      refine lv_imul hx hb dX6_same_60 ?_
      refine lv_iload_n hx hb dX6_same_61 rfl (lv_at hl 3 rfl) ?_
      refine lv_iadd hx hb dX6_same_62 ?_
      refine lv_aload_n hx hb dX6_same_63 rfl (lv_at hl 0 rfl) ?_
      refine get_6_3 X hW kM_0 iM_0 inX6_same_6 (List.mem_of_getElem? (i := 3) rfl) dX6_same_64 ?_
      refine lv_bipush (v := 12) hx hb dX6_same_67 (by decide) ?_
      refine lv_iload_n hx hb dX6_same_69 rfl (lv_at hl 1 rfl) ?_
      refine lv_imul hx hb dX6_same_70 ?_
      refine lv_iload_n hx hb dX6_same_71 rfl (lv_at hl 3 rfl) ?_
      refine lv_iadd hx hb dX6_same_72 ?_
      obtain ⟨x13, hf⟩ := chk_e hf
      refine r_iald X hW kM_3 iM_3 nM_3 x13 dX6_same_73 ?_
      obtain ⟨x14, hf⟩ := chk_e hf
      obtain ⟨σ15, e15, hf⟩ := nw_e hf
      refine r_iast X hW kM_3 iM_3 nM_3 x14 e15 dX6_same_74 (fun H locs hW => ?_)
      refine lv_aload_n hx hb dX6_same_75 rfl (lv_at hl 0 rfl) ?_
      refine get_6_4 X hW kM_0 iM_0 inX6_same_6 (List.mem_of_getElem? (i := 4) rfl) dX6_same_76 ?_
      refine lv_bipush (v := 12) hx hb dX6_same_79 (by decide) ?_
      refine lv_iload_n hx hb dX6_same_81 rfl (lv_at hl 2 rfl) ?_
      refine lv_imul hx hb dX6_same_82 ?_
      refine lv_iload_n hx hb dX6_same_83 rfl (lv_at hl 3 rfl) ?_
      refine lv_iadd hx hb dX6_same_84 ?_
      refine lv_aload_n hx hb dX6_same_85 rfl (lv_at hl 0 rfl) ?_
      refine get_6_4 X hW kM_0 iM_0 inX6_same_6 (List.mem_of_getElem? (i := 4) rfl) dX6_same_86 ?_
      refine lv_bipush (v := 12) hx hb dX6_same_89 (by decide) ?_
      refine lv_iload_n hx hb dX6_same_91 rfl (lv_at hl 1 rfl) ?_
      refine lv_imul hx hb dX6_same_92 ?_
      refine lv_iload_n hx hb dX6_same_93 rfl (lv_at hl 3 rfl) ?_
      refine lv_iadd hx hb dX6_same_94 ?_
      refine r_iald X hW kM_4 iM_4 nM_4 x13 dX6_same_95 ?_
      obtain ⟨σ16, e16, hf⟩ := nw_e hf
      refine r_iast X hW kM_4 iM_4 nM_4 x14 e16 dX6_same_96 (fun H locs hW => ?_)
      obtain ⟨v117, e17, hf⟩ := nw_e hf
      refine lv_iinc (v := v117) (lv' := [(3, .int v117), (0, .ref (ad 0)), (1, .int v1), (2, .int v2)]) hx hb dX6_same_97 hl (k := 3) rfl (by rw [e17]; rfl) (by decide) rfl (fun ls hl => ?_)
      refine lv_goto (tgt := 47) hx hb dX6_same_100 (by decide) ?_
      exact ih v1 v2 v117 σ16 _ _ _ hf hW (lv_sub hl [1, 2, 3, 0] rfl)
end S_X6_same
noncomputable def f_X6_same (σ : St) (a1 : Int32) (a2 : Int32) : Option (St) := chk (inb a1 7) <| chk (inb a2 7) <| nw (uI σ 2 a2.toNatClampNeg (σ.1 2 a1.toNatClampNeg)) fun σ3 => f_X6_same_14 (fun (w9_0 : Int32) (w10_1 : Int32) (σ11 : St) => f_X6_same_47 (fun  (σ18 : St) => some σ18) fu w9_0 w10_1 0 σ11) fu a1 a2 0 σ3
set_option maxHeartbeats 4000000 in
set_option maxRecDepth 100000 in
theorem c_X6_same (l : Launch) (D : va_G) (cA : Nat → ClassId) (ad : Nat → Nat) (hij : Ij ad SM) (σ : St) (a1 : Int32) (a2 : Int32) (r : St) (hf : f_X6_same σ a1 a2 = some r) : Met l yX6_same wsX6_same rm_X6_same (PC D cA ad SM [.ref (ad 0), .int a1, .int a2] σ) (Qv D cA ad SM r) 0 0 (Aw ad SM) := by
  rw [f_X6_same] at hf
  refine k_head (own := RX6) (ws := wsX6_same) (cc := cX6_same) (nL := 4) (ret := none) pn_X6 rfl rfl hij (Nat.le_of_ble_eq_true rfl) (fun p e s m below meth c ls X hW hl => ?_)
  have hl : lv_has ls 4 [(0, .ref (ad 0)), (1, .int a1), (2, .int a2)] := hl
  obtain ⟨hx, hb, hml, hown, hts, hr, hlk, hK, hij⟩ := id X
  refine lv_aload_n hx hb dX6_same_0 rfl (lv_at hl 0 rfl) ?_
  refine get_6_2 X hW kM_0 iM_0 inX6_same_6 (List.mem_of_getElem? (i := 1) rfl) dX6_same_1 ?_
  refine lv_iload_n hx hb dX6_same_4 rfl (lv_at hl 2 rfl) ?_
  refine lv_aload_n hx hb dX6_same_5 rfl (lv_at hl 0 rfl) ?_
  refine get_6_2 X hW kM_0 iM_0 inX6_same_6 (List.mem_of_getElem? (i := 1) rfl) dX6_same_6 ?_
  refine lv_iload_n hx hb dX6_same_9 rfl (lv_at hl 1 rfl) ?_
  obtain ⟨x1, hf⟩ := chk_e hf
  refine r_iald X hW kM_2 iM_2 nM_2 x1 dX6_same_10 ?_
  obtain ⟨x2, hf⟩ := chk_e hf
  obtain ⟨σ3, e3, hf⟩ := nw_e hf
  refine r_iast X hW kM_2 iM_2 nM_2 x2 e3 dX6_same_11 (fun H locs hW => ?_)
  refine lv_iconst (v := 0) hx hb dX6_same_12 (by decide) ?_
  refine lv_istore_n (lv' := [(3, .int 0), (0, .ref (ad 0)), (1, .int a1), (2, .int a2)]) hx hb dX6_same_13 rfl hl (by decide) rfl (fun ls hl => ?_)
  refine b_X6_same_14 X (fun w9_0 w10_1 σ11 H locs ls hf hW hl => ?_) fu a1 a2 0 σ3 _ _ _ hf hW (lv_sub hl [1, 2, 3, 0] rfl)
  · refine lv_iconst (v := 0) hx hb dX6_same_45 (by decide) ?_
    refine lv_istore_n (lv' := [(3, .int 0), (0, .ref (ad 0)), (1, .int w9_0), (2, .int w10_1)]) hx hb dX6_same_46 rfl hl (by decide) rfl (fun ls hl => ?_)
    refine b_X6_same_47 X (fun σ18 H locs ls hf hW hl => ?_) fu w9_0 w10_1 0 σ11 _ _ _ hf hW (lv_sub hl [1, 2, 3, 0] rfl)
    · exact r_vret X hW rfl hf dX6_same_103

abbrev rm_X6_allOf : Room := { frames := 0, cells := 0, slots := 0, locals := 0 }
theorem hd_X6_allOf : yX6_allOf.cls = RX6 ∧ yX6_allOf.cls ≠ "java/lang/invoke/MethodHandle" ∧ yX6_allOf.cls ≠ "java/lang/invoke/VarHandle" ∧ (parseMethodDescriptor yX6_allOf.desc).map (fun d => d.parameters.length) = some 1 := by decide +kernel
theorem inX6_allOf_6 : ∀ w ∈ wsX60, w ∈ wsX6_allOf := fun _ h => List.mem_cons_of_mem _ (List.mem_append_right _ h)
section S_X6_allOf
variable {p : Program} {l : Launch} {e : Env} {s : State} {m : MethodId} {args : Array Value} {below : List Frame} {meth : Method} {c : Code} {D : va_G} {cA : Nat → ClassId} {ad : Nat → Nat} {r : Int64}
noncomputable def f_X6_allOf_5 (σ : St) (k31 : Int64 → Option (Int64)) : Nat → Int32 → Int64 → Int32 → Option (Int64)
  | 0, _, _, _ => none
  | n + 1, v1, v2, v4 => (if 4 ≤ v4 then k31 v2 else chk (inb ((4 * v1) + v4) 28) <| nw (v2 + (σ.2 1 ((4 * v1) + v4).toNatClampNeg) : Int64) fun v103 => nw (v4 + 1 : Int32) fun v104 => f_X6_allOf_5 σ k31 n v1 v103 v104)
set_option maxHeartbeats 4000000 in
set_option maxRecDepth 100000 in
theorem b_X6_allOf_5 {σ : St} {k31 : Int64 → Option (Int64)} (X : Cx RX6 wsX6_allOf cX6_allOf 5 (some .long) D cA ad SM p s m args meth c) (h31 : ∀ (w0 : Int64) (H : Heap) (locs : List Loc) (ls : Array Slot), k31 w0 = some r → Rn D cA ad SM s.heap σ H locs → lv_has ls 5 [(2, .long w0)] → W p l e rm_X6_allOf s m args below meth c H locs 0 0 (MQ below (Ql D cA ad SM (r, σ)) args s 0 0 (Aw ad SM)) (F0 m 31 ls [])) : ∀ (n : Nat) (v1 : Int32) (v2 : Int64) (v4 : Int32) (H : Heap) (locs : List Loc) (ls : Array Slot), f_X6_allOf_5 σ k31 n v1 v2 v4 = some r → Rn D cA ad SM s.heap σ H locs → lv_has ls 5 [(0, .ref (ad 0)), (1, .int v1), (2, .long v2), (4, .int v4)] → W p l e rm_X6_allOf s m args below meth c H locs 0 0 (MQ below (Ql D cA ad SM (r, σ)) args s 0 0 (Aw ad SM)) (F0 m 5 ls []) := by
  obtain ⟨hx, hb, hml, hown, hts, hr, hlk, hK, hij⟩ := id X
  intro n
  induction n with
  | zero =>
    intro v1 v2 v4 H locs ls hf
    exact nomatch (show (none : Option (Int64)) = some r from hf)
  | succ n ih =>
    intro v1 v2 v4 H locs ls hf hW hl
    rw [f_X6_allOf_5] at hf
    refine lv_iload hx hb dX6_allOf_5 (lv_at hl 3 rfl) ?_
    refine lv_iconst (v := 4) hx hb dX6_allOf_7 (by decide) ?_
    refine lv_icmp_ge (tgt := 31) hx hb dX6_allOf_8 (by decide) (fun c1 => ?_) (fun c1 => ?_)
    · have hf := it_e hf c1
      exact h31 v2 _ _ _ hf hW (lv_sub hl [2] rfl)
    · have hf := ie_e hf c1
      refine lv_lload_n hx hb dX6_allOf_11 rfl (lv_at hl 2 rfl) ?_
      refine lv_aload_n hx hb dX6_allOf_12 rfl (lv_at hl 0 rfl) ?_
      refine get_6_1 X hW kM_0 iM_0 inX6_allOf_6 (List.mem_of_getElem? (i := 1) rfl) dX6_allOf_13 ?_
      refine lv_iconst (v := 4) hx hb dX6_allOf_16 (by decide) ?_
      refine lv_iload_n hx hb dX6_allOf_17 rfl (lv_at hl 1 rfl) ?_
      refine lv_imul hx hb dX6_allOf_18 ?_
      refine lv_iload hx hb dX6_allOf_19 (lv_at hl 3 rfl) ?_
      refine lv_iadd hx hb dX6_allOf_21 ?_
      obtain ⟨x2, hf⟩ := chk_e hf
      refine r_lald X hW kM_1 iM_1 nM_1 x2 dX6_allOf_22 ?_
      refine lv_ladd hx hb dX6_allOf_23 ?_
      obtain ⟨v103, e3, hf⟩ := nw_e hf
      refine tL _ e3 ?_
      refine lv_lstore_n (lv' := [(2, .long v103), (0, .ref (ad 0)), (1, .int v1), (4, .int v4)]) hx hb dX6_allOf_24 rfl hl (by decide) rfl (fun ls hl => ?_)
      obtain ⟨v104, e4, hf⟩ := nw_e hf
      refine lv_iinc (v := v104) (lv' := [(4, .int v104), (2, .long v103), (0, .ref (ad 0)), (1, .int v1)]) hx hb dX6_allOf_25 hl (k := 3) rfl (by rw [e4]; rfl) (by decide) rfl (fun ls hl => ?_)
      refine lv_goto (tgt := 5) hx hb dX6_allOf_28 (by decide) ?_
      exact ih v1 v103 v104 _ _ _ hf hW (lv_sub hl [2, 3, 1, 0] rfl)
end S_X6_allOf
noncomputable def f_X6_allOf (σ : St) (a1 : Int32) : Option (Int64) := f_X6_allOf_5 σ (fun (w5_0 : Int64) => some w5_0) fu a1 0 0
set_option maxHeartbeats 4000000 in
set_option maxRecDepth 100000 in
theorem c_X6_allOf (l : Launch) (D : va_G) (cA : Nat → ClassId) (ad : Nat → Nat) (hij : Ij ad SM) (σ : St) (a1 : Int32) (r : Int64) (hf : f_X6_allOf σ a1 = some r) : Met l yX6_allOf wsX6_allOf rm_X6_allOf (PC D cA ad SM [.ref (ad 0), .int a1] σ) (Ql D cA ad SM (r, σ)) 0 0 (Aw ad SM) := by
  rw [f_X6_allOf] at hf
  refine k_head (own := RX6) (ws := wsX6_allOf) (cc := cX6_allOf) (nL := 5) (ret := (some .long)) pn_X6 rfl rfl hij (Nat.le_of_ble_eq_true rfl) (fun p e s m below meth c ls X hW hl => ?_)
  have hl : lv_has ls 5 [(0, .ref (ad 0)), (1, .int a1)] := hl
  obtain ⟨hx, hb, hml, hown, hts, hr, hlk, hK, hij⟩ := id X
  refine lv_lconst (v := 0) hx hb dX6_allOf_0 (by decide) ?_
  refine lv_lstore_n (lv' := [(2, .long 0), (0, .ref (ad 0)), (1, .int a1)]) hx hb dX6_allOf_1 rfl hl (by decide) rfl (fun ls hl => ?_)
  refine lv_iconst (v := 0) hx hb dX6_allOf_2 (by decide) ?_
  refine lv_istore (lv' := [(4, .int 0), (2, .long 0), (0, .ref (ad 0)), (1, .int a1)]) hx hb dX6_allOf_3 hl (by decide) rfl (fun ls hl => ?_)
  refine b_X6_allOf_5 X (fun w5_0 H locs ls hf hW hl => ?_) fu a1 0 0 _ _ _ hf hW (lv_sub hl [2, 3, 1, 0] rfl)
  · refine lv_lload_n hx hb dX6_allOf_31 rfl (lv_at hl 0 rfl) ?_
    exact r_lretR X hW rfl hf dX6_allOf_32

abbrev rm_X6_portionOf : Room := { frames := 1, cells := 0, slots := 0, locals := 24 }
theorem hd_X6_portionOf : yX6_portionOf.cls = RX6 ∧ yX6_portionOf.cls ≠ "java/lang/invoke/MethodHandle" ∧ yX6_portionOf.cls ≠ "java/lang/invoke/VarHandle" ∧ (parseMethodDescriptor yX6_portionOf.desc).map (fun d => d.parameters.length) = some 2 := by decide +kernel
theorem inX6_portionOf_6 : ∀ w ∈ wsX60, w ∈ wsX6_portionOf := fun _ h => List.mem_cons_of_mem _ (List.mem_append_right _ h)
section S_X6_portionOf
variable {p : Program} {l : Launch} {e : Env} {s : State} {m : MethodId} {args : Array Value} {below : List Frame} {meth : Method} {c : Code} {D : va_G} {cA : Nat → ClassId} {ad : Nat → Nat} {r : Int32}
end S_X6_portionOf
noncomputable def f_X6_portionOf (σ : St) (a1 : Int32) (a2 : Int32) : Option (Int32) := bnd (f_X6_allOf σ a1) fun r1 => (if (lg_cmp r1 0) = 0 then some 0 else chk (inb ((4 * a1) + a2) 28) <| chk (nzl r1) <| some (((100 * (σ.2 1 ((4 * a1) + a2).toNatClampNeg)) / r1).toInt32))
set_option maxHeartbeats 4000000 in
set_option maxRecDepth 100000 in
theorem c_X6_portionOf (l : Launch) (D : va_G) (cA : Nat → ClassId) (ad : Nat → Nat) (hij : Ij ad SM) (σ : St) (a1 : Int32) (a2 : Int32) (r : Int32) (hf : f_X6_portionOf σ a1 a2 = some r) : Met l yX6_portionOf wsX6_portionOf rm_X6_portionOf (PC D cA ad SM [.ref (ad 0), .int a1, .int a2] σ) (Qi D cA ad SM (r, σ)) 0 0 (Aw ad SM) := by
  rw [f_X6_portionOf] at hf
  refine k_head (own := RX6) (ws := wsX6_portionOf) (cc := cX6_portionOf) (nL := 5) (ret := (some .int)) pn_X6 rfl rfl hij (Nat.le_of_ble_eq_true rfl) (fun p e s m below meth c ls X hW hl => ?_)
  have hl : lv_has ls 5 [(0, .ref (ad 0)), (1, .int a1), (2, .int a2)] := hl
  obtain ⟨hx, hb, hml, hown, hts, hr, hlk, hK, hij⟩ := id X
  refine lv_aload_n hx hb dX6_portionOf_0 rfl (lv_at hl 0 rfl) ?_
  refine lv_iload_n hx hb dX6_portionOf_1 rfl (lv_at hl 1 rfl) ?_
  obtain ⟨r1, z1, hf⟩ := bnd_e hf
  refine r_cVlR X hW kM_0 iM_0 rfl (c_X6_allOf l D cA ad hij σ a1 r1 z1) gX6_portionOf_X6_allOf rfl ⟨rfl, rfl⟩ hd_X6_allOf ⟨Nat.le_of_ble_eq_true rfl, Nat.le_of_ble_eq_true rfl⟩ rfl (Nat.le_of_ble_eq_true rfl) hl.1 dX6_portionOf_2 (fun H locs hW => ?_)
  refine lv_lstore_n (lv' := [(3, .long r1), (0, .ref (ad 0)), (1, .int a1), (2, .int a2)]) hx hb dX6_portionOf_5 rfl hl (by decide) rfl (fun ls hl => ?_)
  refine lv_lload_n hx hb dX6_portionOf_6 rfl (lv_at hl 0 rfl) ?_
  refine lv_lconst (v := 0) hx hb dX6_portionOf_7 (by decide) ?_
  refine W.lcmp hx hb dX6_portionOf_8 ?_
  refine lv_if_ne (tgt := 16) hx hb dX6_portionOf_9 (by decide) (fun c2 => ?_) (fun c2 => ?_)
  · have hf := ie_e hf c2
    refine lv_ldc2 (v := 100) hx hb hown (hts _ (List.mem_of_getElem? (i := 1) rfl)) dX6_portionOf_16 ?_
    refine lv_aload_n hx hb dX6_portionOf_19 rfl (lv_at hl 1 rfl) ?_
    refine get_6_1 X hW kM_0 iM_0 inX6_portionOf_6 (List.mem_of_getElem? (i := 2) rfl) dX6_portionOf_20 ?_
    refine lv_iconst (v := 4) hx hb dX6_portionOf_23 (by decide) ?_
    refine lv_iload_n hx hb dX6_portionOf_24 rfl (lv_at hl 2 rfl) ?_
    refine lv_imul hx hb dX6_portionOf_25 ?_
    refine lv_iload_n hx hb dX6_portionOf_26 rfl (lv_at hl 3 rfl) ?_
    refine lv_iadd hx hb dX6_portionOf_27 ?_
    obtain ⟨x3, hf⟩ := chk_e hf
    refine r_lald X hW kM_1 iM_1 nM_1 x3 dX6_portionOf_28 ?_
    refine lv_lmul hx hb dX6_portionOf_29 ?_
    refine lv_lload_n hx hb dX6_portionOf_30 rfl (lv_at hl 0 rfl) ?_
    obtain ⟨q4, hf⟩ := chk_e hf
    refine lv_ldiv hx hb dX6_portionOf_31 (nzl_e q4) ?_
    refine lv_l2i hx hb dX6_portionOf_32 rfl ?_
    exact r_iretR X hW rfl rfl hf dX6_portionOf_33
  · have hf := it_e hf c2
    refine lv_iconst (v := 0) hx hb dX6_portionOf_12 (by decide) ?_
    refine lv_goto (tgt := 33) hx hb dX6_portionOf_13 (by decide) ?_
    exact r_iretR X hW rfl rfl hf dX6_portionOf_33

abbrev rm_X6_isOver : Room := { frames := 1, cells := 0, slots := 0, locals := 24 }
theorem hd_X6_isOver : yX6_isOver.cls = RX6 ∧ yX6_isOver.cls ≠ "java/lang/invoke/MethodHandle" ∧ yX6_isOver.cls ≠ "java/lang/invoke/VarHandle" ∧ (parseMethodDescriptor yX6_isOver.desc).map (fun d => d.parameters.length) = some 3 := by decide +kernel
theorem inX6_isOver_6 : ∀ w ∈ wsX60, w ∈ wsX6_isOver := fun _ h => List.mem_cons_of_mem _ (List.mem_append_right _ h)
section S_X6_isOver
variable {p : Program} {l : Launch} {e : Env} {s : State} {m : MethodId} {args : Array Value} {below : List Frame} {meth : Method} {c : Code} {D : va_G} {cA : Nat → ClassId} {ad : Nat → Nat} {r : Int32}
end S_X6_isOver
noncomputable def f_X6_isOver (σ : St) (a1 : Int32) (a2 : Int32) (a3 : Int32) : Option (Int32) := chk (inb ((4 * a1) + a2) 28) <| bnd (f_X6_allOf σ a1) fun r2 => (if (lg_cmp (100 * (σ.2 1 ((4 * a1) + a2).toNatClampNeg)) (a3.toInt64 * r2)) ≤ 0 then some 0 else some 1)
set_option maxHeartbeats 4000000 in
set_option maxRecDepth 100000 in
theorem c_X6_isOver (l : Launch) (D : va_G) (cA : Nat → ClassId) (ad : Nat → Nat) (hij : Ij ad SM) (σ : St) (a1 : Int32) (a2 : Int32) (a3 : Int32) (r : Int32) (hf : f_X6_isOver σ a1 a2 a3 = some r) : Met l yX6_isOver wsX6_isOver rm_X6_isOver (PC D cA ad SM [.ref (ad 0), .int a1, .int a2, .int a3] σ) (Qi D cA ad SM (r, σ)) 0 0 (Aw ad SM) := by
  rw [f_X6_isOver] at hf
  refine k_head (own := RX6) (ws := wsX6_isOver) (cc := cX6_isOver) (nL := 4) (ret := (some .boolean)) pn_X6 rfl rfl hij (Nat.le_of_ble_eq_true rfl) (fun p e s m below meth c ls X hW hl => ?_)
  have hl : lv_has ls 4 [(0, .ref (ad 0)), (1, .int a1), (2, .int a2), (3, .int a3)] := hl
  obtain ⟨hx, hb, hml, hown, hts, hr, hlk, hK, hij⟩ := id X
  refine lv_ldc2 (v := 100) hx hb hown (hts _ (List.mem_of_getElem? (i := 1) rfl)) dX6_isOver_0 ?_
  refine lv_aload_n hx hb dX6_isOver_3 rfl (lv_at hl 0 rfl) ?_
  refine get_6_1 X hW kM_0 iM_0 inX6_isOver_6 (List.mem_of_getElem? (i := 2) rfl) dX6_isOver_4 ?_
  refine lv_iconst (v := 4) hx hb dX6_isOver_7 (by decide) ?_
  refine lv_iload_n hx hb dX6_isOver_8 rfl (lv_at hl 1 rfl) ?_
  refine lv_imul hx hb dX6_isOver_9 ?_
  refine lv_iload_n hx hb dX6_isOver_10 rfl (lv_at hl 2 rfl) ?_
  refine lv_iadd hx hb dX6_isOver_11 ?_
  obtain ⟨x1, hf⟩ := chk_e hf
  refine r_lald X hW kM_1 iM_1 nM_1 x1 dX6_isOver_12 ?_
  refine lv_lmul hx hb dX6_isOver_13 ?_
  refine lv_iload_n hx hb dX6_isOver_14 rfl (lv_at hl 3 rfl) ?_
  refine lv_i2l hx hb dX6_isOver_15 rfl ?_
  refine lv_aload_n hx hb dX6_isOver_16 rfl (lv_at hl 0 rfl) ?_
  refine lv_iload_n hx hb dX6_isOver_17 rfl (lv_at hl 1 rfl) ?_
  obtain ⟨r2, z2, hf⟩ := bnd_e hf
  refine r_cVlR X hW kM_0 iM_0 rfl (c_X6_allOf l D cA ad hij σ a1 r2 z2) gX6_isOver_X6_allOf rfl ⟨rfl, rfl⟩ hd_X6_allOf ⟨Nat.le_of_ble_eq_true rfl, Nat.le_of_ble_eq_true rfl⟩ rfl (Nat.le_of_ble_eq_true rfl) hl.1 dX6_isOver_18 (fun H locs hW => ?_)
  refine lv_lmul hx hb dX6_isOver_21 ?_
  refine W.lcmp hx hb dX6_isOver_22 ?_
  refine lv_if_le (tgt := 30) hx hb dX6_isOver_23 (by decide) (fun c3 => ?_) (fun c3 => ?_)
  · have hf := it_e hf c3
    refine lv_iconst (v := 0) hx hb dX6_isOver_30 (by decide) ?_
    exact r_iretR X hW rfl rfl hf dX6_isOver_31
  · have hf := ie_e hf c3
    refine lv_iconst (v := 1) hx hb dX6_isOver_26 (by decide) ?_
    refine lv_goto (tgt := 31) hx hb dX6_isOver_27 (by decide) ?_
    exact r_iretR X hW rfl rfl hf dX6_isOver_31

abbrev rm_X6_doesHarm : Room := { frames := 2, cells := 0, slots := 0, locals := 47 }
theorem hd_X6_doesHarm : yX6_doesHarm.cls = RX6 ∧ yX6_doesHarm.cls ≠ "java/lang/invoke/MethodHandle" ∧ yX6_doesHarm.cls ≠ "java/lang/invoke/VarHandle" ∧ (parseMethodDescriptor yX6_doesHarm.desc).map (fun d => d.parameters.length) = some 3 := by decide +kernel
theorem inX6_doesHarm_6 : ∀ w ∈ wsX60, w ∈ wsX6_doesHarm := fun _ h => List.mem_cons_of_mem _ (List.mem_append_right _ h)
section S_X6_doesHarm
variable {p : Program} {l : Launch} {e : Env} {s : State} {m : MethodId} {args : Array Value} {below : List Frame} {meth : Method} {c : Code} {D : va_G} {cA : Nat → ClassId} {ad : Nat → Nat} {r : Int32}
noncomputable def f_X6_doesHarm_43 (σ : St) (k6 : Int32 → Int32 → Int32 → Int32 → Int32 → Option (Int32)) (v1 : Int32) (v2 : Int32) (v3 : Int32) (v5 : Int32) (s0 : Int32) : Option (Int32) := nw (v5 + 1 : Int32) fun v103 => k6 v1 v2 v3 s0 v103
set_option maxHeartbeats 4000000 in
set_option maxRecDepth 100000 in
theorem b_X6_doesHarm_43 {σ : St} {k6 : Int32 → Int32 → Int32 → Int32 → Int32 → Option (Int32)} (X : Cx RX6 wsX6_doesHarm cX6_doesHarm 6 (some .boolean) D cA ad SM p s m args meth c) (h6 : ∀ (w0 : Int32) (w1 : Int32) (w2 : Int32) (w3 : Int32) (w4 : Int32) (H : Heap) (locs : List Loc) (ls : Array Slot), k6 w0 w1 w2 w3 w4 = some r → Rn D cA ad SM s.heap σ H locs → lv_has ls 6 [(0, .ref (ad 0)), (1, .int w0), (2, .int w1), (3, .int w2), (4, .int w3), (5, .int w4)] → W p l e rm_X6_doesHarm s m args below meth c H locs 0 0 (MQ below (Qi D cA ad SM (r, σ)) args s 0 0 (Aw ad SM)) (F0 m 6 ls [])) : ∀ (v1 : Int32) (v2 : Int32) (v3 : Int32) (v5 : Int32) (s0 : Int32) (H : Heap) (locs : List Loc) (ls : Array Slot), f_X6_doesHarm_43 σ k6 v1 v2 v3 v5 s0 = some r → Rn D cA ad SM s.heap σ H locs → lv_has ls 6 [(0, .ref (ad 0)), (1, .int v1), (2, .int v2), (3, .int v3), (5, .int v5)] → W p l e rm_X6_doesHarm s m args below meth c H locs 0 0 (MQ below (Qi D cA ad SM (r, σ)) args s 0 0 (Aw ad SM)) (F0 m 43 ls [.int s0]) := by
  obtain ⟨hx, hb, hml, hown, hts, hr, hlk, hK, hij⟩ := id X
  intro v1 v2 v3 v5 s0 H locs ls hf hW hl
  rw [f_X6_doesHarm_43] at hf
  refine lv_istore (lv' := [(4, .int s0), (0, .ref (ad 0)), (1, .int v1), (2, .int v2), (3, .int v3), (5, .int v5)]) hx hb dX6_doesHarm_43 hl (by decide) rfl (fun ls hl => ?_)
  obtain ⟨v103, e3, hf⟩ := nw_e hf
  refine lv_iinc (v := v103) (lv' := [(5, .int v103), (4, .int s0), (0, .ref (ad 0)), (1, .int v1), (2, .int v2), (3, .int v3)]) hx hb dX6_doesHarm_45 hl (k := 5) rfl (by rw [e3]; rfl) (by decide) rfl (fun ls hl => ?_)
  refine lv_goto (tgt := 6) hx hb dX6_doesHarm_48 (by decide) ?_
  exact h6 v1 v2 v3 s0 v103 _ _ _ hf hW (lv_sub hl [2, 3, 4, 5, 1, 0] rfl)
noncomputable def f_X6_doesHarm_38 (σ : St) (k6 : Int32 → Int32 → Int32 → Int32 → Int32 → Option (Int32)) (v1 : Int32) (v2 : Int32) (v3 : Int32) (v5 : Int32) : Option (Int32) := f_X6_doesHarm_43 σ k6 v1 v2 v3 v5 1
set_option maxHeartbeats 4000000 in
set_option maxRecDepth 100000 in
theorem b_X6_doesHarm_38 {σ : St} {k6 : Int32 → Int32 → Int32 → Int32 → Int32 → Option (Int32)} (X : Cx RX6 wsX6_doesHarm cX6_doesHarm 6 (some .boolean) D cA ad SM p s m args meth c) (h6 : ∀ (w0 : Int32) (w1 : Int32) (w2 : Int32) (w3 : Int32) (w4 : Int32) (H : Heap) (locs : List Loc) (ls : Array Slot), k6 w0 w1 w2 w3 w4 = some r → Rn D cA ad SM s.heap σ H locs → lv_has ls 6 [(0, .ref (ad 0)), (1, .int w0), (2, .int w1), (3, .int w2), (4, .int w3), (5, .int w4)] → W p l e rm_X6_doesHarm s m args below meth c H locs 0 0 (MQ below (Qi D cA ad SM (r, σ)) args s 0 0 (Aw ad SM)) (F0 m 6 ls [])) : ∀ (v1 : Int32) (v2 : Int32) (v3 : Int32) (v5 : Int32) (H : Heap) (locs : List Loc) (ls : Array Slot), f_X6_doesHarm_38 σ k6 v1 v2 v3 v5 = some r → Rn D cA ad SM s.heap σ H locs → lv_has ls 6 [(0, .ref (ad 0)), (1, .int v1), (2, .int v2), (3, .int v3), (5, .int v5)] → W p l e rm_X6_doesHarm s m args below meth c H locs 0 0 (MQ below (Qi D cA ad SM (r, σ)) args s 0 0 (Aw ad SM)) (F0 m 38 ls []) := by
  obtain ⟨hx, hb, hml, hown, hts, hr, hlk, hK, hij⟩ := id X
  intro v1 v2 v3 v5 H locs ls hf hW hl
  rw [f_X6_doesHarm_38] at hf
  refine lv_iconst (v := 1) hx hb dX6_doesHarm_38 (by decide) ?_
  refine lv_goto (tgt := 43) hx hb dX6_doesHarm_39 (by decide) ?_
  exact b_X6_doesHarm_43 X h6 v1 v2 v3 v5 1 _ _ _ hf hW (lv_sub hl [0, 1, 2, 3, 4] rfl)
noncomputable def f_X6_doesHarm_42 (σ : St) (k6 : Int32 → Int32 → Int32 → Int32 → Int32 → Option (Int32)) (v1 : Int32) (v2 : Int32) (v3 : Int32) (v5 : Int32) : Option (Int32) := f_X6_doesHarm_43 σ k6 v1 v2 v3 v5 0
set_option maxHeartbeats 4000000 in
set_option maxRecDepth 100000 in
theorem b_X6_doesHarm_42 {σ : St} {k6 : Int32 → Int32 → Int32 → Int32 → Int32 → Option (Int32)} (X : Cx RX6 wsX6_doesHarm cX6_doesHarm 6 (some .boolean) D cA ad SM p s m args meth c) (h6 : ∀ (w0 : Int32) (w1 : Int32) (w2 : Int32) (w3 : Int32) (w4 : Int32) (H : Heap) (locs : List Loc) (ls : Array Slot), k6 w0 w1 w2 w3 w4 = some r → Rn D cA ad SM s.heap σ H locs → lv_has ls 6 [(0, .ref (ad 0)), (1, .int w0), (2, .int w1), (3, .int w2), (4, .int w3), (5, .int w4)] → W p l e rm_X6_doesHarm s m args below meth c H locs 0 0 (MQ below (Qi D cA ad SM (r, σ)) args s 0 0 (Aw ad SM)) (F0 m 6 ls [])) : ∀ (v1 : Int32) (v2 : Int32) (v3 : Int32) (v5 : Int32) (H : Heap) (locs : List Loc) (ls : Array Slot), f_X6_doesHarm_42 σ k6 v1 v2 v3 v5 = some r → Rn D cA ad SM s.heap σ H locs → lv_has ls 6 [(0, .ref (ad 0)), (1, .int v1), (2, .int v2), (3, .int v3), (5, .int v5)] → W p l e rm_X6_doesHarm s m args below meth c H locs 0 0 (MQ below (Qi D cA ad SM (r, σ)) args s 0 0 (Aw ad SM)) (F0 m 42 ls []) := by
  obtain ⟨hx, hb, hml, hown, hts, hr, hlk, hK, hij⟩ := id X
  intro v1 v2 v3 v5 H locs ls hf hW hl
  rw [f_X6_doesHarm_42] at hf
  refine lv_iconst (v := 0) hx hb dX6_doesHarm_42 (by decide) ?_
  exact b_X6_doesHarm_43 X h6 v1 v2 v3 v5 0 _ _ _ hf hW (lv_sub hl [0, 1, 2, 3, 4] rfl)
noncomputable def f_X6_doesHarm_6 (σ : St) (k51 : Int32 → Option (Int32)) : Nat → Int32 → Int32 → Int32 → Int32 → Int32 → Option (Int32)
  | 0, _, _, _, _, _ => none
  | n + 1, v1, v2, v3, v4, v5 => (if 4 ≤ v5 then k51 v4 else (if v4 = 0 then (if ((v2 >>> (v5 &&& 31)) &&& 1) = 1 then bnd (f_X6_isOver σ v1 v5 v3) fun r15 => (if r15 = 0 then f_X6_doesHarm_42 σ (fun (w17_0 : Int32) (w18_1 : Int32) (w19_2 : Int32) (w20_3 : Int32) (w21_4 : Int32) => f_X6_doesHarm_6 σ k51 n w17_0 w18_1 w19_2 w20_3 w21_4) v1 v2 v3 v5 else f_X6_doesHarm_38 σ (fun (w22_0 : Int32) (w23_1 : Int32) (w24_2 : Int32) (w25_3 : Int32) (w26_4 : Int32) => f_X6_doesHarm_6 σ k51 n w22_0 w23_1 w24_2 w25_3 w26_4) v1 v2 v3 v5) else f_X6_doesHarm_42 σ (fun (w10_0 : Int32) (w11_1 : Int32) (w12_2 : Int32) (w13_3 : Int32) (w14_4 : Int32) => f_X6_doesHarm_6 σ k51 n w10_0 w11_1 w12_2 w13_3 w14_4) v1 v2 v3 v5) else f_X6_doesHarm_38 σ (fun (w4_0 : Int32) (w5_1 : Int32) (w6_2 : Int32) (w7_3 : Int32) (w8_4 : Int32) => f_X6_doesHarm_6 σ k51 n w4_0 w5_1 w6_2 w7_3 w8_4) v1 v2 v3 v5))
set_option maxHeartbeats 4000000 in
set_option maxRecDepth 100000 in
theorem b_X6_doesHarm_6 {σ : St} {k51 : Int32 → Option (Int32)} (X : Cx RX6 wsX6_doesHarm cX6_doesHarm 6 (some .boolean) D cA ad SM p s m args meth c) (h51 : ∀ (w0 : Int32) (H : Heap) (locs : List Loc) (ls : Array Slot), k51 w0 = some r → Rn D cA ad SM s.heap σ H locs → lv_has ls 6 [(4, .int w0)] → W p l e rm_X6_doesHarm s m args below meth c H locs 0 0 (MQ below (Qi D cA ad SM (r, σ)) args s 0 0 (Aw ad SM)) (F0 m 51 ls [])) : ∀ (n : Nat) (v1 : Int32) (v2 : Int32) (v3 : Int32) (v4 : Int32) (v5 : Int32) (H : Heap) (locs : List Loc) (ls : Array Slot), f_X6_doesHarm_6 σ k51 n v1 v2 v3 v4 v5 = some r → Rn D cA ad SM s.heap σ H locs → lv_has ls 6 [(0, .ref (ad 0)), (1, .int v1), (2, .int v2), (3, .int v3), (4, .int v4), (5, .int v5)] → W p l e rm_X6_doesHarm s m args below meth c H locs 0 0 (MQ below (Qi D cA ad SM (r, σ)) args s 0 0 (Aw ad SM)) (F0 m 6 ls []) := by
  obtain ⟨hx, hb, hml, hown, hts, hr, hlk, hK, hij⟩ := id X
  intro n
  induction n with
  | zero =>
    intro v1 v2 v3 v4 v5 H locs ls hf
    exact nomatch (show (none : Option (Int32)) = some r from hf)
  | succ n ih =>
    intro v1 v2 v3 v4 v5 H locs ls hf hW hl
    rw [f_X6_doesHarm_6] at hf
    refine lv_iload hx hb dX6_doesHarm_6 (lv_at hl 5 rfl) ?_
    refine lv_iconst (v := 4) hx hb dX6_doesHarm_8 (by decide) ?_
    refine lv_icmp_ge (tgt := 51) hx hb dX6_doesHarm_9 (by decide) (fun c1 => ?_) (fun c1 => ?_)
    · have hf := it_e hf c1
      exact h51 v4 _ _ _ hf hW (lv_sub hl [4] rfl)
    · have hf := ie_e hf c1
      refine lv_iload hx hb dX6_doesHarm_12 (lv_at hl 4 rfl) ?_
      refine lv_if_ne (tgt := 38) hx hb dX6_doesHarm_14 (by decide) (fun c2 => ?_) (fun c2 => ?_)
      · have hf := ie_e hf c2
        refine b_X6_doesHarm_38 X (fun w4_0 w5_1 w6_2 w7_3 w8_4 H locs ls hf hW hl => ?_) v1 v2 v3 v5 _ _ _ hf hW (lv_sub hl [0, 1, 2, 3, 5] rfl)
        · exact ih w4_0 w5_1 w6_2 w7_3 w8_4 _ _ _ hf hW (lv_sub hl [0, 1, 2, 3, 4, 5] rfl)
      · have hf := it_e hf c2
        refine lv_iload_n hx hb dX6_doesHarm_17 rfl (lv_at hl 2 rfl) ?_
        refine lv_iload hx hb dX6_doesHarm_18 (lv_at hl 5 rfl) ?_
        refine lv_ishr hx hb dX6_doesHarm_20 ?_
        refine lv_iconst (v := 1) hx hb dX6_doesHarm_21 (by decide) ?_
        refine lv_iand hx hb dX6_doesHarm_22 ?_
        refine lv_iconst (v := 1) hx hb dX6_doesHarm_23 (by decide) ?_
        refine lv_icmp_ne (tgt := 42) hx hb dX6_doesHarm_24 (by decide) (fun c9 => ?_) (fun c9 => ?_)
        · have hf := ie_e hf c9
          refine b_X6_doesHarm_42 X (fun w10_0 w11_1 w12_2 w13_3 w14_4 H locs ls hf hW hl => ?_) v1 v2 v3 v5 _ _ _ hf hW (lv_sub hl [0, 1, 2, 3, 5] rfl)
          · exact ih w10_0 w11_1 w12_2 w13_3 w14_4 _ _ _ hf hW (lv_sub hl [0, 1, 2, 3, 4, 5] rfl)
        · have hf := it_e hf c9
          refine lv_aload_n hx hb dX6_doesHarm_27 rfl (lv_at hl 0 rfl) ?_
          refine lv_iload_n hx hb dX6_doesHarm_28 rfl (lv_at hl 1 rfl) ?_
          refine lv_iload hx hb dX6_doesHarm_29 (lv_at hl 5 rfl) ?_
          refine lv_iload_n hx hb dX6_doesHarm_31 rfl (lv_at hl 3 rfl) ?_
          obtain ⟨r15, z15, hf⟩ := bnd_e hf
          refine r_cViR X hW kM_0 iM_0 rfl (c_X6_isOver l D cA ad hij σ v1 v5 v3 r15 z15) gX6_doesHarm_X6_isOver rfl ⟨rfl, rfl⟩ hd_X6_isOver ⟨Nat.le_of_ble_eq_true rfl, Nat.le_of_ble_eq_true rfl⟩ rfl (Nat.le_of_ble_eq_true rfl) hl.1 dX6_doesHarm_32 (fun H locs hW => ?_)
          refine lv_if_eq (tgt := 42) hx hb dX6_doesHarm_35 (by decide) (fun c16 => ?_) (fun c16 => ?_)
          · have hf := it_e hf c16
            refine b_X6_doesHarm_42 X (fun w17_0 w18_1 w19_2 w20_3 w21_4 H locs ls hf hW hl => ?_) v1 v2 v3 v5 _ _ _ hf hW (lv_sub hl [0, 1, 2, 3, 5] rfl)
            · exact ih w17_0 w18_1 w19_2 w20_3 w21_4 _ _ _ hf hW (lv_sub hl [0, 1, 2, 3, 4, 5] rfl)
          · have hf := ie_e hf c16
            refine b_X6_doesHarm_38 X (fun w22_0 w23_1 w24_2 w25_3 w26_4 H locs ls hf hW hl => ?_) v1 v2 v3 v5 _ _ _ hf hW (lv_sub hl [0, 1, 2, 3, 5] rfl)
            · exact ih w22_0 w23_1 w24_2 w25_3 w26_4 _ _ _ hf hW (lv_sub hl [0, 1, 2, 3, 4, 5] rfl)
end S_X6_doesHarm
noncomputable def f_X6_doesHarm (σ : St) (a1 : Int32) (a2 : Int32) (a3 : Int32) : Option (Int32) := f_X6_doesHarm_6 σ (fun (w27_0 : Int32) => chk (b01 w27_0) <| some w27_0) fu a1 a2 a3 0 0
set_option maxHeartbeats 4000000 in
set_option maxRecDepth 100000 in
theorem c_X6_doesHarm (l : Launch) (D : va_G) (cA : Nat → ClassId) (ad : Nat → Nat) (hij : Ij ad SM) (σ : St) (a1 : Int32) (a2 : Int32) (a3 : Int32) (r : Int32) (hf : f_X6_doesHarm σ a1 a2 a3 = some r) : Met l yX6_doesHarm wsX6_doesHarm rm_X6_doesHarm (PC D cA ad SM [.ref (ad 0), .int a1, .int a2, .int a3] σ) (Qi D cA ad SM (r, σ)) 0 0 (Aw ad SM) := by
  rw [f_X6_doesHarm] at hf
  refine k_head (own := RX6) (ws := wsX6_doesHarm) (cc := cX6_doesHarm) (nL := 6) (ret := (some .boolean)) pn_X6 rfl rfl hij (Nat.le_of_ble_eq_true rfl) (fun p e s m below meth c ls X hW hl => ?_)
  have hl : lv_has ls 6 [(0, .ref (ad 0)), (1, .int a1), (2, .int a2), (3, .int a3)] := hl
  obtain ⟨hx, hb, hml, hown, hts, hr, hlk, hK, hij⟩ := id X
  refine lv_iconst (v := 0) hx hb dX6_doesHarm_0 (by decide) ?_
  refine lv_istore (lv' := [(4, .int 0), (0, .ref (ad 0)), (1, .int a1), (2, .int a2), (3, .int a3)]) hx hb dX6_doesHarm_1 hl (by decide) rfl (fun ls hl => ?_)
  refine lv_iconst (v := 0) hx hb dX6_doesHarm_3 (by decide) ?_
  refine lv_istore (lv' := [(5, .int 0), (4, .int 0), (0, .ref (ad 0)), (1, .int a1), (2, .int a2), (3, .int a3)]) hx hb dX6_doesHarm_4 hl (by decide) rfl (fun ls hl => ?_)
  refine b_X6_doesHarm_6 X (fun w27_0 H locs ls hf hW hl => ?_) fu a1 a2 a3 0 0 _ _ _ hf hW (lv_sub hl [2, 3, 4, 5, 1, 0] rfl)
  · refine lv_iload hx hb dX6_doesHarm_51 (lv_at hl 0 rfl) ?_
    obtain ⟨q28, hf⟩ := chk_e hf
    exact r_iretR X hW rfl (b01_e q28).1 hf dX6_doesHarm_53

abbrev rm_X6_copyLongs : Room := { frames := 0, cells := 0, slots := 0, locals := 0 }
theorem hd_X6_copyLongs : yX6_copyLongs.cls = RX6 ∧ yX6_copyLongs.cls ≠ "java/lang/invoke/MethodHandle" ∧ yX6_copyLongs.cls ≠ "java/lang/invoke/VarHandle" ∧ (parseMethodDescriptor yX6_copyLongs.desc).map (fun d => d.parameters.length) = some 2 := by decide +kernel
section S_X6_copyLongs
variable {p : Program} {l : Launch} {e : Env} {s : State} {m : MethodId} {args : Array Value} {below : List Frame} {meth : Method} {c : Code} {D : va_G} {cA : Nat → ClassId} {ad : Nat → Nat} {r : St}
noncomputable def f_X6_copyLongs_2 (k20 : St → Option (St)) : Nat → Nat → Nat → Int32 → St → Option (St)
  | 0, _, _, _, _ => none
  | n + 1, v0, v1, v2, σ => (if 28 ≤ v2 then k20 σ else chk (kOK SM v0 21) <| chk (inb v2 (SM.2.2 v0)) <| chk (kOK SM v1 21) <| chk (inb v2 (SM.2.2 v1)) <| nw (uL σ v1 v2.toNatClampNeg (σ.2 v0 v2.toNatClampNeg)) fun σ6 => nw (v2 + 1 : Int32) fun v107 => f_X6_copyLongs_2 k20 n v0 v1 v107 σ6)
set_option maxHeartbeats 4000000 in
set_option maxRecDepth 100000 in
theorem b_X6_copyLongs_2 {k20 : St → Option (St)} (X : Cx RX6 wsX6_copyLongs cX6_copyLongs 3 none D cA ad SM p s m args meth c) (h20 : ∀  (σ : St) (H : Heap) (locs : List Loc) (ls : Array Slot), k20 σ = some r → Rn D cA ad SM s.heap σ H locs → lv_has ls 3 [] → W p l e rm_X6_copyLongs s m args below meth c H locs 0 0 (MQ below (Qv D cA ad SM r) args s 0 0 (Aw ad SM)) (F0 m 20 ls [])) : ∀ (n : Nat) (v0 : Nat) (v1 : Nat) (v2 : Int32) (σ : St) (H : Heap) (locs : List Loc) (ls : Array Slot), f_X6_copyLongs_2 k20 n v0 v1 v2 σ = some r → Rn D cA ad SM s.heap σ H locs → lv_has ls 3 [(0, .ref (ad v0)), (1, .ref (ad v1)), (2, .int v2)] → W p l e rm_X6_copyLongs s m args below meth c H locs 0 0 (MQ below (Qv D cA ad SM r) args s 0 0 (Aw ad SM)) (F0 m 2 ls []) := by
  obtain ⟨hx, hb, hml, hown, hts, hr, hlk, hK, hij⟩ := id X
  intro n
  induction n with
  | zero =>
    intro v0 v1 v2 σ H locs ls hf
    exact nomatch (show (none : Option (St)) = some r from hf)
  | succ n ih =>
    intro v0 v1 v2 σ H locs ls hf hW hl
    rw [f_X6_copyLongs_2] at hf
    refine lv_iload_n hx hb dX6_copyLongs_2 rfl (lv_at hl 2 rfl) ?_
    refine lv_bipush (v := 28) hx hb dX6_copyLongs_3 (by decide) ?_
    refine lv_icmp_ge (tgt := 20) hx hb dX6_copyLongs_5 (by decide) (fun c1 => ?_) (fun c1 => ?_)
    · have hf := it_e hf c1
      exact h20 σ _ _ _ hf hW (lv_sub hl [] rfl)
    · have hf := ie_e hf c1
      refine lv_aload_n hx hb dX6_copyLongs_8 rfl (lv_at hl 1 rfl) ?_
      refine lv_iload_n hx hb dX6_copyLongs_9 rfl (lv_at hl 2 rfl) ?_
      refine lv_aload_n hx hb dX6_copyLongs_10 rfl (lv_at hl 0 rfl) ?_
      refine lv_iload_n hx hb dX6_copyLongs_11 rfl (lv_at hl 2 rfl) ?_
      obtain ⟨q2, hf⟩ := chk_e hf
      obtain ⟨i2, k2⟩ := kOK_e q2
      obtain ⟨x3, hf⟩ := chk_e hf
      refine r_lald X hW k2 i2 rfl x3 dX6_copyLongs_12 ?_
      obtain ⟨q4, hf⟩ := chk_e hf
      obtain ⟨i4, k4⟩ := kOK_e q4
      obtain ⟨x5, hf⟩ := chk_e hf
      obtain ⟨σ6, e6, hf⟩ := nw_e hf
      refine r_last X hW k4 i4 rfl x5 e6 dX6_copyLongs_13 (fun H locs hW => ?_)
      obtain ⟨v107, e7, hf⟩ := nw_e hf
      refine lv_iinc (v := v107) (lv' := [(2, .int v107), (0, .ref (ad v0)), (1, .ref (ad v1))]) hx hb dX6_copyLongs_14 hl (k := 2) rfl (by rw [e7]; rfl) (by decide) rfl (fun ls hl => ?_)
      refine lv_goto (tgt := 2) hx hb dX6_copyLongs_17 (by decide) ?_
      exact ih v0 v1 v107 σ6 _ _ _ hf hW (lv_sub hl [1, 2, 0] rfl)
end S_X6_copyLongs
noncomputable def f_X6_copyLongs (σ : St) (a0 : Nat) (a1 : Nat) : Option (St) := f_X6_copyLongs_2 (fun  (σ8 : St) => some σ8) fu a0 a1 0 σ
set_option maxHeartbeats 4000000 in
set_option maxRecDepth 100000 in
theorem c_X6_copyLongs (l : Launch) (D : va_G) (cA : Nat → ClassId) (ad : Nat → Nat) (hij : Ij ad SM) (σ : St) (a0 : Nat) (a1 : Nat) (r : St) (hf : f_X6_copyLongs σ a0 a1 = some r) : Met l yX6_copyLongs wsX6_copyLongs rm_X6_copyLongs (PC D cA ad SM [.ref (ad a0), .ref (ad a1)] σ) (Qv D cA ad SM r) 0 0 (Aw ad SM) := by
  rw [f_X6_copyLongs] at hf
  refine k_head (own := RX6) (ws := wsX6_copyLongs) (cc := cX6_copyLongs) (nL := 3) (ret := none) pn_X6 rfl rfl hij (Nat.le_of_ble_eq_true rfl) (fun p e s m below meth c ls X hW hl => ?_)
  have hl : lv_has ls 3 [(0, .ref (ad a0)), (1, .ref (ad a1))] := hl
  obtain ⟨hx, hb, hml, hown, hts, hr, hlk, hK, hij⟩ := id X
  refine lv_iconst (v := 0) hx hb dX6_copyLongs_0 (by decide) ?_
  refine lv_istore_n (lv' := [(2, .int 0), (0, .ref (ad a0)), (1, .ref (ad a1))]) hx hb dX6_copyLongs_1 rfl hl (by decide) rfl (fun ls hl => ?_)
  refine b_X6_copyLongs_2 X (fun σ8 H locs ls hf hW hl => ?_) fu a0 a1 0 σ _ _ _ hf hW (lv_sub hl [1, 2, 0] rfl)
  · exact r_vret X hW rfl hf dX6_copyLongs_20

abbrev rm_X6_copyInts : Room := { frames := 0, cells := 0, slots := 0, locals := 0 }
theorem hd_X6_copyInts : yX6_copyInts.cls = RX6 ∧ yX6_copyInts.cls ≠ "java/lang/invoke/MethodHandle" ∧ yX6_copyInts.cls ≠ "java/lang/invoke/VarHandle" ∧ (parseMethodDescriptor yX6_copyInts.desc).map (fun d => d.parameters.length) = some 3 := by decide +kernel
section S_X6_copyInts
variable {p : Program} {l : Launch} {e : Env} {s : State} {m : MethodId} {args : Array Value} {below : List Frame} {meth : Method} {c : Code} {D : va_G} {cA : Nat → ClassId} {ad : Nat → Nat} {r : St}
noncomputable def f_X6_copyInts_2 (k19 : St → Option (St)) : Nat → Nat → Nat → Int32 → Int32 → St → Option (St)
  | 0, _, _, _, _, _ => none
  | n + 1, v0, v1, v2, v3, σ => (if v2 ≤ v3 then k19 σ else chk (kOK SM v0 20) <| chk (inb v3 (SM.2.2 v0)) <| chk (kOK SM v1 20) <| chk (inb v3 (SM.2.2 v1)) <| nw (uI σ v1 v3.toNatClampNeg (σ.1 v0 v3.toNatClampNeg)) fun σ6 => nw (v3 + 1 : Int32) fun v107 => f_X6_copyInts_2 k19 n v0 v1 v2 v107 σ6)
set_option maxHeartbeats 4000000 in
set_option maxRecDepth 100000 in
theorem b_X6_copyInts_2 {k19 : St → Option (St)} (X : Cx RX6 wsX6_copyInts cX6_copyInts 4 none D cA ad SM p s m args meth c) (h19 : ∀  (σ : St) (H : Heap) (locs : List Loc) (ls : Array Slot), k19 σ = some r → Rn D cA ad SM s.heap σ H locs → lv_has ls 4 [] → W p l e rm_X6_copyInts s m args below meth c H locs 0 0 (MQ below (Qv D cA ad SM r) args s 0 0 (Aw ad SM)) (F0 m 19 ls [])) : ∀ (n : Nat) (v0 : Nat) (v1 : Nat) (v2 : Int32) (v3 : Int32) (σ : St) (H : Heap) (locs : List Loc) (ls : Array Slot), f_X6_copyInts_2 k19 n v0 v1 v2 v3 σ = some r → Rn D cA ad SM s.heap σ H locs → lv_has ls 4 [(0, .ref (ad v0)), (1, .ref (ad v1)), (2, .int v2), (3, .int v3)] → W p l e rm_X6_copyInts s m args below meth c H locs 0 0 (MQ below (Qv D cA ad SM r) args s 0 0 (Aw ad SM)) (F0 m 2 ls []) := by
  obtain ⟨hx, hb, hml, hown, hts, hr, hlk, hK, hij⟩ := id X
  intro n
  induction n with
  | zero =>
    intro v0 v1 v2 v3 σ H locs ls hf
    exact nomatch (show (none : Option (St)) = some r from hf)
  | succ n ih =>
    intro v0 v1 v2 v3 σ H locs ls hf hW hl
    rw [f_X6_copyInts_2] at hf
    refine lv_iload_n hx hb dX6_copyInts_2 rfl (lv_at hl 3 rfl) ?_
    refine lv_iload_n hx hb dX6_copyInts_3 rfl (lv_at hl 2 rfl) ?_
    refine lv_icmp_ge (tgt := 19) hx hb dX6_copyInts_4 (by decide) (fun c1 => ?_) (fun c1 => ?_)
    · have hf := it_e hf c1
      exact h19 σ _ _ _ hf hW (lv_sub hl [] rfl)
    · have hf := ie_e hf c1
      refine lv_aload_n hx hb dX6_copyInts_7 rfl (lv_at hl 1 rfl) ?_
      refine lv_iload_n hx hb dX6_copyInts_8 rfl (lv_at hl 3 rfl) ?_
      refine lv_aload_n hx hb dX6_copyInts_9 rfl (lv_at hl 0 rfl) ?_
      refine lv_iload_n hx hb dX6_copyInts_10 rfl (lv_at hl 3 rfl) ?_
      obtain ⟨q2, hf⟩ := chk_e hf
      obtain ⟨i2, k2⟩ := kOK_e q2
      obtain ⟨x3, hf⟩ := chk_e hf
      refine r_iald X hW k2 i2 rfl x3 dX6_copyInts_11 ?_
      obtain ⟨q4, hf⟩ := chk_e hf
      obtain ⟨i4, k4⟩ := kOK_e q4
      obtain ⟨x5, hf⟩ := chk_e hf
      obtain ⟨σ6, e6, hf⟩ := nw_e hf
      refine r_iast X hW k4 i4 rfl x5 e6 dX6_copyInts_12 (fun H locs hW => ?_)
      obtain ⟨v107, e7, hf⟩ := nw_e hf
      refine lv_iinc (v := v107) (lv' := [(3, .int v107), (0, .ref (ad v0)), (1, .ref (ad v1)), (2, .int v2)]) hx hb dX6_copyInts_13 hl (k := 3) rfl (by rw [e7]; rfl) (by decide) rfl (fun ls hl => ?_)
      refine lv_goto (tgt := 2) hx hb dX6_copyInts_16 (by decide) ?_
      exact ih v0 v1 v2 v107 σ6 _ _ _ hf hW (lv_sub hl [1, 2, 3, 0] rfl)
end S_X6_copyInts
noncomputable def f_X6_copyInts (σ : St) (a0 : Nat) (a1 : Nat) (a2 : Int32) : Option (St) := f_X6_copyInts_2 (fun  (σ8 : St) => some σ8) fu a0 a1 a2 0 σ
set_option maxHeartbeats 4000000 in
set_option maxRecDepth 100000 in
theorem c_X6_copyInts (l : Launch) (D : va_G) (cA : Nat → ClassId) (ad : Nat → Nat) (hij : Ij ad SM) (σ : St) (a0 : Nat) (a1 : Nat) (a2 : Int32) (r : St) (hf : f_X6_copyInts σ a0 a1 a2 = some r) : Met l yX6_copyInts wsX6_copyInts rm_X6_copyInts (PC D cA ad SM [.ref (ad a0), .ref (ad a1), .int a2] σ) (Qv D cA ad SM r) 0 0 (Aw ad SM) := by
  rw [f_X6_copyInts] at hf
  refine k_head (own := RX6) (ws := wsX6_copyInts) (cc := cX6_copyInts) (nL := 4) (ret := none) pn_X6 rfl rfl hij (Nat.le_of_ble_eq_true rfl) (fun p e s m below meth c ls X hW hl => ?_)
  have hl : lv_has ls 4 [(0, .ref (ad a0)), (1, .ref (ad a1)), (2, .int a2)] := hl
  obtain ⟨hx, hb, hml, hown, hts, hr, hlk, hK, hij⟩ := id X
  refine lv_iconst (v := 0) hx hb dX6_copyInts_0 (by decide) ?_
  refine lv_istore_n (lv' := [(3, .int 0), (0, .ref (ad a0)), (1, .ref (ad a1)), (2, .int a2)]) hx hb dX6_copyInts_1 rfl hl (by decide) rfl (fun ls hl => ?_)
  refine b_X6_copyInts_2 X (fun σ8 H locs ls hf hW hl => ?_) fu a0 a1 a2 0 σ _ _ _ hf hW (lv_sub hl [1, 2, 3, 0] rfl)
  · exact r_vret X hW rfl hf dX6_copyInts_19

abbrev rm_X6_open : Room := { frames := 1, cells := 0, slots := 0, locals := 23 }
theorem hd_X6_open : yX6_open.cls = RX6 ∧ yX6_open.cls ≠ "java/lang/invoke/MethodHandle" ∧ yX6_open.cls ≠ "java/lang/invoke/VarHandle" ∧ (parseMethodDescriptor yX6_open.desc).map (fun d => d.parameters.length) = some 0 := by decide +kernel
theorem inX6_open_6 : ∀ w ∈ wsX60, w ∈ wsX6_open := fun _ h => List.mem_cons_of_mem _ (List.mem_append_right _ h)
section S_X6_open
variable {p : Program} {l : Launch} {e : Env} {s : State} {m : MethodId} {args : Array Value} {below : List Frame} {meth : Method} {c : Code} {D : va_G} {cA : Nat → ClassId} {ad : Nat → Nat} {r : St}
end S_X6_open
noncomputable def f_X6_open (σ : St) : Option (St) := nw (uI σ 0 12 (σ.1 0 0)) fun σ1 => bnd (f_X6_copyLongs σ1 1 9) fun r2 => bnd (f_X6_copyInts r2 2 10 7) fun r3 => bnd (f_X6_copyInts r3 3 11 84) fun r4 => bnd (f_X6_copyInts r4 4 12 84) fun r5 => some r5
set_option maxHeartbeats 4000000 in
set_option maxRecDepth 100000 in
theorem c_X6_open (l : Launch) (D : va_G) (cA : Nat → ClassId) (ad : Nat → Nat) (hij : Ij ad SM) (σ : St) (r : St) (hf : f_X6_open σ = some r) : Met l yX6_open wsX6_open rm_X6_open (PC D cA ad SM [.ref (ad 0)] σ) (Qv D cA ad SM r) 0 0 (Aw ad SM) := by
  rw [f_X6_open] at hf
  refine k_head (own := RX6) (ws := wsX6_open) (cc := cX6_open) (nL := 1) (ret := none) pn_X6 rfl rfl hij (Nat.le_of_ble_eq_true rfl) (fun p e s m below meth c ls X hW hl => ?_)
  have hl : lv_has ls 1 [(0, .ref (ad 0))] := hl
  obtain ⟨hx, hb, hml, hown, hts, hr, hlk, hK, hij⟩ := id X
  refine lv_aload_n hx hb dX6_open_0 rfl (lv_at hl 0 rfl) ?_
  refine lv_aload_n hx hb dX6_open_1 rfl (lv_at hl 0 rfl) ?_
  refine get_6_0 X hW kM_0 iM_0 inX6_open_6 (List.mem_of_getElem? (i := 1) rfl) dX6_open_2 ?_
  obtain ⟨σ1, e1, hf⟩ := nw_e hf
  refine put_6_12 X hW kM_0 iM_0 inX6_open_6 (List.mem_of_getElem? (i := 2) rfl) e1 dX6_open_5 (fun H locs hW => ?_)
  refine lv_aload_n hx hb dX6_open_8 rfl (lv_at hl 0 rfl) ?_
  refine get_6_1 X hW kM_0 iM_0 inX6_open_6 (List.mem_of_getElem? (i := 3) rfl) dX6_open_9 ?_
  refine lv_aload_n hx hb dX6_open_12 rfl (lv_at hl 0 rfl) ?_
  refine get_6_13 X hW kM_0 iM_0 inX6_open_6 (List.mem_of_getElem? (i := 4) rfl) dX6_open_13 ?_
  obtain ⟨r2, z2, hf⟩ := bnd_e hf
  refine r_cSv X hW (c_X6_copyLongs l D cA ad hij σ1 1 9 r2 z2) gX6_open_X6_copyLongs rfl ⟨rfl, rfl⟩ hd_X6_copyLongs ⟨Nat.le_of_ble_eq_true rfl, Nat.le_of_ble_eq_true rfl⟩ rfl (Nat.le_of_ble_eq_true rfl) hl.1 dX6_open_16 (fun H locs hW => ?_)
  refine lv_aload_n hx hb dX6_open_19 rfl (lv_at hl 0 rfl) ?_
  refine get_6_2 X hW kM_0 iM_0 inX6_open_6 (List.mem_of_getElem? (i := 5) rfl) dX6_open_20 ?_
  refine lv_aload_n hx hb dX6_open_23 rfl (lv_at hl 0 rfl) ?_
  refine get_6_14 X hW kM_0 iM_0 inX6_open_6 (List.mem_of_getElem? (i := 6) rfl) dX6_open_24 ?_
  refine lv_bipush (v := 7) hx hb dX6_open_27 (by decide) ?_
  obtain ⟨r3, z3, hf⟩ := bnd_e hf
  refine r_cSv X hW (c_X6_copyInts l D cA ad hij r2 2 10 7 r3 z3) gX6_open_X6_copyInts rfl ⟨rfl, rfl⟩ hd_X6_copyInts ⟨Nat.le_of_ble_eq_true rfl, Nat.le_of_ble_eq_true rfl⟩ rfl (Nat.le_of_ble_eq_true rfl) hl.1 dX6_open_29 (fun H locs hW => ?_)
  refine lv_aload_n hx hb dX6_open_32 rfl (lv_at hl 0 rfl) ?_
  refine get_6_3 X hW kM_0 iM_0 inX6_open_6 (List.mem_of_getElem? (i := 7) rfl) dX6_open_33 ?_
  refine lv_aload_n hx hb dX6_open_36 rfl (lv_at hl 0 rfl) ?_
  refine get_6_15 X hW kM_0 iM_0 inX6_open_6 (List.mem_of_getElem? (i := 8) rfl) dX6_open_37 ?_
  refine lv_bipush (v := 84) hx hb dX6_open_40 (by decide) ?_
  obtain ⟨r4, z4, hf⟩ := bnd_e hf
  refine r_cSv X hW (c_X6_copyInts l D cA ad hij r3 3 11 84 r4 z4) gX6_open_X6_copyInts rfl ⟨rfl, rfl⟩ hd_X6_copyInts ⟨Nat.le_of_ble_eq_true rfl, Nat.le_of_ble_eq_true rfl⟩ rfl (Nat.le_of_ble_eq_true rfl) hl.1 dX6_open_42 (fun H locs hW => ?_)
  refine lv_aload_n hx hb dX6_open_45 rfl (lv_at hl 0 rfl) ?_
  refine get_6_4 X hW kM_0 iM_0 inX6_open_6 (List.mem_of_getElem? (i := 9) rfl) dX6_open_46 ?_
  refine lv_aload_n hx hb dX6_open_49 rfl (lv_at hl 0 rfl) ?_
  refine get_6_16 X hW kM_0 iM_0 inX6_open_6 (List.mem_of_getElem? (i := 10) rfl) dX6_open_50 ?_
  refine lv_bipush (v := 84) hx hb dX6_open_53 (by decide) ?_
  obtain ⟨r5, z5, hf⟩ := bnd_e hf
  refine r_cSv X hW (c_X6_copyInts l D cA ad hij r4 4 12 84 r5 z5) gX6_open_X6_copyInts rfl ⟨rfl, rfl⟩ hd_X6_copyInts ⟨Nat.le_of_ble_eq_true rfl, Nat.le_of_ble_eq_true rfl⟩ rfl (Nat.le_of_ble_eq_true rfl) hl.1 dX6_open_55 (fun H locs hW => ?_)
  exact r_vret X hW rfl hf dX6_open_58

abbrev rm_X6_close : Room := { frames := 1, cells := 0, slots := 0, locals := 23 }
theorem hd_X6_close : yX6_close.cls = RX6 ∧ yX6_close.cls ≠ "java/lang/invoke/MethodHandle" ∧ yX6_close.cls ≠ "java/lang/invoke/VarHandle" ∧ (parseMethodDescriptor yX6_close.desc).map (fun d => d.parameters.length) = some 0 := by decide +kernel
theorem inX6_close_6 : ∀ w ∈ wsX60, w ∈ wsX6_close := fun _ h => List.mem_cons_of_mem _ (List.mem_append_right _ h)
section S_X6_close
variable {p : Program} {l : Launch} {e : Env} {s : State} {m : MethodId} {args : Array Value} {below : List Frame} {meth : Method} {c : Code} {D : va_G} {cA : Nat → ClassId} {ad : Nat → Nat} {r : St}
end S_X6_close
noncomputable def f_X6_close (σ : St) : Option (St) := nw (uI σ 0 0 (σ.1 0 12)) fun σ1 => bnd (f_X6_copyLongs σ1 9 1) fun r2 => bnd (f_X6_copyInts r2 10 2 7) fun r3 => bnd (f_X6_copyInts r3 11 3 84) fun r4 => bnd (f_X6_copyInts r4 12 4 84) fun r5 => some r5
set_option maxHeartbeats 4000000 in
set_option maxRecDepth 100000 in
theorem c_X6_close (l : Launch) (D : va_G) (cA : Nat → ClassId) (ad : Nat → Nat) (hij : Ij ad SM) (σ : St) (r : St) (hf : f_X6_close σ = some r) : Met l yX6_close wsX6_close rm_X6_close (PC D cA ad SM [.ref (ad 0)] σ) (Qv D cA ad SM r) 0 0 (Aw ad SM) := by
  rw [f_X6_close] at hf
  refine k_head (own := RX6) (ws := wsX6_close) (cc := cX6_close) (nL := 1) (ret := none) pn_X6 rfl rfl hij (Nat.le_of_ble_eq_true rfl) (fun p e s m below meth c ls X hW hl => ?_)
  have hl : lv_has ls 1 [(0, .ref (ad 0))] := hl
  obtain ⟨hx, hb, hml, hown, hts, hr, hlk, hK, hij⟩ := id X
  refine lv_aload_n hx hb dX6_close_0 rfl (lv_at hl 0 rfl) ?_
  refine lv_aload_n hx hb dX6_close_1 rfl (lv_at hl 0 rfl) ?_
  refine get_6_12 X hW kM_0 iM_0 inX6_close_6 (List.mem_of_getElem? (i := 1) rfl) dX6_close_2 ?_
  obtain ⟨σ1, e1, hf⟩ := nw_e hf
  refine put_6_0 X hW kM_0 iM_0 inX6_close_6 (List.mem_of_getElem? (i := 2) rfl) e1 dX6_close_5 (fun H locs hW => ?_)
  refine lv_aload_n hx hb dX6_close_8 rfl (lv_at hl 0 rfl) ?_
  refine get_6_13 X hW kM_0 iM_0 inX6_close_6 (List.mem_of_getElem? (i := 3) rfl) dX6_close_9 ?_
  refine lv_aload_n hx hb dX6_close_12 rfl (lv_at hl 0 rfl) ?_
  refine get_6_1 X hW kM_0 iM_0 inX6_close_6 (List.mem_of_getElem? (i := 4) rfl) dX6_close_13 ?_
  obtain ⟨r2, z2, hf⟩ := bnd_e hf
  refine r_cSv X hW (c_X6_copyLongs l D cA ad hij σ1 9 1 r2 z2) gX6_close_X6_copyLongs rfl ⟨rfl, rfl⟩ hd_X6_copyLongs ⟨Nat.le_of_ble_eq_true rfl, Nat.le_of_ble_eq_true rfl⟩ rfl (Nat.le_of_ble_eq_true rfl) hl.1 dX6_close_16 (fun H locs hW => ?_)
  refine lv_aload_n hx hb dX6_close_19 rfl (lv_at hl 0 rfl) ?_
  refine get_6_14 X hW kM_0 iM_0 inX6_close_6 (List.mem_of_getElem? (i := 5) rfl) dX6_close_20 ?_
  refine lv_aload_n hx hb dX6_close_23 rfl (lv_at hl 0 rfl) ?_
  refine get_6_2 X hW kM_0 iM_0 inX6_close_6 (List.mem_of_getElem? (i := 6) rfl) dX6_close_24 ?_
  refine lv_bipush (v := 7) hx hb dX6_close_27 (by decide) ?_
  obtain ⟨r3, z3, hf⟩ := bnd_e hf
  refine r_cSv X hW (c_X6_copyInts l D cA ad hij r2 10 2 7 r3 z3) gX6_close_X6_copyInts rfl ⟨rfl, rfl⟩ hd_X6_copyInts ⟨Nat.le_of_ble_eq_true rfl, Nat.le_of_ble_eq_true rfl⟩ rfl (Nat.le_of_ble_eq_true rfl) hl.1 dX6_close_29 (fun H locs hW => ?_)
  refine lv_aload_n hx hb dX6_close_32 rfl (lv_at hl 0 rfl) ?_
  refine get_6_15 X hW kM_0 iM_0 inX6_close_6 (List.mem_of_getElem? (i := 7) rfl) dX6_close_33 ?_
  refine lv_aload_n hx hb dX6_close_36 rfl (lv_at hl 0 rfl) ?_
  refine get_6_3 X hW kM_0 iM_0 inX6_close_6 (List.mem_of_getElem? (i := 8) rfl) dX6_close_37 ?_
  refine lv_bipush (v := 84) hx hb dX6_close_40 (by decide) ?_
  obtain ⟨r4, z4, hf⟩ := bnd_e hf
  refine r_cSv X hW (c_X6_copyInts l D cA ad hij r3 11 3 84 r4 z4) gX6_close_X6_copyInts rfl ⟨rfl, rfl⟩ hd_X6_copyInts ⟨Nat.le_of_ble_eq_true rfl, Nat.le_of_ble_eq_true rfl⟩ rfl (Nat.le_of_ble_eq_true rfl) hl.1 dX6_close_42 (fun H locs hW => ?_)
  refine lv_aload_n hx hb dX6_close_45 rfl (lv_at hl 0 rfl) ?_
  refine get_6_16 X hW kM_0 iM_0 inX6_close_6 (List.mem_of_getElem? (i := 9) rfl) dX6_close_46 ?_
  refine lv_aload_n hx hb dX6_close_49 rfl (lv_at hl 0 rfl) ?_
  refine get_6_4 X hW kM_0 iM_0 inX6_close_6 (List.mem_of_getElem? (i := 10) rfl) dX6_close_50 ?_
  refine lv_bipush (v := 84) hx hb dX6_close_53 (by decide) ?_
  obtain ⟨r5, z5, hf⟩ := bnd_e hf
  refine r_cSv X hW (c_X6_copyInts l D cA ad hij r4 12 4 84 r5 z5) gX6_close_X6_copyInts rfl ⟨rfl, rfl⟩ hd_X6_copyInts ⟨Nat.le_of_ble_eq_true rfl, Nat.le_of_ble_eq_true rfl⟩ rfl (Nat.le_of_ble_eq_true rfl) hl.1 dX6_close_55 (fun H locs hW => ?_)
  exact r_vret X hW rfl hf dX6_close_58

abbrev rm_X6_image : Room := { frames := 1, cells := 0, slots := 0, locals := 23 }
theorem hd_X6_image : yX6_image.cls = RX6 ∧ yX6_image.cls ≠ "java/lang/invoke/MethodHandle" ∧ yX6_image.cls ≠ "java/lang/invoke/VarHandle" ∧ (parseMethodDescriptor yX6_image.desc).map (fun d => d.parameters.length) = some 0 := by decide +kernel
theorem inX6_image_6 : ∀ w ∈ wsX60, w ∈ wsX6_image := fun _ h => List.mem_cons_of_mem _ (List.mem_append_right _ h)
section S_X6_image
variable {p : Program} {l : Launch} {e : Env} {s : State} {m : MethodId} {args : Array Value} {below : List Frame} {meth : Method} {c : Code} {D : va_G} {cA : Nat → ClassId} {ad : Nat → Nat} {r : Int32 × St}
end S_X6_image
noncomputable def f_X6_image (σ : St) : Option (Int32 × St) := nw (uI σ 0 5 0) fun σ1 => nw (uI σ1 0 7 1) fun σ2 => nw (uI σ2 0 6 (σ2.1 0 0)) fun σ3 => bnd (f_X6_copyLongs σ3 1 5) fun r4 => bnd (f_X6_copyInts r4 2 6 7) fun r5 => bnd (f_X6_copyInts r5 3 7 84) fun r6 => bnd (f_X6_copyInts r6 4 8 84) fun r7 => some (r7.1 0 0, r7)
set_option maxHeartbeats 4000000 in
set_option maxRecDepth 100000 in
theorem c_X6_image (l : Launch) (D : va_G) (cA : Nat → ClassId) (ad : Nat → Nat) (hij : Ij ad SM) (σ : St) (r : Int32 × St) (hf : f_X6_image σ = some r) : Met l yX6_image wsX6_image rm_X6_image (PC D cA ad SM [.ref (ad 0)] σ) (Qi D cA ad SM r) 0 0 (Aw ad SM) := by
  rw [f_X6_image] at hf
  refine k_head (own := RX6) (ws := wsX6_image) (cc := cX6_image) (nL := 1) (ret := (some .int)) pn_X6 rfl rfl hij (Nat.le_of_ble_eq_true rfl) (fun p e s m below meth c ls X hW hl => ?_)
  have hl : lv_has ls 1 [(0, .ref (ad 0))] := hl
  obtain ⟨hx, hb, hml, hown, hts, hr, hlk, hK, hij⟩ := id X
  refine lv_aload_n hx hb dX6_image_0 rfl (lv_at hl 0 rfl) ?_
  refine lv_iconst (v := 0) hx hb dX6_image_1 (by decide) ?_
  obtain ⟨σ1, e1, hf⟩ := nw_e hf
  refine put_6_5 X hW kM_0 iM_0 inX6_image_6 (List.mem_of_getElem? (i := 1) rfl) e1 dX6_image_2 (fun H locs hW => ?_)
  refine lv_aload_n hx hb dX6_image_5 rfl (lv_at hl 0 rfl) ?_
  refine lv_iconst (v := 1) hx hb dX6_image_6 (by decide) ?_
  obtain ⟨σ2, e2, hf⟩ := nw_e hf
  refine put_6_7 X hW kM_0 iM_0 inX6_image_6 (List.mem_of_getElem? (i := 2) rfl) (by decide) e2 dX6_image_7 (fun H locs hW => ?_)
  refine lv_aload_n hx hb dX6_image_10 rfl (lv_at hl 0 rfl) ?_
  refine lv_aload_n hx hb dX6_image_11 rfl (lv_at hl 0 rfl) ?_
  refine get_6_0 X hW kM_0 iM_0 inX6_image_6 (List.mem_of_getElem? (i := 3) rfl) dX6_image_12 ?_
  obtain ⟨σ3, e3, hf⟩ := nw_e hf
  refine put_6_6 X hW kM_0 iM_0 inX6_image_6 (List.mem_of_getElem? (i := 4) rfl) e3 dX6_image_15 (fun H locs hW => ?_)
  refine lv_aload_n hx hb dX6_image_18 rfl (lv_at hl 0 rfl) ?_
  refine get_6_1 X hW kM_0 iM_0 inX6_image_6 (List.mem_of_getElem? (i := 5) rfl) dX6_image_19 ?_
  refine lv_aload_n hx hb dX6_image_22 rfl (lv_at hl 0 rfl) ?_
  refine get_6_8 X hW kM_0 iM_0 inX6_image_6 (List.mem_of_getElem? (i := 6) rfl) dX6_image_23 ?_
  obtain ⟨r4, z4, hf⟩ := bnd_e hf
  refine r_cSv X hW (c_X6_copyLongs l D cA ad hij σ3 1 5 r4 z4) gX6_image_X6_copyLongs rfl ⟨rfl, rfl⟩ hd_X6_copyLongs ⟨Nat.le_of_ble_eq_true rfl, Nat.le_of_ble_eq_true rfl⟩ rfl (Nat.le_of_ble_eq_true rfl) hl.1 dX6_image_26 (fun H locs hW => ?_)
  refine lv_aload_n hx hb dX6_image_29 rfl (lv_at hl 0 rfl) ?_
  refine get_6_2 X hW kM_0 iM_0 inX6_image_6 (List.mem_of_getElem? (i := 7) rfl) dX6_image_30 ?_
  refine lv_aload_n hx hb dX6_image_33 rfl (lv_at hl 0 rfl) ?_
  refine get_6_9 X hW kM_0 iM_0 inX6_image_6 (List.mem_of_getElem? (i := 8) rfl) dX6_image_34 ?_
  refine lv_bipush (v := 7) hx hb dX6_image_37 (by decide) ?_
  obtain ⟨r5, z5, hf⟩ := bnd_e hf
  refine r_cSv X hW (c_X6_copyInts l D cA ad hij r4 2 6 7 r5 z5) gX6_image_X6_copyInts rfl ⟨rfl, rfl⟩ hd_X6_copyInts ⟨Nat.le_of_ble_eq_true rfl, Nat.le_of_ble_eq_true rfl⟩ rfl (Nat.le_of_ble_eq_true rfl) hl.1 dX6_image_39 (fun H locs hW => ?_)
  refine lv_aload_n hx hb dX6_image_42 rfl (lv_at hl 0 rfl) ?_
  refine get_6_3 X hW kM_0 iM_0 inX6_image_6 (List.mem_of_getElem? (i := 9) rfl) dX6_image_43 ?_
  refine lv_aload_n hx hb dX6_image_46 rfl (lv_at hl 0 rfl) ?_
  refine get_6_10 X hW kM_0 iM_0 inX6_image_6 (List.mem_of_getElem? (i := 10) rfl) dX6_image_47 ?_
  refine lv_bipush (v := 84) hx hb dX6_image_50 (by decide) ?_
  obtain ⟨r6, z6, hf⟩ := bnd_e hf
  refine r_cSv X hW (c_X6_copyInts l D cA ad hij r5 3 7 84 r6 z6) gX6_image_X6_copyInts rfl ⟨rfl, rfl⟩ hd_X6_copyInts ⟨Nat.le_of_ble_eq_true rfl, Nat.le_of_ble_eq_true rfl⟩ rfl (Nat.le_of_ble_eq_true rfl) hl.1 dX6_image_52 (fun H locs hW => ?_)
  refine lv_aload_n hx hb dX6_image_55 rfl (lv_at hl 0 rfl) ?_
  refine get_6_4 X hW kM_0 iM_0 inX6_image_6 (List.mem_of_getElem? (i := 11) rfl) dX6_image_56 ?_
  refine lv_aload_n hx hb dX6_image_59 rfl (lv_at hl 0 rfl) ?_
  refine get_6_11 X hW kM_0 iM_0 inX6_image_6 (List.mem_of_getElem? (i := 12) rfl) dX6_image_60 ?_
  refine lv_bipush (v := 84) hx hb dX6_image_63 (by decide) ?_
  obtain ⟨r7, z7, hf⟩ := bnd_e hf
  refine r_cSv X hW (c_X6_copyInts l D cA ad hij r6 4 8 84 r7 z7) gX6_image_X6_copyInts rfl ⟨rfl, rfl⟩ hd_X6_copyInts ⟨Nat.le_of_ble_eq_true rfl, Nat.le_of_ble_eq_true rfl⟩ rfl (Nat.le_of_ble_eq_true rfl) hl.1 dX6_image_65 (fun H locs hW => ?_)
  refine lv_aload_n hx hb dX6_image_68 rfl (lv_at hl 0 rfl) ?_
  refine get_6_0 X hW kM_0 iM_0 inX6_image_6 (List.mem_of_getElem? (i := 3) rfl) dX6_image_69 ?_
  exact r_iret X hW rfl rfl hf dX6_image_72

abbrev rm_X6_restore : Room := { frames := 1, cells := 0, slots := 0, locals := 23 }
theorem hd_X6_restore : yX6_restore.cls = RX6 ∧ yX6_restore.cls ≠ "java/lang/invoke/MethodHandle" ∧ yX6_restore.cls ≠ "java/lang/invoke/VarHandle" ∧ (parseMethodDescriptor yX6_restore.desc).map (fun d => d.parameters.length) = some 0 := by decide +kernel
theorem inX6_restore_6 : ∀ w ∈ wsX60, w ∈ wsX6_restore := fun _ h => List.mem_cons_of_mem _ (List.mem_append_right _ h)
section S_X6_restore
variable {p : Program} {l : Launch} {e : Env} {s : State} {m : MethodId} {args : Array Value} {below : List Frame} {meth : Method} {c : Code} {D : va_G} {cA : Nat → ClassId} {ad : Nat → Nat} {r : Int32 × St}
end S_X6_restore
noncomputable def f_X6_restore (σ : St) : Option (Int32 × St) := nw (uI σ 0 5 0) fun σ1 => (if (σ1.1 0 7) = 0 then some ((-3), σ1) else nw (uI σ1 0 0 (σ1.1 0 6)) fun σ3 => bnd (f_X6_copyLongs σ3 5 1) fun r4 => bnd (f_X6_copyInts r4 6 2 7) fun r5 => bnd (f_X6_copyInts r5 7 3 84) fun r6 => bnd (f_X6_copyInts r6 8 4 84) fun r7 => some (r7.1 0 0, r7))
set_option maxHeartbeats 4000000 in
set_option maxRecDepth 100000 in
theorem c_X6_restore (l : Launch) (D : va_G) (cA : Nat → ClassId) (ad : Nat → Nat) (hij : Ij ad SM) (σ : St) (r : Int32 × St) (hf : f_X6_restore σ = some r) : Met l yX6_restore wsX6_restore rm_X6_restore (PC D cA ad SM [.ref (ad 0)] σ) (Qi D cA ad SM r) 0 0 (Aw ad SM) := by
  rw [f_X6_restore] at hf
  refine k_head (own := RX6) (ws := wsX6_restore) (cc := cX6_restore) (nL := 1) (ret := (some .int)) pn_X6 rfl rfl hij (Nat.le_of_ble_eq_true rfl) (fun p e s m below meth c ls X hW hl => ?_)
  have hl : lv_has ls 1 [(0, .ref (ad 0))] := hl
  obtain ⟨hx, hb, hml, hown, hts, hr, hlk, hK, hij⟩ := id X
  refine lv_aload_n hx hb dX6_restore_0 rfl (lv_at hl 0 rfl) ?_
  refine lv_iconst (v := 0) hx hb dX6_restore_1 (by decide) ?_
  obtain ⟨σ1, e1, hf⟩ := nw_e hf
  refine put_6_5 X hW kM_0 iM_0 inX6_restore_6 (List.mem_of_getElem? (i := 1) rfl) e1 dX6_restore_2 (fun H locs hW => ?_)
  refine lv_aload_n hx hb dX6_restore_5 rfl (lv_at hl 0 rfl) ?_
  refine get_6_7 X hW kM_0 iM_0 inX6_restore_6 (List.mem_of_getElem? (i := 2) rfl) dX6_restore_6 ?_
  refine lv_if_ne (tgt := 15) hx hb dX6_restore_9 (by decide) (fun c2 => ?_) (fun c2 => ?_)
  · have hf := ie_e hf c2
    refine lv_aload_n hx hb dX6_restore_15 rfl (lv_at hl 0 rfl) ?_
    refine lv_aload_n hx hb dX6_restore_16 rfl (lv_at hl 0 rfl) ?_
    refine get_6_6 X hW kM_0 iM_0 inX6_restore_6 (List.mem_of_getElem? (i := 3) rfl) dX6_restore_17 ?_
    obtain ⟨σ3, e3, hf⟩ := nw_e hf
    refine put_6_0 X hW kM_0 iM_0 inX6_restore_6 (List.mem_of_getElem? (i := 4) rfl) e3 dX6_restore_20 (fun H locs hW => ?_)
    refine lv_aload_n hx hb dX6_restore_23 rfl (lv_at hl 0 rfl) ?_
    refine get_6_8 X hW kM_0 iM_0 inX6_restore_6 (List.mem_of_getElem? (i := 5) rfl) dX6_restore_24 ?_
    refine lv_aload_n hx hb dX6_restore_27 rfl (lv_at hl 0 rfl) ?_
    refine get_6_1 X hW kM_0 iM_0 inX6_restore_6 (List.mem_of_getElem? (i := 6) rfl) dX6_restore_28 ?_
    obtain ⟨r4, z4, hf⟩ := bnd_e hf
    refine r_cSv X hW (c_X6_copyLongs l D cA ad hij σ3 5 1 r4 z4) gX6_restore_X6_copyLongs rfl ⟨rfl, rfl⟩ hd_X6_copyLongs ⟨Nat.le_of_ble_eq_true rfl, Nat.le_of_ble_eq_true rfl⟩ rfl (Nat.le_of_ble_eq_true rfl) hl.1 dX6_restore_31 (fun H locs hW => ?_)
    refine lv_aload_n hx hb dX6_restore_34 rfl (lv_at hl 0 rfl) ?_
    refine get_6_9 X hW kM_0 iM_0 inX6_restore_6 (List.mem_of_getElem? (i := 7) rfl) dX6_restore_35 ?_
    refine lv_aload_n hx hb dX6_restore_38 rfl (lv_at hl 0 rfl) ?_
    refine get_6_2 X hW kM_0 iM_0 inX6_restore_6 (List.mem_of_getElem? (i := 8) rfl) dX6_restore_39 ?_
    refine lv_bipush (v := 7) hx hb dX6_restore_42 (by decide) ?_
    obtain ⟨r5, z5, hf⟩ := bnd_e hf
    refine r_cSv X hW (c_X6_copyInts l D cA ad hij r4 6 2 7 r5 z5) gX6_restore_X6_copyInts rfl ⟨rfl, rfl⟩ hd_X6_copyInts ⟨Nat.le_of_ble_eq_true rfl, Nat.le_of_ble_eq_true rfl⟩ rfl (Nat.le_of_ble_eq_true rfl) hl.1 dX6_restore_44 (fun H locs hW => ?_)
    refine lv_aload_n hx hb dX6_restore_47 rfl (lv_at hl 0 rfl) ?_
    refine get_6_10 X hW kM_0 iM_0 inX6_restore_6 (List.mem_of_getElem? (i := 9) rfl) dX6_restore_48 ?_
    refine lv_aload_n hx hb dX6_restore_51 rfl (lv_at hl 0 rfl) ?_
    refine get_6_3 X hW kM_0 iM_0 inX6_restore_6 (List.mem_of_getElem? (i := 10) rfl) dX6_restore_52 ?_
    refine lv_bipush (v := 84) hx hb dX6_restore_55 (by decide) ?_
    obtain ⟨r6, z6, hf⟩ := bnd_e hf
    refine r_cSv X hW (c_X6_copyInts l D cA ad hij r5 7 3 84 r6 z6) gX6_restore_X6_copyInts rfl ⟨rfl, rfl⟩ hd_X6_copyInts ⟨Nat.le_of_ble_eq_true rfl, Nat.le_of_ble_eq_true rfl⟩ rfl (Nat.le_of_ble_eq_true rfl) hl.1 dX6_restore_57 (fun H locs hW => ?_)
    refine lv_aload_n hx hb dX6_restore_60 rfl (lv_at hl 0 rfl) ?_
    refine get_6_11 X hW kM_0 iM_0 inX6_restore_6 (List.mem_of_getElem? (i := 11) rfl) dX6_restore_61 ?_
    refine lv_aload_n hx hb dX6_restore_64 rfl (lv_at hl 0 rfl) ?_
    refine get_6_4 X hW kM_0 iM_0 inX6_restore_6 (List.mem_of_getElem? (i := 12) rfl) dX6_restore_65 ?_
    refine lv_bipush (v := 84) hx hb dX6_restore_68 (by decide) ?_
    obtain ⟨r7, z7, hf⟩ := bnd_e hf
    refine r_cSv X hW (c_X6_copyInts l D cA ad hij r6 8 4 84 r7 z7) gX6_restore_X6_copyInts rfl ⟨rfl, rfl⟩ hd_X6_copyInts ⟨Nat.le_of_ble_eq_true rfl, Nat.le_of_ble_eq_true rfl⟩ rfl (Nat.le_of_ble_eq_true rfl) hl.1 dX6_restore_70 (fun H locs hW => ?_)
    refine lv_aload_n hx hb dX6_restore_73 rfl (lv_at hl 0 rfl) ?_
    refine get_6_0 X hW kM_0 iM_0 inX6_restore_6 (List.mem_of_getElem? (i := 4) rfl) dX6_restore_74 ?_
    exact r_iret X hW rfl rfl hf dX6_restore_77
  · have hf := it_e hf c2
    refine lv_bipush (v := (-3)) hx hb dX6_restore_12 (by decide) ?_
    exact r_iret X hW rfl rfl hf dX6_restore_14

abbrev rm_X6_here : Room := { frames := 0, cells := 0, slots := 0, locals := 0 }
theorem hd_X6_here : yX6_here.cls = RX6 ∧ yX6_here.cls ≠ "java/lang/invoke/MethodHandle" ∧ yX6_here.cls ≠ "java/lang/invoke/VarHandle" ∧ (parseMethodDescriptor yX6_here.desc).map (fun d => d.parameters.length) = some 0 := by decide +kernel
theorem inX6_here_6 : ∀ w ∈ wsX60, w ∈ wsX6_here := fun _ h => List.mem_cons_of_mem _ (List.mem_append_right _ h)
section S_X6_here
variable {p : Program} {l : Launch} {e : Env} {s : State} {m : MethodId} {args : Array Value} {below : List Frame} {meth : Method} {c : Code} {D : va_G} {cA : Nat → ClassId} {ad : Nat → Nat} {r : Int32}
end S_X6_here
noncomputable def f_X6_here (σ : St) : Option (Int32) := (if (σ.1 0 19) < (σ.1 0 18) then chk (inb ((σ.1 0 17) + (σ.1 0 19)) 800) <| some (((σ.2 21 ((σ.1 0 17) + (σ.1 0 19)).toNatClampNeg).toInt32) &&& 255) else some ((-1)))
set_option maxHeartbeats 4000000 in
set_option maxRecDepth 100000 in
theorem c_X6_here (l : Launch) (D : va_G) (cA : Nat → ClassId) (ad : Nat → Nat) (hij : Ij ad SM) (σ : St) (r : Int32) (hf : f_X6_here σ = some r) : Met l yX6_here wsX6_here rm_X6_here (PC D cA ad SM [.ref (ad 0)] σ) (Qi D cA ad SM (r, σ)) 0 0 (Aw ad SM) := by
  rw [f_X6_here] at hf
  refine k_head (own := RX6) (ws := wsX6_here) (cc := cX6_here) (nL := 1) (ret := (some .int)) pn_X6 rfl rfl hij (Nat.le_of_ble_eq_true rfl) (fun p e s m below meth c ls X hW hl => ?_)
  have hl : lv_has ls 1 [(0, .ref (ad 0))] := hl
  obtain ⟨hx, hb, hml, hown, hts, hr, hlk, hK, hij⟩ := id X
  refine lv_aload_n hx hb dX6_here_0 rfl (lv_at hl 0 rfl) ?_
  refine get_6_19 X hW kM_0 iM_0 inX6_here_6 (List.mem_of_getElem? (i := 1) rfl) dX6_here_1 ?_
  refine lv_aload_n hx hb dX6_here_4 rfl (lv_at hl 0 rfl) ?_
  refine get_6_18 X hW kM_0 iM_0 inX6_here_6 (List.mem_of_getElem? (i := 2) rfl) dX6_here_5 ?_
  refine lv_icmp_lt (tgt := 15) hx hb dX6_here_8 (by decide) (fun c1 => ?_) (fun c1 => ?_)
  · have hf := it_e hf c1
    refine lv_aload_n hx hb dX6_here_15 rfl (lv_at hl 0 rfl) ?_
    refine get_6_31 X hW kM_0 iM_0 inX6_here_6 (List.mem_of_getElem? (i := 3) rfl) dX6_here_16 ?_
    refine lv_aload_n hx hb dX6_here_19 rfl (lv_at hl 0 rfl) ?_
    refine get_6_17 X hW kM_0 iM_0 inX6_here_6 (List.mem_of_getElem? (i := 4) rfl) dX6_here_20 ?_
    refine lv_aload_n hx hb dX6_here_23 rfl (lv_at hl 0 rfl) ?_
    refine get_6_19 X hW kM_0 iM_0 inX6_here_6 (List.mem_of_getElem? (i := 1) rfl) dX6_here_24 ?_
    refine lv_iadd hx hb dX6_here_27 ?_
    obtain ⟨x2, hf⟩ := chk_e hf
    refine r_lald X hW kM_21 iM_21 nM_21 x2 dX6_here_28 ?_
    refine lv_l2i hx hb dX6_here_29 rfl ?_
    refine lv_sipush (v := 255) hx hb dX6_here_30 (by decide) ?_
    refine lv_iand hx hb dX6_here_33 ?_
    exact r_iretR X hW rfl rfl hf dX6_here_34
  · have hf := ie_e hf c1
    refine lv_iconst (v := (-1)) hx hb dX6_here_11 (by decide) ?_
    refine lv_goto (tgt := 34) hx hb dX6_here_12 (by decide) ?_
    exact r_iretR X hW rfl rfl hf dX6_here_34
