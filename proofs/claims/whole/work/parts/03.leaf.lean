def fuS : Nat := 6
theorem pn_X0 : plainName RX0 = true := by decide +kernel
theorem pn_X1 : plainName RX1 = true := by decide +kernel
theorem pn_X2 : plainName RX2 = true := by decide +kernel
theorem pn_X3 : plainName RX3 = true := by decide +kernel
theorem pn_X4 : plainName RX4 = true := by decide +kernel
theorem pn_X5 : plainName RX5 = true := by decide +kernel
theorem pn_X6 : plainName RX6 = true := by decide +kernel

abbrev rm_X5_keepsOf : Room := { frames := 0, cells := 0, slots := 0, locals := 0 }
theorem hd_X5_keepsOf : yX5_keepsOf.cls = RX5 ∧ yX5_keepsOf.cls ≠ "java/lang/invoke/MethodHandle" ∧ yX5_keepsOf.cls ≠ "java/lang/invoke/VarHandle" ∧ (parseMethodDescriptor yX5_keepsOf.desc).map (fun d => d.parameters.length) = some 1 := by decide +kernel
section S_X5_keepsOf
variable {p : Program} {l : Launch} {e : Env} {s : State} {m : MethodId} {args : Array Value} {below : List Frame} {meth : Method} {c : Code} {D : va_G} {cA : Nat → ClassId} {ad : Nat → Nat} {r : Int32}
end S_X5_keepsOf
noncomputable def f_X5_keepsOf (a0 : Int32) : Option (Int32) := nw (3 - 1 : Int32) fun v101 => (if a0 = 0 then some 3 else (if a0 = 1 then some 3 else (if a0 = 2 then some (3 + 3) else (if a0 = 3 then some v101 else (if a0 = 4 then some 0 else (if a0 = 5 then some (3 + 1) else (if a0 = 6 then some v101 else (if a0 = 7 then some (2 * 3) else some 0))))))))
set_option maxHeartbeats 4000000 in
set_option maxRecDepth 100000 in
theorem c_X5_keepsOf (l : Launch) (D : va_G) (cA : Nat → ClassId) (ad : Nat → Nat) (hij : Ij ad SC) (σ : St) (a0 : Int32) (r : Int32) (hf : f_X5_keepsOf a0 = some r) : Met l yX5_keepsOf wsX5_keepsOf rm_X5_keepsOf (PC D cA ad SC [.int a0] σ) (Qi D cA ad SC (r, σ)) 0 0 (Aw ad SC) := by
  rw [f_X5_keepsOf] at hf
  refine k_head (own := RX5) (ws := wsX5_keepsOf) (cc := cX5_keepsOf) (nL := 4) (ret := (some .int)) pn_X5 rfl rfl hij (Nat.le_of_ble_eq_true rfl) (fun p e s m below meth c ls X hW hl => ?_)
  have hl : lv_has ls 4 [(0, .int a0)] := hl
  obtain ⟨hx, hb, hml, hown, hts, hr, hlk, hK, hij⟩ := id X
  refine lv_iconst (v := 3) hx hb dX5_keepsOf_0 (by decide) ?_
  refine lv_istore_n (lv' := [(1, .int 3), (0, .int a0)]) hx hb dX5_keepsOf_1 rfl hl (by decide) rfl (fun ls hl => ?_)
  refine lv_iload_n hx hb dX5_keepsOf_2 rfl (lv_at hl 0 rfl) ?_
  refine lv_istore_n (lv' := [(2, .int 3), (1, .int 3), (0, .int a0)]) hx hb dX5_keepsOf_3 rfl hl (by decide) rfl (fun ls hl => ?_)
  refine lv_iload_n hx hb dX5_keepsOf_4 rfl (lv_at hl 1 rfl) ?_
  refine lv_iconst (v := 1) hx hb dX5_keepsOf_5 (by decide) ?_
  refine lv_isub hx hb dX5_keepsOf_6 ?_
  obtain ⟨v101, e1, hf⟩ := nw_e hf
  refine tI _ e1 ?_
  refine lv_istore_n (lv' := [(3, .int v101), (2, .int 3), (1, .int 3), (0, .int a0)]) hx hb dX5_keepsOf_7 rfl hl (by decide) rfl (fun ls hl => ?_)
  refine lv_iload_n hx hb dX5_keepsOf_8 rfl (lv_at hl 3 rfl) ?_
  by_cases c2 : a0 = 0
  · have hf := it_e hf c2
    refine lv_tableIn (tgt := 56) hx hb dX5_keepsOf_9 (by rw [c2]; decide) (by rw [c2]; decide) (by rw [c2]; rfl) (by decide) ?_
    refine lv_iload_n hx hb dX5_keepsOf_56 rfl (lv_at hl 2 rfl) ?_
    exact r_iretR X hW rfl rfl hf dX5_keepsOf_57
  · have hf := ie_e hf c2
    by_cases c3 : a0 = 1
    · have hf := it_e hf c3
      refine lv_tableIn (tgt := 58) hx hb dX5_keepsOf_9 (by rw [c3]; decide) (by rw [c3]; decide) (by rw [c3]; rfl) (by decide) ?_
      refine lv_iload_n hx hb dX5_keepsOf_58 rfl (lv_at hl 1 rfl) ?_
      exact r_iretR X hW rfl rfl hf dX5_keepsOf_59
    · have hf := ie_e hf c3
      by_cases c4 : a0 = 2
      · have hf := it_e hf c4
        refine lv_tableIn (tgt := 60) hx hb dX5_keepsOf_9 (by rw [c4]; decide) (by rw [c4]; decide) (by rw [c4]; rfl) (by decide) ?_
        refine lv_iload_n hx hb dX5_keepsOf_60 rfl (lv_at hl 2 rfl) ?_
        refine lv_iconst (v := 3) hx hb dX5_keepsOf_61 (by decide) ?_
        refine lv_iadd hx hb dX5_keepsOf_62 ?_
        exact r_iretR X hW rfl rfl hf dX5_keepsOf_63
      · have hf := ie_e hf c4
        by_cases c5 : a0 = 3
        · have hf := it_e hf c5
          refine lv_tableIn (tgt := 64) hx hb dX5_keepsOf_9 (by rw [c5]; decide) (by rw [c5]; decide) (by rw [c5]; rfl) (by decide) ?_
          refine lv_iload_n hx hb dX5_keepsOf_64 rfl (lv_at hl 0 rfl) ?_
          exact r_iretR X hW rfl rfl hf dX5_keepsOf_65
        · have hf := ie_e hf c5
          by_cases c6 : a0 = 4
          · have hf := it_e hf c6
            refine lv_tableIn (tgt := 76) hx hb dX5_keepsOf_9 (by rw [c6]; decide) (by rw [c6]; decide) (by rw [c6]; rfl) (by decide) ?_
            refine lv_iconst (v := 0) hx hb dX5_keepsOf_76 (by decide) ?_
            exact r_iretR X hW rfl rfl hf dX5_keepsOf_77
          · have hf := ie_e hf c6
            by_cases c7 : a0 = 5
            · have hf := it_e hf c7
              refine lv_tableIn (tgt := 66) hx hb dX5_keepsOf_9 (by rw [c7]; decide) (by rw [c7]; decide) (by rw [c7]; rfl) (by decide) ?_
              refine lv_iload_n hx hb dX5_keepsOf_66 rfl (lv_at hl 1 rfl) ?_
              refine lv_iconst (v := 1) hx hb dX5_keepsOf_67 (by decide) ?_
              refine lv_iadd hx hb dX5_keepsOf_68 ?_
              exact r_iretR X hW rfl rfl hf dX5_keepsOf_69
            · have hf := ie_e hf c7
              by_cases c8 : a0 = 6
              · have hf := it_e hf c8
                refine lv_tableIn (tgt := 70) hx hb dX5_keepsOf_9 (by rw [c8]; decide) (by rw [c8]; decide) (by rw [c8]; rfl) (by decide) ?_
                refine lv_iload_n hx hb dX5_keepsOf_70 rfl (lv_at hl 0 rfl) ?_
                exact r_iretR X hW rfl rfl hf dX5_keepsOf_71
              · have hf := ie_e hf c8
                by_cases c9 : a0 = 7
                · have hf := it_e hf c9
                  refine lv_tableIn (tgt := 72) hx hb dX5_keepsOf_9 (by rw [c9]; decide) (by rw [c9]; decide) (by rw [c9]; rfl) (by decide) ?_
                  refine lv_iconst (v := 2) hx hb dX5_keepsOf_72 (by decide) ?_
                  refine lv_iload_n hx hb dX5_keepsOf_73 rfl (lv_at hl 1 rfl) ?_
                  refine lv_imul hx hb dX5_keepsOf_74 ?_
                  exact r_iretR X hW rfl rfl hf dX5_keepsOf_75
                · have hf := ie_e hf c9
                  refine lv_tableOut (tgt := 76) hx hb dX5_keepsOf_9 (by have z0 := lv_neT c2 (a := 0) (by decide); have z1 := lv_neT c3 (a := 1) (by decide); have z2 := lv_neT c4 (a := 2) (by decide); have z3 := lv_neT c5 (a := 3) (by decide); have z4 := lv_neT c6 (a := 4) (by decide); have z5 := lv_neT c7 (a := 5) (by decide); have z6 := lv_neT c8 (a := 6) (by decide); have z7 := lv_neT c9 (a := 7) (by decide); omega) (by decide) ?_
                  refine lv_iconst (v := 0) hx hb dX5_keepsOf_76 (by decide) ?_
                  exact r_iretR X hW rfl rfl hf dX5_keepsOf_77

abbrev rm_X5_ownOf : Room := { frames := 0, cells := 0, slots := 0, locals := 0 }
theorem hd_X5_ownOf : yX5_ownOf.cls = RX5 ∧ yX5_ownOf.cls ≠ "java/lang/invoke/MethodHandle" ∧ yX5_ownOf.cls ≠ "java/lang/invoke/VarHandle" ∧ (parseMethodDescriptor yX5_ownOf.desc).map (fun d => d.parameters.length) = some 3 := by decide +kernel
section S_X5_ownOf
variable {p : Program} {l : Launch} {e : Env} {s : State} {m : MethodId} {args : Array Value} {below : List Frame} {meth : Method} {c : Code} {D : va_G} {cA : Nat → ClassId} {ad : Nat → Nat} {r : Int32}
noncomputable def f_X5_ownOf_32 (v0 : Int32) (v2 : Int32) (v3 : Int32) (v4 : Int32) (s0 : Int32) : Option (Int32) := (if v0 = 0 then some v3 else (if v0 = 1 then some v4 else (if v0 = 2 then some (2 * v3) else (if v0 = 3 then some s0 else (if v0 = 4 then some 0 else (if v0 = 5 then (if v2 = 3 then some (v4 + 2) else some v4) else (if v0 = 6 then (if v2 = 0 then some (s0 + 5) else some s0) else (if v0 = 7 then some (v4 - 1) else some 0))))))))
set_option maxHeartbeats 4000000 in
set_option maxRecDepth 100000 in
theorem b_X5_ownOf_32 {σ : St} (X : Cx RX5 wsX5_ownOf cX5_ownOf 6 (some .int) D cA ad SC p s m args meth c) : ∀ (v0 : Int32) (v2 : Int32) (v3 : Int32) (v4 : Int32) (s0 : Int32) (H : Heap) (locs : List Loc) (ls : Array Slot), f_X5_ownOf_32 v0 v2 v3 v4 s0 = some r → Rn D cA ad SC s.heap σ H locs → lv_has ls 6 [(0, .int v0), (2, .int v2), (3, .int v3), (4, .int v4)] → W p l e rm_X5_ownOf s m args below meth c H locs 0 0 (MQ below (Qi D cA ad SC (r, σ)) args s 0 0 (Aw ad SC)) (F0 m 32 ls [.int s0]) := by
  obtain ⟨hx, hb, hml, hown, hts, hr, hlk, hK, hij⟩ := id X
  intro v0 v2 v3 v4 s0 H locs ls hf hW hl
  rw [f_X5_ownOf_32] at hf
  refine lv_istore (lv' := [(5, .int s0), (0, .int v0), (2, .int v2), (3, .int v3), (4, .int v4)]) hx hb dX5_ownOf_32 hl (by decide) rfl (fun ls hl => ?_)
  refine lv_iload_n hx hb dX5_ownOf_34 rfl (lv_at hl 1 rfl) ?_
  by_cases c4 : v0 = 0
  · have hf := it_e hf c4
    refine lv_tableIn (tgt := 80) hx hb dX5_ownOf_35 (by rw [c4]; decide) (by rw [c4]; decide) (by rw [c4]; rfl) (by decide) ?_
    refine lv_iload_n hx hb dX5_ownOf_80 rfl (lv_at hl 3 rfl) ?_
    exact r_iretR X hW rfl rfl hf dX5_ownOf_81
  · have hf := ie_e hf c4
    by_cases c5 : v0 = 1
    · have hf := it_e hf c5
      refine lv_tableIn (tgt := 82) hx hb dX5_ownOf_35 (by rw [c5]; decide) (by rw [c5]; decide) (by rw [c5]; rfl) (by decide) ?_
      refine lv_iload hx hb dX5_ownOf_82 (lv_at hl 4 rfl) ?_
      exact r_iretR X hW rfl rfl hf dX5_ownOf_84
    · have hf := ie_e hf c5
      by_cases c6 : v0 = 2
      · have hf := it_e hf c6
        refine lv_tableIn (tgt := 85) hx hb dX5_ownOf_35 (by rw [c6]; decide) (by rw [c6]; decide) (by rw [c6]; rfl) (by decide) ?_
        refine lv_iconst (v := 2) hx hb dX5_ownOf_85 (by decide) ?_
        refine lv_iload_n hx hb dX5_ownOf_86 rfl (lv_at hl 3 rfl) ?_
        refine lv_imul hx hb dX5_ownOf_87 ?_
        exact r_iretR X hW rfl rfl hf dX5_ownOf_88
      · have hf := ie_e hf c6
        by_cases c7 : v0 = 3
        · have hf := it_e hf c7
          refine lv_tableIn (tgt := 89) hx hb dX5_ownOf_35 (by rw [c7]; decide) (by rw [c7]; decide) (by rw [c7]; rfl) (by decide) ?_
          refine lv_iload hx hb dX5_ownOf_89 (lv_at hl 0 rfl) ?_
          exact r_iretR X hW rfl rfl hf dX5_ownOf_91
        · have hf := ie_e hf c7
          by_cases c8 : v0 = 4
          · have hf := it_e hf c8
            refine lv_tableIn (tgt := 126) hx hb dX5_ownOf_35 (by rw [c8]; decide) (by rw [c8]; decide) (by rw [c8]; rfl) (by decide) ?_
            refine lv_iconst (v := 0) hx hb dX5_ownOf_126 (by decide) ?_
            exact r_iretR X hW rfl rfl hf dX5_ownOf_127
          · have hf := ie_e hf c8
            by_cases c9 : v0 = 5
            · have hf := it_e hf c9
              refine lv_tableIn (tgt := 92) hx hb dX5_ownOf_35 (by rw [c9]; decide) (by rw [c9]; decide) (by rw [c9]; rfl) (by decide) ?_
              refine lv_iload_n hx hb dX5_ownOf_92 rfl (lv_at hl 2 rfl) ?_
              refine lv_iconst (v := 3) hx hb dX5_ownOf_93 (by decide) ?_
              refine lv_icmp_ne (tgt := 104) hx hb dX5_ownOf_94 (by decide) (fun c10 => ?_) (fun c10 => ?_)
              · have hf := ie_e hf c10
                refine lv_iload hx hb dX5_ownOf_104 (lv_at hl 4 rfl) ?_
                exact r_iretR X hW rfl rfl hf dX5_ownOf_106
              · have hf := it_e hf c10
                refine lv_iload hx hb dX5_ownOf_97 (lv_at hl 4 rfl) ?_
                refine lv_iconst (v := 2) hx hb dX5_ownOf_99 (by decide) ?_
                refine lv_iadd hx hb dX5_ownOf_100 ?_
                refine lv_goto (tgt := 106) hx hb dX5_ownOf_101 (by decide) ?_
                exact r_iretR X hW rfl rfl hf dX5_ownOf_106
            · have hf := ie_e hf c9
              by_cases c11 : v0 = 6
              · have hf := it_e hf c11
                refine lv_tableIn (tgt := 107) hx hb dX5_ownOf_35 (by rw [c11]; decide) (by rw [c11]; decide) (by rw [c11]; rfl) (by decide) ?_
                refine lv_iload_n hx hb dX5_ownOf_107 rfl (lv_at hl 2 rfl) ?_
                refine lv_if_ne (tgt := 118) hx hb dX5_ownOf_108 (by decide) (fun c12 => ?_) (fun c12 => ?_)
                · have hf := ie_e hf c12
                  refine lv_iload hx hb dX5_ownOf_118 (lv_at hl 0 rfl) ?_
                  exact r_iretR X hW rfl rfl hf dX5_ownOf_120
                · have hf := it_e hf c12
                  refine lv_iload hx hb dX5_ownOf_111 (lv_at hl 0 rfl) ?_
                  refine lv_iconst (v := 5) hx hb dX5_ownOf_113 (by decide) ?_
                  refine lv_iadd hx hb dX5_ownOf_114 ?_
                  refine lv_goto (tgt := 120) hx hb dX5_ownOf_115 (by decide) ?_
                  exact r_iretR X hW rfl rfl hf dX5_ownOf_120
              · have hf := ie_e hf c11
                by_cases c13 : v0 = 7
                · have hf := it_e hf c13
                  refine lv_tableIn (tgt := 121) hx hb dX5_ownOf_35 (by rw [c13]; decide) (by rw [c13]; decide) (by rw [c13]; rfl) (by decide) ?_
                  refine lv_iload hx hb dX5_ownOf_121 (lv_at hl 4 rfl) ?_
                  refine lv_iconst (v := 1) hx hb dX5_ownOf_123 (by decide) ?_
                  refine lv_isub hx hb dX5_ownOf_124 ?_
                  exact r_iretR X hW rfl rfl hf dX5_ownOf_125
                · have hf := ie_e hf c13
                  refine lv_tableOut (tgt := 126) hx hb dX5_ownOf_35 (by have z0 := lv_neT c4 (a := 0) (by decide); have z1 := lv_neT c5 (a := 1) (by decide); have z2 := lv_neT c6 (a := 2) (by decide); have z3 := lv_neT c7 (a := 3) (by decide); have z4 := lv_neT c8 (a := 4) (by decide); have z5 := lv_neT c9 (a := 5) (by decide); have z6 := lv_neT c11 (a := 6) (by decide); have z7 := lv_neT c13 (a := 7) (by decide); omega) (by decide) ?_
                  refine lv_iconst (v := 0) hx hb dX5_ownOf_126 (by decide) ?_
                  exact r_iretR X hW rfl rfl hf dX5_ownOf_127
noncomputable def f_X5_ownOf_14 (v0 : Int32) (v2 : Int32) (s0 : Int32) : Option (Int32) := nw (s0 + 1 : Int32) fun v102 => (if v2 = 2 then f_X5_ownOf_32 v0 v2 s0 v102 (s0 + 3) else f_X5_ownOf_32 v0 v2 s0 v102 s0)
set_option maxHeartbeats 4000000 in
set_option maxRecDepth 100000 in
theorem b_X5_ownOf_14 {σ : St} (X : Cx RX5 wsX5_ownOf cX5_ownOf 6 (some .int) D cA ad SC p s m args meth c) : ∀ (v0 : Int32) (v2 : Int32) (s0 : Int32) (H : Heap) (locs : List Loc) (ls : Array Slot), f_X5_ownOf_14 v0 v2 s0 = some r → Rn D cA ad SC s.heap σ H locs → lv_has ls 6 [(0, .int v0), (2, .int v2)] → W p l e rm_X5_ownOf s m args below meth c H locs 0 0 (MQ below (Qi D cA ad SC (r, σ)) args s 0 0 (Aw ad SC)) (F0 m 14 ls [.int s0]) := by
  obtain ⟨hx, hb, hml, hown, hts, hr, hlk, hK, hij⟩ := id X
  intro v0 v2 s0 H locs ls hf hW hl
  rw [f_X5_ownOf_14] at hf
  refine lv_istore_n (lv' := [(3, .int s0), (0, .int v0), (2, .int v2)]) hx hb dX5_ownOf_14 rfl hl (by decide) rfl (fun ls hl => ?_)
  refine lv_iload_n hx hb dX5_ownOf_15 rfl (lv_at hl 0 rfl) ?_
  refine lv_iconst (v := 1) hx hb dX5_ownOf_16 (by decide) ?_
  refine lv_iadd hx hb dX5_ownOf_17 ?_
  obtain ⟨v102, e2, hf⟩ := nw_e hf
  refine tI _ e2 ?_
  refine lv_istore (lv' := [(4, .int v102), (3, .int s0), (0, .int v0), (2, .int v2)]) hx hb dX5_ownOf_18 hl (by decide) rfl (fun ls hl => ?_)
  refine lv_iload_n hx hb dX5_ownOf_20 rfl (lv_at hl 3 rfl) ?_
  refine lv_iconst (v := 2) hx hb dX5_ownOf_21 (by decide) ?_
  refine lv_icmp_ne (tgt := 31) hx hb dX5_ownOf_22 (by decide) (fun c3 => ?_) (fun c3 => ?_)
  · have hf := ie_e hf c3
    refine lv_iload_n hx hb dX5_ownOf_31 rfl (lv_at hl 1 rfl) ?_
    exact b_X5_ownOf_32 X v0 v2 s0 v102 s0 _ _ _ hf hW (lv_sub hl [2, 3, 1, 0] rfl)
  · have hf := it_e hf c3
    refine lv_iload_n hx hb dX5_ownOf_25 rfl (lv_at hl 1 rfl) ?_
    refine lv_iconst (v := 3) hx hb dX5_ownOf_26 (by decide) ?_
    refine lv_iadd hx hb dX5_ownOf_27 ?_
    refine lv_goto (tgt := 32) hx hb dX5_ownOf_28 (by decide) ?_
    exact b_X5_ownOf_32 X v0 v2 s0 v102 (s0 + 3) _ _ _ hf hW (lv_sub hl [2, 3, 1, 0] rfl)
end S_X5_ownOf
noncomputable def f_X5_ownOf (a0 : Int32) (a1 : Int32) (a2 : Int32) : Option (Int32) := (if (a1 - a1 / 4 * 4) = a2 then f_X5_ownOf_14 a0 a2 (a1 + 1) else f_X5_ownOf_14 a0 a2 0)
set_option maxHeartbeats 4000000 in
set_option maxRecDepth 100000 in
theorem c_X5_ownOf (l : Launch) (D : va_G) (cA : Nat → ClassId) (ad : Nat → Nat) (hij : Ij ad SC) (σ : St) (a0 : Int32) (a1 : Int32) (a2 : Int32) (r : Int32) (hf : f_X5_ownOf a0 a1 a2 = some r) : Met l yX5_ownOf wsX5_ownOf rm_X5_ownOf (PC D cA ad SC [.int a0, .int a1, .int a2] σ) (Qi D cA ad SC (r, σ)) 0 0 (Aw ad SC) := by
  rw [f_X5_ownOf] at hf
  refine k_head (own := RX5) (ws := wsX5_ownOf) (cc := cX5_ownOf) (nL := 6) (ret := (some .int)) pn_X5 rfl rfl hij (Nat.le_of_ble_eq_true rfl) (fun p e s m below meth c ls X hW hl => ?_)
  have hl : lv_has ls 6 [(0, .int a0), (1, .int a1), (2, .int a2)] := hl
  obtain ⟨hx, hb, hml, hown, hts, hr, hlk, hK, hij⟩ := id X
  refine lv_iload_n hx hb dX5_ownOf_0 rfl (lv_at hl 1 rfl) ?_
  refine lv_iconst (v := 4) hx hb dX5_ownOf_1 (by decide) ?_
  refine lv_irem hx hb dX5_ownOf_2 (by decide) ?_
  refine lv_iload_n hx hb dX5_ownOf_3 rfl (lv_at hl 2 rfl) ?_
  refine lv_icmp_ne (tgt := 13) hx hb dX5_ownOf_4 (by decide) (fun c1 => ?_) (fun c1 => ?_)
  · have hf := ie_e hf c1
    refine lv_iconst (v := 0) hx hb dX5_ownOf_13 (by decide) ?_
    exact b_X5_ownOf_14 X a0 a2 0 _ _ _ hf hW (lv_sub hl [0, 2] rfl)
  · have hf := it_e hf c1
    refine lv_iload_n hx hb dX5_ownOf_7 rfl (lv_at hl 1 rfl) ?_
    refine lv_iconst (v := 1) hx hb dX5_ownOf_8 (by decide) ?_
    refine lv_iadd hx hb dX5_ownOf_9 ?_
    refine lv_goto (tgt := 14) hx hb dX5_ownOf_10 (by decide) ?_
    exact b_X5_ownOf_14 X a0 a2 (a1 + 1) _ _ _ hf hW (lv_sub hl [0, 2] rfl)

abbrev rm_X5_kindIn : Room := { frames := 0, cells := 0, slots := 0, locals := 0 }
theorem hd_X5_kindIn : yX5_kindIn.cls = RX5 ∧ yX5_kindIn.cls ≠ "java/lang/invoke/MethodHandle" ∧ yX5_kindIn.cls ≠ "java/lang/invoke/VarHandle" ∧ (parseMethodDescriptor yX5_kindIn.desc).map (fun d => d.parameters.length) = some 2 := by decide +kernel
section S_X5_kindIn
variable {p : Program} {l : Launch} {e : Env} {s : State} {m : MethodId} {args : Array Value} {below : List Frame} {meth : Method} {c : Code} {D : va_G} {cA : Nat → ClassId} {ad : Nat → Nat} {r : Int32}
end S_X5_kindIn
noncomputable def f_X5_kindIn (a0 : Int32) (a1 : Int32) : Option (Int32) := some ((a0 >>> ((3 * a1) &&& 31)) &&& 7)
set_option maxHeartbeats 4000000 in
set_option maxRecDepth 100000 in
theorem c_X5_kindIn (l : Launch) (D : va_G) (cA : Nat → ClassId) (ad : Nat → Nat) (hij : Ij ad SC) (σ : St) (a0 : Int32) (a1 : Int32) (r : Int32) (hf : f_X5_kindIn a0 a1 = some r) : Met l yX5_kindIn wsX5_kindIn rm_X5_kindIn (PC D cA ad SC [.int a0, .int a1] σ) (Qi D cA ad SC (r, σ)) 0 0 (Aw ad SC) := by
  rw [f_X5_kindIn] at hf
  refine k_head (own := RX5) (ws := wsX5_kindIn) (cc := cX5_kindIn) (nL := 2) (ret := (some .int)) pn_X5 rfl rfl hij (Nat.le_of_ble_eq_true rfl) (fun p e s m below meth c ls X hW hl => ?_)
  have hl : lv_has ls 2 [(0, .int a0), (1, .int a1)] := hl
  obtain ⟨hx, hb, hml, hown, hts, hr, hlk, hK, hij⟩ := id X
  refine lv_iload_n hx hb dX5_kindIn_0 rfl (lv_at hl 0 rfl) ?_
  refine lv_iconst (v := 3) hx hb dX5_kindIn_1 (by decide) ?_
  refine lv_iload_n hx hb dX5_kindIn_2 rfl (lv_at hl 1 rfl) ?_
  refine lv_imul hx hb dX5_kindIn_3 ?_
  refine lv_ishr hx hb dX5_kindIn_4 ?_
  refine lv_bipush (v := 7) hx hb dX5_kindIn_5 (by decide) ?_
  refine lv_iand hx hb dX5_kindIn_7 ?_
  exact r_iretR X hW rfl rfl hf dX5_kindIn_8

abbrev rm_X5_isNoFigure : Room := { frames := 0, cells := 0, slots := 0, locals := 0 }
theorem hd_X5_isNoFigure : yX5_isNoFigure.cls = RX5 ∧ yX5_isNoFigure.cls ≠ "java/lang/invoke/MethodHandle" ∧ yX5_isNoFigure.cls ≠ "java/lang/invoke/VarHandle" ∧ (parseMethodDescriptor yX5_isNoFigure.desc).map (fun d => d.parameters.length) = some 1 := by decide +kernel
section S_X5_isNoFigure
variable {p : Program} {l : Launch} {e : Env} {s : State} {m : MethodId} {args : Array Value} {below : List Frame} {meth : Method} {c : Code} {D : va_G} {cA : Nat → ClassId} {ad : Nat → Nat} {r : Int32}
end S_X5_isNoFigure
noncomputable def f_X5_isNoFigure (a0 : Int32) : Option (Int32) := (if a0 < 0 then some 1 else (if a0 < 10 then some 0 else some 1))
set_option maxHeartbeats 4000000 in
set_option maxRecDepth 100000 in
theorem c_X5_isNoFigure (l : Launch) (D : va_G) (cA : Nat → ClassId) (ad : Nat → Nat) (hij : Ij ad SC) (σ : St) (a0 : Int32) (r : Int32) (hf : f_X5_isNoFigure a0 = some r) : Met l yX5_isNoFigure wsX5_isNoFigure rm_X5_isNoFigure (PC D cA ad SC [.int a0] σ) (Qi D cA ad SC (r, σ)) 0 0 (Aw ad SC) := by
  rw [f_X5_isNoFigure] at hf
  refine k_head (own := RX5) (ws := wsX5_isNoFigure) (cc := cX5_isNoFigure) (nL := 1) (ret := (some .boolean)) pn_X5 rfl rfl hij (Nat.le_of_ble_eq_true rfl) (fun p e s m below meth c ls X hW hl => ?_)
  have hl : lv_has ls 1 [(0, .int a0)] := hl
  obtain ⟨hx, hb, hml, hown, hts, hr, hlk, hK, hij⟩ := id X
  refine lv_iload_n hx hb dX5_isNoFigure_0 rfl (lv_at hl 0 rfl) ?_
  refine lv_if_lt (tgt := 10) hx hb dX5_isNoFigure_1 (by decide) (fun c1 => ?_) (fun c1 => ?_)
  · have hf := it_e hf c1
    refine lv_iconst (v := 1) hx hb dX5_isNoFigure_10 (by decide) ?_
    refine lv_goto (tgt := 15) hx hb dX5_isNoFigure_11 (by decide) ?_
    exact r_iretR X hW rfl rfl hf dX5_isNoFigure_15
  · have hf := ie_e hf c1
    refine lv_iload_n hx hb dX5_isNoFigure_4 rfl (lv_at hl 0 rfl) ?_
    refine lv_bipush (v := 10) hx hb dX5_isNoFigure_5 (by decide) ?_
    refine lv_icmp_lt (tgt := 14) hx hb dX5_isNoFigure_7 (by decide) (fun c2 => ?_) (fun c2 => ?_)
    · have hf := it_e hf c2
      refine lv_iconst (v := 0) hx hb dX5_isNoFigure_14 (by decide) ?_
      exact r_iretR X hW rfl rfl hf dX5_isNoFigure_15
    · have hf := ie_e hf c2
      refine lv_iconst (v := 1) hx hb dX5_isNoFigure_10 (by decide) ?_
      refine lv_goto (tgt := 15) hx hb dX5_isNoFigure_11 (by decide) ?_
      exact r_iretR X hW rfl rfl hf dX5_isNoFigure_15

abbrev rm_X5_isNoKind : Room := { frames := 0, cells := 0, slots := 0, locals := 0 }
theorem hd_X5_isNoKind : yX5_isNoKind.cls = RX5 ∧ yX5_isNoKind.cls ≠ "java/lang/invoke/MethodHandle" ∧ yX5_isNoKind.cls ≠ "java/lang/invoke/VarHandle" ∧ (parseMethodDescriptor yX5_isNoKind.desc).map (fun d => d.parameters.length) = some 1 := by decide +kernel
section S_X5_isNoKind
variable {p : Program} {l : Launch} {e : Env} {s : State} {m : MethodId} {args : Array Value} {below : List Frame} {meth : Method} {c : Code} {D : va_G} {cA : Nat → ClassId} {ad : Nat → Nat} {r : Int32}
end S_X5_isNoKind
noncomputable def f_X5_isNoKind (a0 : Int32) : Option (Int32) := (if a0 < 0 then some 1 else (if a0 < 8 then some 0 else some 1))
set_option maxHeartbeats 4000000 in
set_option maxRecDepth 100000 in
theorem c_X5_isNoKind (l : Launch) (D : va_G) (cA : Nat → ClassId) (ad : Nat → Nat) (hij : Ij ad SC) (σ : St) (a0 : Int32) (r : Int32) (hf : f_X5_isNoKind a0 = some r) : Met l yX5_isNoKind wsX5_isNoKind rm_X5_isNoKind (PC D cA ad SC [.int a0] σ) (Qi D cA ad SC (r, σ)) 0 0 (Aw ad SC) := by
  rw [f_X5_isNoKind] at hf
  refine k_head (own := RX5) (ws := wsX5_isNoKind) (cc := cX5_isNoKind) (nL := 1) (ret := (some .boolean)) pn_X5 rfl rfl hij (Nat.le_of_ble_eq_true rfl) (fun p e s m below meth c ls X hW hl => ?_)
  have hl : lv_has ls 1 [(0, .int a0)] := hl
  obtain ⟨hx, hb, hml, hown, hts, hr, hlk, hK, hij⟩ := id X
  refine lv_iload_n hx hb dX5_isNoKind_0 rfl (lv_at hl 0 rfl) ?_
  refine lv_if_lt (tgt := 10) hx hb dX5_isNoKind_1 (by decide) (fun c1 => ?_) (fun c1 => ?_)
  · have hf := it_e hf c1
    refine lv_iconst (v := 1) hx hb dX5_isNoKind_10 (by decide) ?_
    refine lv_goto (tgt := 15) hx hb dX5_isNoKind_11 (by decide) ?_
    exact r_iretR X hW rfl rfl hf dX5_isNoKind_15
  · have hf := ie_e hf c1
    refine lv_iload_n hx hb dX5_isNoKind_4 rfl (lv_at hl 0 rfl) ?_
    refine lv_bipush (v := 8) hx hb dX5_isNoKind_5 (by decide) ?_
    refine lv_icmp_lt (tgt := 14) hx hb dX5_isNoKind_7 (by decide) (fun c2 => ?_) (fun c2 => ?_)
    · have hf := it_e hf c2
      refine lv_iconst (v := 0) hx hb dX5_isNoKind_14 (by decide) ?_
      exact r_iretR X hW rfl rfl hf dX5_isNoKind_15
    · have hf := ie_e hf c2
      refine lv_iconst (v := 1) hx hb dX5_isNoKind_10 (by decide) ?_
      refine lv_goto (tgt := 15) hx hb dX5_isNoKind_11 (by decide) ?_
      exact r_iretR X hW rfl rfl hf dX5_isNoKind_15

abbrev rm_X5_isNoShelf : Room := { frames := 0, cells := 0, slots := 0, locals := 0 }
theorem hd_X5_isNoShelf : yX5_isNoShelf.cls = RX5 ∧ yX5_isNoShelf.cls ≠ "java/lang/invoke/MethodHandle" ∧ yX5_isNoShelf.cls ≠ "java/lang/invoke/VarHandle" ∧ (parseMethodDescriptor yX5_isNoShelf.desc).map (fun d => d.parameters.length) = some 1 := by decide +kernel
section S_X5_isNoShelf
variable {p : Program} {l : Launch} {e : Env} {s : State} {m : MethodId} {args : Array Value} {below : List Frame} {meth : Method} {c : Code} {D : va_G} {cA : Nat → ClassId} {ad : Nat → Nat} {r : Int32}
end S_X5_isNoShelf
noncomputable def f_X5_isNoShelf (a0 : Int32) : Option (Int32) := (if a0 < 0 then some 1 else (if a0 < 8 then some 0 else some 1))
set_option maxHeartbeats 4000000 in
set_option maxRecDepth 100000 in
theorem c_X5_isNoShelf (l : Launch) (D : va_G) (cA : Nat → ClassId) (ad : Nat → Nat) (hij : Ij ad SC) (σ : St) (a0 : Int32) (r : Int32) (hf : f_X5_isNoShelf a0 = some r) : Met l yX5_isNoShelf wsX5_isNoShelf rm_X5_isNoShelf (PC D cA ad SC [.int a0] σ) (Qi D cA ad SC (r, σ)) 0 0 (Aw ad SC) := by
  rw [f_X5_isNoShelf] at hf
  refine k_head (own := RX5) (ws := wsX5_isNoShelf) (cc := cX5_isNoShelf) (nL := 1) (ret := (some .boolean)) pn_X5 rfl rfl hij (Nat.le_of_ble_eq_true rfl) (fun p e s m below meth c ls X hW hl => ?_)
  have hl : lv_has ls 1 [(0, .int a0)] := hl
  obtain ⟨hx, hb, hml, hown, hts, hr, hlk, hK, hij⟩ := id X
  refine lv_iload_n hx hb dX5_isNoShelf_0 rfl (lv_at hl 0 rfl) ?_
  refine lv_if_lt (tgt := 10) hx hb dX5_isNoShelf_1 (by decide) (fun c1 => ?_) (fun c1 => ?_)
  · have hf := it_e hf c1
    refine lv_iconst (v := 1) hx hb dX5_isNoShelf_10 (by decide) ?_
    refine lv_goto (tgt := 15) hx hb dX5_isNoShelf_11 (by decide) ?_
    exact r_iretR X hW rfl rfl hf dX5_isNoShelf_15
  · have hf := ie_e hf c1
    refine lv_iload_n hx hb dX5_isNoShelf_4 rfl (lv_at hl 0 rfl) ?_
    refine lv_bipush (v := 8) hx hb dX5_isNoShelf_5 (by decide) ?_
    refine lv_icmp_lt (tgt := 14) hx hb dX5_isNoShelf_7 (by decide) (fun c2 => ?_) (fun c2 => ?_)
    · have hf := it_e hf c2
      refine lv_iconst (v := 0) hx hb dX5_isNoShelf_14 (by decide) ?_
      exact r_iretR X hW rfl rfl hf dX5_isNoShelf_15
    · have hf := ie_e hf c2
      refine lv_iconst (v := 1) hx hb dX5_isNoShelf_10 (by decide) ?_
      refine lv_goto (tgt := 15) hx hb dX5_isNoShelf_11 (by decide) ?_
      exact r_iretR X hW rfl rfl hf dX5_isNoShelf_15

abbrev rm_X5_isNoHalf : Room := { frames := 0, cells := 0, slots := 0, locals := 0 }
theorem hd_X5_isNoHalf : yX5_isNoHalf.cls = RX5 ∧ yX5_isNoHalf.cls ≠ "java/lang/invoke/MethodHandle" ∧ yX5_isNoHalf.cls ≠ "java/lang/invoke/VarHandle" ∧ (parseMethodDescriptor yX5_isNoHalf.desc).map (fun d => d.parameters.length) = some 1 := by decide +kernel
section S_X5_isNoHalf
variable {p : Program} {l : Launch} {e : Env} {s : State} {m : MethodId} {args : Array Value} {below : List Frame} {meth : Method} {c : Code} {D : va_G} {cA : Nat → ClassId} {ad : Nat → Nat} {r : Int32}
end S_X5_isNoHalf
noncomputable def f_X5_isNoHalf (a0 : Int32) : Option (Int32) := (if a0 < 0 then some 1 else (if a0 ≤ 1 then some 0 else some 1))
set_option maxHeartbeats 4000000 in
set_option maxRecDepth 100000 in
theorem c_X5_isNoHalf (l : Launch) (D : va_G) (cA : Nat → ClassId) (ad : Nat → Nat) (hij : Ij ad SC) (σ : St) (a0 : Int32) (r : Int32) (hf : f_X5_isNoHalf a0 = some r) : Met l yX5_isNoHalf wsX5_isNoHalf rm_X5_isNoHalf (PC D cA ad SC [.int a0] σ) (Qi D cA ad SC (r, σ)) 0 0 (Aw ad SC) := by
  rw [f_X5_isNoHalf] at hf
  refine k_head (own := RX5) (ws := wsX5_isNoHalf) (cc := cX5_isNoHalf) (nL := 1) (ret := (some .boolean)) pn_X5 rfl rfl hij (Nat.le_of_ble_eq_true rfl) (fun p e s m below meth c ls X hW hl => ?_)
  have hl : lv_has ls 1 [(0, .int a0)] := hl
  obtain ⟨hx, hb, hml, hown, hts, hr, hlk, hK, hij⟩ := id X
  refine lv_iload_n hx hb dX5_isNoHalf_0 rfl (lv_at hl 0 rfl) ?_
  refine lv_if_lt (tgt := 9) hx hb dX5_isNoHalf_1 (by decide) (fun c1 => ?_) (fun c1 => ?_)
  · have hf := it_e hf c1
    refine lv_iconst (v := 1) hx hb dX5_isNoHalf_9 (by decide) ?_
    refine lv_goto (tgt := 14) hx hb dX5_isNoHalf_10 (by decide) ?_
    exact r_iretR X hW rfl rfl hf dX5_isNoHalf_14
  · have hf := ie_e hf c1
    refine lv_iload_n hx hb dX5_isNoHalf_4 rfl (lv_at hl 0 rfl) ?_
    refine lv_iconst (v := 1) hx hb dX5_isNoHalf_5 (by decide) ?_
    refine lv_icmp_le (tgt := 13) hx hb dX5_isNoHalf_6 (by decide) (fun c2 => ?_) (fun c2 => ?_)
    · have hf := it_e hf c2
      refine lv_iconst (v := 0) hx hb dX5_isNoHalf_13 (by decide) ?_
      exact r_iretR X hW rfl rfl hf dX5_isNoHalf_14
    · have hf := ie_e hf c2
      refine lv_iconst (v := 1) hx hb dX5_isNoHalf_9 (by decide) ?_
      refine lv_goto (tgt := 14) hx hb dX5_isNoHalf_10 (by decide) ?_
      exact r_iretR X hW rfl rfl hf dX5_isNoHalf_14

abbrev rm_X5_isNoTaste : Room := { frames := 0, cells := 0, slots := 0, locals := 0 }
theorem hd_X5_isNoTaste : yX5_isNoTaste.cls = RX5 ∧ yX5_isNoTaste.cls ≠ "java/lang/invoke/MethodHandle" ∧ yX5_isNoTaste.cls ≠ "java/lang/invoke/VarHandle" ∧ (parseMethodDescriptor yX5_isNoTaste.desc).map (fun d => d.parameters.length) = some 1 := by decide +kernel
section S_X5_isNoTaste
variable {p : Program} {l : Launch} {e : Env} {s : State} {m : MethodId} {args : Array Value} {below : List Frame} {meth : Method} {c : Code} {D : va_G} {cA : Nat → ClassId} {ad : Nat → Nat} {r : Int32}
end S_X5_isNoTaste
noncomputable def f_X5_isNoTaste (a0 : Int32) : Option (Int32) := (if a0 < 0 then some 1 else (if a0 < 4 then some 0 else some 1))
set_option maxHeartbeats 4000000 in
set_option maxRecDepth 100000 in
theorem c_X5_isNoTaste (l : Launch) (D : va_G) (cA : Nat → ClassId) (ad : Nat → Nat) (hij : Ij ad SC) (σ : St) (a0 : Int32) (r : Int32) (hf : f_X5_isNoTaste a0 = some r) : Met l yX5_isNoTaste wsX5_isNoTaste rm_X5_isNoTaste (PC D cA ad SC [.int a0] σ) (Qi D cA ad SC (r, σ)) 0 0 (Aw ad SC) := by
  rw [f_X5_isNoTaste] at hf
  refine k_head (own := RX5) (ws := wsX5_isNoTaste) (cc := cX5_isNoTaste) (nL := 1) (ret := (some .boolean)) pn_X5 rfl rfl hij (Nat.le_of_ble_eq_true rfl) (fun p e s m below meth c ls X hW hl => ?_)
  have hl : lv_has ls 1 [(0, .int a0)] := hl
  obtain ⟨hx, hb, hml, hown, hts, hr, hlk, hK, hij⟩ := id X
  refine lv_iload_n hx hb dX5_isNoTaste_0 rfl (lv_at hl 0 rfl) ?_
  refine lv_if_lt (tgt := 9) hx hb dX5_isNoTaste_1 (by decide) (fun c1 => ?_) (fun c1 => ?_)
  · have hf := it_e hf c1
    refine lv_iconst (v := 1) hx hb dX5_isNoTaste_9 (by decide) ?_
    refine lv_goto (tgt := 14) hx hb dX5_isNoTaste_10 (by decide) ?_
    exact r_iretR X hW rfl rfl hf dX5_isNoTaste_14
  · have hf := ie_e hf c1
    refine lv_iload_n hx hb dX5_isNoTaste_4 rfl (lv_at hl 0 rfl) ?_
    refine lv_iconst (v := 4) hx hb dX5_isNoTaste_5 (by decide) ?_
    refine lv_icmp_lt (tgt := 13) hx hb dX5_isNoTaste_6 (by decide) (fun c2 => ?_) (fun c2 => ?_)
    · have hf := it_e hf c2
      refine lv_iconst (v := 0) hx hb dX5_isNoTaste_13 (by decide) ?_
      exact r_iretR X hW rfl rfl hf dX5_isNoTaste_14
    · have hf := ie_e hf c2
      refine lv_iconst (v := 1) hx hb dX5_isNoTaste_9 (by decide) ?_
      refine lv_goto (tgt := 14) hx hb dX5_isNoTaste_10 (by decide) ?_
      exact r_iretR X hW rfl rfl hf dX5_isNoTaste_14

abbrev rm_X5_inLeastTerms : Room := { frames := 0, cells := 0, slots := 0, locals := 0 }
theorem hd_X5_inLeastTerms : yX5_inLeastTerms.cls = RX5 ∧ yX5_inLeastTerms.cls ≠ "java/lang/invoke/MethodHandle" ∧ yX5_inLeastTerms.cls ≠ "java/lang/invoke/VarHandle" ∧ (parseMethodDescriptor yX5_inLeastTerms.desc).map (fun d => d.parameters.length) = some 3 := by decide +kernel
section S_X5_inLeastTerms
variable {p : Program} {l : Launch} {e : Env} {s : State} {m : MethodId} {args : Array Value} {below : List Frame} {meth : Method} {c : Code} {D : va_G} {cA : Nat → ClassId} {ad : Nat → Nat} {r : Int64}
noncomputable def f_X5_inLeastTerms_9 (k60 : Int32 → Int64 → Int64 → Option (Int64)) : Nat → Int32 → Int64 → Int64 → Int32 → Option (Int64)
  | 0, _, _, _, _ => none
  | n + 1, v4, v5, v7, v9 => (if 24 ≤ v9 then k60 v4 v5 v7 else (if (lg_cmp (v5 - v5 / 3 * 3) 0) = 0 then (if (lg_cmp (v7 - v7 / 3 * 3) 0) = 0 then nw (v5 / 3 : Int64) fun v104 => nw (v7 / 3 : Int64) fun v105 => nw (v9 + 1 : Int32) fun v106 => f_X5_inLeastTerms_9 k60 n v4 v104 v105 v106 else k60 v4 v5 v7) else k60 v4 v5 v7))
set_option maxHeartbeats 4000000 in
set_option maxRecDepth 100000 in
theorem b_X5_inLeastTerms_9 {σ : St} {k60 : Int32 → Int64 → Int64 → Option (Int64)} (X : Cx RX5 wsX5_inLeastTerms cX5_inLeastTerms 10 (some .long) D cA ad SC p s m args meth c) (h60 : ∀ (w0 : Int32) (w1 : Int64) (w2 : Int64) (H : Heap) (locs : List Loc) (ls : Array Slot), k60 w0 w1 w2 = some r → Rn D cA ad SC s.heap σ H locs → lv_has ls 10 [(4, .int w0), (5, .long w1), (7, .long w2)] → W p l e rm_X5_inLeastTerms s m args below meth c H locs 0 0 (MQ below (Ql D cA ad SC (r, σ)) args s 0 0 (Aw ad SC)) (F0 m 60 ls [])) : ∀ (n : Nat) (v4 : Int32) (v5 : Int64) (v7 : Int64) (v9 : Int32) (H : Heap) (locs : List Loc) (ls : Array Slot), f_X5_inLeastTerms_9 k60 n v4 v5 v7 v9 = some r → Rn D cA ad SC s.heap σ H locs → lv_has ls 10 [(4, .int v4), (5, .long v5), (7, .long v7), (9, .int v9)] → W p l e rm_X5_inLeastTerms s m args below meth c H locs 0 0 (MQ below (Ql D cA ad SC (r, σ)) args s 0 0 (Aw ad SC)) (F0 m 9 ls []) := by
  obtain ⟨hx, hb, hml, hown, hts, hr, hlk, hK, hij⟩ := id X
  intro n
  induction n with
  | zero =>
    intro v4 v5 v7 v9 H locs ls hf
    exact nomatch (show (none : Option (Int64)) = some r from hf)
  | succ n ih =>
    intro v4 v5 v7 v9 H locs ls hf hW hl
    rw [f_X5_inLeastTerms_9] at hf
    refine lv_iload hx hb dX5_inLeastTerms_9 (lv_at hl 3 rfl) ?_
    refine lv_bipush (v := 24) hx hb dX5_inLeastTerms_11 (by decide) ?_
    refine lv_icmp_ge (tgt := 60) hx hb dX5_inLeastTerms_13 (by decide) (fun c1 => ?_) (fun c1 => ?_)
    · have hf := it_e hf c1
      exact h60 v4 v5 v7 _ _ _ hf hW (lv_sub hl [0, 1, 2] rfl)
    · have hf := ie_e hf c1
      refine lv_lload hx hb dX5_inLeastTerms_16 (lv_at hl 1 rfl) ?_
      refine lv_ldc2 (v := 3) hx hb hown (hts _ (List.mem_of_getElem? (i := 1) rfl)) dX5_inLeastTerms_18 ?_
      refine lv_lrem hx hb dX5_inLeastTerms_21 (by decide) ?_
      refine lv_lconst (v := 0) hx hb dX5_inLeastTerms_22 (by decide) ?_
      refine W.lcmp hx hb dX5_inLeastTerms_23 ?_
      refine lv_if_ne (tgt := 60) hx hb dX5_inLeastTerms_24 (by decide) (fun c2 => ?_) (fun c2 => ?_)
      · have hf := ie_e hf c2
        exact h60 v4 v5 v7 _ _ _ hf hW (lv_sub hl [0, 1, 2] rfl)
      · have hf := it_e hf c2
        refine lv_lload hx hb dX5_inLeastTerms_27 (lv_at hl 2 rfl) ?_
        refine lv_ldc2 (v := 3) hx hb hown (hts _ (List.mem_of_getElem? (i := 1) rfl)) dX5_inLeastTerms_29 ?_
        refine lv_lrem hx hb dX5_inLeastTerms_32 (by decide) ?_
        refine lv_lconst (v := 0) hx hb dX5_inLeastTerms_33 (by decide) ?_
        refine W.lcmp hx hb dX5_inLeastTerms_34 ?_
        refine lv_if_ne (tgt := 60) hx hb dX5_inLeastTerms_35 (by decide) (fun c3 => ?_) (fun c3 => ?_)
        · have hf := ie_e hf c3
          exact h60 v4 v5 v7 _ _ _ hf hW (lv_sub hl [0, 1, 2] rfl)
        · have hf := it_e hf c3
          refine lv_lload hx hb dX5_inLeastTerms_38 (lv_at hl 1 rfl) ?_
          refine lv_ldc2 (v := 3) hx hb hown (hts _ (List.mem_of_getElem? (i := 1) rfl)) dX5_inLeastTerms_40 ?_
          refine lv_ldiv hx hb dX5_inLeastTerms_43 (by decide) ?_
          obtain ⟨v104, e4, hf⟩ := nw_e hf
          refine tL _ e4 ?_
          refine lv_lstore (lv' := [(5, .long v104), (4, .int v4), (7, .long v7), (9, .int v9)]) hx hb dX5_inLeastTerms_44 hl (by decide) rfl (fun ls hl => ?_)
          refine lv_lload hx hb dX5_inLeastTerms_46 (lv_at hl 2 rfl) ?_
          refine lv_ldc2 (v := 3) hx hb hown (hts _ (List.mem_of_getElem? (i := 1) rfl)) dX5_inLeastTerms_48 ?_
          refine lv_ldiv hx hb dX5_inLeastTerms_51 (by decide) ?_
          obtain ⟨v105, e5, hf⟩ := nw_e hf
          refine tL _ e5 ?_
          refine lv_lstore (lv' := [(7, .long v105), (5, .long v104), (4, .int v4), (9, .int v9)]) hx hb dX5_inLeastTerms_52 hl (by decide) rfl (fun ls hl => ?_)
          obtain ⟨v106, e6, hf⟩ := nw_e hf
          refine lv_iinc (v := v106) (lv' := [(9, .int v106), (7, .long v105), (5, .long v104), (4, .int v4)]) hx hb dX5_inLeastTerms_54 hl (k := 3) rfl (by rw [e6]; rfl) (by decide) rfl (fun ls hl => ?_)
          refine lv_goto (tgt := 9) hx hb dX5_inLeastTerms_57 (by decide) ?_
          exact ih v4 v104 v105 v106 _ _ _ hf hW (lv_sub hl [3, 2, 1, 0] rfl)
noncomputable def f_X5_inLeastTerms_60 (v4 : Int32) (v5 : Int64) (v7 : Int64) : Option (Int64) := (if v4 = 0 then some v5 else some v7)
set_option maxHeartbeats 4000000 in
set_option maxRecDepth 100000 in
theorem b_X5_inLeastTerms_60 {σ : St} (X : Cx RX5 wsX5_inLeastTerms cX5_inLeastTerms 10 (some .long) D cA ad SC p s m args meth c) : ∀ (v4 : Int32) (v5 : Int64) (v7 : Int64) (H : Heap) (locs : List Loc) (ls : Array Slot), f_X5_inLeastTerms_60 v4 v5 v7 = some r → Rn D cA ad SC s.heap σ H locs → lv_has ls 10 [(4, .int v4), (5, .long v5), (7, .long v7)] → W p l e rm_X5_inLeastTerms s m args below meth c H locs 0 0 (MQ below (Ql D cA ad SC (r, σ)) args s 0 0 (Aw ad SC)) (F0 m 60 ls []) := by
  obtain ⟨hx, hb, hml, hown, hts, hr, hlk, hK, hij⟩ := id X
  intro v4 v5 v7 H locs ls hf hW hl
  rw [f_X5_inLeastTerms_60] at hf
  refine lv_iload hx hb dX5_inLeastTerms_60 (lv_at hl 0 rfl) ?_
  refine lv_if_ne (tgt := 70) hx hb dX5_inLeastTerms_62 (by decide) (fun c10 => ?_) (fun c10 => ?_)
  · have hf := ie_e hf c10
    refine lv_lload hx hb dX5_inLeastTerms_70 (lv_at hl 2 rfl) ?_
    exact r_lretR X hW rfl hf dX5_inLeastTerms_72
  · have hf := it_e hf c10
    refine lv_lload hx hb dX5_inLeastTerms_65 (lv_at hl 1 rfl) ?_
    refine lv_goto (tgt := 72) hx hb dX5_inLeastTerms_67 (by decide) ?_
    exact r_lretR X hW rfl hf dX5_inLeastTerms_72
end S_X5_inLeastTerms
noncomputable def f_X5_inLeastTerms (a0 : Int64) (a2 : Int64) (a4 : Int32) : Option (Int64) := f_X5_inLeastTerms_9 (fun (w7_0 : Int32) (w8_1 : Int64) (w9_2 : Int64) => f_X5_inLeastTerms_60 w7_0 w8_1 w9_2) fu a4 a0 a2 0
set_option maxHeartbeats 4000000 in
set_option maxRecDepth 100000 in
theorem c_X5_inLeastTerms (l : Launch) (D : va_G) (cA : Nat → ClassId) (ad : Nat → Nat) (hij : Ij ad SC) (σ : St) (a0 : Int64) (a2 : Int64) (a4 : Int32) (r : Int64) (hf : f_X5_inLeastTerms a0 a2 a4 = some r) : Met l yX5_inLeastTerms wsX5_inLeastTerms rm_X5_inLeastTerms (PC D cA ad SC [.long a0, .long a2, .int a4] σ) (Ql D cA ad SC (r, σ)) 0 0 (Aw ad SC) := by
  rw [f_X5_inLeastTerms] at hf
  refine k_head (own := RX5) (ws := wsX5_inLeastTerms) (cc := cX5_inLeastTerms) (nL := 10) (ret := (some .long)) pn_X5 rfl rfl hij (Nat.le_of_ble_eq_true rfl) (fun p e s m below meth c ls X hW hl => ?_)
  have hl : lv_has ls 10 [(0, .long a0), (2, .long a2), (4, .int a4)] := hl
  obtain ⟨hx, hb, hml, hown, hts, hr, hlk, hK, hij⟩ := id X
  refine lv_lload_n hx hb dX5_inLeastTerms_0 rfl (lv_at hl 0 rfl) ?_
  refine lv_lstore (lv' := [(5, .long a0), (0, .long a0), (2, .long a2), (4, .int a4)]) hx hb dX5_inLeastTerms_1 hl (by decide) rfl (fun ls hl => ?_)
  refine lv_lload_n hx hb dX5_inLeastTerms_3 rfl (lv_at hl 2 rfl) ?_
  refine lv_lstore (lv' := [(7, .long a2), (5, .long a0), (0, .long a0), (2, .long a2), (4, .int a4)]) hx hb dX5_inLeastTerms_4 hl (by decide) rfl (fun ls hl => ?_)
  refine lv_iconst (v := 0) hx hb dX5_inLeastTerms_6 (by decide) ?_
  refine lv_istore (lv' := [(9, .int 0), (7, .long a2), (5, .long a0), (0, .long a0), (2, .long a2), (4, .int a4)]) hx hb dX5_inLeastTerms_7 hl (by decide) rfl (fun ls hl => ?_)
  refine b_X5_inLeastTerms_9 X (fun w7_0 w8_1 w9_2 H locs ls hf hW hl => ?_) fu a4 a0 a2 0 _ _ _ hf hW (lv_sub hl [5, 2, 1, 0] rfl)
  · exact b_X5_inLeastTerms_60 X w7_0 w8_1 w9_2 _ _ _ hf hW (lv_sub hl [0, 1, 2] rfl)

abbrev rm_X5_isNoPercent : Room := { frames := 0, cells := 0, slots := 0, locals := 0 }
theorem hd_X5_isNoPercent : yX5_isNoPercent.cls = RX5 ∧ yX5_isNoPercent.cls ≠ "java/lang/invoke/MethodHandle" ∧ yX5_isNoPercent.cls ≠ "java/lang/invoke/VarHandle" ∧ (parseMethodDescriptor yX5_isNoPercent.desc).map (fun d => d.parameters.length) = some 1 := by decide +kernel
section S_X5_isNoPercent
variable {p : Program} {l : Launch} {e : Env} {s : State} {m : MethodId} {args : Array Value} {below : List Frame} {meth : Method} {c : Code} {D : va_G} {cA : Nat → ClassId} {ad : Nat → Nat} {r : Int32}
end S_X5_isNoPercent
noncomputable def f_X5_isNoPercent (a0 : Int32) : Option (Int32) := (if a0 < 0 then some 1 else (if a0 ≤ 100 then some 0 else some 1))
set_option maxHeartbeats 4000000 in
set_option maxRecDepth 100000 in
theorem c_X5_isNoPercent (l : Launch) (D : va_G) (cA : Nat → ClassId) (ad : Nat → Nat) (hij : Ij ad SC) (σ : St) (a0 : Int32) (r : Int32) (hf : f_X5_isNoPercent a0 = some r) : Met l yX5_isNoPercent wsX5_isNoPercent rm_X5_isNoPercent (PC D cA ad SC [.int a0] σ) (Qi D cA ad SC (r, σ)) 0 0 (Aw ad SC) := by
  rw [f_X5_isNoPercent] at hf
  refine k_head (own := RX5) (ws := wsX5_isNoPercent) (cc := cX5_isNoPercent) (nL := 1) (ret := (some .boolean)) pn_X5 rfl rfl hij (Nat.le_of_ble_eq_true rfl) (fun p e s m below meth c ls X hW hl => ?_)
  have hl : lv_has ls 1 [(0, .int a0)] := hl
  obtain ⟨hx, hb, hml, hown, hts, hr, hlk, hK, hij⟩ := id X
  refine lv_iload_n hx hb dX5_isNoPercent_0 rfl (lv_at hl 0 rfl) ?_
  refine lv_if_lt (tgt := 10) hx hb dX5_isNoPercent_1 (by decide) (fun c1 => ?_) (fun c1 => ?_)
  · have hf := it_e hf c1
    refine lv_iconst (v := 1) hx hb dX5_isNoPercent_10 (by decide) ?_
    refine lv_goto (tgt := 15) hx hb dX5_isNoPercent_11 (by decide) ?_
    exact r_iretR X hW rfl rfl hf dX5_isNoPercent_15
  · have hf := ie_e hf c1
    refine lv_iload_n hx hb dX5_isNoPercent_4 rfl (lv_at hl 0 rfl) ?_
    refine lv_bipush (v := 100) hx hb dX5_isNoPercent_5 (by decide) ?_
    refine lv_icmp_le (tgt := 14) hx hb dX5_isNoPercent_7 (by decide) (fun c2 => ?_) (fun c2 => ?_)
    · have hf := it_e hf c2
      refine lv_iconst (v := 0) hx hb dX5_isNoPercent_14 (by decide) ?_
      exact r_iretR X hW rfl rfl hf dX5_isNoPercent_15
    · have hf := ie_e hf c2
      refine lv_iconst (v := 1) hx hb dX5_isNoPercent_10 (by decide) ?_
      refine lv_goto (tgt := 15) hx hb dX5_isNoPercent_11 (by decide) ?_
      exact r_iretR X hW rfl rfl hf dX5_isNoPercent_15

abbrev rm_X5_powerOfNine : Room := { frames := 0, cells := 0, slots := 0, locals := 0 }
theorem hd_X5_powerOfNine : yX5_powerOfNine.cls = RX5 ∧ yX5_powerOfNine.cls ≠ "java/lang/invoke/MethodHandle" ∧ yX5_powerOfNine.cls ≠ "java/lang/invoke/VarHandle" ∧ (parseMethodDescriptor yX5_powerOfNine.desc).map (fun d => d.parameters.length) = some 1 := by decide +kernel
section S_X5_powerOfNine
variable {p : Program} {l : Launch} {e : Env} {s : State} {m : MethodId} {args : Array Value} {below : List Frame} {meth : Method} {c : Code} {D : va_G} {cA : Nat → ClassId} {ad : Nat → Nat} {r : Int64}
noncomputable def f_X5_powerOfNine_4 (k21 : Int64 → Option (Int64)) : Nat → Int32 → Int64 → Int32 → Option (Int64)
  | 0, _, _, _ => none
  | n + 1, v0, v1, v3 => (if v0 ≤ v3 then k21 v1 else nw (v1 * 9 : Int64) fun v102 => nw (v3 + 1 : Int32) fun v103 => f_X5_powerOfNine_4 k21 n v0 v102 v103)
set_option maxHeartbeats 4000000 in
set_option maxRecDepth 100000 in
theorem b_X5_powerOfNine_4 {σ : St} {k21 : Int64 → Option (Int64)} (X : Cx RX5 wsX5_powerOfNine cX5_powerOfNine 4 (some .long) D cA ad SC p s m args meth c) (h21 : ∀ (w0 : Int64) (H : Heap) (locs : List Loc) (ls : Array Slot), k21 w0 = some r → Rn D cA ad SC s.heap σ H locs → lv_has ls 4 [(1, .long w0)] → W p l e rm_X5_powerOfNine s m args below meth c H locs 0 0 (MQ below (Ql D cA ad SC (r, σ)) args s 0 0 (Aw ad SC)) (F0 m 21 ls [])) : ∀ (n : Nat) (v0 : Int32) (v1 : Int64) (v3 : Int32) (H : Heap) (locs : List Loc) (ls : Array Slot), f_X5_powerOfNine_4 k21 n v0 v1 v3 = some r → Rn D cA ad SC s.heap σ H locs → lv_has ls 4 [(0, .int v0), (1, .long v1), (3, .int v3)] → W p l e rm_X5_powerOfNine s m args below meth c H locs 0 0 (MQ below (Ql D cA ad SC (r, σ)) args s 0 0 (Aw ad SC)) (F0 m 4 ls []) := by
  obtain ⟨hx, hb, hml, hown, hts, hr, hlk, hK, hij⟩ := id X
  intro n
  induction n with
  | zero =>
    intro v0 v1 v3 H locs ls hf
    exact nomatch (show (none : Option (Int64)) = some r from hf)
  | succ n ih =>
    intro v0 v1 v3 H locs ls hf hW hl
    rw [f_X5_powerOfNine_4] at hf
    refine lv_iload_n hx hb dX5_powerOfNine_4 rfl (lv_at hl 2 rfl) ?_
    refine lv_iload_n hx hb dX5_powerOfNine_5 rfl (lv_at hl 0 rfl) ?_
    refine lv_icmp_ge (tgt := 21) hx hb dX5_powerOfNine_6 (by decide) (fun c1 => ?_) (fun c1 => ?_)
    · have hf := it_e hf c1
      exact h21 v1 _ _ _ hf hW (lv_sub hl [1] rfl)
    · have hf := ie_e hf c1
      refine lv_lload_n hx hb dX5_powerOfNine_9 rfl (lv_at hl 1 rfl) ?_
      refine lv_ldc2 (v := 9) hx hb hown (hts _ (List.mem_of_getElem? (i := 1) rfl)) dX5_powerOfNine_10 ?_
      refine lv_lmul hx hb dX5_powerOfNine_13 ?_
      obtain ⟨v102, e2, hf⟩ := nw_e hf
      refine tL _ e2 ?_
      refine lv_lstore_n (lv' := [(1, .long v102), (0, .int v0), (3, .int v3)]) hx hb dX5_powerOfNine_14 rfl hl (by decide) rfl (fun ls hl => ?_)
      obtain ⟨v103, e3, hf⟩ := nw_e hf
      refine lv_iinc (v := v103) (lv' := [(3, .int v103), (1, .long v102), (0, .int v0)]) hx hb dX5_powerOfNine_15 hl (k := 2) rfl (by rw [e3]; rfl) (by decide) rfl (fun ls hl => ?_)
      refine lv_goto (tgt := 4) hx hb dX5_powerOfNine_18 (by decide) ?_
      exact ih v0 v102 v103 _ _ _ hf hW (lv_sub hl [2, 1, 0] rfl)
end S_X5_powerOfNine
noncomputable def f_X5_powerOfNine (a0 : Int32) : Option (Int64) := f_X5_powerOfNine_4 (fun (w4_0 : Int64) => some w4_0) fu a0 1 0
set_option maxHeartbeats 4000000 in
set_option maxRecDepth 100000 in
theorem c_X5_powerOfNine (l : Launch) (D : va_G) (cA : Nat → ClassId) (ad : Nat → Nat) (hij : Ij ad SC) (σ : St) (a0 : Int32) (r : Int64) (hf : f_X5_powerOfNine a0 = some r) : Met l yX5_powerOfNine wsX5_powerOfNine rm_X5_powerOfNine (PC D cA ad SC [.int a0] σ) (Ql D cA ad SC (r, σ)) 0 0 (Aw ad SC) := by
  rw [f_X5_powerOfNine] at hf
  refine k_head (own := RX5) (ws := wsX5_powerOfNine) (cc := cX5_powerOfNine) (nL := 4) (ret := (some .long)) pn_X5 rfl rfl hij (Nat.le_of_ble_eq_true rfl) (fun p e s m below meth c ls X hW hl => ?_)
  have hl : lv_has ls 4 [(0, .int a0)] := hl
  obtain ⟨hx, hb, hml, hown, hts, hr, hlk, hK, hij⟩ := id X
  refine lv_lconst (v := 1) hx hb dX5_powerOfNine_0 (by decide) ?_
  refine lv_lstore_n (lv' := [(1, .long 1), (0, .int a0)]) hx hb dX5_powerOfNine_1 rfl hl (by decide) rfl (fun ls hl => ?_)
  refine lv_iconst (v := 0) hx hb dX5_powerOfNine_2 (by decide) ?_
  refine lv_istore_n (lv' := [(3, .int 0), (1, .long 1), (0, .int a0)]) hx hb dX5_powerOfNine_3 rfl hl (by decide) rfl (fun ls hl => ?_)
  refine b_X5_powerOfNine_4 X (fun w4_0 H locs ls hf hW hl => ?_) fu a0 1 0 _ _ _ hf hW (lv_sub hl [2, 1, 0] rfl)
  · refine lv_lload_n hx hb dX5_powerOfNine_21 rfl (lv_at hl 0 rfl) ?_
    exact r_lretR X hW rfl hf dX5_powerOfNine_22

abbrev rm_X5_isNoHundredth : Room := { frames := 0, cells := 0, slots := 0, locals := 0 }
theorem hd_X5_isNoHundredth : yX5_isNoHundredth.cls = RX5 ∧ yX5_isNoHundredth.cls ≠ "java/lang/invoke/MethodHandle" ∧ yX5_isNoHundredth.cls ≠ "java/lang/invoke/VarHandle" ∧ (parseMethodDescriptor yX5_isNoHundredth.desc).map (fun d => d.parameters.length) = some 1 := by decide +kernel
section S_X5_isNoHundredth
variable {p : Program} {l : Launch} {e : Env} {s : State} {m : MethodId} {args : Array Value} {below : List Frame} {meth : Method} {c : Code} {D : va_G} {cA : Nat → ClassId} {ad : Nat → Nat} {r : Int32}
end S_X5_isNoHundredth
noncomputable def f_X5_isNoHundredth (a0 : Int32) : Option (Int32) := (if a0 < 1 then some 1 else (if a0 ≤ 100 then some 0 else some 1))
set_option maxHeartbeats 4000000 in
set_option maxRecDepth 100000 in
theorem c_X5_isNoHundredth (l : Launch) (D : va_G) (cA : Nat → ClassId) (ad : Nat → Nat) (hij : Ij ad SC) (σ : St) (a0 : Int32) (r : Int32) (hf : f_X5_isNoHundredth a0 = some r) : Met l yX5_isNoHundredth wsX5_isNoHundredth rm_X5_isNoHundredth (PC D cA ad SC [.int a0] σ) (Qi D cA ad SC (r, σ)) 0 0 (Aw ad SC) := by
  rw [f_X5_isNoHundredth] at hf
  refine k_head (own := RX5) (ws := wsX5_isNoHundredth) (cc := cX5_isNoHundredth) (nL := 1) (ret := (some .boolean)) pn_X5 rfl rfl hij (Nat.le_of_ble_eq_true rfl) (fun p e s m below meth c ls X hW hl => ?_)
  have hl : lv_has ls 1 [(0, .int a0)] := hl
  obtain ⟨hx, hb, hml, hown, hts, hr, hlk, hK, hij⟩ := id X
  refine lv_iload_n hx hb dX5_isNoHundredth_0 rfl (lv_at hl 0 rfl) ?_
  refine lv_iconst (v := 1) hx hb dX5_isNoHundredth_1 (by decide) ?_
  refine lv_icmp_lt (tgt := 11) hx hb dX5_isNoHundredth_2 (by decide) (fun c1 => ?_) (fun c1 => ?_)
  · have hf := it_e hf c1
    refine lv_iconst (v := 1) hx hb dX5_isNoHundredth_11 (by decide) ?_
    refine lv_goto (tgt := 16) hx hb dX5_isNoHundredth_12 (by decide) ?_
    exact r_iretR X hW rfl rfl hf dX5_isNoHundredth_16
  · have hf := ie_e hf c1
    refine lv_iload_n hx hb dX5_isNoHundredth_5 rfl (lv_at hl 0 rfl) ?_
    refine lv_bipush (v := 100) hx hb dX5_isNoHundredth_6 (by decide) ?_
    refine lv_icmp_le (tgt := 15) hx hb dX5_isNoHundredth_8 (by decide) (fun c2 => ?_) (fun c2 => ?_)
    · have hf := it_e hf c2
      refine lv_iconst (v := 0) hx hb dX5_isNoHundredth_15 (by decide) ?_
      exact r_iretR X hW rfl rfl hf dX5_isNoHundredth_16
    · have hf := ie_e hf c2
      refine lv_iconst (v := 1) hx hb dX5_isNoHundredth_11 (by decide) ?_
      refine lv_goto (tgt := 16) hx hb dX5_isNoHundredth_12 (by decide) ?_
      exact r_iretR X hW rfl rfl hf dX5_isNoHundredth_16

abbrev rm_X5_isNoBans : Room := { frames := 0, cells := 0, slots := 0, locals := 0 }
theorem hd_X5_isNoBans : yX5_isNoBans.cls = RX5 ∧ yX5_isNoBans.cls ≠ "java/lang/invoke/MethodHandle" ∧ yX5_isNoBans.cls ≠ "java/lang/invoke/VarHandle" ∧ (parseMethodDescriptor yX5_isNoBans.desc).map (fun d => d.parameters.length) = some 1 := by decide +kernel
section S_X5_isNoBans
variable {p : Program} {l : Launch} {e : Env} {s : State} {m : MethodId} {args : Array Value} {below : List Frame} {meth : Method} {c : Code} {D : va_G} {cA : Nat → ClassId} {ad : Nat → Nat} {r : Int32}
end S_X5_isNoBans
noncomputable def f_X5_isNoBans (a0 : Int32) : Option (Int32) := (if a0 < 0 then some 1 else (if a0 ≤ 15 then some 0 else some 1))
set_option maxHeartbeats 4000000 in
set_option maxRecDepth 100000 in
theorem c_X5_isNoBans (l : Launch) (D : va_G) (cA : Nat → ClassId) (ad : Nat → Nat) (hij : Ij ad SC) (σ : St) (a0 : Int32) (r : Int32) (hf : f_X5_isNoBans a0 = some r) : Met l yX5_isNoBans wsX5_isNoBans rm_X5_isNoBans (PC D cA ad SC [.int a0] σ) (Qi D cA ad SC (r, σ)) 0 0 (Aw ad SC) := by
  rw [f_X5_isNoBans] at hf
  refine k_head (own := RX5) (ws := wsX5_isNoBans) (cc := cX5_isNoBans) (nL := 1) (ret := (some .boolean)) pn_X5 rfl rfl hij (Nat.le_of_ble_eq_true rfl) (fun p e s m below meth c ls X hW hl => ?_)
  have hl : lv_has ls 1 [(0, .int a0)] := hl
  obtain ⟨hx, hb, hml, hown, hts, hr, hlk, hK, hij⟩ := id X
  refine lv_iload_n hx hb dX5_isNoBans_0 rfl (lv_at hl 0 rfl) ?_
  refine lv_if_lt (tgt := 10) hx hb dX5_isNoBans_1 (by decide) (fun c1 => ?_) (fun c1 => ?_)
  · have hf := it_e hf c1
    refine lv_iconst (v := 1) hx hb dX5_isNoBans_10 (by decide) ?_
    refine lv_goto (tgt := 15) hx hb dX5_isNoBans_11 (by decide) ?_
    exact r_iretR X hW rfl rfl hf dX5_isNoBans_15
  · have hf := ie_e hf c1
    refine lv_iload_n hx hb dX5_isNoBans_4 rfl (lv_at hl 0 rfl) ?_
    refine lv_bipush (v := 15) hx hb dX5_isNoBans_5 (by decide) ?_
    refine lv_icmp_le (tgt := 14) hx hb dX5_isNoBans_7 (by decide) (fun c2 => ?_) (fun c2 => ?_)
    · have hf := it_e hf c2
      refine lv_iconst (v := 0) hx hb dX5_isNoBans_14 (by decide) ?_
      exact r_iretR X hW rfl rfl hf dX5_isNoBans_15
    · have hf := ie_e hf c2
      refine lv_iconst (v := 1) hx hb dX5_isNoBans_10 (by decide) ?_
      refine lv_goto (tgt := 15) hx hb dX5_isNoBans_11 (by decide) ?_
      exact r_iretR X hW rfl rfl hf dX5_isNoBans_15

abbrev rm_X5_codesOf : Room := { frames := 0, cells := 0, slots := 0, locals := 0 }
theorem hd_X5_codesOf : yX5_codesOf.cls = RX5 ∧ yX5_codesOf.cls ≠ "java/lang/invoke/MethodHandle" ∧ yX5_codesOf.cls ≠ "java/lang/invoke/VarHandle" ∧ (parseMethodDescriptor yX5_codesOf.desc).map (fun d => d.parameters.length) = some 1 := by decide +kernel
section S_X5_codesOf
variable {p : Program} {l : Launch} {e : Env} {s : State} {m : MethodId} {args : Array Value} {below : List Frame} {meth : Method} {c : Code} {D : va_G} {cA : Nat → ClassId} {ad : Nat → Nat} {r : Int32}
end S_X5_codesOf
noncomputable def f_X5_codesOf (a0 : Int32) : Option (Int32) := some (1 <<< ((3 * a0) &&& 31))
set_option maxHeartbeats 4000000 in
set_option maxRecDepth 100000 in
theorem c_X5_codesOf (l : Launch) (D : va_G) (cA : Nat → ClassId) (ad : Nat → Nat) (hij : Ij ad SC) (σ : St) (a0 : Int32) (r : Int32) (hf : f_X5_codesOf a0 = some r) : Met l yX5_codesOf wsX5_codesOf rm_X5_codesOf (PC D cA ad SC [.int a0] σ) (Qi D cA ad SC (r, σ)) 0 0 (Aw ad SC) := by
  rw [f_X5_codesOf] at hf
  refine k_head (own := RX5) (ws := wsX5_codesOf) (cc := cX5_codesOf) (nL := 1) (ret := (some .int)) pn_X5 rfl rfl hij (Nat.le_of_ble_eq_true rfl) (fun p e s m below meth c ls X hW hl => ?_)
  have hl : lv_has ls 1 [(0, .int a0)] := hl
  obtain ⟨hx, hb, hml, hown, hts, hr, hlk, hK, hij⟩ := id X
  refine lv_iconst (v := 1) hx hb dX5_codesOf_0 (by decide) ?_
  refine lv_iconst (v := 3) hx hb dX5_codesOf_1 (by decide) ?_
  refine lv_iload_n hx hb dX5_codesOf_2 rfl (lv_at hl 0 rfl) ?_
  refine lv_imul hx hb dX5_codesOf_3 ?_
  refine lv_ishl hx hb dX5_codesOf_4 ?_
  exact r_iretR X hW rfl rfl hf dX5_codesOf_5

abbrev rm_X5_nextSeed : Room := { frames := 0, cells := 0, slots := 0, locals := 0 }
theorem hd_X5_nextSeed : yX5_nextSeed.cls = RX5 ∧ yX5_nextSeed.cls ≠ "java/lang/invoke/MethodHandle" ∧ yX5_nextSeed.cls ≠ "java/lang/invoke/VarHandle" ∧ (parseMethodDescriptor yX5_nextSeed.desc).map (fun d => d.parameters.length) = some 1 := by decide +kernel
section S_X5_nextSeed
variable {p : Program} {l : Launch} {e : Env} {s : State} {m : MethodId} {args : Array Value} {below : List Frame} {meth : Method} {c : Code} {D : va_G} {cA : Nat → ClassId} {ad : Nat → Nat} {r : Int32}
end S_X5_nextSeed
noncomputable def f_X5_nextSeed (a0 : Int32) : Option (Int32) := some ((a0 * 1103515245) + 12345)
set_option maxHeartbeats 4000000 in
set_option maxRecDepth 100000 in
theorem c_X5_nextSeed (l : Launch) (D : va_G) (cA : Nat → ClassId) (ad : Nat → Nat) (hij : Ij ad SC) (σ : St) (a0 : Int32) (r : Int32) (hf : f_X5_nextSeed a0 = some r) : Met l yX5_nextSeed wsX5_nextSeed rm_X5_nextSeed (PC D cA ad SC [.int a0] σ) (Qi D cA ad SC (r, σ)) 0 0 (Aw ad SC) := by
  rw [f_X5_nextSeed] at hf
  refine k_head (own := RX5) (ws := wsX5_nextSeed) (cc := cX5_nextSeed) (nL := 1) (ret := (some .int)) pn_X5 rfl rfl hij (Nat.le_of_ble_eq_true rfl) (fun p e s m below meth c ls X hW hl => ?_)
  have hl : lv_has ls 1 [(0, .int a0)] := hl
  obtain ⟨hx, hb, hml, hown, hts, hr, hlk, hK, hij⟩ := id X
  refine lv_iload_n hx hb dX5_nextSeed_0 rfl (lv_at hl 0 rfl) ?_
  refine lv_ldcw (v := 1103515245) hx hb hown (hts _ (List.mem_of_getElem? (i := 1) rfl)) dX5_nextSeed_1 ?_
  refine lv_imul hx hb dX5_nextSeed_4 ?_
  refine lv_sipush (v := 12345) hx hb dX5_nextSeed_5 (by decide) ?_
  refine lv_iadd hx hb dX5_nextSeed_8 ?_
  exact r_iretR X hW rfl rfl hf dX5_nextSeed_9

abbrev rm_X5_drawOf : Room := { frames := 0, cells := 0, slots := 0, locals := 0 }
theorem hd_X5_drawOf : yX5_drawOf.cls = RX5 ∧ yX5_drawOf.cls ≠ "java/lang/invoke/MethodHandle" ∧ yX5_drawOf.cls ≠ "java/lang/invoke/VarHandle" ∧ (parseMethodDescriptor yX5_drawOf.desc).map (fun d => d.parameters.length) = some 1 := by decide +kernel
section S_X5_drawOf
variable {p : Program} {l : Launch} {e : Env} {s : State} {m : MethodId} {args : Array Value} {below : List Frame} {meth : Method} {c : Code} {D : va_G} {cA : Nat → ClassId} {ad : Nat → Nat} {r : Int32}
end S_X5_drawOf
noncomputable def f_X5_drawOf (a0 : Int32) : Option (Int32) := some ((a0 &&& 2147483647) / 65536)
set_option maxHeartbeats 4000000 in
set_option maxRecDepth 100000 in
theorem c_X5_drawOf (l : Launch) (D : va_G) (cA : Nat → ClassId) (ad : Nat → Nat) (hij : Ij ad SC) (σ : St) (a0 : Int32) (r : Int32) (hf : f_X5_drawOf a0 = some r) : Met l yX5_drawOf wsX5_drawOf rm_X5_drawOf (PC D cA ad SC [.int a0] σ) (Qi D cA ad SC (r, σ)) 0 0 (Aw ad SC) := by
  rw [f_X5_drawOf] at hf
  refine k_head (own := RX5) (ws := wsX5_drawOf) (cc := cX5_drawOf) (nL := 1) (ret := (some .int)) pn_X5 rfl rfl hij (Nat.le_of_ble_eq_true rfl) (fun p e s m below meth c ls X hW hl => ?_)
  have hl : lv_has ls 1 [(0, .int a0)] := hl
  obtain ⟨hx, hb, hml, hown, hts, hr, hlk, hK, hij⟩ := id X
  refine lv_iload_n hx hb dX5_drawOf_0 rfl (lv_at hl 0 rfl) ?_
  refine lv_ldcw (v := 2147483647) hx hb hown (hts _ (List.mem_of_getElem? (i := 1) rfl)) dX5_drawOf_1 ?_
  refine lv_iand hx hb dX5_drawOf_4 ?_
  refine lv_ldcw (v := 65536) hx hb hown (hts _ (List.mem_of_getElem? (i := 2) rfl)) dX5_drawOf_5 ?_
  refine lv_idiv hx hb dX5_drawOf_8 (by decide) ?_
  exact r_iretR X hW rfl rfl hf dX5_drawOf_9

abbrev rm_X5_priceOf : Room := { frames := 0, cells := 0, slots := 0, locals := 0 }
theorem hd_X5_priceOf : yX5_priceOf.cls = RX5 ∧ yX5_priceOf.cls ≠ "java/lang/invoke/MethodHandle" ∧ yX5_priceOf.cls ≠ "java/lang/invoke/VarHandle" ∧ (parseMethodDescriptor yX5_priceOf.desc).map (fun d => d.parameters.length) = some 2 := by decide +kernel
section S_X5_priceOf
variable {p : Program} {l : Launch} {e : Env} {s : State} {m : MethodId} {args : Array Value} {below : List Frame} {meth : Method} {c : Code} {D : va_G} {cA : Nat → ClassId} {ad : Nat → Nat} {r : Int32}
end S_X5_priceOf
noncomputable def f_X5_priceOf (a0 : Int32) (a1 : Int32) : Option (Int32) := nw (3 + a1 : Int32) fun v101 => nw (3 + 4 : Int32) fun v102 => (if a0 = 1 then some v101 else (if a0 = 2 then some (2 * 3) else (if a0 = 3 then some v102 else (if a0 = 4 then some (3 - 2) else (if a0 = 5 then some (v101 + 2) else (if a0 = 6 then some (v102 * (a1 + 1)) else (if a0 = 7 then some (v101 - 1) else some 3)))))))
set_option maxHeartbeats 4000000 in
set_option maxRecDepth 100000 in
theorem c_X5_priceOf (l : Launch) (D : va_G) (cA : Nat → ClassId) (ad : Nat → Nat) (hij : Ij ad SC) (σ : St) (a0 : Int32) (a1 : Int32) (r : Int32) (hf : f_X5_priceOf a0 a1 = some r) : Met l yX5_priceOf wsX5_priceOf rm_X5_priceOf (PC D cA ad SC [.int a0, .int a1] σ) (Qi D cA ad SC (r, σ)) 0 0 (Aw ad SC) := by
  rw [f_X5_priceOf] at hf
  refine k_head (own := RX5) (ws := wsX5_priceOf) (cc := cX5_priceOf) (nL := 5) (ret := (some .int)) pn_X5 rfl rfl hij (Nat.le_of_ble_eq_true rfl) (fun p e s m below meth c ls X hW hl => ?_)
  have hl : lv_has ls 5 [(0, .int a0), (1, .int a1)] := hl
  obtain ⟨hx, hb, hml, hown, hts, hr, hlk, hK, hij⟩ := id X
  refine lv_iconst (v := 3) hx hb dX5_priceOf_0 (by decide) ?_
  refine lv_istore_n (lv' := [(2, .int 3), (0, .int a0), (1, .int a1)]) hx hb dX5_priceOf_1 rfl hl (by decide) rfl (fun ls hl => ?_)
  refine lv_iload_n hx hb dX5_priceOf_2 rfl (lv_at hl 0 rfl) ?_
  refine lv_iload_n hx hb dX5_priceOf_3 rfl (lv_at hl 2 rfl) ?_
  refine lv_iadd hx hb dX5_priceOf_4 ?_
  obtain ⟨v101, e1, hf⟩ := nw_e hf
  refine tI _ e1 ?_
  refine lv_istore_n (lv' := [(3, .int v101), (2, .int 3), (0, .int a0), (1, .int a1)]) hx hb dX5_priceOf_5 rfl hl (by decide) rfl (fun ls hl => ?_)
  refine lv_iload_n hx hb dX5_priceOf_6 rfl (lv_at hl 1 rfl) ?_
  refine lv_iconst (v := 4) hx hb dX5_priceOf_7 (by decide) ?_
  refine lv_iadd hx hb dX5_priceOf_8 ?_
  obtain ⟨v102, e2, hf⟩ := nw_e hf
  refine tI _ e2 ?_
  refine lv_istore (lv' := [(4, .int v102), (3, .int v101), (2, .int 3), (0, .int a0), (1, .int a1)]) hx hb dX5_priceOf_9 hl (by decide) rfl (fun ls hl => ?_)
  refine lv_iload_n hx hb dX5_priceOf_11 rfl (lv_at hl 3 rfl) ?_
  by_cases c3 : a0 = 1
  · have hf := it_e hf c3
    refine lv_tableIn (tgt := 56) hx hb dX5_priceOf_12 (by rw [c3]; decide) (by rw [c3]; decide) (by rw [c3]; rfl) (by decide) ?_
    refine lv_iload_n hx hb dX5_priceOf_56 rfl (lv_at hl 1 rfl) ?_
    exact r_iretR X hW rfl rfl hf dX5_priceOf_57
  · have hf := ie_e hf c3
    by_cases c4 : a0 = 2
    · have hf := it_e hf c4
      refine lv_tableIn (tgt := 58) hx hb dX5_priceOf_12 (by rw [c4]; decide) (by rw [c4]; decide) (by rw [c4]; rfl) (by decide) ?_
      refine lv_iconst (v := 2) hx hb dX5_priceOf_58 (by decide) ?_
      refine lv_iload_n hx hb dX5_priceOf_59 rfl (lv_at hl 2 rfl) ?_
      refine lv_imul hx hb dX5_priceOf_60 ?_
      exact r_iretR X hW rfl rfl hf dX5_priceOf_61
    · have hf := ie_e hf c4
      by_cases c5 : a0 = 3
      · have hf := it_e hf c5
        refine lv_tableIn (tgt := 62) hx hb dX5_priceOf_12 (by rw [c5]; decide) (by rw [c5]; decide) (by rw [c5]; rfl) (by decide) ?_
        refine lv_iload hx hb dX5_priceOf_62 (lv_at hl 0 rfl) ?_
        exact r_iretR X hW rfl rfl hf dX5_priceOf_64
      · have hf := ie_e hf c5
        by_cases c6 : a0 = 4
        · have hf := it_e hf c6
          refine lv_tableIn (tgt := 65) hx hb dX5_priceOf_12 (by rw [c6]; decide) (by rw [c6]; decide) (by rw [c6]; rfl) (by decide) ?_
          refine lv_iload_n hx hb dX5_priceOf_65 rfl (lv_at hl 2 rfl) ?_
          refine lv_iconst (v := 2) hx hb dX5_priceOf_66 (by decide) ?_
          refine lv_isub hx hb dX5_priceOf_67 ?_
          exact r_iretR X hW rfl rfl hf dX5_priceOf_68
        · have hf := ie_e hf c6
          by_cases c7 : a0 = 5
          · have hf := it_e hf c7
            refine lv_tableIn (tgt := 69) hx hb dX5_priceOf_12 (by rw [c7]; decide) (by rw [c7]; decide) (by rw [c7]; rfl) (by decide) ?_
            refine lv_iload_n hx hb dX5_priceOf_69 rfl (lv_at hl 1 rfl) ?_
            refine lv_iconst (v := 2) hx hb dX5_priceOf_70 (by decide) ?_
            refine lv_iadd hx hb dX5_priceOf_71 ?_
            exact r_iretR X hW rfl rfl hf dX5_priceOf_72
          · have hf := ie_e hf c7
            by_cases c8 : a0 = 6
            · have hf := it_e hf c8
              refine lv_tableIn (tgt := 73) hx hb dX5_priceOf_12 (by rw [c8]; decide) (by rw [c8]; decide) (by rw [c8]; rfl) (by decide) ?_
              refine lv_iload hx hb dX5_priceOf_73 (lv_at hl 0 rfl) ?_
              refine lv_iload_n hx hb dX5_priceOf_75 rfl (lv_at hl 4 rfl) ?_
              refine lv_iconst (v := 1) hx hb dX5_priceOf_76 (by decide) ?_
              refine lv_iadd hx hb dX5_priceOf_77 ?_
              refine lv_imul hx hb dX5_priceOf_78 ?_
              exact r_iretR X hW rfl rfl hf dX5_priceOf_79
            · have hf := ie_e hf c8
              by_cases c9 : a0 = 7
              · have hf := it_e hf c9
                refine lv_tableIn (tgt := 80) hx hb dX5_priceOf_12 (by rw [c9]; decide) (by rw [c9]; decide) (by rw [c9]; rfl) (by decide) ?_
                refine lv_iload_n hx hb dX5_priceOf_80 rfl (lv_at hl 1 rfl) ?_
                refine lv_iconst (v := 1) hx hb dX5_priceOf_81 (by decide) ?_
                refine lv_isub hx hb dX5_priceOf_82 ?_
                exact r_iretR X hW rfl rfl hf dX5_priceOf_83
              · have hf := ie_e hf c9
                refine lv_tableOut (tgt := 84) hx hb dX5_priceOf_12 (by have z0 := lv_neT c3 (a := 1) (by decide); have z1 := lv_neT c4 (a := 2) (by decide); have z2 := lv_neT c5 (a := 3) (by decide); have z3 := lv_neT c6 (a := 4) (by decide); have z4 := lv_neT c7 (a := 5) (by decide); have z5 := lv_neT c8 (a := 6) (by decide); have z6 := lv_neT c9 (a := 7) (by decide); omega) (by decide) ?_
                refine lv_iload_n hx hb dX5_priceOf_84 rfl (lv_at hl 2 rfl) ?_
                exact r_iretR X hW rfl rfl hf dX5_priceOf_85

abbrev rm_X5_firstKind : Room := { frames := 1, cells := 0, slots := 0, locals := 21 }
theorem hd_X5_firstKind : yX5_firstKind.cls = RX5 ∧ yX5_firstKind.cls ≠ "java/lang/invoke/MethodHandle" ∧ yX5_firstKind.cls ≠ "java/lang/invoke/VarHandle" ∧ (parseMethodDescriptor yX5_firstKind.desc).map (fun d => d.parameters.length) = some 2 := by decide +kernel
section S_X5_firstKind
variable {p : Program} {l : Launch} {e : Env} {s : State} {m : MethodId} {args : Array Value} {below : List Frame} {meth : Method} {c : Code} {D : va_G} {cA : Nat → ClassId} {ad : Nat → Nat} {r : Int32}
end S_X5_firstKind
noncomputable def f_X5_firstKind (a0 : Int32) (a1 : Int32) : Option (Int32) := (if a1 = 0 then some ((-4)) else bnd (f_X5_kindIn a0 (a1 - 1)) fun r2 => some r2)
set_option maxHeartbeats 4000000 in
set_option maxRecDepth 100000 in
theorem c_X5_firstKind (l : Launch) (D : va_G) (cA : Nat → ClassId) (ad : Nat → Nat) (hij : Ij ad SC) (σ : St) (a0 : Int32) (a1 : Int32) (r : Int32) (hf : f_X5_firstKind a0 a1 = some r) : Met l yX5_firstKind wsX5_firstKind rm_X5_firstKind (PC D cA ad SC [.int a0, .int a1] σ) (Qi D cA ad SC (r, σ)) 0 0 (Aw ad SC) := by
  rw [f_X5_firstKind] at hf
  refine k_head (own := RX5) (ws := wsX5_firstKind) (cc := cX5_firstKind) (nL := 2) (ret := (some .int)) pn_X5 rfl rfl hij (Nat.le_of_ble_eq_true rfl) (fun p e s m below meth c ls X hW hl => ?_)
  have hl : lv_has ls 2 [(0, .int a0), (1, .int a1)] := hl
  obtain ⟨hx, hb, hml, hown, hts, hr, hlk, hK, hij⟩ := id X
  refine lv_iload_n hx hb dX5_firstKind_0 rfl (lv_at hl 1 rfl) ?_
  refine lv_if_ne (tgt := 9) hx hb dX5_firstKind_1 (by decide) (fun c1 => ?_) (fun c1 => ?_)
  · have hf := ie_e hf c1
    refine lv_iload_n hx hb dX5_firstKind_9 rfl (lv_at hl 0 rfl) ?_
    refine lv_iload_n hx hb dX5_firstKind_10 rfl (lv_at hl 1 rfl) ?_
    refine lv_iconst (v := 1) hx hb dX5_firstKind_11 (by decide) ?_
    refine lv_isub hx hb dX5_firstKind_12 ?_
    obtain ⟨r2, z2, hf⟩ := bnd_e hf
    refine r_cSiR X hW (c_X5_kindIn l D cA ad hij σ a0 (a1 - 1) r2 z2) gX5_firstKind_X5_kindIn rfl ⟨rfl, rfl⟩ hd_X5_kindIn ⟨Nat.le_of_ble_eq_true rfl, Nat.le_of_ble_eq_true rfl⟩ rfl (Nat.le_of_ble_eq_true rfl) hl.1 dX5_firstKind_13 (fun H locs hW => ?_)
    exact r_iretR X hW rfl rfl hf dX5_firstKind_16
  · have hf := it_e hf c1
    refine lv_bipush (v := (-4)) hx hb dX5_firstKind_4 (by decide) ?_
    refine lv_goto (tgt := 16) hx hb dX5_firstKind_6 (by decide) ?_
    exact r_iretR X hW rfl rfl hf dX5_firstKind_16

abbrev rm_X5_digitsOf : Room := { frames := 1, cells := 0, slots := 0, locals := 21 }
theorem hd_X5_digitsOf : yX5_digitsOf.cls = RX5 ∧ yX5_digitsOf.cls ≠ "java/lang/invoke/MethodHandle" ∧ yX5_digitsOf.cls ≠ "java/lang/invoke/VarHandle" ∧ (parseMethodDescriptor yX5_digitsOf.desc).map (fun d => d.parameters.length) = some 2 := by decide +kernel
section S_X5_digitsOf
variable {p : Program} {l : Launch} {e : Env} {s : State} {m : MethodId} {args : Array Value} {below : List Frame} {meth : Method} {c : Code} {D : va_G} {cA : Nat → ClassId} {ad : Nat → Nat} {r : Int32}
noncomputable def f_X5_digitsOf_6 (k27 : Int32 → Option (Int32)) : Nat → Int32 → Int32 → Int32 → Option (Int32)
  | 0, _, _, _ => none
  | n + 1, v0, v2, v3 => (if v3 < 0 then k27 v2 else bnd (f_X5_kindIn v0 v3) fun r3 => nw ((10 * v2) + r3 : Int32) fun v104 => nw (v3 + (-1) : Int32) fun v105 => f_X5_digitsOf_6 k27 n v0 v104 v105)
set_option maxHeartbeats 4000000 in
set_option maxRecDepth 100000 in
theorem b_X5_digitsOf_6 {σ : St} {k27 : Int32 → Option (Int32)} (X : Cx RX5 wsX5_digitsOf cX5_digitsOf 4 (some .int) D cA ad SC p s m args meth c) (h27 : ∀ (w0 : Int32) (H : Heap) (locs : List Loc) (ls : Array Slot), k27 w0 = some r → Rn D cA ad SC s.heap σ H locs → lv_has ls 4 [(2, .int w0)] → W p l e rm_X5_digitsOf s m args below meth c H locs 0 0 (MQ below (Qi D cA ad SC (r, σ)) args s 0 0 (Aw ad SC)) (F0 m 27 ls [])) : ∀ (n : Nat) (v0 : Int32) (v2 : Int32) (v3 : Int32) (H : Heap) (locs : List Loc) (ls : Array Slot), f_X5_digitsOf_6 k27 n v0 v2 v3 = some r → Rn D cA ad SC s.heap σ H locs → lv_has ls 4 [(0, .int v0), (2, .int v2), (3, .int v3)] → W p l e rm_X5_digitsOf s m args below meth c H locs 0 0 (MQ below (Qi D cA ad SC (r, σ)) args s 0 0 (Aw ad SC)) (F0 m 6 ls []) := by
  obtain ⟨hx, hb, hml, hown, hts, hr, hlk, hK, hij⟩ := id X
  intro n
  induction n with
  | zero =>
    intro v0 v2 v3 H locs ls hf
    exact nomatch (show (none : Option (Int32)) = some r from hf)
  | succ n ih =>
    intro v0 v2 v3 H locs ls hf hW hl
    rw [f_X5_digitsOf_6] at hf
    refine lv_iload_n hx hb dX5_digitsOf_6 rfl (lv_at hl 2 rfl) ?_
    refine lv_if_lt (tgt := 27) hx hb dX5_digitsOf_7 (by decide) (fun c2 => ?_) (fun c2 => ?_)
    · have hf := it_e hf c2
      exact h27 v2 _ _ _ hf hW (lv_sub hl [1] rfl)
    · have hf := ie_e hf c2
      refine lv_bipush (v := 10) hx hb dX5_digitsOf_10 (by decide) ?_
      refine lv_iload_n hx hb dX5_digitsOf_12 rfl (lv_at hl 1 rfl) ?_
      refine lv_imul hx hb dX5_digitsOf_13 ?_
      refine lv_iload_n hx hb dX5_digitsOf_14 rfl (lv_at hl 0 rfl) ?_
      refine lv_iload_n hx hb dX5_digitsOf_15 rfl (lv_at hl 2 rfl) ?_
      obtain ⟨r3, z3, hf⟩ := bnd_e hf
      refine r_cSiR X hW (c_X5_kindIn l D cA ad hij σ v0 v3 r3 z3) gX5_digitsOf_X5_kindIn rfl ⟨rfl, rfl⟩ hd_X5_kindIn ⟨Nat.le_of_ble_eq_true rfl, Nat.le_of_ble_eq_true rfl⟩ rfl (Nat.le_of_ble_eq_true rfl) hl.1 dX5_digitsOf_16 (fun H locs hW => ?_)
      refine lv_iadd hx hb dX5_digitsOf_19 ?_
      obtain ⟨v104, e4, hf⟩ := nw_e hf
      refine tI _ e4 ?_
      refine lv_istore_n (lv' := [(2, .int v104), (0, .int v0), (3, .int v3)]) hx hb dX5_digitsOf_20 rfl hl (by decide) rfl (fun ls hl => ?_)
      obtain ⟨v105, e5, hf⟩ := nw_e hf
      refine lv_iinc (v := v105) (lv' := [(3, .int v105), (2, .int v104), (0, .int v0)]) hx hb dX5_digitsOf_21 hl (k := 2) rfl (by rw [e5]; rfl) (by decide) rfl (fun ls hl => ?_)
      refine lv_goto (tgt := 6) hx hb dX5_digitsOf_24 (by decide) ?_
      exact ih v0 v104 v105 _ _ _ hf hW (lv_sub hl [2, 1, 0] rfl)
end S_X5_digitsOf
noncomputable def f_X5_digitsOf (a0 : Int32) (a1 : Int32) : Option (Int32) := nw (a1 - 1 : Int32) fun v101 => f_X5_digitsOf_6 (fun (w6_0 : Int32) => some w6_0) fu a0 0 v101
set_option maxHeartbeats 4000000 in
set_option maxRecDepth 100000 in
theorem c_X5_digitsOf (l : Launch) (D : va_G) (cA : Nat → ClassId) (ad : Nat → Nat) (hij : Ij ad SC) (σ : St) (a0 : Int32) (a1 : Int32) (r : Int32) (hf : f_X5_digitsOf a0 a1 = some r) : Met l yX5_digitsOf wsX5_digitsOf rm_X5_digitsOf (PC D cA ad SC [.int a0, .int a1] σ) (Qi D cA ad SC (r, σ)) 0 0 (Aw ad SC) := by
  rw [f_X5_digitsOf] at hf
  refine k_head (own := RX5) (ws := wsX5_digitsOf) (cc := cX5_digitsOf) (nL := 4) (ret := (some .int)) pn_X5 rfl rfl hij (Nat.le_of_ble_eq_true rfl) (fun p e s m below meth c ls X hW hl => ?_)
  have hl : lv_has ls 4 [(0, .int a0), (1, .int a1)] := hl
  obtain ⟨hx, hb, hml, hown, hts, hr, hlk, hK, hij⟩ := id X
  refine lv_iconst (v := 0) hx hb dX5_digitsOf_0 (by decide) ?_
  refine lv_istore_n (lv' := [(2, .int 0), (0, .int a0), (1, .int a1)]) hx hb dX5_digitsOf_1 rfl hl (by decide) rfl (fun ls hl => ?_)
  refine lv_iload_n hx hb dX5_digitsOf_2 rfl (lv_at hl 2 rfl) ?_
  refine lv_iconst (v := 1) hx hb dX5_digitsOf_3 (by decide) ?_
  refine lv_isub hx hb dX5_digitsOf_4 ?_
  obtain ⟨v101, e1, hf⟩ := nw_e hf
  refine tI _ e1 ?_
  refine lv_istore_n (lv' := [(3, .int v101), (2, .int 0), (0, .int a0), (1, .int a1)]) hx hb dX5_digitsOf_5 rfl hl (by decide) rfl (fun ls hl => ?_)
  refine b_X5_digitsOf_6 X (fun w6_0 H locs ls hf hW hl => ?_) fu a0 0 v101 _ _ _ hf hW (lv_sub hl [2, 1, 0] rfl)
  · refine lv_iload_n hx hb dX5_digitsOf_27 rfl (lv_at hl 0 rfl) ?_
    exact r_iretR X hW rfl rfl hf dX5_digitsOf_28

abbrev rm_X4_hasElement : Room := { frames := 0, cells := 0, slots := 0, locals := 0 }
theorem hd_X4_hasElement : yX4_hasElement.cls = RX4 ∧ yX4_hasElement.cls ≠ "java/lang/invoke/MethodHandle" ∧ yX4_hasElement.cls ≠ "java/lang/invoke/VarHandle" ∧ (parseMethodDescriptor yX4_hasElement.desc).map (fun d => d.parameters.length) = some 1 := by decide +kernel
theorem inX4_hasElement_4 : ∀ w ∈ wsX40, w ∈ wsX4_hasElement := fun _ h => List.mem_cons_of_mem _ (List.mem_append_right _ h)
section S_X4_hasElement
variable {p : Program} {l : Launch} {e : Env} {s : State} {m : MethodId} {args : Array Value} {below : List Frame} {meth : Method} {c : Code} {D : va_G} {cA : Nat → ClassId} {ad : Nat → Nat} {r : Int32}
end S_X4_hasElement
noncomputable def f_X4_hasElement (σ : St) (a0 : Nat) (a1 : Int32) : Option (Int32) := (if a1 < 0 then some 0 else chk (kOK SC a0 4) <| (if (σ.1 a0 4) ≤ a1 then some 0 else some 1))
set_option maxHeartbeats 4000000 in
set_option maxRecDepth 100000 in
theorem c_X4_hasElement (l : Launch) (D : va_G) (cA : Nat → ClassId) (ad : Nat → Nat) (hij : Ij ad SC) (σ : St) (a0 : Nat) (a1 : Int32) (r : Int32) (hf : f_X4_hasElement σ a0 a1 = some r) : Met l yX4_hasElement wsX4_hasElement rm_X4_hasElement (PC D cA ad SC [.ref (ad a0), .int a1] σ) (Qi D cA ad SC (r, σ)) 0 0 (Aw ad SC) := by
  rw [f_X4_hasElement] at hf
  refine k_head (own := RX4) (ws := wsX4_hasElement) (cc := cX4_hasElement) (nL := 2) (ret := (some .boolean)) pn_X4 rfl rfl hij (Nat.le_of_ble_eq_true rfl) (fun p e s m below meth c ls X hW hl => ?_)
  have hl : lv_has ls 2 [(0, .ref (ad a0)), (1, .int a1)] := hl
  obtain ⟨hx, hb, hml, hown, hts, hr, hlk, hK, hij⟩ := id X
  refine lv_iload_n hx hb dX4_hasElement_0 rfl (lv_at hl 1 rfl) ?_
  refine lv_if_lt (tgt := 16) hx hb dX4_hasElement_1 (by decide) (fun c1 => ?_) (fun c1 => ?_)
  · have hf := it_e hf c1
    refine lv_iconst (v := 0) hx hb dX4_hasElement_16 (by decide) ?_
    exact r_iretR X hW rfl rfl hf dX4_hasElement_17
  · have hf := ie_e hf c1
    refine lv_iload_n hx hb dX4_hasElement_4 rfl (lv_at hl 1 rfl) ?_
    refine lv_aload_n hx hb dX4_hasElement_5 rfl (lv_at hl 0 rfl) ?_
    obtain ⟨q2, hf⟩ := chk_e hf
    obtain ⟨i2, k2⟩ := kOK_e q2
    refine get_4_4 X hW k2 i2 inX4_hasElement_4 (List.mem_of_getElem? (i := 1) rfl) dX4_hasElement_6 ?_
    refine lv_icmp_ge (tgt := 16) hx hb dX4_hasElement_9 (by decide) (fun c3 => ?_) (fun c3 => ?_)
    · have hf := it_e hf c3
      refine lv_iconst (v := 0) hx hb dX4_hasElement_16 (by decide) ?_
      exact r_iretR X hW rfl rfl hf dX4_hasElement_17
    · have hf := ie_e hf c3
      refine lv_iconst (v := 1) hx hb dX4_hasElement_12 (by decide) ?_
      refine lv_goto (tgt := 17) hx hb dX4_hasElement_13 (by decide) ?_
      exact r_iretR X hW rfl rfl hf dX4_hasElement_17

abbrev rm_X4_elementOr : Room := { frames := 1, cells := 0, slots := 0, locals := 21 }
theorem hd_X4_elementOr : yX4_elementOr.cls = RX4 ∧ yX4_elementOr.cls ≠ "java/lang/invoke/MethodHandle" ∧ yX4_elementOr.cls ≠ "java/lang/invoke/VarHandle" ∧ (parseMethodDescriptor yX4_elementOr.desc).map (fun d => d.parameters.length) = some 2 := by decide +kernel
theorem inX4_elementOr_4 : ∀ w ∈ wsX40, w ∈ wsX4_elementOr := fun _ h => List.mem_cons_of_mem _ (List.mem_append_right _ h)
section S_X4_elementOr
variable {p : Program} {l : Launch} {e : Env} {s : State} {m : MethodId} {args : Array Value} {below : List Frame} {meth : Method} {c : Code} {D : va_G} {cA : Nat → ClassId} {ad : Nat → Nat} {r : Int32}
end S_X4_elementOr
noncomputable def f_X4_elementOr (σ : St) (a0 : Nat) (a1 : Int32) (a2 : Int32) : Option (Int32) := chk (kOK SC a0 4) <| bnd (f_X4_hasElement σ a0 a1) fun r1 => (if r1 = 0 then some a2 else chk (aOK SC (a0 + 1) 20 100) <| chk (inb a1 100) <| some (σ.1 (a0 + 1) a1.toNatClampNeg))
set_option maxHeartbeats 4000000 in
set_option maxRecDepth 100000 in
theorem c_X4_elementOr (l : Launch) (D : va_G) (cA : Nat → ClassId) (ad : Nat → Nat) (hij : Ij ad SC) (σ : St) (a0 : Nat) (a1 : Int32) (a2 : Int32) (r : Int32) (hf : f_X4_elementOr σ a0 a1 a2 = some r) : Met l yX4_elementOr wsX4_elementOr rm_X4_elementOr (PC D cA ad SC [.ref (ad a0), .int a1, .int a2] σ) (Qi D cA ad SC (r, σ)) 0 0 (Aw ad SC) := by
  rw [f_X4_elementOr] at hf
  refine k_head (own := RX4) (ws := wsX4_elementOr) (cc := cX4_elementOr) (nL := 3) (ret := (some .int)) pn_X4 rfl rfl hij (Nat.le_of_ble_eq_true rfl) (fun p e s m below meth c ls X hW hl => ?_)
  have hl : lv_has ls 3 [(0, .ref (ad a0)), (1, .int a1), (2, .int a2)] := hl
  obtain ⟨hx, hb, hml, hown, hts, hr, hlk, hK, hij⟩ := id X
  refine lv_aload_n hx hb dX4_elementOr_0 rfl (lv_at hl 0 rfl) ?_
  refine lv_iload_n hx hb dX4_elementOr_1 rfl (lv_at hl 1 rfl) ?_
  obtain ⟨q2, hf⟩ := chk_e hf
  obtain ⟨i2, k2⟩ := kOK_e q2
  obtain ⟨r1, z1, hf⟩ := bnd_e hf
  refine r_cViR X hW k2 i2 rfl (c_X4_hasElement l D cA ad hij σ a0 a1 r1 z1) gX4_elementOr_X4_hasElement rfl ⟨rfl, rfl⟩ hd_X4_hasElement ⟨Nat.le_of_ble_eq_true rfl, Nat.le_of_ble_eq_true rfl⟩ rfl (Nat.le_of_ble_eq_true rfl) hl.1 dX4_elementOr_2 (fun H locs hW => ?_)
  refine lv_if_eq (tgt := 17) hx hb dX4_elementOr_5 (by decide) (fun c3 => ?_) (fun c3 => ?_)
  · have hf := it_e hf c3
    refine lv_iload_n hx hb dX4_elementOr_17 rfl (lv_at hl 2 rfl) ?_
    exact r_iretR X hW rfl rfl hf dX4_elementOr_18
  · have hf := ie_e hf c3
    refine lv_aload_n hx hb dX4_elementOr_8 rfl (lv_at hl 0 rfl) ?_
    refine get_4_5 X hW k2 i2 inX4_elementOr_4 (List.mem_of_getElem? (i := 1) rfl) dX4_elementOr_9 ?_
    refine lv_iload_n hx hb dX4_elementOr_12 rfl (lv_at hl 1 rfl) ?_
    obtain ⟨q4, hf⟩ := chk_e hf
    obtain ⟨i4, k4, n4⟩ := aOK_e q4
    obtain ⟨x5, hf⟩ := chk_e hf
    refine r_iald X hW k4 i4 n4 x5 dX4_elementOr_13 ?_
    refine lv_goto (tgt := 18) hx hb dX4_elementOr_14 (by decide) ?_
    exact r_iretR X hW rfl rfl hf dX4_elementOr_18

abbrev rm_X4_digitAt : Room := { frames := 2, cells := 0, slots := 0, locals := 43 }
theorem hd_X4_digitAt : yX4_digitAt.cls = RX4 ∧ yX4_digitAt.cls ≠ "java/lang/invoke/MethodHandle" ∧ yX4_digitAt.cls ≠ "java/lang/invoke/VarHandle" ∧ (parseMethodDescriptor yX4_digitAt.desc).map (fun d => d.parameters.length) = some 1 := by decide +kernel
theorem inX4_digitAt_4 : ∀ w ∈ wsX40, w ∈ wsX4_digitAt := fun _ h => List.mem_cons_of_mem _ (List.mem_append_right _ h)
section S_X4_digitAt
variable {p : Program} {l : Launch} {e : Env} {s : State} {m : MethodId} {args : Array Value} {below : List Frame} {meth : Method} {c : Code} {D : va_G} {cA : Nat → ClassId} {ad : Nat → Nat} {r : Int32}
end S_X4_digitAt
noncomputable def f_X4_digitAt (σ : St) (a0 : Nat) (a1 : Int32) : Option (Int32) := chk (kOK SC a0 4) <| bnd (f_X4_elementOr σ a0 a1 47) fun r1 => some (r1 - 48)
set_option maxHeartbeats 4000000 in
set_option maxRecDepth 100000 in
theorem c_X4_digitAt (l : Launch) (D : va_G) (cA : Nat → ClassId) (ad : Nat → Nat) (hij : Ij ad SC) (σ : St) (a0 : Nat) (a1 : Int32) (r : Int32) (hf : f_X4_digitAt σ a0 a1 = some r) : Met l yX4_digitAt wsX4_digitAt rm_X4_digitAt (PC D cA ad SC [.ref (ad a0), .int a1] σ) (Qi D cA ad SC (r, σ)) 0 0 (Aw ad SC) := by
  rw [f_X4_digitAt] at hf
  refine k_head (own := RX4) (ws := wsX4_digitAt) (cc := cX4_digitAt) (nL := 2) (ret := (some .int)) pn_X4 rfl rfl hij (Nat.le_of_ble_eq_true rfl) (fun p e s m below meth c ls X hW hl => ?_)
  have hl : lv_has ls 2 [(0, .ref (ad a0)), (1, .int a1)] := hl
  obtain ⟨hx, hb, hml, hown, hts, hr, hlk, hK, hij⟩ := id X
  refine lv_aload_n hx hb dX4_digitAt_0 rfl (lv_at hl 0 rfl) ?_
  refine lv_iload_n hx hb dX4_digitAt_1 rfl (lv_at hl 1 rfl) ?_
  refine lv_bipush (v := 47) hx hb dX4_digitAt_2 (by decide) ?_
  obtain ⟨q2, hf⟩ := chk_e hf
  obtain ⟨i2, k2⟩ := kOK_e q2
  obtain ⟨r1, z1, hf⟩ := bnd_e hf
  refine r_cViR X hW k2 i2 rfl (c_X4_elementOr l D cA ad hij σ a0 a1 47 r1 z1) gX4_digitAt_X4_elementOr rfl ⟨rfl, rfl⟩ hd_X4_elementOr ⟨Nat.le_of_ble_eq_true rfl, Nat.le_of_ble_eq_true rfl⟩ rfl (Nat.le_of_ble_eq_true rfl) hl.1 dX4_digitAt_4 (fun H locs hW => ?_)
  refine lv_bipush (v := 48) hx hb dX4_digitAt_7 (by decide) ?_
  refine lv_isub hx hb dX4_digitAt_9 ?_
  exact r_iretR X hW rfl rfl hf dX4_digitAt_10

abbrev rm_X4_holdNothing : Room := { frames := 0, cells := 0, slots := 0, locals := 0 }
theorem hd_X4_holdNothing : yX4_holdNothing.cls = RX4 ∧ yX4_holdNothing.cls ≠ "java/lang/invoke/MethodHandle" ∧ yX4_holdNothing.cls ≠ "java/lang/invoke/VarHandle" ∧ (parseMethodDescriptor yX4_holdNothing.desc).map (fun d => d.parameters.length) = some 0 := by decide +kernel
theorem inX4_holdNothing_4 : ∀ w ∈ wsX40, w ∈ wsX4_holdNothing := fun _ h => List.mem_cons_of_mem _ (List.mem_append_right _ h)
section S_X4_holdNothing
variable {p : Program} {l : Launch} {e : Env} {s : State} {m : MethodId} {args : Array Value} {below : List Frame} {meth : Method} {c : Code} {D : va_G} {cA : Nat → ClassId} {ad : Nat → Nat} {r : St}
end S_X4_holdNothing
noncomputable def f_X4_holdNothing (σ : St) (a0 : Nat) : Option (St) := chk (kOK SC a0 4) <| nw (uI σ a0 0 0) fun σ2 => some σ2
set_option maxHeartbeats 4000000 in
set_option maxRecDepth 100000 in
theorem c_X4_holdNothing (l : Launch) (D : va_G) (cA : Nat → ClassId) (ad : Nat → Nat) (hij : Ij ad SC) (σ : St) (a0 : Nat) (r : St) (hf : f_X4_holdNothing σ a0 = some r) : Met l yX4_holdNothing wsX4_holdNothing rm_X4_holdNothing (PC D cA ad SC [.ref (ad a0)] σ) (Qv D cA ad SC r) 0 0 (Aw ad SC) := by
  rw [f_X4_holdNothing] at hf
  refine k_head (own := RX4) (ws := wsX4_holdNothing) (cc := cX4_holdNothing) (nL := 1) (ret := none) pn_X4 rfl rfl hij (Nat.le_of_ble_eq_true rfl) (fun p e s m below meth c ls X hW hl => ?_)
  have hl : lv_has ls 1 [(0, .ref (ad a0))] := hl
  obtain ⟨hx, hb, hml, hown, hts, hr, hlk, hK, hij⟩ := id X
  refine lv_aload_n hx hb dX4_holdNothing_0 rfl (lv_at hl 0 rfl) ?_
  refine lv_iconst (v := 0) hx hb dX4_holdNothing_1 (by decide) ?_
  obtain ⟨q1, hf⟩ := chk_e hf
  obtain ⟨i1, k1⟩ := kOK_e q1
  obtain ⟨σ2, e2, hf⟩ := nw_e hf
  refine put_4_0 X hW k1 i1 inX4_holdNothing_4 (List.mem_of_getElem? (i := 1) rfl) e2 dX4_holdNothing_2 (fun H locs hW => ?_)
  exact r_vret X hW rfl hf dX4_holdNothing_5

abbrev rm_X4_holdDish : Room := { frames := 0, cells := 0, slots := 0, locals := 0 }
theorem hd_X4_holdDish : yX4_holdDish.cls = RX4 ∧ yX4_holdDish.cls ≠ "java/lang/invoke/MethodHandle" ∧ yX4_holdDish.cls ≠ "java/lang/invoke/VarHandle" ∧ (parseMethodDescriptor yX4_holdDish.desc).map (fun d => d.parameters.length) = some 2 := by decide +kernel
theorem inX4_holdDish_4 : ∀ w ∈ wsX40, w ∈ wsX4_holdDish := fun _ h => List.mem_cons_of_mem _ (List.mem_append_right _ h)
section S_X4_holdDish
variable {p : Program} {l : Launch} {e : Env} {s : State} {m : MethodId} {args : Array Value} {below : List Frame} {meth : Method} {c : Code} {D : va_G} {cA : Nat → ClassId} {ad : Nat → Nat} {r : St}
end S_X4_holdDish
noncomputable def f_X4_holdDish (σ : St) (a0 : Nat) (a1 : Int32) (a2 : Int32) : Option (St) := chk (kOK SC a0 4) <| nw (uI σ a0 0 1) fun σ2 => nw (uI σ2 a0 1 a1) fun σ3 => nw (uI σ3 a0 2 a2) fun σ4 => some σ4
set_option maxHeartbeats 4000000 in
set_option maxRecDepth 100000 in
theorem c_X4_holdDish (l : Launch) (D : va_G) (cA : Nat → ClassId) (ad : Nat → Nat) (hij : Ij ad SC) (σ : St) (a0 : Nat) (a1 : Int32) (a2 : Int32) (r : St) (hf : f_X4_holdDish σ a0 a1 a2 = some r) : Met l yX4_holdDish wsX4_holdDish rm_X4_holdDish (PC D cA ad SC [.ref (ad a0), .int a1, .int a2] σ) (Qv D cA ad SC r) 0 0 (Aw ad SC) := by
  rw [f_X4_holdDish] at hf
  refine k_head (own := RX4) (ws := wsX4_holdDish) (cc := cX4_holdDish) (nL := 3) (ret := none) pn_X4 rfl rfl hij (Nat.le_of_ble_eq_true rfl) (fun p e s m below meth c ls X hW hl => ?_)
  have hl : lv_has ls 3 [(0, .ref (ad a0)), (1, .int a1), (2, .int a2)] := hl
  obtain ⟨hx, hb, hml, hown, hts, hr, hlk, hK, hij⟩ := id X
  refine lv_aload_n hx hb dX4_holdDish_0 rfl (lv_at hl 0 rfl) ?_
  refine lv_iconst (v := 1) hx hb dX4_holdDish_1 (by decide) ?_
  obtain ⟨q1, hf⟩ := chk_e hf
  obtain ⟨i1, k1⟩ := kOK_e q1
  obtain ⟨σ2, e2, hf⟩ := nw_e hf
  refine put_4_0 X hW k1 i1 inX4_holdDish_4 (List.mem_of_getElem? (i := 1) rfl) e2 dX4_holdDish_2 (fun H locs hW => ?_)
  refine lv_aload_n hx hb dX4_holdDish_5 rfl (lv_at hl 0 rfl) ?_
  refine lv_iload_n hx hb dX4_holdDish_6 rfl (lv_at hl 1 rfl) ?_
  obtain ⟨σ3, e3, hf⟩ := nw_e hf
  refine put_4_1 X hW k1 i1 inX4_holdDish_4 (List.mem_of_getElem? (i := 2) rfl) e3 dX4_holdDish_7 (fun H locs hW => ?_)
  refine lv_aload_n hx hb dX4_holdDish_10 rfl (lv_at hl 0 rfl) ?_
  refine lv_iload_n hx hb dX4_holdDish_11 rfl (lv_at hl 2 rfl) ?_
  obtain ⟨σ4, e4, hf⟩ := nw_e hf
  refine put_4_2 X hW k1 i1 inX4_holdDish_4 (List.mem_of_getElem? (i := 3) rfl) e4 dX4_holdDish_12 (fun H locs hW => ?_)
  exact r_vret X hW rfl hf dX4_holdDish_15

abbrev rm_X4_holdRow : Room := { frames := 0, cells := 0, slots := 0, locals := 0 }
theorem hd_X4_holdRow : yX4_holdRow.cls = RX4 ∧ yX4_holdRow.cls ≠ "java/lang/invoke/MethodHandle" ∧ yX4_holdRow.cls ≠ "java/lang/invoke/VarHandle" ∧ (parseMethodDescriptor yX4_holdRow.desc).map (fun d => d.parameters.length) = some 2 := by decide +kernel
theorem inX4_holdRow_4 : ∀ w ∈ wsX40, w ∈ wsX4_holdRow := fun _ h => List.mem_cons_of_mem _ (List.mem_append_right _ h)
section S_X4_holdRow
variable {p : Program} {l : Launch} {e : Env} {s : State} {m : MethodId} {args : Array Value} {below : List Frame} {meth : Method} {c : Code} {D : va_G} {cA : Nat → ClassId} {ad : Nat → Nat} {r : St}
noncomputable def f_X4_holdRow_17 (k39 : St → Option (St)) : Nat → Nat → Int32 → St → Option (St)
  | 0, _, _, _ => none
  | n + 1, v0, v3, σ => chk (kOK SC v0 4) <| chk (aOK SC (v0 + 1) 20 100) <| (if 100 ≤ v3 then k39 σ else chk (inb v3 100) <| nw (uI σ (v0 + 1) v3.toNatClampNeg 0) fun σ9 => nw (v3 + 1 : Int32) fun v110 => f_X4_holdRow_17 k39 n v0 v110 σ9)
set_option maxHeartbeats 4000000 in
set_option maxRecDepth 100000 in
theorem b_X4_holdRow_17 {k39 : St → Option (St)} (X : Cx RX4 wsX4_holdRow cX4_holdRow 4 none D cA ad SC p s m args meth c) (h39 : ∀  (σ : St) (H : Heap) (locs : List Loc) (ls : Array Slot), k39 σ = some r → Rn D cA ad SC s.heap σ H locs → lv_has ls 4 [] → W p l e rm_X4_holdRow s m args below meth c H locs 0 0 (MQ below (Qv D cA ad SC r) args s 0 0 (Aw ad SC)) (F0 m 39 ls [])) : ∀ (n : Nat) (v0 : Nat) (v3 : Int32) (σ : St) (H : Heap) (locs : List Loc) (ls : Array Slot), f_X4_holdRow_17 k39 n v0 v3 σ = some r → Rn D cA ad SC s.heap σ H locs → lv_has ls 4 [(0, .ref (ad v0)), (3, .int v3)] → W p l e rm_X4_holdRow s m args below meth c H locs 0 0 (MQ below (Qv D cA ad SC r) args s 0 0 (Aw ad SC)) (F0 m 17 ls []) := by
  obtain ⟨hx, hb, hml, hown, hts, hr, hlk, hK, hij⟩ := id X
  intro n
  induction n with
  | zero =>
    intro v0 v3 σ H locs ls hf
    exact nomatch (show (none : Option (St)) = some r from hf)
  | succ n ih =>
    intro v0 v3 σ H locs ls hf hW hl
    rw [f_X4_holdRow_17] at hf
    refine lv_iload_n hx hb dX4_holdRow_17 rfl (lv_at hl 1 rfl) ?_
    refine lv_aload_n hx hb dX4_holdRow_18 rfl (lv_at hl 0 rfl) ?_
    obtain ⟨q5, hf⟩ := chk_e hf
    obtain ⟨i5, k5⟩ := kOK_e q5
    refine get_4_5 X hW k5 i5 inX4_holdRow_4 (List.mem_of_getElem? (i := 4) rfl) dX4_holdRow_19 ?_
    obtain ⟨q6, hf⟩ := chk_e hf
    obtain ⟨i6, k6, n6⟩ := aOK_e q6
    refine r_alenI (v := 100) X hW k6 i6 n6 (by decide) dX4_holdRow_22 ?_
    refine lv_icmp_ge (tgt := 39) hx hb dX4_holdRow_23 (by decide) (fun c7 => ?_) (fun c7 => ?_)
    · have hf := it_e hf c7
      exact h39 σ _ _ _ hf hW (lv_sub hl [] rfl)
    · have hf := ie_e hf c7
      refine lv_aload_n hx hb dX4_holdRow_26 rfl (lv_at hl 0 rfl) ?_
      refine get_4_5 X hW k5 i5 inX4_holdRow_4 (List.mem_of_getElem? (i := 4) rfl) dX4_holdRow_27 ?_
      refine lv_iload_n hx hb dX4_holdRow_30 rfl (lv_at hl 1 rfl) ?_
      refine lv_iconst (v := 0) hx hb dX4_holdRow_31 (by decide) ?_
      obtain ⟨x8, hf⟩ := chk_e hf
      obtain ⟨σ9, e9, hf⟩ := nw_e hf
      refine r_iast X hW k6 i6 n6 x8 e9 dX4_holdRow_32 (fun H locs hW => ?_)
      obtain ⟨v110, e10, hf⟩ := nw_e hf
      refine lv_iinc (v := v110) (lv' := [(3, .int v110), (0, .ref (ad v0))]) hx hb dX4_holdRow_33 hl (k := 1) rfl (by rw [e10]; rfl) (by decide) rfl (fun ls hl => ?_)
      refine lv_goto (tgt := 17) hx hb dX4_holdRow_36 (by decide) ?_
      exact ih v0 v110 σ9 _ _ _ hf hW (lv_sub hl [1, 0] rfl)
end S_X4_holdRow
noncomputable def f_X4_holdRow (σ : St) (a0 : Nat) (a1 : Int32) (a2 : Int32) : Option (St) := chk (kOK SC a0 4) <| nw (uI σ a0 0 2) fun σ2 => nw (uI σ2 a0 3 a1) fun σ3 => nw (uI σ3 a0 4 a2) fun σ4 => f_X4_holdRow_17 (fun  (σ11 : St) => some σ11) fu a0 0 σ4
set_option maxHeartbeats 4000000 in
set_option maxRecDepth 100000 in
theorem c_X4_holdRow (l : Launch) (D : va_G) (cA : Nat → ClassId) (ad : Nat → Nat) (hij : Ij ad SC) (σ : St) (a0 : Nat) (a1 : Int32) (a2 : Int32) (r : St) (hf : f_X4_holdRow σ a0 a1 a2 = some r) : Met l yX4_holdRow wsX4_holdRow rm_X4_holdRow (PC D cA ad SC [.ref (ad a0), .int a1, .int a2] σ) (Qv D cA ad SC r) 0 0 (Aw ad SC) := by
  rw [f_X4_holdRow] at hf
  refine k_head (own := RX4) (ws := wsX4_holdRow) (cc := cX4_holdRow) (nL := 4) (ret := none) pn_X4 rfl rfl hij (Nat.le_of_ble_eq_true rfl) (fun p e s m below meth c ls X hW hl => ?_)
  have hl : lv_has ls 4 [(0, .ref (ad a0)), (1, .int a1), (2, .int a2)] := hl
  obtain ⟨hx, hb, hml, hown, hts, hr, hlk, hK, hij⟩ := id X
  refine lv_aload_n hx hb dX4_holdRow_0 rfl (lv_at hl 0 rfl) ?_
  refine lv_iconst (v := 2) hx hb dX4_holdRow_1 (by decide) ?_
  obtain ⟨q1, hf⟩ := chk_e hf
  obtain ⟨i1, k1⟩ := kOK_e q1
  obtain ⟨σ2, e2, hf⟩ := nw_e hf
  refine put_4_0 X hW k1 i1 inX4_holdRow_4 (List.mem_of_getElem? (i := 1) rfl) e2 dX4_holdRow_2 (fun H locs hW => ?_)
  refine lv_aload_n hx hb dX4_holdRow_5 rfl (lv_at hl 0 rfl) ?_
  refine lv_iload_n hx hb dX4_holdRow_6 rfl (lv_at hl 1 rfl) ?_
  obtain ⟨σ3, e3, hf⟩ := nw_e hf
  refine put_4_3 X hW k1 i1 inX4_holdRow_4 (List.mem_of_getElem? (i := 2) rfl) e3 dX4_holdRow_7 (fun H locs hW => ?_)
  refine lv_aload_n hx hb dX4_holdRow_10 rfl (lv_at hl 0 rfl) ?_
  refine lv_iload_n hx hb dX4_holdRow_11 rfl (lv_at hl 2 rfl) ?_
  obtain ⟨σ4, e4, hf⟩ := nw_e hf
  refine put_4_4 X hW k1 i1 inX4_holdRow_4 (List.mem_of_getElem? (i := 3) rfl) e4 dX4_holdRow_12 (fun H locs hW => ?_)
  refine lv_iconst (v := 0) hx hb dX4_holdRow_15 (by decide) ?_
  refine lv_istore_n (lv' := [(3, .int 0), (0, .ref (ad a0)), (1, .int a1), (2, .int a2)]) hx hb dX4_holdRow_16 rfl hl (by decide) rfl (fun ls hl => ?_)
  refine b_X4_holdRow_17 X (fun σ11 H locs ls hf hW hl => ?_) fu a0 0 σ4 _ _ _ hf hW (lv_sub hl [1, 0] rfl)
  · exact r_vret X hW rfl hf dX4_holdRow_39

abbrev rm_X4_holdsNothing : Room := { frames := 0, cells := 0, slots := 0, locals := 0 }
theorem hd_X4_holdsNothing : yX4_holdsNothing.cls = RX4 ∧ yX4_holdsNothing.cls ≠ "java/lang/invoke/MethodHandle" ∧ yX4_holdsNothing.cls ≠ "java/lang/invoke/VarHandle" ∧ (parseMethodDescriptor yX4_holdsNothing.desc).map (fun d => d.parameters.length) = some 0 := by decide +kernel
theorem inX4_holdsNothing_4 : ∀ w ∈ wsX40, w ∈ wsX4_holdsNothing := fun _ h => List.mem_cons_of_mem _ (List.mem_append_right _ h)
section S_X4_holdsNothing
variable {p : Program} {l : Launch} {e : Env} {s : State} {m : MethodId} {args : Array Value} {below : List Frame} {meth : Method} {c : Code} {D : va_G} {cA : Nat → ClassId} {ad : Nat → Nat} {r : Int32}
end S_X4_holdsNothing
noncomputable def f_X4_holdsNothing (σ : St) (a0 : Nat) : Option (Int32) := chk (kOK SC a0 4) <| (if (σ.1 a0 0) = 0 then some 1 else some 0)
set_option maxHeartbeats 4000000 in
set_option maxRecDepth 100000 in
theorem c_X4_holdsNothing (l : Launch) (D : va_G) (cA : Nat → ClassId) (ad : Nat → Nat) (hij : Ij ad SC) (σ : St) (a0 : Nat) (r : Int32) (hf : f_X4_holdsNothing σ a0 = some r) : Met l yX4_holdsNothing wsX4_holdsNothing rm_X4_holdsNothing (PC D cA ad SC [.ref (ad a0)] σ) (Qi D cA ad SC (r, σ)) 0 0 (Aw ad SC) := by
  rw [f_X4_holdsNothing] at hf
  refine k_head (own := RX4) (ws := wsX4_holdsNothing) (cc := cX4_holdsNothing) (nL := 1) (ret := (some .boolean)) pn_X4 rfl rfl hij (Nat.le_of_ble_eq_true rfl) (fun p e s m below meth c ls X hW hl => ?_)
  have hl : lv_has ls 1 [(0, .ref (ad a0))] := hl
  obtain ⟨hx, hb, hml, hown, hts, hr, hlk, hK, hij⟩ := id X
  refine lv_aload_n hx hb dX4_holdsNothing_0 rfl (lv_at hl 0 rfl) ?_
  obtain ⟨q1, hf⟩ := chk_e hf
  obtain ⟨i1, k1⟩ := kOK_e q1
  refine get_4_0 X hW k1 i1 inX4_holdsNothing_4 (List.mem_of_getElem? (i := 1) rfl) dX4_holdsNothing_1 ?_
  refine lv_if_ne (tgt := 11) hx hb dX4_holdsNothing_4 (by decide) (fun c2 => ?_) (fun c2 => ?_)
  · have hf := ie_e hf c2
    refine lv_iconst (v := 0) hx hb dX4_holdsNothing_11 (by decide) ?_
    exact r_iretR X hW rfl rfl hf dX4_holdsNothing_12
  · have hf := it_e hf c2
    refine lv_iconst (v := 1) hx hb dX4_holdsNothing_7 (by decide) ?_
    refine lv_goto (tgt := 12) hx hb dX4_holdsNothing_8 (by decide) ?_
    exact r_iretR X hW rfl rfl hf dX4_holdsNothing_12

abbrev rm_X4_holdsRow : Room := { frames := 0, cells := 0, slots := 0, locals := 0 }
theorem hd_X4_holdsRow : yX4_holdsRow.cls = RX4 ∧ yX4_holdsRow.cls ≠ "java/lang/invoke/MethodHandle" ∧ yX4_holdsRow.cls ≠ "java/lang/invoke/VarHandle" ∧ (parseMethodDescriptor yX4_holdsRow.desc).map (fun d => d.parameters.length) = some 0 := by decide +kernel
theorem inX4_holdsRow_4 : ∀ w ∈ wsX40, w ∈ wsX4_holdsRow := fun _ h => List.mem_cons_of_mem _ (List.mem_append_right _ h)
section S_X4_holdsRow
variable {p : Program} {l : Launch} {e : Env} {s : State} {m : MethodId} {args : Array Value} {below : List Frame} {meth : Method} {c : Code} {D : va_G} {cA : Nat → ClassId} {ad : Nat → Nat} {r : Int32}
end S_X4_holdsRow
noncomputable def f_X4_holdsRow (σ : St) (a0 : Nat) : Option (Int32) := chk (kOK SC a0 4) <| (if (σ.1 a0 0) = 2 then some 1 else some 0)
set_option maxHeartbeats 4000000 in
set_option maxRecDepth 100000 in
theorem c_X4_holdsRow (l : Launch) (D : va_G) (cA : Nat → ClassId) (ad : Nat → Nat) (hij : Ij ad SC) (σ : St) (a0 : Nat) (r : Int32) (hf : f_X4_holdsRow σ a0 = some r) : Met l yX4_holdsRow wsX4_holdsRow rm_X4_holdsRow (PC D cA ad SC [.ref (ad a0)] σ) (Qi D cA ad SC (r, σ)) 0 0 (Aw ad SC) := by
  rw [f_X4_holdsRow] at hf
  refine k_head (own := RX4) (ws := wsX4_holdsRow) (cc := cX4_holdsRow) (nL := 1) (ret := (some .boolean)) pn_X4 rfl rfl hij (Nat.le_of_ble_eq_true rfl) (fun p e s m below meth c ls X hW hl => ?_)
  have hl : lv_has ls 1 [(0, .ref (ad a0))] := hl
  obtain ⟨hx, hb, hml, hown, hts, hr, hlk, hK, hij⟩ := id X
  refine lv_aload_n hx hb dX4_holdsRow_0 rfl (lv_at hl 0 rfl) ?_
  obtain ⟨q1, hf⟩ := chk_e hf
  obtain ⟨i1, k1⟩ := kOK_e q1
  refine get_4_0 X hW k1 i1 inX4_holdsRow_4 (List.mem_of_getElem? (i := 1) rfl) dX4_holdsRow_1 ?_
  refine lv_iconst (v := 2) hx hb dX4_holdsRow_4 (by decide) ?_
  refine lv_icmp_ne (tgt := 12) hx hb dX4_holdsRow_5 (by decide) (fun c2 => ?_) (fun c2 => ?_)
  · have hf := ie_e hf c2
    refine lv_iconst (v := 0) hx hb dX4_holdsRow_12 (by decide) ?_
    exact r_iretR X hW rfl rfl hf dX4_holdsRow_13
  · have hf := it_e hf c2
    refine lv_iconst (v := 1) hx hb dX4_holdsRow_8 (by decide) ?_
    refine lv_goto (tgt := 13) hx hb dX4_holdsRow_9 (by decide) ?_
    exact r_iretR X hW rfl rfl hf dX4_holdsRow_13

abbrev rm_X4_hasElements : Room := { frames := 0, cells := 0, slots := 0, locals := 0 }
theorem hd_X4_hasElements : yX4_hasElements.cls = RX4 ∧ yX4_hasElements.cls ≠ "java/lang/invoke/MethodHandle" ∧ yX4_hasElements.cls ≠ "java/lang/invoke/VarHandle" ∧ (parseMethodDescriptor yX4_hasElements.desc).map (fun d => d.parameters.length) = some 2 := by decide +kernel
theorem inX4_hasElements_4 : ∀ w ∈ wsX40, w ∈ wsX4_hasElements := fun _ h => List.mem_cons_of_mem _ (List.mem_append_right _ h)
section S_X4_hasElements
variable {p : Program} {l : Launch} {e : Env} {s : State} {m : MethodId} {args : Array Value} {below : List Frame} {meth : Method} {c : Code} {D : va_G} {cA : Nat → ClassId} {ad : Nat → Nat} {r : Int32}
end S_X4_hasElements
noncomputable def f_X4_hasElements (σ : St) (a0 : Nat) (a1 : Int32) (a2 : Int32) : Option (Int32) := (if a1 < 0 then some 0 else chk (kOK SC a0 4) <| (if (σ.1 a0 4) < a1 then some 0 else (if a2 < 0 then some 0 else (if ((σ.1 a0 4) - a1) < a2 then some 0 else some 1))))
set_option maxHeartbeats 4000000 in
set_option maxRecDepth 100000 in
theorem c_X4_hasElements (l : Launch) (D : va_G) (cA : Nat → ClassId) (ad : Nat → Nat) (hij : Ij ad SC) (σ : St) (a0 : Nat) (a1 : Int32) (a2 : Int32) (r : Int32) (hf : f_X4_hasElements σ a0 a1 a2 = some r) : Met l yX4_hasElements wsX4_hasElements rm_X4_hasElements (PC D cA ad SC [.ref (ad a0), .int a1, .int a2] σ) (Qi D cA ad SC (r, σ)) 0 0 (Aw ad SC) := by
  rw [f_X4_hasElements] at hf
  refine k_head (own := RX4) (ws := wsX4_hasElements) (cc := cX4_hasElements) (nL := 3) (ret := (some .boolean)) pn_X4 rfl rfl hij (Nat.le_of_ble_eq_true rfl) (fun p e s m below meth c ls X hW hl => ?_)
  have hl : lv_has ls 3 [(0, .ref (ad a0)), (1, .int a1), (2, .int a2)] := hl
  obtain ⟨hx, hb, hml, hown, hts, hr, hlk, hK, hij⟩ := id X
  refine lv_iload_n hx hb dX4_hasElements_0 rfl (lv_at hl 1 rfl) ?_
  refine lv_if_lt (tgt := 30) hx hb dX4_hasElements_1 (by decide) (fun c1 => ?_) (fun c1 => ?_)
  · have hf := it_e hf c1
    refine lv_iconst (v := 0) hx hb dX4_hasElements_30 (by decide) ?_
    exact r_iretR X hW rfl rfl hf dX4_hasElements_31
  · have hf := ie_e hf c1
    refine lv_iload_n hx hb dX4_hasElements_4 rfl (lv_at hl 1 rfl) ?_
    refine lv_aload_n hx hb dX4_hasElements_5 rfl (lv_at hl 0 rfl) ?_
    obtain ⟨q2, hf⟩ := chk_e hf
    obtain ⟨i2, k2⟩ := kOK_e q2
    refine get_4_4 X hW k2 i2 inX4_hasElements_4 (List.mem_of_getElem? (i := 1) rfl) dX4_hasElements_6 ?_
    refine lv_icmp_gt (tgt := 30) hx hb dX4_hasElements_9 (by decide) (fun c3 => ?_) (fun c3 => ?_)
    · have hf := it_e hf c3
      refine lv_iconst (v := 0) hx hb dX4_hasElements_30 (by decide) ?_
      exact r_iretR X hW rfl rfl hf dX4_hasElements_31
    · have hf := ie_e hf c3
      refine lv_iload_n hx hb dX4_hasElements_12 rfl (lv_at hl 2 rfl) ?_
      refine lv_if_lt (tgt := 30) hx hb dX4_hasElements_13 (by decide) (fun c4 => ?_) (fun c4 => ?_)
      · have hf := it_e hf c4
        refine lv_iconst (v := 0) hx hb dX4_hasElements_30 (by decide) ?_
        exact r_iretR X hW rfl rfl hf dX4_hasElements_31
      · have hf := ie_e hf c4
        refine lv_iload_n hx hb dX4_hasElements_16 rfl (lv_at hl 2 rfl) ?_
        refine lv_aload_n hx hb dX4_hasElements_17 rfl (lv_at hl 0 rfl) ?_
        refine get_4_4 X hW k2 i2 inX4_hasElements_4 (List.mem_of_getElem? (i := 1) rfl) dX4_hasElements_18 ?_
        refine lv_iload_n hx hb dX4_hasElements_21 rfl (lv_at hl 1 rfl) ?_
        refine lv_isub hx hb dX4_hasElements_22 ?_
        refine lv_icmp_gt (tgt := 30) hx hb dX4_hasElements_23 (by decide) (fun c5 => ?_) (fun c5 => ?_)
        · have hf := it_e hf c5
          refine lv_iconst (v := 0) hx hb dX4_hasElements_30 (by decide) ?_
          exact r_iretR X hW rfl rfl hf dX4_hasElements_31
        · have hf := ie_e hf c5
          refine lv_iconst (v := 1) hx hb dX4_hasElements_26 (by decide) ?_
          refine lv_goto (tgt := 31) hx hb dX4_hasElements_27 (by decide) ?_
          exact r_iretR X hW rfl rfl hf dX4_hasElements_31

abbrev rm_X4_hasDishAt : Room := { frames := 2, cells := 0, slots := 0, locals := 43 }
theorem hd_X4_hasDishAt : yX4_hasDishAt.cls = RX4 ∧ yX4_hasDishAt.cls ≠ "java/lang/invoke/MethodHandle" ∧ yX4_hasDishAt.cls ≠ "java/lang/invoke/VarHandle" ∧ (parseMethodDescriptor yX4_hasDishAt.desc).map (fun d => d.parameters.length) = some 1 := by decide +kernel
theorem inX4_hasDishAt_4 : ∀ w ∈ wsX40, w ∈ wsX4_hasDishAt := fun _ h => List.mem_cons_of_mem _ (List.mem_append_right _ h)
section S_X4_hasDishAt
variable {p : Program} {l : Launch} {e : Env} {s : State} {m : MethodId} {args : Array Value} {below : List Frame} {meth : Method} {c : Code} {D : va_G} {cA : Nat → ClassId} {ad : Nat → Nat} {r : Int32}
end S_X4_hasDishAt
noncomputable def f_X4_hasDishAt (σ : St) (a0 : Nat) (a1 : Int32) : Option (Int32) := chk (kOK SC a0 4) <| bnd (f_X4_elementOr σ a0 a1 ((-4))) fun r1 => bnd (f_X5_isNoKind r1) fun r3 => (if r3 = 0 then bnd (f_X4_elementOr σ a0 (a1 + 1) ((-4))) fun r5 => bnd (f_X5_isNoFigure r5) fun r6 => (if r6 = 0 then some 1 else some 0) else some 0)
set_option maxHeartbeats 4000000 in
set_option maxRecDepth 100000 in
theorem c_X4_hasDishAt (l : Launch) (D : va_G) (cA : Nat → ClassId) (ad : Nat → Nat) (hij : Ij ad SC) (σ : St) (a0 : Nat) (a1 : Int32) (r : Int32) (hf : f_X4_hasDishAt σ a0 a1 = some r) : Met l yX4_hasDishAt wsX4_hasDishAt rm_X4_hasDishAt (PC D cA ad SC [.ref (ad a0), .int a1] σ) (Qi D cA ad SC (r, σ)) 0 0 (Aw ad SC) := by
  rw [f_X4_hasDishAt] at hf
  refine k_head (own := RX4) (ws := wsX4_hasDishAt) (cc := cX4_hasDishAt) (nL := 2) (ret := (some .boolean)) pn_X4 rfl rfl hij (Nat.le_of_ble_eq_true rfl) (fun p e s m below meth c ls X hW hl => ?_)
  have hl : lv_has ls 2 [(0, .ref (ad a0)), (1, .int a1)] := hl
  obtain ⟨hx, hb, hml, hown, hts, hr, hlk, hK, hij⟩ := id X
  refine lv_aload_n hx hb dX4_hasDishAt_0 rfl (lv_at hl 0 rfl) ?_
  refine lv_iload_n hx hb dX4_hasDishAt_1 rfl (lv_at hl 1 rfl) ?_
  refine lv_bipush (v := (-4)) hx hb dX4_hasDishAt_2 (by decide) ?_
  obtain ⟨q2, hf⟩ := chk_e hf
  obtain ⟨i2, k2⟩ := kOK_e q2
  obtain ⟨r1, z1, hf⟩ := bnd_e hf
  refine r_cViR X hW k2 i2 rfl (c_X4_elementOr l D cA ad hij σ a0 a1 ((-4)) r1 z1) gX4_hasDishAt_X4_elementOr rfl ⟨rfl, rfl⟩ hd_X4_elementOr ⟨Nat.le_of_ble_eq_true rfl, Nat.le_of_ble_eq_true rfl⟩ rfl (Nat.le_of_ble_eq_true rfl) hl.1 dX4_hasDishAt_4 (fun H locs hW => ?_)
  obtain ⟨r3, z3, hf⟩ := bnd_e hf
  refine r_cNiR (host := "ThirdOfTheLast") X hW (c_X5_isNoKind l D cA ad hij σ r1 r3 z3) gX4_hasDishAt_X5_isNoKind_n39 rfl ⟨rfl, rfl⟩ (by decide +kernel) (List.mem_of_getElem? (i := 13) rfl) (List.mem_of_getElem? (i := 12) rfl) hd_X5_isNoKind ⟨Nat.le_of_ble_eq_true rfl, Nat.le_of_ble_eq_true rfl⟩ rfl (Nat.le_of_ble_eq_true rfl) hl.1 dX4_hasDishAt_7 (fun H locs hW => ?_)
  refine lv_if_ne (tgt := 32) hx hb dX4_hasDishAt_10 (by decide) (fun c4 => ?_) (fun c4 => ?_)
  · have hf := ie_e hf c4
    refine lv_iconst (v := 0) hx hb dX4_hasDishAt_32 (by decide) ?_
    exact r_iretR X hW rfl rfl hf dX4_hasDishAt_33
  · have hf := it_e hf c4
    refine lv_aload_n hx hb dX4_hasDishAt_13 rfl (lv_at hl 0 rfl) ?_
    refine lv_iload_n hx hb dX4_hasDishAt_14 rfl (lv_at hl 1 rfl) ?_
    refine lv_iconst (v := 1) hx hb dX4_hasDishAt_15 (by decide) ?_
    refine lv_iadd hx hb dX4_hasDishAt_16 ?_
    refine lv_bipush (v := (-4)) hx hb dX4_hasDishAt_17 (by decide) ?_
    obtain ⟨r5, z5, hf⟩ := bnd_e hf
    refine r_cViR X hW k2 i2 rfl (c_X4_elementOr l D cA ad hij σ a0 (a1 + 1) ((-4)) r5 z5) gX4_hasDishAt_X4_elementOr rfl ⟨rfl, rfl⟩ hd_X4_elementOr ⟨Nat.le_of_ble_eq_true rfl, Nat.le_of_ble_eq_true rfl⟩ rfl (Nat.le_of_ble_eq_true rfl) hl.1 dX4_hasDishAt_19 (fun H locs hW => ?_)
    obtain ⟨r6, z6, hf⟩ := bnd_e hf
    refine r_cNiR (host := "ThirdOfTheLast") X hW (c_X5_isNoFigure l D cA ad hij σ r5 r6 z6) gX4_hasDishAt_X5_isNoFigure_n42 rfl ⟨rfl, rfl⟩ (by decide +kernel) (List.mem_of_getElem? (i := 13) rfl) (List.mem_of_getElem? (i := 15) rfl) hd_X5_isNoFigure ⟨Nat.le_of_ble_eq_true rfl, Nat.le_of_ble_eq_true rfl⟩ rfl (Nat.le_of_ble_eq_true rfl) hl.1 dX4_hasDishAt_22 (fun H locs hW => ?_)
    refine lv_if_ne (tgt := 32) hx hb dX4_hasDishAt_25 (by decide) (fun c7 => ?_) (fun c7 => ?_)
    · have hf := ie_e hf c7
      refine lv_iconst (v := 0) hx hb dX4_hasDishAt_32 (by decide) ?_
      exact r_iretR X hW rfl rfl hf dX4_hasDishAt_33
    · have hf := it_e hf c7
      refine lv_iconst (v := 1) hx hb dX4_hasDishAt_28 (by decide) ?_
      refine lv_goto (tgt := 33) hx hb dX4_hasDishAt_29 (by decide) ?_
      exact r_iretR X hW rfl rfl hf dX4_hasDishAt_33

abbrev rm_X4_lowestBits : Room := { frames := 0, cells := 0, slots := 0, locals := 0 }
theorem hd_X4_lowestBits : yX4_lowestBits.cls = RX4 ∧ yX4_lowestBits.cls ≠ "java/lang/invoke/MethodHandle" ∧ yX4_lowestBits.cls ≠ "java/lang/invoke/VarHandle" ∧ (parseMethodDescriptor yX4_lowestBits.desc).map (fun d => d.parameters.length) = some 1 := by decide +kernel
theorem inX4_lowestBits_4 : ∀ w ∈ wsX40, w ∈ wsX4_lowestBits := fun _ h => List.mem_cons_of_mem _ (List.mem_append_right _ h)
section S_X4_lowestBits
variable {p : Program} {l : Launch} {e : Env} {s : State} {m : MethodId} {args : Array Value} {below : List Frame} {meth : Method} {c : Code} {D : va_G} {cA : Nat → ClassId} {ad : Nat → Nat} {r : Int32}
end S_X4_lowestBits
noncomputable def f_X4_lowestBits (σ : St) (a0 : Nat) (a1 : Int32) : Option (Int32) := chk (kOK SC a0 4) <| (if (σ.1 a0 3) = 0 then some a1.toInt8.toInt32 else (if (σ.1 a0 3) = 1 then some a1.toInt16.toInt32 else some a1))
set_option maxHeartbeats 4000000 in
set_option maxRecDepth 100000 in
theorem c_X4_lowestBits (l : Launch) (D : va_G) (cA : Nat → ClassId) (ad : Nat → Nat) (hij : Ij ad SC) (σ : St) (a0 : Nat) (a1 : Int32) (r : Int32) (hf : f_X4_lowestBits σ a0 a1 = some r) : Met l yX4_lowestBits wsX4_lowestBits rm_X4_lowestBits (PC D cA ad SC [.ref (ad a0), .int a1] σ) (Qi D cA ad SC (r, σ)) 0 0 (Aw ad SC) := by
  rw [f_X4_lowestBits] at hf
  refine k_head (own := RX4) (ws := wsX4_lowestBits) (cc := cX4_lowestBits) (nL := 2) (ret := (some .int)) pn_X4 rfl rfl hij (Nat.le_of_ble_eq_true rfl) (fun p e s m below meth c ls X hW hl => ?_)
  have hl : lv_has ls 2 [(0, .ref (ad a0)), (1, .int a1)] := hl
  obtain ⟨hx, hb, hml, hown, hts, hr, hlk, hK, hij⟩ := id X
  refine lv_aload_n hx hb dX4_lowestBits_0 rfl (lv_at hl 0 rfl) ?_
  obtain ⟨q1, hf⟩ := chk_e hf
  obtain ⟨i1, k1⟩ := kOK_e q1
  refine get_4_3 X hW k1 i1 inX4_lowestBits_4 (List.mem_of_getElem? (i := 1) rfl) dX4_lowestBits_1 ?_
  refine lv_if_ne (tgt := 10) hx hb dX4_lowestBits_4 (by decide) (fun c2 => ?_) (fun c2 => ?_)
  · have hf := ie_e hf c2
    refine lv_aload_n hx hb dX4_lowestBits_10 rfl (lv_at hl 0 rfl) ?_
    refine get_4_3 X hW k1 i1 inX4_lowestBits_4 (List.mem_of_getElem? (i := 1) rfl) dX4_lowestBits_11 ?_
    refine lv_iconst (v := 1) hx hb dX4_lowestBits_14 (by decide) ?_
    refine lv_icmp_ne (tgt := 23) hx hb dX4_lowestBits_15 (by decide) (fun c3 => ?_) (fun c3 => ?_)
    · have hf := ie_e hf c3
      refine lv_iload_n hx hb dX4_lowestBits_23 rfl (lv_at hl 1 rfl) ?_
      exact r_iretR X hW rfl rfl hf dX4_lowestBits_24
    · have hf := it_e hf c3
      refine lv_iload_n hx hb dX4_lowestBits_18 rfl (lv_at hl 1 rfl) ?_
      refine lv_i2s hx hb dX4_lowestBits_19 rfl ?_
      refine lv_goto (tgt := 24) hx hb dX4_lowestBits_20 (by decide) ?_
      exact r_iretR X hW rfl rfl hf dX4_lowestBits_24
  · have hf := it_e hf c2
    refine lv_iload_n hx hb dX4_lowestBits_7 rfl (lv_at hl 1 rfl) ?_
    refine lv_i2b hx hb dX4_lowestBits_8 rfl ?_
    exact r_iretR X hW rfl rfl hf dX4_lowestBits_9

abbrev rm_X4_leastNumber : Room := { frames := 0, cells := 0, slots := 0, locals := 0 }
theorem hd_X4_leastNumber : yX4_leastNumber.cls = RX4 ∧ yX4_leastNumber.cls ≠ "java/lang/invoke/MethodHandle" ∧ yX4_leastNumber.cls ≠ "java/lang/invoke/VarHandle" ∧ (parseMethodDescriptor yX4_leastNumber.desc).map (fun d => d.parameters.length) = some 0 := by decide +kernel
theorem inX4_leastNumber_4 : ∀ w ∈ wsX40, w ∈ wsX4_leastNumber := fun _ h => List.mem_cons_of_mem _ (List.mem_append_right _ h)
section S_X4_leastNumber
variable {p : Program} {l : Launch} {e : Env} {s : State} {m : MethodId} {args : Array Value} {below : List Frame} {meth : Method} {c : Code} {D : va_G} {cA : Nat → ClassId} {ad : Nat → Nat} {r : Int32}
end S_X4_leastNumber
noncomputable def f_X4_leastNumber (σ : St) (a0 : Nat) : Option (Int32) := chk (kOK SC a0 4) <| (if (σ.1 a0 3) = 0 then some ((-128)) else (if (σ.1 a0 3) = 1 then some ((-32768)) else some ((-2147483648))))
set_option maxHeartbeats 4000000 in
set_option maxRecDepth 100000 in
theorem c_X4_leastNumber (l : Launch) (D : va_G) (cA : Nat → ClassId) (ad : Nat → Nat) (hij : Ij ad SC) (σ : St) (a0 : Nat) (r : Int32) (hf : f_X4_leastNumber σ a0 = some r) : Met l yX4_leastNumber wsX4_leastNumber rm_X4_leastNumber (PC D cA ad SC [.ref (ad a0)] σ) (Qi D cA ad SC (r, σ)) 0 0 (Aw ad SC) := by
  rw [f_X4_leastNumber] at hf
  refine k_head (own := RX4) (ws := wsX4_leastNumber) (cc := cX4_leastNumber) (nL := 1) (ret := (some .int)) pn_X4 rfl rfl hij (Nat.le_of_ble_eq_true rfl) (fun p e s m below meth c ls X hW hl => ?_)
  have hl : lv_has ls 1 [(0, .ref (ad a0))] := hl
  obtain ⟨hx, hb, hml, hown, hts, hr, hlk, hK, hij⟩ := id X
  refine lv_aload_n hx hb dX4_leastNumber_0 rfl (lv_at hl 0 rfl) ?_
  obtain ⟨q1, hf⟩ := chk_e hf
  obtain ⟨i1, k1⟩ := kOK_e q1
  refine get_4_3 X hW k1 i1 inX4_leastNumber_4 (List.mem_of_getElem? (i := 1) rfl) dX4_leastNumber_1 ?_
  refine lv_if_ne (tgt := 10) hx hb dX4_leastNumber_4 (by decide) (fun c2 => ?_) (fun c2 => ?_)
  · have hf := ie_e hf c2
    refine lv_aload_n hx hb dX4_leastNumber_10 rfl (lv_at hl 0 rfl) ?_
    refine get_4_3 X hW k1 i1 inX4_leastNumber_4 (List.mem_of_getElem? (i := 1) rfl) dX4_leastNumber_11 ?_
    refine lv_iconst (v := 1) hx hb dX4_leastNumber_14 (by decide) ?_
    refine lv_icmp_ne (tgt := 24) hx hb dX4_leastNumber_15 (by decide) (fun c3 => ?_) (fun c3 => ?_)
    · have hf := ie_e hf c3
      refine lv_ldc (v := (-2147483648)) hx hb hown (hts _ (List.mem_of_getElem? (i := 2) rfl)) dX4_leastNumber_24 ?_
      exact r_iretR X hW rfl rfl hf dX4_leastNumber_26
    · have hf := it_e hf c3
      refine lv_sipush (v := (-32768)) hx hb dX4_leastNumber_18 (by decide) ?_
      refine lv_goto (tgt := 26) hx hb dX4_leastNumber_21 (by decide) ?_
      exact r_iretR X hW rfl rfl hf dX4_leastNumber_26
  · have hf := it_e hf c2
    refine lv_bipush (v := (-128)) hx hb dX4_leastNumber_7 (by decide) ?_
    exact r_iretR X hW rfl rfl hf dX4_leastNumber_9
