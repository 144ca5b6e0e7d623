/-! the mind's constructor: two loops -/
theorem cRow_s (g : Nat → va_W) (o w j : Nat) : cRow g o w (j + 1) = cRow g o w j ++ g (o + w * j) := rfl
theorem Sq.app2 {b b' n : Nat} {ws w1 : va_W} (h : Sq b ws) (hn : ws.length = n) (e : b' = b + n) (h1 : Sq b' w1) : Sq b (ws ++ w1) := by
  subst e
  exact h.app hn h1
def mtA (cK : Nat → ClassId) (b i j : Nat) : va_W := [(b, .inr (2, [.ref (b + 1), .ref (b + 2), .int 0, .int 0, .int 0, .int 0, .int 0])), (b + 1, .inl (cK 23, 6, .inr (.inr (.inr (.inr (rfs (b + 3) 2 i)))))), (b + 2, .inl (cK 23, 5, .inr (.inr (.inr (.inr (rfs (b + 15) 2 j))))))] ++ cRow (cFl (cK 21)) (b + 3) 2 i
def mtB (cK : Nat → ClassId) (b j : Nat) : va_W := mtA cK b 6 j ++ cRow (cFl (cK 21)) (b + 15) 2 j
theorem mtA_len (cK : Nat → ClassId) (b i j : Nat) : (mtA cK b i j).length = 3 + 2 * i := by
  rw [mtA, List.length_append, cRow_len (cFl_len (cK 21))]
  rfl
theorem mtB_len (cK : Nat → ClassId) (b j : Nat) : (mtB cK b j).length = 15 + 2 * j := by
  rw [mtB, List.length_append, cRow_len (cFl_len (cK 21)), mtA_len]
theorem mtA_sq (cK : Nat → ClassId) (b i j : Nat) : Sq b (mtA cK b i j) := Sq.app2 (n := 3) ⟨rfl, rfl, rfl, trivial⟩ rfl rfl (cRow_sq (cFl_len (cK 21)) (cFl_sq (cK 21)) i)
theorem mtB_sq (cK : Nat → ClassId) (b j : Nat) : Sq b (mtB cK b j) := Sq.app2 (n := 15) (mtA_sq cK b 6 j) (mtA_len cK b 6 j) rfl (cRow_sq (cFl_len (cK 21)) (cFl_sq (cK 21)) j)
abbrev rmX2 : Room := { frames := 2, cells := 24, slots := 88, locals := 50 }
set_option maxHeartbeats 4000000 in
set_option maxRecDepth 100000 in
theorem c_X2_init (l : Launch) (D : va_G) (cK : Nat → ClassId) (b : Nat) : Met l yX2_init wsX2_init rmX2 (PQ D cK b 2 [.null, .null, .int 0, .int 0, .int 0, .int 0, .int 0]) (QI D b 25 (mtB cK b 5)) 24 88 (fun q => b ≤ q) := by
  refine Met.ofW (cc := cX2_init) (maxL := 2) (ret := none) (by decide) rfl ?_
  intro p e s m args below meth c s₁ B hml hv
  obtain ⟨rfl, hsz, hP, hK, hT, hN, hQ⟩ := hv
  have hx := B.exec
  have hb := B.bytes
  have hr := B.returns
  have hts := atoms_spec (ws := wsX2_init) B.pre
  have hown : s.vm.findClass RX2 = some m.cls := findClass_of_methodNamed B.named
  have hin : meth.name = "<init>" := (name_of_methodNamed B.named B.method).1
  have hD := D1 b (.inr (2, [.null, .null, .int 0, .int 0, .int 0, .int 0, .int 0]))
  have hS : va_S (fun q => b ≤ q) s.heap s.heap [] := va_S.rf
  have hl := lv_entry ([.ref b]) (n := 2) (Nat.le_of_ble_eq_true rfl)
  rw [lg_entry_eq]
  generalize (lg_sl ([.ref b]) ++ List.replicate (2 - (lg_sl ([.ref b])).length) Slot.unset).toArray = ls at hl ⊢
  have hl : lv_has ls 2 [(0, .ref b)] := hl
  have hw : ∀ w ∈ wsX20, w ∈ wsX2_init := fun w h => List.mem_cons_of_mem _ (List.mem_append_left _ (List.mem_append_right _ h))
  have hw0 : ∀ w ∈ wsX00, w ∈ wsX2_init := fun w h => List.mem_cons_of_mem _ (List.mem_append_right _ h)
  have hq23 := hQ 23 "ThirdOfTheLast$Flavour" (by decide)
  refine lv_aload_n hx hb dX2_init_0 rfl (lv_at hl 0 rfl) ?_
  refine W.objInit hx hb hown (hts (.methodLink RX2 3 objectInit) (List.mem_of_getElem? (i := 1) rfl)) (hts (.instanceMethod objectInit) (List.mem_of_getElem? (i := 2) rfl)) (hts _ (List.mem_of_getElem? (i := 3) rfl)) rfl (by rw [hml]; exact hl.1) rfl dX2_init_1 (Nat.le_of_ble_eq_true rfl) (Nat.le_of_ble_eq_true rfl) ?_
  refine W.eq (g2 := F0 m 4 ls []) rfl ?_
  refine lv_aload_n hx hb dX2_init_4 rfl (lv_at hl 0 rfl) ?_
  refine lv_bipush (v := 6) hx hb dX2_init_5 (by decide) ?_
  refine ci_newq (N' := 6) hx hb hown (hts (.classLink RX2 9 RX0) (List.mem_of_getElem? (i := 4) rfl)) hq23.2 hq23.1 hP hD hS hsz (Nat.le_succ b) (by decide) (by decide) (by decide) (Nat.le_of_ble_eq_true rfl) (Nat.le_of_ble_eq_true rfl) dX2_init_7 (fun H z1 hAr hP hD hS => ?_)
  refine ci_put true (D := D) (ci := 2) (v := .ref (b + 1)) (ty := .array (.object "ThirdOfTheLast$Flavour")) (C := RX2) (T := TX2) (N := 7) hx hb hts hw tyX2 tyX2_ok nmX2 hown hK hP hD hS z1 0 rfl rfl 0 (by decide) (hts (.fieldLink RX2 11 "ThirdOfTheLast$Mind" "pots" "[LThirdOfTheLast$Flavour;") (List.mem_of_getElem? (i := 5) rfl)) (fun _ h9 => h9) rfl hin rfl (by decide +kernel) rfl rfl (Nat.le_of_ble_eq_true rfl) dX2_init_10 (fun H1 locs1 z1 hP hD hS => ?_)
  refine lv_aload_n hx hb dX2_init_13 rfl (lv_at hl 0 rfl) ?_
  refine lv_iconst (v := 5) hx hb dX2_init_14 (by decide) ?_
  refine ci_newq (h := b + 2) (N' := 5) hx hb hown (hts (.classLink RX2 9 RX0) (List.mem_of_getElem? (i := 4) rfl)) hq23.2 hq23.1 hP hD hS z1 (Nat.le_add_right b 2) (by decide) (by decide) (by decide) (Nat.le_of_ble_eq_true rfl) (Nat.le_of_ble_eq_true rfl) dX2_init_15 (fun H2 z2 _ hP hD hS => ?_)
  refine ci_put true (D := D) (ci := 2) (v := .ref (b + 2)) (ty := .array (.object "ThirdOfTheLast$Flavour")) (C := RX2) (T := TX2) (N := 7) hx hb hts hw tyX2 tyX2_ok nmX2 hown hK hP hD hS z2 0 rfl rfl 1 (by decide) (hts (.fieldLink RX2 17 "ThirdOfTheLast$Mind" "before" "[LThirdOfTheLast$Flavour;") (List.mem_of_getElem? (i := 6) rfl)) (fun _ h9 => h9) rfl hin rfl (by decide +kernel) rfl rfl (Nat.le_of_ble_eq_true rfl) dX2_init_18 (fun H3 locs3 z3 hP hD hS => ?_)
  refine lv_iconst (v := 0) hx hb dX2_init_21 (by decide) ?_
  refine lv_istore_n (lv' := [(1, .int 0), (0, .ref b)]) hx hb dX2_init_22 rfl hl (by decide) rfl (fun ls hl => ?_)
  have hP : va_P D vwCl (mtA cK b 0 0) H3 := by rw [mtA, rfs_0, rfs_0]; exact hP
  have hK23 : va_K D vwCl [(cK 23, .object "ThirdOfTheLast$Flavour")] s := K_push (tys := []) hK hAr
  have loopB : ∀ (n j : Nat), j + n = 5 → ∀ (H : Heap) (locs : List Loc) (ls : Array Slot), H.size = b + 15 + 2 * j → va_P D vwCl (mtB cK b j) H → va_S (fun q => b ≤ q) s.heap H locs → lv_has ls 2 [(1, .int (nI j)), (0, .ref b)] → W p l e (headSpec wsX2_init rmX2).room s m [Value.ref b].toArray below meth c H locs (14 + 2 * j) (53 + 7 * j) (MQ below (QI D b 25 (mtB cK b 5)) [Value.ref b].toArray s 24 88 (fun q => b ≤ q)) (F0 m 53 ls []) := by
    intro n
    induction n with
    | zero =>
      intro j hj H locs ls hz hP hS hl
      obtain rfl : j = 5 := by omega
      refine lv_iload_n hx hb dX2_init_53 rfl (lv_at hl 0 rfl) ?_
      refine lv_aload_n hx hb dX2_init_54 rfl (lv_at hl 1 rfl) ?_
      refine va_get (D := D) (ci := 2) (v := .ref (b + 2)) (C := RX2) (T := TX2) (N := 7) hx hb hts hw hown hK hP 0 rfl rfl 1 (by decide) (hts (.fieldLink RX2 17 "ThirdOfTheLast$Mind" "before" "[LThirdOfTheLast$Flavour;") (List.mem_of_getElem? (i := 6) rfl)) (fun _ h9 => h9) rfl dX2_init_55 ?_
      refine va_alen (v := 5) hx hb hK23 hP 2 0 rfl rfl rfl dX2_init_58 ?_
      refine lv_icmp_ge (tgt := 81) hx hb dX2_init_59 (by decide) (fun c1 => ?_) (fun c1 => absurd (by decide) c1)
      exact W.vret hx hb hr (fun t ht hW => ⟨⟨(), rfl, trivial, by rw [ht]; exact hz, by rw [ht]; exact hP⟩, hS.F ht⟩) hS.2.2 dX2_init_81
    | succ n ih =>
      intro j hj H locs ls hz hP hS hl
      refine lv_iload_n hx hb dX2_init_53 rfl (lv_at hl 0 rfl) ?_
      refine lv_aload_n hx hb dX2_init_54 rfl (lv_at hl 1 rfl) ?_
      refine va_get (D := D) (ci := 2) (v := .ref (b + 2)) (C := RX2) (T := TX2) (N := 7) hx hb hts hw hown hK hP 0 rfl rfl 1 (by decide) (hts (.fieldLink RX2 17 "ThirdOfTheLast$Mind" "before" "[LThirdOfTheLast$Flavour;") (List.mem_of_getElem? (i := 6) rfl)) (fun _ h9 => h9) rfl dX2_init_55 ?_
      refine va_alen (v := 5) hx hb hK23 hP 2 0 rfl rfl rfl dX2_init_58 ?_
      refine lv_icmp_ge (tgt := 81) hx hb dX2_init_59 (by decide) (fun c1 => ?_) (fun c1 => ?_)
      · exact absurd c1 (by rcases (show j = 0 ∨ j = 1 ∨ j = 2 ∨ j = 3 ∨ j = 4 by omega) with rfl | rfl | rfl | rfl | rfl <;> decide)
      refine lv_aload_n hx hb dX2_init_62 rfl (lv_at hl 1 rfl) ?_
      refine va_get (D := D) (ci := 2) (v := .ref (b + 2)) (C := RX2) (T := TX2) (N := 7) hx hb hts hw hown hK hP 0 rfl rfl 1 (by decide) (hts (.fieldLink RX2 17 "ThirdOfTheLast$Mind" "before" "[LThirdOfTheLast$Flavour;") (List.mem_of_getElem? (i := 6) rfl)) (fun _ h9 => h9) rfl dX2_init_63 ?_
      refine lv_iload_n hx hb dX2_init_66 rfl (lv_at hl 0 rfl) ?_
      refine ci_new (h := b + 15 + 2 * j) (ci := 0) (fs := [.null, .long 0, .int 0]) (C := RX0) (T := TX0) (N := 3) hx hb hts hw0 tyX0 tyX0_ok hown (hts (.classLink RX2 9 RX0) (List.mem_of_getElem? (i := 4) rfl)) (hts (.instantiable RX0 3) (List.mem_of_getElem? (i := 7) rfl)) (hts (.initialized RX0) (List.mem_of_getElem? (i := 8) rfl)) hK hP (mtB_sq cK b j).D hS hz (by show b ≤ _; omega) rfl (fun j hj => by rcases (show j = 0 ∨ j = 1 ∨ j = 2 by omega) with rfl | rfl | rfl <;> rfl) (by show 14 + 2 * j + 1 ≤ 24; omega) (by show 53 + 7 * j + 3 ≤ 88; omega) dX2_init_67 (fun H1 z1 hP hD hS => ?_)
      refine lv_dup hx hb dX2_init_70 rfl ?_
      refine va_callv (va_runIN (host := RX5) (As := []) (rest := [.ref (b + 15 + 2 * j), .int (nI j), .ref (b + 2)]) ⟨hx, hb, hml, hown, hts⟩ (c_X0_init l D cK (b + 15 + 2 * j)) ⟨va_cnB 0 hts gX2_init_X0_init_n20 rfl rfl rfl (hN _ (List.mem_of_getElem? (i := 2) rfl)) (hts (.initialized RX0) (List.mem_of_getElem? (i := 8) rfl)) (by decide +kernel) ⟨Nat.le_of_ble_eq_true rfl, Nat.le_of_ble_eq_true rfl⟩, rfl, hts (.instanceMethod yX0_init) (List.mem_of_getElem? (i := 9) rfl)⟩ (PI.pre z1 hP.right hK hT hN) rfl rfl hl.1 rfl (lv_room (Nat.le_of_ble_eq_true rfl)) dX2_init_71 ⟨by show 14 + 2 * j + 1 + 1 ≤ 24; omega, by show 53 + 7 * j + 3 + 4 ≤ 88; omega⟩) hS (fun q _ h => by show b ≤ q; have h : b + 15 + 2 * j ≤ q := h; omega) (fun q h => by show b ≤ q; have h : b + 15 + 2 * j ≤ q := h; omega) (fun u t H2 locs2 ht hvm _ hB hz1 hk1 hS => ?_)
      obtain ⟨z2, hP1⟩ := hB
      rw [ht] at z2 hP1
      have hP := hP.left.grown (k := 15 + 2 * j) (mtB_sq cK b j) (mtB_len cK b j) (fun q h1 h2 => hk1 q h1 (by show ¬ b + 15 + 2 * j ≤ q; omega)) (by omega) hP1
      have hq : Sq b (mtB cK b j ++ cFl (cK 21) (b + 15 + 2 * j)) := Sq.app2 (mtB_sq cK b j) (mtB_len cK b j) (by omega) (cFl_sq (cK 21) _)
      refine ci_astq (r := (RX0, TX0, 3)) hx hb hK hP hq.D hS z2 2 (15 + 2 * j) 0 rfl hAr (by rw [List.getElem?_append_right (by rw [mtB_len]; omega), mtB_len, Nat.sub_self]; rfl) rfl (vp_in_nI (by omega) (by omega)) dX2_init_74 (fun H3 locs3 z3 hP hD hS => ?_)
      rw [nI_clamp (by omega)] at hP
      have hP : va_P D vwCl (mtB cK b (j + 1)) H3 := by
        rw [mtB, cRow_s (cFl (cK 21)) (b + 15) 2 j, ← List.append_assoc, mtA, ← rfs_up (b + 15) 2 j]
        exact hP
      refine lv_iinc (v := nI (j + 1)) (lv' := [(1, .int (nI (j + 1))), (0, .ref b)]) hx hb dX2_init_75 hl (k := 0) rfl (nI_1 j) (by decide) rfl (fun ls hl => ?_)
      refine lv_goto (tgt := 53) hx hb dX2_init_78 (by decide) ?_
      refine W.widen (k := 14 + 2 * (j + 1)) (n := 53 + 7 * (j + 1)) (by omega) (by omega) ?_
      exact ih (j + 1) (by omega) H3 locs3 ls (by omega) hP hS hl
  have loopA : ∀ (n j : Nat), j + n = 6 → ∀ (H : Heap) (locs : List Loc) (ls : Array Slot), H.size = b + 3 + 2 * j → va_P D vwCl (mtA cK b j 0) H → va_S (fun q => b ≤ q) s.heap H locs → lv_has ls 2 [(1, .int (nI j)), (0, .ref b)] → W p l e (headSpec wsX2_init rmX2).room s m [Value.ref b].toArray below meth c H locs (2 + 2 * j) (11 + 7 * j) (MQ below (QI D b 25 (mtB cK b 5)) [Value.ref b].toArray s 24 88 (fun q => b ≤ q)) (F0 m 23 ls []) := by
    intro n
    induction n with
    | zero =>
      intro j hj H locs ls hz hP hS hl
      obtain rfl : j = 6 := by omega
      refine lv_iload_n hx hb dX2_init_23 rfl (lv_at hl 0 rfl) ?_
      refine lv_aload_n hx hb dX2_init_24 rfl (lv_at hl 1 rfl) ?_
      refine va_get (D := D) (ci := 2) (v := .ref (b + 1)) (C := RX2) (T := TX2) (N := 7) hx hb hts hw hown hK hP 0 rfl rfl 0 (by decide) (hts (.fieldLink RX2 11 "ThirdOfTheLast$Mind" "pots" "[LThirdOfTheLast$Flavour;") (List.mem_of_getElem? (i := 5) rfl)) (fun _ h9 => h9) rfl dX2_init_25 ?_
      refine va_alen (v := 6) hx hb hK23 hP 1 0 rfl rfl rfl dX2_init_28 ?_
      refine lv_icmp_ge (tgt := 51) hx hb dX2_init_29 (by decide) (fun c1 => ?_) (fun c1 => absurd (by decide) c1)
      refine lv_iconst (v := 0) hx hb dX2_init_51 (by decide) ?_
      refine lv_istore_n (lv' := [(1, .int 0), (0, .ref b)]) hx hb dX2_init_52 rfl (lv_sub hl [1] rfl) (by decide) rfl (fun ls hl => ?_)
      exact loopB 5 0 rfl H locs ls hz (by rw [mtB]; exact (List.append_nil (mtA cK b 6 0)).symm ▸ hP) hS hl
    | succ n ih =>
      intro j hj H locs ls hz hP hS hl
      refine lv_iload_n hx hb dX2_init_23 rfl (lv_at hl 0 rfl) ?_
      refine lv_aload_n hx hb dX2_init_24 rfl (lv_at hl 1 rfl) ?_
      refine va_get (D := D) (ci := 2) (v := .ref (b + 1)) (C := RX2) (T := TX2) (N := 7) hx hb hts hw hown hK hP 0 rfl rfl 0 (by decide) (hts (.fieldLink RX2 11 "ThirdOfTheLast$Mind" "pots" "[LThirdOfTheLast$Flavour;") (List.mem_of_getElem? (i := 5) rfl)) (fun _ h9 => h9) rfl dX2_init_25 ?_
      refine va_alen (v := 6) hx hb hK23 hP 1 0 rfl rfl rfl dX2_init_28 ?_
      refine lv_icmp_ge (tgt := 51) hx hb dX2_init_29 (by decide) (fun c1 => ?_) (fun c1 => ?_)
      · exact absurd c1 (by rcases (show j = 0 ∨ j = 1 ∨ j = 2 ∨ j = 3 ∨ j = 4 ∨ j = 5 by omega) with rfl | rfl | rfl | rfl | rfl | rfl <;> decide)
      refine lv_aload_n hx hb dX2_init_32 rfl (lv_at hl 1 rfl) ?_
      refine va_get (D := D) (ci := 2) (v := .ref (b + 1)) (C := RX2) (T := TX2) (N := 7) hx hb hts hw hown hK hP 0 rfl rfl 0 (by decide) (hts (.fieldLink RX2 11 "ThirdOfTheLast$Mind" "pots" "[LThirdOfTheLast$Flavour;") (List.mem_of_getElem? (i := 5) rfl)) (fun _ h9 => h9) rfl dX2_init_33 ?_
      refine lv_iload_n hx hb dX2_init_36 rfl (lv_at hl 0 rfl) ?_
      refine ci_new (h := b + 3 + 2 * j) (ci := 0) (fs := [.null, .long 0, .int 0]) (C := RX0) (T := TX0) (N := 3) hx hb hts hw0 tyX0 tyX0_ok hown (hts (.classLink RX2 9 RX0) (List.mem_of_getElem? (i := 4) rfl)) (hts (.instantiable RX0 3) (List.mem_of_getElem? (i := 7) rfl)) (hts (.initialized RX0) (List.mem_of_getElem? (i := 8) rfl)) hK hP (mtA_sq cK b j 0).D hS hz (by show b ≤ _; omega) rfl (fun j hj => by rcases (show j = 0 ∨ j = 1 ∨ j = 2 by omega) with rfl | rfl | rfl <;> rfl) (by show 2 + 2 * j + 1 ≤ 24; omega) (by show 11 + 7 * j + 3 ≤ 88; omega) dX2_init_37 (fun H1 z1 hP hD hS => ?_)
      refine lv_dup hx hb dX2_init_40 rfl ?_
      refine va_callv (va_runIN (host := RX5) (As := []) (rest := [.ref (b + 3 + 2 * j), .int (nI j), .ref (b + 1)]) ⟨hx, hb, hml, hown, hts⟩ (c_X0_init l D cK (b + 3 + 2 * j)) ⟨va_cnB 0 hts gX2_init_X0_init_n20 rfl rfl rfl (hN _ (List.mem_of_getElem? (i := 2) rfl)) (hts (.initialized RX0) (List.mem_of_getElem? (i := 8) rfl)) (by decide +kernel) ⟨Nat.le_of_ble_eq_true rfl, Nat.le_of_ble_eq_true rfl⟩, rfl, hts (.instanceMethod yX0_init) (List.mem_of_getElem? (i := 9) rfl)⟩ (PI.pre z1 hP.right hK hT hN) rfl rfl hl.1 rfl (lv_room (Nat.le_of_ble_eq_true rfl)) dX2_init_41 ⟨by show 2 + 2 * j + 1 + 1 ≤ 24; omega, by show 11 + 7 * j + 3 + 4 ≤ 88; omega⟩) hS (fun q _ h => by show b ≤ q; have h : b + 3 + 2 * j ≤ q := h; omega) (fun q h => by show b ≤ q; have h : b + 3 + 2 * j ≤ q := h; omega) (fun u t H2 locs2 ht hvm _ hB hz1 hk1 hS => ?_)
      obtain ⟨z2, hP1⟩ := hB
      rw [ht] at z2 hP1
      have hP := hP.left.grown (k := 3 + 2 * j) (mtA_sq cK b j 0) (mtA_len cK b j 0) (fun q h1 h2 => hk1 q h1 (by show ¬ b + 3 + 2 * j ≤ q; omega)) (by omega) hP1
      have hq : Sq b (mtA cK b j 0 ++ cFl (cK 21) (b + 3 + 2 * j)) := Sq.app2 (mtA_sq cK b j 0) (mtA_len cK b j 0) (by omega) (cFl_sq (cK 21) _)
      refine ci_astq (r := (RX0, TX0, 3)) hx hb hK hP hq.D hS z2 1 (3 + 2 * j) 0 rfl hAr (by rw [List.getElem?_append_right (by rw [mtA_len]; omega), mtA_len, Nat.sub_self]; rfl) rfl (vp_in_nI (by omega) (by omega)) dX2_init_44 (fun H3 locs3 z3 hP hD hS => ?_)
      rw [nI_clamp (by omega)] at hP
      have hP : va_P D vwCl (mtA cK b (j + 1) 0) H3 := by
        rw [mtA, cRow_s (cFl (cK 21)) (b + 3) 2 j, ← rfs_up (b + 3) 2 j, ← List.append_assoc]
        exact hP
      refine lv_iinc (v := nI (j + 1)) (lv' := [(1, .int (nI (j + 1))), (0, .ref b)]) hx hb dX2_init_45 hl (k := 0) rfl (nI_1 j) (by decide) rfl (fun ls hl => ?_)
      refine lv_goto (tgt := 23) hx hb dX2_init_48 (by decide) ?_
      refine W.widen (k := 2 + 2 * (j + 1)) (n := 11 + 7 * (j + 1)) (by omega) (by omega) ?_
      exact ih (j + 1) (by omega) H3 locs3 ls (by omega) hP hS hl
  exact loopA 6 0 rfl _ _ ls z3 hP hS hl
