/-! the kitchen's constructor: a loop of six pots -/
def PQ (D : va_G) (cK : Nat → ClassId) (b ci : Nat) (fs : List Value) : Array Value → State → Prop := va_Pc [.ref b] (fun U => U.heap.size = b + 1 ∧ va_P D vwCl [(b, .inr (ci, fs))] U.heap ∧ va_K D vwCl [] U ∧ KT cK U ∧ NW U ∧ KQ cK U)
def kt0 (cK : Nat → ClassId) (b j : Nat) : va_W := [(b, .inr (1, [.ref (b + 1), .int 0])), (b + 1, .inl (cK 22, 6, .inr (.inr (.inr (.inr (rfs (b + 2) 5 j))))))] ++ cRow (cPt cK) (b + 2) 5 j
theorem kt0_len (cK : Nat → ClassId) (b j : Nat) : (kt0 cK b j).length = 2 + 5 * j := by
  rw [kt0, List.length_append, cRow_len (cPt_len cK)]
  rfl
theorem kt0_sq (cK : Nat → ClassId) (b j : Nat) : Sq b (kt0 cK b j) := Sq.app (n := 2) ⟨rfl, rfl, trivial⟩ rfl (cRow_sq (cPt_len cK) (cPt_sq cK) j)
theorem va_P.left {D : va_G} {ws w1 : va_W} {H : Heap} (h : va_P D vwCl (ws ++ w1) H) : va_P D vwCl ws H := fun k q hk => h k q (by rw [List.getElem?_append_left (List.getElem?_eq_some_iff.mp hk).1]; exact hk)
theorem va_P.right {D : va_G} {ws w1 : va_W} {H : Heap} (h : va_P D vwCl (ws ++ w1) H) : va_P D vwCl w1 H := fun k q hk => h (ws.length + k) q (by rw [List.getElem?_append_right (by omega), show ws.length + k - ws.length = k by omega]; exact hk)
abbrev rmX1 : Room := { frames := 3, cells := 31, slots := 210, locals := 90 }
set_option maxHeartbeats 4000000 in
set_option maxRecDepth 100000 in
theorem c_X1_init (l : Launch) (D : va_G) (cK : Nat → ClassId) (b : Nat) : Met l yX1_init wsX1_init rmX1 (PQ D cK b 1 [.null, .int 0]) (QI D b 32 (kt0 cK b 6)) 31 210 (fun q => b ≤ q) := by
  refine Met.ofW (cc := cX1_init) (maxL := 2) (ret := none) (by decide) rfl ?_
  intro p e s m args below meth c s₁ B hml hv
  obtain ⟨rfl, hsz, hP, hK, hT, hN, hQ⟩ := hv
  have hx := B.exec
  have hb := B.bytes
  have hr := B.returns
  have hts := atoms_spec (ws := wsX1_init) B.pre
  have hown : s.vm.findClass RX1 = some m.cls := findClass_of_methodNamed B.named
  have hlk := B.notSynchronized
  have hin : meth.name = "<init>" := (name_of_methodNamed B.named B.method).1
  have hD := D1 b (.inr (1, [.null, .int 0]))
  have hS : va_S (fun q => b ≤ q) s.heap s.heap [] := va_S.rf
  have hl := lv_entry ([.ref b]) (n := 2) (Nat.le_of_ble_eq_true rfl)
  rw [lg_entry_eq]
  generalize (lg_sl ([.ref b]) ++ List.replicate (2 - (lg_sl ([.ref b])).length) Slot.unset).toArray = ls at hl ⊢
  have hl : lv_has ls 2 [(0, .ref b)] := hl
  have hw : ∀ w ∈ wsX10, w ∈ wsX1_init := fun w h => List.mem_cons_of_mem _ (List.mem_append_left _ (List.mem_append_left _ (List.mem_append_right _ h)))
  have hw3 : ∀ w ∈ wsX30, w ∈ wsX1_init := fun w h => List.mem_cons_of_mem _ (List.mem_append_left _ (List.mem_append_right _ h))
  have hq22 := hQ 22 "ThirdOfTheLast$Pot" (by decide)
  refine lv_aload_n hx hb dX1_init_0 rfl (lv_at hl 0 rfl) ?_
  refine W.objInit hx hb hown (hts (.methodLink RX1 3 objectInit) (List.mem_of_getElem? (i := 1) rfl)) (hts (.instanceMethod objectInit) (List.mem_of_getElem? (i := 2) rfl)) (hts _ (List.mem_of_getElem? (i := 3) rfl)) rfl (by rw [hml]; exact hl.1) rfl dX1_init_1 (Nat.le_of_ble_eq_true rfl) (Nat.le_of_ble_eq_true rfl) ?_
  refine W.eq (g2 := F0 m 4 ls []) rfl ?_
  refine lv_aload_n hx hb dX1_init_4 rfl (lv_at hl 0 rfl) ?_
  refine lv_bipush (v := 6) hx hb dX1_init_5 (by decide) ?_
  refine ci_newq (N' := 6) hx hb hown (hts (.classLink RX1 9 RX3) (List.mem_of_getElem? (i := 4) rfl)) hq22.2 hq22.1 hP hD hS hsz (Nat.le_succ b) (by decide) (by decide) (by decide) (Nat.le_of_ble_eq_true rfl) (Nat.le_of_ble_eq_true rfl) dX1_init_7 (fun H z1 hAr hP hD hS => ?_)
  refine ci_put true (D := D) (ci := 1) (v := .ref (b + 1)) (ty := .array (.object "ThirdOfTheLast$Pot")) (C := RX1) (T := TX1) (N := 2) hx hb hts hw tyX1 tyX1_ok nmX1 hown hK hP hD hS z1 0 rfl rfl 0 (by decide) (hts (.fieldLink RX1 11 "ThirdOfTheLast$Kitchen" "pots" "[LThirdOfTheLast$Pot;") (List.mem_of_getElem? (i := 5) rfl)) (fun _ h9 => h9) rfl hin rfl (by decide +kernel) rfl rfl (Nat.le_of_ble_eq_true rfl) dX1_init_10 (fun H1 locs1 z1 hP hD hS => ?_)
  refine lv_iconst (v := 0) hx hb dX1_init_13 (by decide) ?_
  refine lv_istore_n (lv' := [(1, .int 0), (0, .ref b)]) hx hb dX1_init_14 rfl hl (by decide) rfl (fun ls hl => ?_)
  have hP : va_P D vwCl (kt0 cK b 0) H1 := by rw [kt0, rfs_0]; exact hP
  have loop : ∀ (n j : Nat), j + n = 6 → ∀ (H : Heap) (locs : List Loc) (ls : Array Slot), H.size = b + 2 + 5 * j → va_P D vwCl (kt0 cK b j) H → va_S (fun q => b ≤ q) s.heap H locs → lv_has ls 2 [(1, .int (nI j)), (0, .ref b)] → W p l e (headSpec wsX1_init rmX1).room s m [Value.ref b].toArray below meth c H locs (1 + 5 * j) (6 + 34 * j) (MQ below (QI D b 32 (kt0 cK b 6)) [Value.ref b].toArray s 31 210 (fun q => b ≤ q)) (F0 m 15 ls []) := by
    have hK22 : va_K D vwCl [(cK 22, .object "ThirdOfTheLast$Pot")] s := K_push (tys := []) hK hAr
    intro n
    induction n with
    | zero =>
      intro j hj H locs ls hz hP hS hl
      obtain rfl : j = 6 := by omega
      refine lv_iload_n hx hb dX1_init_15 rfl (lv_at hl 0 rfl) ?_
      refine lv_aload_n hx hb dX1_init_16 rfl (lv_at hl 1 rfl) ?_
      refine va_get (D := D) (ci := 1) (v := .ref (b + 1)) (C := RX1) (T := TX1) (N := 2) hx hb hts hw hown hK hP 0 rfl rfl 0 (by decide) (hts (.fieldLink RX1 11 "ThirdOfTheLast$Kitchen" "pots" "[LThirdOfTheLast$Pot;") (List.mem_of_getElem? (i := 5) rfl)) (fun _ h9 => h9) rfl dX1_init_17 ?_
      refine va_alen (v := 6) hx hb hK22 hP 1 0 rfl rfl rfl dX1_init_20 ?_
      refine lv_icmp_ge (tgt := 43) hx hb dX1_init_21 (by decide) (fun c1 => ?_) (fun c1 => absurd (by decide) c1)
      exact W.vret hx hb hr (fun t ht hW => ⟨⟨(), rfl, trivial, by rw [ht]; exact hz, by rw [ht]; exact hP⟩, hS.F ht⟩) hS.2.2 dX1_init_43
    | succ n ih =>
      intro j hj H locs ls hz hP hS hl
      refine lv_iload_n hx hb dX1_init_15 rfl (lv_at hl 0 rfl) ?_
      refine lv_aload_n hx hb dX1_init_16 rfl (lv_at hl 1 rfl) ?_
      refine va_get (D := D) (ci := 1) (v := .ref (b + 1)) (C := RX1) (T := TX1) (N := 2) hx hb hts hw hown hK hP 0 rfl rfl 0 (by decide) (hts (.fieldLink RX1 11 "ThirdOfTheLast$Kitchen" "pots" "[LThirdOfTheLast$Pot;") (List.mem_of_getElem? (i := 5) rfl)) (fun _ h9 => h9) rfl dX1_init_17 ?_
      refine va_alen (v := 6) hx hb hK22 hP 1 0 rfl rfl rfl dX1_init_20 ?_
      refine lv_icmp_ge (tgt := 43) hx hb dX1_init_21 (by decide) (fun c1 => ?_) (fun c1 => ?_)
      · exact absurd c1 (by rcases (show j = 0 ∨ j = 1 ∨ j = 2 ∨ j = 3 ∨ j = 4 ∨ j = 5 by omega) with rfl | rfl | rfl | rfl | rfl | rfl <;> decide)
      refine lv_aload_n hx hb dX1_init_24 rfl (lv_at hl 1 rfl) ?_
      refine va_get (D := D) (ci := 1) (v := .ref (b + 1)) (C := RX1) (T := TX1) (N := 2) hx hb hts hw hown hK hP 0 rfl rfl 0 (by decide) (hts (.fieldLink RX1 11 "ThirdOfTheLast$Kitchen" "pots" "[LThirdOfTheLast$Pot;") (List.mem_of_getElem? (i := 5) rfl)) (fun _ h9 => h9) rfl dX1_init_25 ?_
      refine lv_iload_n hx hb dX1_init_28 rfl (lv_at hl 0 rfl) ?_
      refine ci_new (h := b + 2 + 5 * j) (ci := 3) (fs := [.null, .null, .null]) (C := RX3) (T := TX3) (N := 3) hx hb hts hw3 tyX3 tyX3_ok hown (hts (.classLink RX1 9 RX3) (List.mem_of_getElem? (i := 4) rfl)) (hts (.instantiable RX3 3) (List.mem_of_getElem? (i := 6) rfl)) (hts (.initialized RX3) (List.mem_of_getElem? (i := 7) rfl)) hK hP (kt0_sq cK b j).D hS hz (by show b ≤ _; omega) rfl (fun j hj => by rcases (show j = 0 ∨ j = 1 ∨ j = 2 by omega) with rfl | rfl | rfl <;> rfl) (by show 1 + 5 * j + 1 ≤ 31; omega) (by show 6 + 34 * j + 3 ≤ 210; omega) dX1_init_29 (fun H1 z1 hP hD hS => ?_)
      refine lv_dup hx hb dX1_init_32 rfl ?_
      refine va_callv (va_runIN (host := RX5) (As := []) (rest := [.ref (b + 2 + 5 * j), .int (nI j), .ref (b + 1)]) ⟨hx, hb, hml, hown, hts⟩ (c_X3_init l D cK (b + 2 + 5 * j)) ⟨va_cnB 0 hts gX1_init_X3_init_n17 rfl rfl rfl (hN _ (List.mem_of_getElem? (i := 0) rfl)) (hts (.initialized RX3) (List.mem_of_getElem? (i := 7) rfl)) (by decide +kernel) ⟨Nat.le_of_ble_eq_true rfl, Nat.le_of_ble_eq_true rfl⟩, rfl, hts (.instanceMethod yX3_init) (List.mem_of_getElem? (i := 8) rfl)⟩ (PI.pre z1 hP.right hK hT hN) rfl rfl hl.1 rfl (lv_room (Nat.le_of_ble_eq_true rfl)) dX1_init_33 ⟨by show 1 + 5 * j + 1 + 4 ≤ 31; omega, by show 6 + 34 * j + 3 + 31 ≤ 210; omega⟩) hS (fun q _ h => by show b ≤ q; have h : b + 2 + 5 * j ≤ q := h; omega) (fun q h => by show b ≤ q; have h : b + 2 + 5 * j ≤ q := h; omega) (fun u t H2 locs2 ht hvm _ hB hz1 hk1 hS => ?_)
      obtain ⟨z2, hP1⟩ := hB
      rw [ht] at z2 hP1
      have hP := hP.left.grown (k := 2 + 5 * j) (kt0_sq cK b j) (kt0_len cK b j) (fun q h1 h2 => hk1 q h1 (by show ¬ b + 2 + 5 * j ≤ q; omega)) (by omega) hP1
      have hq : Sq b (kt0 cK b j ++ cPt cK (b + 2 + 5 * j)) := (kt0_sq cK b j).app (kt0_len cK b j) (by rw [show b + (2 + 5 * j) = b + 2 + 5 * j by omega]; exact cPt_sq cK _)
      refine ci_astq (r := (RX3, TX3, 3)) hx hb hK hP hq.D hS z2 1 (2 + 5 * j) 3 rfl hAr (by rw [List.getElem?_append_right (by rw [kt0_len]; omega), kt0_len, Nat.sub_self]; rfl) rfl (vp_in_nI (by omega) (by omega)) dX1_init_36 (fun H3 locs3 z3 hP hD hS => ?_)
      rw [nI_clamp (by omega)] at hP
      have hP : va_P D vwCl (kt0 cK b (j + 1)) H3 := by
        rw [kt0, ← rfs_up, cRow, ← List.append_assoc]
        exact hP
      refine lv_iinc (v := nI (j + 1)) (lv' := [(1, .int (nI (j + 1))), (0, .ref b)]) hx hb dX1_init_37 hl (k := 0) rfl (nI_1 j) (by decide) rfl (fun ls hl => ?_)
      refine lv_goto (tgt := 15) hx hb dX1_init_40 (by decide) ?_
      refine W.widen (k := 1 + 5 * (j + 1)) (n := 6 + 34 * (j + 1)) (by omega) (by omega) ?_
      exact ih (j + 1) (by omega) H3 locs3 ls (by omega) hP hS hl
  exact loop 6 0 rfl _ _ ls z1 hP hS hl
