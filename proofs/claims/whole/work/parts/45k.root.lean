/-! the class's constructor: from its start -/
set_option maxHeartbeats 4000000 in
set_option maxRecDepth 100000 in
theorem c_X5_init (l : Launch) (D : va_G) (cK : Nat → ClassId) (b : Nat) : Met l yX5_init wsX5_init rmX5 (PQ D cK b 5 [.null, .null, .null, .int 0, .null, .null, .null, .null]) (QI D b 142 ((b, .inr (5, [.ref (b + 1), .ref (b + 33), .ref (b + 65), .int 0, .ref (b + 97), .ref (b + 122), .ref (b + 124), .ref (b + 125)])) :: rS (rT6 cK b) cK (b + 125) (b + 126) 8)) 141 1600 (fun q => b ≤ q) := by
  refine Met.ofW (cc := cX5_init) (maxL := 2) (ret := none) (by decide) rfl ?_
  intro p e s m args below meth c s₁ B hml hv
  obtain ⟨rfl, hsz, hP, hK, hT, hN, hQ⟩ := hv
  have hx := B.exec
  have hb := B.bytes
  have hr := B.returns
  have hts := atoms_spec (ws := wsX5_init) B.pre
  have hown : s.vm.findClass RX5 = some m.cls := findClass_of_methodNamed B.named
  have hin : meth.name = "<init>" := (name_of_methodNamed B.named B.method).1
  have hD := D1 b (.inr (5, [.null, .null, .null, .int 0, .null, .null, .null, .null]))
  have hS : va_S (fun q => b ≤ q) s.heap s.heap [] := va_S.rf
  have hl := lv_entry ([.ref b]) (n := 2) (Nat.le_of_ble_eq_true rfl)
  rw [lg_entry_eq]
  generalize (lg_sl ([.ref b]) ++ List.replicate (2 - (lg_sl ([.ref b])).length) Slot.unset).toArray = ls at hl ⊢
  have hl : lv_has ls 2 [(0, .ref b)] := hl
  have hw1 : ∀ w ∈ wsX10, w ∈ wsX5_init := fun w h => List.mem_cons_of_mem _ (List.mem_append_left _ (List.mem_append_left _ (List.mem_append_left _ (List.mem_append_left _ (List.mem_append_left _ (List.mem_append_right _ h))))))
  have hw : ∀ w ∈ wsX50, w ∈ wsX5_init := fun w h => List.mem_cons_of_mem _ (List.mem_append_left _ (List.mem_append_left _ (List.mem_append_left _ (List.mem_append_left _ (List.mem_append_right _ h)))))
  have hw2 : ∀ w ∈ wsX20, w ∈ wsX5_init := fun w h => List.mem_cons_of_mem _ (List.mem_append_left _ (List.mem_append_left _ (List.mem_append_left _ (List.mem_append_right _ h))))
  have hw0 : ∀ w ∈ wsX00, w ∈ wsX5_init := fun w h => List.mem_cons_of_mem _ (List.mem_append_left _ (List.mem_append_left _ (List.mem_append_right _ h)))
  have hw4 : ∀ w ∈ wsX40, w ∈ wsX5_init := fun w h => List.mem_cons_of_mem _ (List.mem_append_left _ (List.mem_append_right _ h))
  have hq24 := hQ 24 "ThirdOfTheLast$Shelf" (by decide)
  refine lv_aload_n hx hb dX5_init_0 rfl (lv_at hl 0 rfl) ?_
  refine W.objInit hx hb hown (hts (.methodLink RX5 1 objectInit) (List.mem_of_getElem? (i := 1) rfl)) (hts (.instanceMethod objectInit) (List.mem_of_getElem? (i := 2) rfl)) (hts _ (List.mem_of_getElem? (i := 3) rfl)) rfl (by rw [hml]; exact hl.1) rfl dX5_init_1 (Nat.le_of_ble_eq_true rfl) (Nat.le_of_ble_eq_true rfl) ?_
  refine W.eq (g2 := F0 m 4 ls []) rfl ?_
  refine lv_aload_n hx hb dX5_init_4 rfl (lv_at hl 0 rfl) ?_
  have hq : Sq b ((b, .inr (5, [.null, .null, .null, .int 0, .null, .null, .null, .null])) :: ([] : va_W)) := ⟨rfl, trivial⟩
  refine ci_new (h := b + 1) (ci := 1) (fs := [.null, .int 0]) (C := RX1) (T := TX1) (N := 2) hx hb hts hw1 tyX1 tyX1_ok hown (hts (.classLink RX5 7 RX1) (List.mem_of_getElem? (i := 4) rfl)) (hts (.instantiable RX1 2) (List.mem_of_getElem? (i := 5) rfl)) (hts (.initialized RX1) (List.mem_of_getElem? (i := 6) rfl)) hK hP hq.D hS hsz (Nat.le_add_right b 1) rfl (fun j hj => by rcases (show j = 0 ∨ j = 1 by omega) with rfl | rfl <;> rfl) (Nat.le_of_ble_eq_true rfl) (Nat.le_of_ble_eq_true rfl) dX5_init_5 (fun H z1 hP hD hS => ?_)
  refine lv_dup hx hb dX5_init_8 rfl ?_
  refine va_callv (va_runI (As := []) (rest := [.ref (b + 1), .ref b]) ⟨hx, hb, hml, hown, hts⟩ (c_X1_init l D cK (b + 1)) (cwI 0 hts gX5_init_X1_init rfl rfl rfl (hts (.initialized RX1) (List.mem_of_getElem? (i := 6) rfl)) (hts (.methodLink RX5 9 yX1_init) (List.mem_of_getElem? (i := 24) rfl)) (hts (.instanceMethod yX1_init) (List.mem_of_getElem? (i := 25) rfl)) rfl (by decide +kernel) ⟨Nat.le_of_ble_eq_true rfl, Nat.le_of_ble_eq_true rfl⟩) (PQ.pre z1 hP.right hK hT hN hQ) rfl rfl hl.1 rfl (lv_room (Nat.le_of_ble_eq_true rfl)) dX5_init_9 ⟨Nat.le_of_ble_eq_true rfl, Nat.le_of_ble_eq_true rfl⟩) hS (fun q _ h => by show b ≤ q; have h : b + 1 ≤ q := h; omega) (fun q h => by show b ≤ q; have h : b + 1 ≤ q := h; omega) (fun u t H2 locs2 ht hvm _ hB hz1 hk1 hS => ?_)
  obtain ⟨z2, hP1⟩ := hB
  rw [ht] at z2 hP1
  have hP := hP.left.grown (k := 1) hq rfl (fun q h1 h2 => hk1 q h1 (by show ¬ b + 1 ≤ q; omega)) (by omega) hP1
  have hP : va_P D vwCl ((b, .inr (5, [.null, .null, .null, .int 0, .null, .null, .null, .null])) :: rT1 cK b) H2 := hP
  have hq : Sq b ((b, .inr (5, [.null, .null, .null, .int 0, .null, .null, .null, .null])) :: rT1 cK b) := Sq.cons (rT1_sq cK b)
  refine ci_put true (D := D) (ci := 5) (v := .ref (b + 1)) (ty := .object "ThirdOfTheLast$Kitchen") (C := RX5) (T := TX5) (N := 8) hx hb hts hw tyX5 tyX5_ok nmX5 hown hK hP hq.D hS (h := b + 33) (z2.trans (by omega)) 0 rfl rfl 0 (by decide) (hts (.fieldLink RX5 10 "ThirdOfTheLast" "now" "LThirdOfTheLast$Kitchen;") (List.mem_of_getElem? (i := 7) rfl)) (fun _ h9 => h9) rfl hin rfl (by decide +kernel) rfl rfl (Nat.le_of_ble_eq_true rfl) dX5_init_12 (fun H12 locs12 z12 hP hD hS => ?_)
  have hP : va_P D vwCl ((b, .inr (5, [.ref (b + 1), .null, .null, .int 0, .null, .null, .null, .null])) :: rT1 cK b) H12 := hP
  refine lv_aload_n hx hb dX5_init_15 rfl (lv_at hl 0 rfl) ?_
  have hq : Sq b ((b, .inr (5, [.ref (b + 1), .null, .null, .int 0, .null, .null, .null, .null])) :: (rT1 cK b : va_W)) := Sq.cons (rT1_sq cK b)
  refine ci_new (h := b + 33) (ci := 1) (fs := [.null, .int 0]) (C := RX1) (T := TX1) (N := 2) hx hb hts hw1 tyX1 tyX1_ok hown (hts (.classLink RX5 7 RX1) (List.mem_of_getElem? (i := 4) rfl)) (hts (.instantiable RX1 2) (List.mem_of_getElem? (i := 5) rfl)) (hts (.initialized RX1) (List.mem_of_getElem? (i := 6) rfl)) hK hP hq.D hS z12 (Nat.le_add_right b 33) rfl (fun j hj => by rcases (show j = 0 ∨ j = 1 by omega) with rfl | rfl <;> rfl) (Nat.le_of_ble_eq_true rfl) (Nat.le_of_ble_eq_true rfl) dX5_init_16 (fun H z1 hP hD hS => ?_)
  refine lv_dup hx hb dX5_init_19 rfl ?_
  refine va_callv (va_runI (As := []) (rest := [.ref (b + 33), .ref b]) ⟨hx, hb, hml, hown, hts⟩ (c_X1_init l D cK (b + 33)) (cwI 0 hts gX5_init_X1_init rfl rfl rfl (hts (.initialized RX1) (List.mem_of_getElem? (i := 6) rfl)) (hts (.methodLink RX5 9 yX1_init) (List.mem_of_getElem? (i := 24) rfl)) (hts (.instanceMethod yX1_init) (List.mem_of_getElem? (i := 25) rfl)) rfl (by decide +kernel) ⟨Nat.le_of_ble_eq_true rfl, Nat.le_of_ble_eq_true rfl⟩) (PQ.pre z1 hP.right hK hT hN hQ) rfl rfl hl.1 rfl (lv_room (Nat.le_of_ble_eq_true rfl)) dX5_init_20 ⟨Nat.le_of_ble_eq_true rfl, Nat.le_of_ble_eq_true rfl⟩) hS (fun q _ h => by show b ≤ q; have h : b + 33 ≤ q := h; omega) (fun q h => by show b ≤ q; have h : b + 33 ≤ q := h; omega) (fun u t H2 locs2 ht hvm _ hB hz1 hk1 hS => ?_)
  obtain ⟨z2, hP1⟩ := hB
  rw [ht] at z2 hP1
  have hP := hP.left.grown (k := 33) hq (by rw [List.length_cons, rT1_len]) (fun q h1 h2 => hk1 q h1 (by show ¬ b + 33 ≤ q; omega)) (by omega) hP1
  have hP : va_P D vwCl ((b, .inr (5, [.ref (b + 1), .null, .null, .int 0, .null, .null, .null, .null])) :: rT2 cK b) H2 := hP
  have hq : Sq b ((b, .inr (5, [.ref (b + 1), .null, .null, .int 0, .null, .null, .null, .null])) :: rT2 cK b) := Sq.cons (rT2_sq cK b)
  refine ci_put true (D := D) (ci := 5) (v := .ref (b + 33)) (ty := .object "ThirdOfTheLast$Kitchen") (C := RX5) (T := TX5) (N := 8) hx hb hts hw tyX5 tyX5_ok nmX5 hown hK hP hq.D hS (h := b + 65) (z2.trans (by omega)) 0 rfl rfl 1 (by decide) (hts (.fieldLink RX5 16 "ThirdOfTheLast" "tried" "LThirdOfTheLast$Kitchen;") (List.mem_of_getElem? (i := 8) rfl)) (fun _ h9 => h9) rfl hin rfl (by decide +kernel) rfl rfl (Nat.le_of_ble_eq_true rfl) dX5_init_23 (fun H23 locs23 z23 hP hD hS => ?_)
  have hP : va_P D vwCl ((b, .inr (5, [.ref (b + 1), .ref (b + 33), .null, .int 0, .null, .null, .null, .null])) :: rT2 cK b) H23 := hP
  refine lv_aload_n hx hb dX5_init_26 rfl (lv_at hl 0 rfl) ?_
  have hq : Sq b ((b, .inr (5, [.ref (b + 1), .ref (b + 33), .null, .int 0, .null, .null, .null, .null])) :: (rT2 cK b : va_W)) := Sq.cons (rT2_sq cK b)
  refine ci_new (h := b + 65) (ci := 1) (fs := [.null, .int 0]) (C := RX1) (T := TX1) (N := 2) hx hb hts hw1 tyX1 tyX1_ok hown (hts (.classLink RX5 7 RX1) (List.mem_of_getElem? (i := 4) rfl)) (hts (.instantiable RX1 2) (List.mem_of_getElem? (i := 5) rfl)) (hts (.initialized RX1) (List.mem_of_getElem? (i := 6) rfl)) hK hP hq.D hS z23 (Nat.le_add_right b 65) rfl (fun j hj => by rcases (show j = 0 ∨ j = 1 by omega) with rfl | rfl <;> rfl) (Nat.le_of_ble_eq_true rfl) (Nat.le_of_ble_eq_true rfl) dX5_init_27 (fun H z1 hP hD hS => ?_)
  refine lv_dup hx hb dX5_init_30 rfl ?_
  refine va_callv (va_runI (As := []) (rest := [.ref (b + 65), .ref b]) ⟨hx, hb, hml, hown, hts⟩ (c_X1_init l D cK (b + 65)) (cwI 0 hts gX5_init_X1_init rfl rfl rfl (hts (.initialized RX1) (List.mem_of_getElem? (i := 6) rfl)) (hts (.methodLink RX5 9 yX1_init) (List.mem_of_getElem? (i := 24) rfl)) (hts (.instanceMethod yX1_init) (List.mem_of_getElem? (i := 25) rfl)) rfl (by decide +kernel) ⟨Nat.le_of_ble_eq_true rfl, Nat.le_of_ble_eq_true rfl⟩) (PQ.pre z1 hP.right hK hT hN hQ) rfl rfl hl.1 rfl (lv_room (Nat.le_of_ble_eq_true rfl)) dX5_init_31 ⟨Nat.le_of_ble_eq_true rfl, Nat.le_of_ble_eq_true rfl⟩) hS (fun q _ h => by show b ≤ q; have h : b + 65 ≤ q := h; omega) (fun q h => by show b ≤ q; have h : b + 65 ≤ q := h; omega) (fun u t H2 locs2 ht hvm _ hB hz1 hk1 hS => ?_)
  obtain ⟨z2, hP1⟩ := hB
  rw [ht] at z2 hP1
  have hP := hP.left.grown (k := 65) hq (by rw [List.length_cons, rT2_len]) (fun q h1 h2 => hk1 q h1 (by show ¬ b + 65 ≤ q; omega)) (by omega) hP1
  have hP : va_P D vwCl ((b, .inr (5, [.ref (b + 1), .ref (b + 33), .null, .int 0, .null, .null, .null, .null])) :: rT3 cK b) H2 := hP
  have hq : Sq b ((b, .inr (5, [.ref (b + 1), .ref (b + 33), .null, .int 0, .null, .null, .null, .null])) :: rT3 cK b) := Sq.cons (rT3_sq cK b)
  refine ci_put true (D := D) (ci := 5) (v := .ref (b + 65)) (ty := .object "ThirdOfTheLast$Kitchen") (C := RX5) (T := TX5) (N := 8) hx hb hts hw tyX5 tyX5_ok nmX5 hown hK hP hq.D hS (h := b + 97) (z2.trans (by omega)) 0 rfl rfl 2 (by decide) (hts (.fieldLink RX5 19 "ThirdOfTheLast" "kept" "LThirdOfTheLast$Kitchen;") (List.mem_of_getElem? (i := 9) rfl)) (fun _ h9 => h9) rfl hin rfl (by decide +kernel) rfl rfl (Nat.le_of_ble_eq_true rfl) dX5_init_34 (fun H34 locs34 z34 hP hD hS => ?_)
  have hP : va_P D vwCl ((b, .inr (5, [.ref (b + 1), .ref (b + 33), .ref (b + 65), .int 0, .null, .null, .null, .null])) :: rT3 cK b) H34 := hP
  refine lv_aload_n hx hb dX5_init_37 rfl (lv_at hl 0 rfl) ?_
  have hq : Sq b ((b, .inr (5, [.ref (b + 1), .ref (b + 33), .ref (b + 65), .int 0, .null, .null, .null, .null])) :: (rT3 cK b : va_W)) := Sq.cons (rT3_sq cK b)
  refine ci_new (h := b + 97) (ci := 2) (fs := [.null, .null, .int 0, .int 0, .int 0, .int 0, .int 0]) (C := RX2) (T := TX2) (N := 7) hx hb hts hw2 tyX2 tyX2_ok hown (hts (.classLink RX5 22 RX2) (List.mem_of_getElem? (i := 10) rfl)) (hts (.instantiable RX2 7) (List.mem_of_getElem? (i := 11) rfl)) (hts (.initialized RX2) (List.mem_of_getElem? (i := 12) rfl)) hK hP hq.D hS z34 (Nat.le_add_right b 97) rfl (fun j hj => by rcases (show j = 0 ∨ j = 1 ∨ j = 2 ∨ j = 3 ∨ j = 4 ∨ j = 5 ∨ j = 6 by omega) with rfl | rfl | rfl | rfl | rfl | rfl | rfl <;> rfl) (Nat.le_of_ble_eq_true rfl) (Nat.le_of_ble_eq_true rfl) dX5_init_38 (fun H z1 hP hD hS => ?_)
  refine lv_dup hx hb dX5_init_41 rfl ?_
  refine va_callv (va_runI (As := []) (rest := [.ref (b + 97), .ref b]) ⟨hx, hb, hml, hown, hts⟩ (c_X2_init l D cK (b + 97)) (cwI 0 hts gX5_init_X2_init rfl rfl rfl (hts (.initialized RX2) (List.mem_of_getElem? (i := 12) rfl)) (hts (.methodLink RX5 24 yX2_init) (List.mem_of_getElem? (i := 45) rfl)) (hts (.instanceMethod yX2_init) (List.mem_of_getElem? (i := 46) rfl)) rfl (by decide +kernel) ⟨Nat.le_of_ble_eq_true rfl, Nat.le_of_ble_eq_true rfl⟩) (PQ.pre z1 hP.right hK hT hN hQ) rfl rfl hl.1 rfl (lv_room (Nat.le_of_ble_eq_true rfl)) dX5_init_42 ⟨Nat.le_of_ble_eq_true rfl, Nat.le_of_ble_eq_true rfl⟩) hS (fun q _ h => by show b ≤ q; have h : b + 97 ≤ q := h; omega) (fun q h => by show b ≤ q; have h : b + 97 ≤ q := h; omega) (fun u t H2 locs2 ht hvm _ hB hz1 hk1 hS => ?_)
  obtain ⟨z2, hP1⟩ := hB
  rw [ht] at z2 hP1
  have hP := hP.left.grown (k := 97) hq (by rw [List.length_cons, rT3_len]) (fun q h1 h2 => hk1 q h1 (by show ¬ b + 97 ≤ q; omega)) (by omega) hP1
  have hP : va_P D vwCl ((b, .inr (5, [.ref (b + 1), .ref (b + 33), .ref (b + 65), .int 0, .null, .null, .null, .null])) :: rT4 cK b) H2 := hP
  have hq : Sq b ((b, .inr (5, [.ref (b + 1), .ref (b + 33), .ref (b + 65), .int 0, .null, .null, .null, .null])) :: rT4 cK b) := Sq.cons (rT4_sq cK b)
  refine ci_put true (D := D) (ci := 5) (v := .ref (b + 97)) (ty := .object "ThirdOfTheLast$Mind") (C := RX5) (T := TX5) (N := 8) hx hb hts hw tyX5 tyX5_ok nmX5 hown hK hP hq.D hS (h := b + 122) (z2.trans (by omega)) 0 rfl rfl 4 (by decide) (hts (.fieldLink RX5 25 "ThirdOfTheLast" "mind" "LThirdOfTheLast$Mind;") (List.mem_of_getElem? (i := 13) rfl)) (fun _ h9 => h9) rfl hin rfl (by decide +kernel) rfl rfl (Nat.le_of_ble_eq_true rfl) dX5_init_45 (fun H45 locs45 z45 hP hD hS => ?_)
  have hP : va_P D vwCl ((b, .inr (5, [.ref (b + 1), .ref (b + 33), .ref (b + 65), .int 0, .ref (b + 97), .null, .null, .null])) :: rT4 cK b) H45 := hP
  refine lv_aload_n hx hb dX5_init_48 rfl (lv_at hl 0 rfl) ?_
  have hq : Sq b ((b, .inr (5, [.ref (b + 1), .ref (b + 33), .ref (b + 65), .int 0, .ref (b + 97), .null, .null, .null])) :: (rT4 cK b : va_W)) := Sq.cons (rT4_sq cK b)
  refine ci_new (h := b + 122) (ci := 0) (fs := [.null, .long 0, .int 0]) (C := RX0) (T := TX0) (N := 3) hx hb hts hw0 tyX0 tyX0_ok hown (hts (.classLink RX5 29 RX0) (List.mem_of_getElem? (i := 14) rfl)) (hts (.instantiable RX0 3) (List.mem_of_getElem? (i := 15) rfl)) (hts (.initialized RX0) (List.mem_of_getElem? (i := 16) rfl)) hK hP hq.D hS z45 (Nat.le_add_right b 122) rfl (fun j hj => by rcases (show j = 0 ∨ j = 1 ∨ j = 2 by omega) with rfl | rfl | rfl <;> rfl) (Nat.le_of_ble_eq_true rfl) (Nat.le_of_ble_eq_true rfl) dX5_init_49 (fun H z1 hP hD hS => ?_)
  refine lv_dup hx hb dX5_init_52 rfl ?_
  refine va_callv (va_runIN (host := RX5) (As := []) (rest := [.ref (b + 122), .ref b]) ⟨hx, hb, hml, hown, hts⟩ (c_X0_init l D cK (b + 122)) ⟨va_cnB 0 hts gX5_init_X0_init_n31 rfl rfl rfl (hN _ (List.mem_of_getElem? (i := 3) rfl)) (hts (.initialized RX0) (List.mem_of_getElem? (i := 16) rfl)) (by decide +kernel) ⟨Nat.le_of_ble_eq_true rfl, Nat.le_of_ble_eq_true rfl⟩, rfl, hts (.instanceMethod yX0_init) (List.mem_of_getElem? (i := 39) rfl)⟩ (PI.pre z1 hP.right hK hT hN) rfl rfl hl.1 rfl (lv_room (Nat.le_of_ble_eq_true rfl)) dX5_init_53 ⟨Nat.le_of_ble_eq_true rfl, Nat.le_of_ble_eq_true rfl⟩) hS (fun q _ h => by show b ≤ q; have h : b + 122 ≤ q := h; omega) (fun q h => by show b ≤ q; have h : b + 122 ≤ q := h; omega) (fun u t H2 locs2 ht hvm _ hB hz1 hk1 hS => ?_)
  obtain ⟨z2, hP1⟩ := hB
  rw [ht] at z2 hP1
  have hP := hP.left.grown (k := 122) hq (by rw [List.length_cons, rT4_len]) (fun q h1 h2 => hk1 q h1 (by show ¬ b + 122 ≤ q; omega)) (by omega) hP1
  have hP : va_P D vwCl ((b, .inr (5, [.ref (b + 1), .ref (b + 33), .ref (b + 65), .int 0, .ref (b + 97), .null, .null, .null])) :: rT5 cK b) H2 := hP
  have hq : Sq b ((b, .inr (5, [.ref (b + 1), .ref (b + 33), .ref (b + 65), .int 0, .ref (b + 97), .null, .null, .null])) :: rT5 cK b) := Sq.cons (rT5_sq cK b)
  refine ci_put true (D := D) (ci := 5) (v := .ref (b + 122)) (ty := .object "ThirdOfTheLast$Flavour") (C := RX5) (T := TX5) (N := 8) hx hb hts hw tyX5 tyX5_ok nmX5 hown hK hP hq.D hS (h := b + 124) (z2.trans (by omega)) 0 rfl rfl 5 (by decide) (hts (.fieldLink RX5 32 "ThirdOfTheLast" "trial" "LThirdOfTheLast$Flavour;") (List.mem_of_getElem? (i := 17) rfl)) (fun _ h9 => h9) rfl hin rfl (by decide +kernel) rfl rfl (Nat.le_of_ble_eq_true rfl) dX5_init_56 (fun H56 locs56 z56 hP hD hS => ?_)
  have hP : va_P D vwCl ((b, .inr (5, [.ref (b + 1), .ref (b + 33), .ref (b + 65), .int 0, .ref (b + 97), .ref (b + 122), .null, .null])) :: rT5 cK b) H56 := hP
  have hq : Sq b ((b, .inr (5, [.ref (b + 1), .ref (b + 33), .ref (b + 65), .int 0, .ref (b + 97), .ref (b + 122), .null, .null])) :: rT5 cK b) := Sq.cons (rT5_sq cK b)
  refine lv_aload_n hx hb dX5_init_59 rfl (lv_at hl 0 rfl) ?_
  refine lv_bipush (v := 6) hx hb dX5_init_60 (by decide) ?_
  refine ci_newa (h := b + 124) (atype := .int) (N' := 6) (a0 := (6, .inl (fun _ => 0))) hx hb (hts (.arrayClass .int) (List.mem_of_getElem? (i := 18) rfl)) rfl hT.1 hP hq.D hS z56 (Nat.le_add_right b 124) rfl (by decide) (by decide) (by decide) (Nat.le_of_ble_eq_true rfl) (Nat.le_of_ble_eq_true rfl) dX5_init_62 (fun H z62 hP hD hS => ?_)
  have hP : va_P D vwCl ((b, .inr (5, [.ref (b + 1), .ref (b + 33), .ref (b + 65), .int 0, .ref (b + 97), .ref (b + 122), .null, .null])) :: rT6 cK b) H := hP
  have hq : Sq b ((b, .inr (5, [.ref (b + 1), .ref (b + 33), .ref (b + 65), .int 0, .ref (b + 97), .ref (b + 122), .null, .null])) :: rT6 cK b) := Sq.cons (rT6_sq cK b)
  refine ci_put true (D := D) (ci := 5) (v := .ref (b + 124)) (ty := .array .int) (C := RX5) (T := TX5) (N := 8) hx hb hts hw tyX5 tyX5_ok nmX5 hown hK hP hq.D hS (h := b + 125) z62 0 rfl rfl 6 (by decide) (hts (.fieldLink RX5 36 "ThirdOfTheLast" "portions" "[I") (List.mem_of_getElem? (i := 19) rfl)) (fun _ h9 => h9) rfl hin rfl (by decide +kernel) rfl rfl (Nat.le_of_ble_eq_true rfl) dX5_init_64 (fun H64 locs64 z64 hP hD hS => ?_)
  have hP : va_P D vwCl ((b, .inr (5, [.ref (b + 1), .ref (b + 33), .ref (b + 65), .int 0, .ref (b + 97), .ref (b + 122), .ref (b + 124), .null])) :: rT6 cK b) H64 := hP
  have hq : Sq b ((b, .inr (5, [.ref (b + 1), .ref (b + 33), .ref (b + 65), .int 0, .ref (b + 97), .ref (b + 122), .ref (b + 124), .null])) :: rT6 cK b) := Sq.cons (rT6_sq cK b)
  refine lv_aload_n hx hb dX5_init_67 rfl (lv_at hl 0 rfl) ?_
  refine lv_bipush (v := 8) hx hb dX5_init_68 (by decide) ?_
  refine ci_newq (h := b + 125) (N' := 8) hx hb hown (hts (.classLink RX5 40 RX4) (List.mem_of_getElem? (i := 20) rfl)) hq24.2 hq24.1 hP hq.D hS z64 (Nat.le_add_right b 125) (by decide) (by decide) (by decide) (Nat.le_of_ble_eq_true rfl) (Nat.le_of_ble_eq_true rfl) dX5_init_70 (fun H z70 hAr hP hD hS => ?_)
  have hP : va_P D vwCl ((b, .inr (5, [.ref (b + 1), .ref (b + 33), .ref (b + 65), .int 0, .ref (b + 97), .ref (b + 122), .ref (b + 124), .null])) :: rS (rT6 cK b) cK (b + 125) (b + 126) 0) H := by rw [rS, rfs_0]; exact hP
  have hq : Sq b ((b, .inr (5, [.ref (b + 1), .ref (b + 33), .ref (b + 65), .int 0, .ref (b + 97), .ref (b + 122), .ref (b + 124), .null])) :: rS (rT6 cK b) cK (b + 125) (b + 126) 0) := Sq.cons (rS_sq (rT6_sq cK b) (rT6_len cK b) rfl rfl cK 0)
  refine ci_put true (D := D) (ci := 5) (v := .ref (b + 125)) (ty := .array (.object "ThirdOfTheLast$Shelf")) (C := RX5) (T := TX5) (N := 8) hx hb hts hw tyX5 tyX5_ok nmX5 hown hK hP hq.D hS (h := b + 126) z70 0 rfl rfl 7 (by decide) (hts (.fieldLink RX5 42 "ThirdOfTheLast" "shelves" "[LThirdOfTheLast$Shelf;") (List.mem_of_getElem? (i := 21) rfl)) (fun _ h9 => h9) rfl hin rfl (by decide +kernel) rfl rfl (Nat.le_of_ble_eq_true rfl) dX5_init_73 (fun H73 locs73 z73 hP hD hS => ?_)
  have hP : va_P D vwCl ((b, .inr (5, [.ref (b + 1), .ref (b + 33), .ref (b + 65), .int 0, .ref (b + 97), .ref (b + 122), .ref (b + 124), .ref (b + 125)])) :: rS (rT6 cK b) cK (b + 125) (b + 126) 0) H73 := hP
  refine lv_iconst (v := 0) hx hb dX5_init_76 (by decide) ?_
  refine lv_istore_n (lv' := [(1, .int 0), (0, .ref b)]) hx hb dX5_init_77 rfl hl (by decide) rfl (fun ls hl => ?_)
  have hK24 : va_K D vwCl [(cK 24, .object "ThirdOfTheLast$Shelf")] s := K_push (tys := []) hK hAr
  exact c_X5_loop l D cK rfl rfl (rT6_len cK b) (rT6_sq cK b) hx hb hml hr B.notSynchronized hown hts hw hw4 hK hK24 hT hN hAr 8 0 rfl _ _ ls z73 hP hS hl
