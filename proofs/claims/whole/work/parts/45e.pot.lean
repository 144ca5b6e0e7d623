/-! the pot's constructor -/
def cPt (cK : Nat → ClassId) (b : Nat) : va_W := (b, .inr (3, [.ref (b + 1), .ref (b + 3), .ref (b + 4)])) :: (cFl (cK 21) (b + 1) ++ [(b + 3, .inl (cK 20, 12, .inl (fun _ => 0))), (b + 4, .inl (cK 20, 12, .inl (fun _ => 0)))])
/-- the world ws and a new object behind it, whose constructor has made its cells w1 -/
theorem va_P.grown {D : va_G} {ws w1 : va_W} {b k : Nat} {H H1 : Heap} (hP : va_P D vwCl ws H) (hq : Sq b ws) (hn : ws.length = k) (hk : ∀ q : Nat, q < H.size → ¬ b + k ≤ q → H1[q]? = H[q]?) (hz : b + k ≤ H.size) (h1 : va_P D vwCl w1 H1) : va_P D vwCl (ws ++ w1) H1 := by
  refine (hP.kept (fun i x hx => ?_)).app h1
  have h2 := hq.at i x hx
  have h3 : i < ws.length := (List.getElem?_eq_some_iff.mp hx).1
  exact hk _ (by omega) (by omega)
set_option maxHeartbeats 4000000 in
set_option maxRecDepth 100000 in
theorem c_X3_init (l : Launch) (D : va_G) (cK : Nat → ClassId) (b : Nat) : Met l yX3_init wsX3_init { frames := 2, cells := 4, slots := 31, locals := 50 } (PI D cK b 3 [.null, .null, .null]) (QI D b 5 (cPt cK b)) 4 31 (fun q => b ≤ q) := by
  refine Met.ofW (cc := cX3_init) (maxL := 1) (ret := none) (by decide) rfl ?_
  intro p e s m args below meth c s₁ B hml hv
  obtain ⟨rfl, hsz, hP, hK, hT, hN⟩ := hv
  have hx := B.exec
  have hb := B.bytes
  have hr := B.returns
  have hts := atoms_spec (ws := wsX3_init) B.pre
  have hown : s.vm.findClass RX3 = some m.cls := findClass_of_methodNamed B.named
  have hin : meth.name = "<init>" := (name_of_methodNamed B.named B.method).1
  have hD := D1 b (.inr (3, [.null, .null, .null]))
  have hS : va_S (fun q => b ≤ q) s.heap s.heap [] := va_S.rf
  have hl := lv_entry ([.ref b]) (n := 1) (Nat.le_of_ble_eq_true rfl)
  rw [lg_entry_eq]
  generalize (lg_sl ([.ref b]) ++ List.replicate (1 - (lg_sl ([.ref b])).length) Slot.unset).toArray = ls at hl ⊢
  have hl : lv_has ls 1 [(0, .ref b)] := hl
  have hw : ∀ w ∈ wsX30, w ∈ wsX3_init := fun w h => List.mem_cons_of_mem _ (List.mem_append_right _ h)
  have hw0 : ∀ w ∈ wsX00, w ∈ wsX3_init := fun w h => List.mem_cons_of_mem _ (List.mem_append_left _ (List.mem_append_right _ h))
  refine lv_aload_n hx hb dX3_init_0 rfl (lv_at hl 0 rfl) ?_
  refine W.objInit hx hb hown (hts (.methodLink RX3 3 objectInit) (List.mem_of_getElem? (i := 1) rfl)) (hts (.instanceMethod objectInit) (List.mem_of_getElem? (i := 2) rfl)) (hts _ (List.mem_of_getElem? (i := 3) rfl)) rfl (by rw [hml]; exact hl.1) rfl dX3_init_1 (Nat.le_of_ble_eq_true rfl) (Nat.le_of_ble_eq_true rfl) ?_
  refine W.eq (g2 := F0 m 4 ls []) rfl ?_
  refine lv_aload_n hx hb dX3_init_4 rfl (lv_at hl 0 rfl) ?_
  refine ci_new (ci := 0) (fs := [.null, .long 0, .int 0]) (C := RX0) (T := TX0) (N := 3) hx hb hts hw0 tyX0 tyX0_ok hown (hts (.classLink RX3 9 RX0) (List.mem_of_getElem? (i := 4) rfl)) (hts (.instantiable RX0 3) (List.mem_of_getElem? (i := 5) rfl)) (hts (.initialized RX0) (List.mem_of_getElem? (i := 6) rfl)) hK hP hD hS hsz (Nat.le_succ b) rfl (fun j hj => by rcases (show j = 0 ∨ j = 1 ∨ j = 2 by omega) with rfl | rfl | rfl <;> rfl) (Nat.le_of_ble_eq_true rfl) (Nat.le_of_ble_eq_true rfl) dX3_init_5 (fun H z1 hP hD hS => ?_)
  refine lv_dup hx hb dX3_init_8 rfl ?_
  refine va_callv (va_runIN (host := RX5) (As := []) (rest := [.ref (b + 1), .ref b]) ⟨hx, hb, hml, hown, hts⟩ (c_X0_init l D cK (b + 1)) ⟨va_cnB 0 hts gX3_init_X0_init_n11 rfl rfl rfl (hN _ (List.mem_of_getElem? (i := 1) rfl)) (hts (.initialized RX0) (List.mem_of_getElem? (i := 6) rfl)) (by decide +kernel) ⟨Nat.le_of_ble_eq_true rfl, Nat.le_of_ble_eq_true rfl⟩, rfl, hts (.instanceMethod yX0_init) (List.mem_of_getElem? (i := 11) rfl)⟩ (PI.pre z1 (hP.sub [1] rfl) hK hT hN) rfl rfl hl.1 rfl (lv_room (Nat.le_of_ble_eq_true rfl)) dX3_init_9 ⟨Nat.le_of_ble_eq_true rfl, Nat.le_of_ble_eq_true rfl⟩) hS (fun q _ h => Nat.le_of_succ_le h) (fun q h => Nat.le_of_succ_le h) (fun u t H1 locs1 ht hvm _ hB hz1 hk1 hS => ?_)
  obtain ⟨z2, hP1⟩ := hB
  rw [ht] at z2 hP1
  have hP := (hP.sub (ws' := [(b, .inr (3, [.null, .null, .null]))]) [0] rfl).grown (b := b) (k := 1) ⟨rfl, trivial⟩ rfl hk1 (by omega) hP1
  have hq : Sq b ([(b, .inr (3, [.null, .null, .null]))] ++ cFl (cK 21) (b + 1)) := ⟨rfl, rfl, rfl, trivial⟩
  refine ci_put true (D := D) (ci := 3) (v := .ref (b + 1)) (ty := .object "ThirdOfTheLast$Flavour") (C := RX3) (T := TX3) (N := 3) hx hb hts hw tyX3 tyX3_ok nmX3 hown hK hP hq.D hS z2 0 rfl rfl 0 (by decide) (hts (.fieldLink RX3 12 "ThirdOfTheLast$Pot" "flavour" "LThirdOfTheLast$Flavour;") (List.mem_of_getElem? (i := 7) rfl)) (fun _ h9 => h9) rfl hin rfl (by decide +kernel) rfl rfl (Nat.le_of_ble_eq_true rfl) dX3_init_12 (fun H2 locs2 z3 hP hD hS => ?_)
  refine lv_aload_n hx hb dX3_init_15 rfl (lv_at hl 0 rfl) ?_
  refine lv_bipush (v := 12) hx hb dX3_init_16 (by decide) ?_
  refine ci_newa (h := b + 3) (atype := .int) (N' := 12) (a0 := (12, .inl (fun _ => 0))) hx hb (hts (.arrayClass .int) (List.mem_of_getElem? (i := 8) rfl)) rfl hT.1 hP hD hS z3 (Nat.le_add_right b 3) rfl (by decide) (by decide) (by decide) (Nat.le_of_ble_eq_true rfl) (Nat.le_of_ble_eq_true rfl) dX3_init_18 (fun H3 z4 hP hD hS => ?_)
  refine ci_put true (D := D) (ci := 3) (v := .ref (b + 3)) (ty := .array .int) (C := RX3) (T := TX3) (N := 3) hx hb hts hw tyX3 tyX3_ok nmX3 hown hK hP hD hS z4 0 rfl rfl 1 (by decide) (hts (.fieldLink RX3 18 "ThirdOfTheLast$Pot" "kinds" "[I") (List.mem_of_getElem? (i := 9) rfl)) (fun _ h9 => h9) rfl hin rfl (by decide +kernel) rfl rfl (Nat.le_of_ble_eq_true rfl) dX3_init_20 (fun H4 locs4 z5 hP hD hS => ?_)
  refine lv_aload_n hx hb dX3_init_23 rfl (lv_at hl 0 rfl) ?_
  refine lv_bipush (v := 12) hx hb dX3_init_24 (by decide) ?_
  refine ci_newa (h := b + 4) (atype := .int) (N' := 12) (a0 := (12, .inl (fun _ => 0))) hx hb (hts (.arrayClass .int) (List.mem_of_getElem? (i := 8) rfl)) rfl hT.1 hP hD hS z5 (Nat.le_add_right b 4) rfl (by decide) (by decide) (by decide) (Nat.le_of_ble_eq_true rfl) (Nat.le_of_ble_eq_true rfl) dX3_init_26 (fun H5 z6 hP hD hS => ?_)
  refine ci_put true (D := D) (ci := 3) (v := .ref (b + 4)) (ty := .array .int) (C := RX3) (T := TX3) (N := 3) hx hb hts hw tyX3 tyX3_ok nmX3 hown hK hP hD hS z6 0 rfl rfl 2 (by decide) (hts (.fieldLink RX3 22 "ThirdOfTheLast$Pot" "figures" "[I") (List.mem_of_getElem? (i := 10) rfl)) (fun _ h9 => h9) rfl hin rfl (by decide +kernel) rfl rfl (Nat.le_of_ble_eq_true rfl) dX3_init_28 (fun H6 locs6 z7 hP hD hS => ?_)
  exact W.vret hx hb hr (fun t ht hW => ⟨⟨(), rfl, trivial, by rw [ht]; exact z7, by rw [ht]; exact hP⟩, hS.F ht⟩) hS.2.2 dX3_init_31
