/-! the model's constructor: 22 rows -/
def cMd (cK : Nat → ClassId) (b : Nat) : va_W := [(b, .inr (6, [.int 0, .ref (b + 1), .ref (b + 2), .ref (b + 3), .ref (b + 4), .int 0, .int 0, .int 0, .ref (b + 5), .ref (b + 6), .ref (b + 7), .ref (b + 8), .int 0, .ref (b + 9), .ref (b + 10), .ref (b + 11), .ref (b + 12), .int 0, .int 0, .int 0, .int 0, .int 0, .ref (b + 13), .ref (b + 14), .ref (b + 15), .int 0, .ref (b + 16), .ref (b + 17), .ref (b + 18), .ref (b + 19), .ref (b + 20), .ref (b + 21), .ref (b + 22)])), (b + 1, .inl (cK 21, 28, .inr (.inl (fun _ => 0)))), (b + 2, .inl (cK 20, 7, .inl (fun _ => 0))), (b + 3, .inl (cK 20, 84, .inl (fun _ => 0))), (b + 4, .inl (cK 20, 84, .inl (fun _ => 0))), (b + 5, .inl (cK 21, 28, .inr (.inl (fun _ => 0)))), (b + 6, .inl (cK 20, 7, .inl (fun _ => 0))), (b + 7, .inl (cK 20, 84, .inl (fun _ => 0))), (b + 8, .inl (cK 20, 84, .inl (fun _ => 0))), (b + 9, .inl (cK 21, 28, .inr (.inl (fun _ => 0)))), (b + 10, .inl (cK 20, 7, .inl (fun _ => 0))), (b + 11, .inl (cK 20, 84, .inl (fun _ => 0))), (b + 12, .inl (cK 20, 84, .inl (fun _ => 0))), (b + 13, .inl (cK 20, 51, .inl (fun _ => 0))), (b + 14, .inl (cK 20, 51, .inl (fun _ => 0))), (b + 15, .inl (cK 20, 153, .inl (fun _ => 0))), (b + 16, .inl (cK 20, 8, .inl (fun _ => 0))), (b + 17, .inl (cK 20, 8, .inl (fun _ => 0))), (b + 18, .inl (cK 20, 8, .inl (fun _ => 0))), (b + 19, .inl (cK 20, 8, .inl (fun _ => 0))), (b + 20, .inl (cK 20, 8, .inl (fun _ => 0))), (b + 21, .inl (cK 21, 800, .inr (.inl (fun _ => 0)))), (b + 22, .inl (cK 21, 100, .inr (.inl (fun _ => 0))))]
section CM
variable {p : Program} {l : Launch} {e : Env} {R : Room} {s : State} {m : MethodId} {args : Array Value} {below : List Frame} {meth : Method} {c : Code} {H : Heap} {locs : List Loc} {cells slots : Nat} {Q : State → Prop}
variable {pc : Nat} {ls : Array Slot} {rest : List Value} {D : va_G} {A : Nat → Prop} {H0 : Heap}
/-- a new row, written into a field of the model under construction -/
theorem ci_rowM (hexec : p.tables.exec = Jvm.exec) (hb : c.code = cX6_init) (hts : ∀ w ∈ wsX6_init, w.before args s = true) (hown : s.vm.findClass RX6 = some m.cls) (hin : meth.name = "<init>") (hK : va_K D vwCl [] s) {b : Nat} {t : va_W} {fs : List Value} (hP : va_P D vwCl ((b, .inr (6, fs)) :: t) H) (hD : va_D A ((b, .inr (6, fs)) :: t)) (hS : va_S A H0 H locs) {h : Nat} (hz : H.size = h) (hAh : A h) (hfl : fs.length = 33)
    {atype : ArrayType} (harr : (Cond.arrayClass (newarray.typeOf atype)).before args s = true) {ty : FieldType} (hty : newarray.typeOf atype = ty) {cA : ClassId} (hcA : s.vm.findClass ("[" ++ ty.toString) = some cA) {n : Int32} {N' : Nat} {a0 : vp_A} (ha : vp_cell cA a0 = arrV cA N' (fun _ => defaultValue ty)) (hn : ¬ n < 0) (hN : n.toNatClampNeg = N') (hbytes : N' * componentBytes ty ≤ 536870912) (hcells : cells + 1 ≤ R.cells) (hslots : slots + N' ≤ R.slots)
    (k : Nat) (hk : k < 33) {index : Nat} (hlink : (Cond.fieldLink RX6 index "ThirdOfTheLastModel" (TX6 k).2.1 (TX6 k).2.2.1).before args s = true) (hfin : (TX6 k).2.2.2 = true) (hcls : (TX6 k).1 = RX6) (hd : parseFieldDescriptor (TX6 k).2.2.1 = some (.array ty)) (d1 : decode cX6_init pc = .ok (.newarray atype, 2)) (d2 : decode cX6_init (pc + 2) = .ok (.putfield index, 3))
    (kk : ∀ (H1 : Heap) (locs1 : List Loc), H1.size = h + 1 → va_P D vwCl ((b, .inr (6, fs.set k (.ref h))) :: (t ++ [(h, .inl (cA, a0))])) H1 → va_D A ((b, .inr (6, fs.set k (.ref h))) :: (t ++ [(h, .inl (cA, a0))])) → va_S A H0 H1 locs1 → (fs.set k (.ref h)).length = 33 → W p l e R s m args below meth c H1 locs1 (cells + 1) (slots + N') Q (F0 m (pc + 2 + 3) ls rest)) : W p l e R s m args below meth c H locs cells slots Q (F0 m pc ls (.int n :: .ref b :: rest)) := by
  have hw : ∀ w ∈ wsX60, w ∈ wsX6_init := fun w h => List.mem_cons_of_mem _ (List.mem_append_right _ h)
  refine ci_newa (h := h) hexec hb harr hty hcA hP hD hS hz hAh ha hn hN hbytes hcells hslots d1 (fun H1 z1 hP hD hS => ?_)
  refine ci_put true (D := D) (ci := 6) (v := .ref h) (ty := .array ty) (C := RX6) (T := TX6) (N := 33) hexec hb hts hw tyX6 tyX6_ok nmX6 hown hK hP hD hS z1 0 rfl rfl k hk hlink (fun x h9 => by rw [hcls] at h9; exact h9) hfin hin hcls hd rfl rfl (by omega) d2 (fun H2 locs2 z2 hP hD hS => ?_)
  exact kk H2 locs2 z2 hP hD hS (by rw [List.length_set]; exact hfl)
end CM
set_option maxHeartbeats 4000000 in
set_option maxRecDepth 100000 in
theorem c_X6_init (l : Launch) (D : va_G) (cK : Nat → ClassId) (b : Nat) : Met l yX6_init wsX6_init { frames := 1, cells := 22, slots := 1804, locals := 20 } (PI D cK b 6 [.int 0, .null, .null, .null, .null, .int 0, .int 0, .int 0, .null, .null, .null, .null, .int 0, .null, .null, .null, .null, .int 0, .int 0, .int 0, .int 0, .int 0, .null, .null, .null, .int 0, .null, .null, .null, .null, .null, .null, .null]) (QI D b 23 (cMd cK b)) 22 1804 (fun q => b ≤ q) := by
  refine Met.ofW (cc := cX6_init) (maxL := 1) (ret := none) (by decide) rfl ?_
  intro p e s m args below meth c s₁ B hml hv
  obtain ⟨rfl, hsz, hP, hK, hT, hN⟩ := hv
  have hx := B.exec
  have hb := B.bytes
  have hr := B.returns
  have hts := atoms_spec (ws := wsX6_init) B.pre
  have hown : s.vm.findClass RX6 = some m.cls := findClass_of_methodNamed B.named
  have hin : meth.name = "<init>" := (name_of_methodNamed B.named B.method).1
  have hD := D1 b (.inr (6, [.int 0, .null, .null, .null, .null, .int 0, .int 0, .int 0, .null, .null, .null, .null, .int 0, .null, .null, .null, .null, .int 0, .int 0, .int 0, .int 0, .int 0, .null, .null, .null, .int 0, .null, .null, .null, .null, .null, .null, .null]))
  have hS : va_S (fun q => b ≤ q) s.heap s.heap [] := va_S.rf
  have hl := lv_entry ([.ref b]) (n := 1) (Nat.le_of_ble_eq_true rfl)
  rw [lg_entry_eq]
  generalize (lg_sl ([.ref b]) ++ List.replicate (1 - (lg_sl ([.ref b])).length) Slot.unset).toArray = ls at hl ⊢
  have hl : lv_has ls 1 [(0, .ref b)] := hl
  have hw : ∀ w ∈ wsX60, w ∈ wsX6_init := fun w h => List.mem_cons_of_mem _ (List.mem_append_right _ h)
  have hai := hts (.arrayClass .int) (List.mem_of_getElem? (i := 6) rfl)
  have hal := hts (.arrayClass .long) (List.mem_of_getElem? (i := 4) rfl)
  have hfl : ([.int 0, .null, .null, .null, .null, .int 0, .int 0, .int 0, .null, .null, .null, .null, .int 0, .null, .null, .null, .null, .int 0, .int 0, .int 0, .int 0, .int 0, .null, .null, .null, .int 0, .null, .null, .null, .null, .null, .null, .null] : List Value).length = 33 := rfl
  refine lv_aload_n hx hb dX6_init_0 rfl (lv_at hl 0 rfl) ?_
  refine W.objInit hx hb hown (hts (.methodLink RX6 1 objectInit) (List.mem_of_getElem? (i := 1) rfl)) (hts (.instanceMethod objectInit) (List.mem_of_getElem? (i := 2) rfl)) (hts _ (List.mem_of_getElem? (i := 3) rfl)) rfl (by rw [hml]; exact hl.1) rfl dX6_init_1 (Nat.le_of_ble_eq_true rfl) (Nat.le_of_ble_eq_true rfl) ?_
  refine W.eq (g2 := F0 m 4 ls []) rfl ?_
  refine lv_aload_n hx hb dX6_init_4 rfl (lv_at hl 0 rfl) ?_
  refine lv_bipush (v := 28) hx hb dX6_init_5 (by decide) ?_
  refine ci_rowM (h := b + 1) (atype := .long) (N' := 28) (a0 := (28, .inr (.inl (fun _ => 0)))) hx hb hts hown hin hK hP hD hS hsz (Nat.le_add_right b 1) hfl hal rfl hT.2 rfl (by decide) (by decide) (by decide) (Nat.le_of_ble_eq_true rfl) (Nat.le_of_ble_eq_true rfl) 1 (by decide) (hts (.fieldLink RX6 7 "ThirdOfTheLastModel" "tastes" "[J") (List.mem_of_getElem? (i := 5) rfl)) rfl rfl (by decide +kernel) dX6_init_7 dX6_init_9 (fun H locs9 z9 hP hD hS hfl => ?_)
  refine lv_aload_n hx hb dX6_init_12 rfl (lv_at hl 0 rfl) ?_
  refine lv_bipush (v := 7) hx hb dX6_init_13 (by decide) ?_
  refine ci_rowM (h := b + 2) (atype := .int) (N' := 7) (a0 := (7, .inl (fun _ => 0))) hx hb hts hown hin hK hP hD hS z9 (Nat.le_add_right b 2) hfl hai rfl hT.1 rfl (by decide) (by decide) (by decide) (Nat.le_of_ble_eq_true rfl) (Nat.le_of_ble_eq_true rfl) 2 (by decide) (hts (.fieldLink RX6 13 "ThirdOfTheLastModel" "dishMany" "[I") (List.mem_of_getElem? (i := 7) rfl)) rfl rfl (by decide +kernel) dX6_init_15 dX6_init_17 (fun H locs17 z17 hP hD hS hfl => ?_)
  refine lv_aload_n hx hb dX6_init_20 rfl (lv_at hl 0 rfl) ?_
  refine lv_bipush (v := 84) hx hb dX6_init_21 (by decide) ?_
  refine ci_rowM (h := b + 3) (atype := .int) (N' := 84) (a0 := (84, .inl (fun _ => 0))) hx hb hts hown hin hK hP hD hS z17 (Nat.le_add_right b 3) hfl hai rfl hT.1 rfl (by decide) (by decide) (by decide) (Nat.le_of_ble_eq_true rfl) (Nat.le_of_ble_eq_true rfl) 3 (by decide) (hts (.fieldLink RX6 17 "ThirdOfTheLastModel" "kinds" "[I") (List.mem_of_getElem? (i := 8) rfl)) rfl rfl (by decide +kernel) dX6_init_23 dX6_init_25 (fun H locs25 z25 hP hD hS hfl => ?_)
  refine lv_aload_n hx hb dX6_init_28 rfl (lv_at hl 0 rfl) ?_
  refine lv_bipush (v := 84) hx hb dX6_init_29 (by decide) ?_
  refine ci_rowM (h := b + 4) (atype := .int) (N' := 84) (a0 := (84, .inl (fun _ => 0))) hx hb hts hown hin hK hP hD hS z25 (Nat.le_add_right b 4) hfl hai rfl hT.1 rfl (by decide) (by decide) (by decide) (Nat.le_of_ble_eq_true rfl) (Nat.le_of_ble_eq_true rfl) 4 (by decide) (hts (.fieldLink RX6 20 "ThirdOfTheLastModel" "figures" "[I") (List.mem_of_getElem? (i := 9) rfl)) rfl rfl (by decide +kernel) dX6_init_31 dX6_init_33 (fun H locs33 z33 hP hD hS hfl => ?_)
  refine lv_aload_n hx hb dX6_init_36 rfl (lv_at hl 0 rfl) ?_
  refine lv_bipush (v := 28) hx hb dX6_init_37 (by decide) ?_
  refine ci_rowM (h := b + 5) (atype := .long) (N' := 28) (a0 := (28, .inr (.inl (fun _ => 0)))) hx hb hts hown hin hK hP hD hS z33 (Nat.le_add_right b 5) hfl hal rfl hT.2 rfl (by decide) (by decide) (by decide) (Nat.le_of_ble_eq_true rfl) (Nat.le_of_ble_eq_true rfl) 8 (by decide) (hts (.fieldLink RX6 23 "ThirdOfTheLastModel" "imagedTastes" "[J") (List.mem_of_getElem? (i := 10) rfl)) rfl rfl (by decide +kernel) dX6_init_39 dX6_init_41 (fun H locs41 z41 hP hD hS hfl => ?_)
  refine lv_aload_n hx hb dX6_init_44 rfl (lv_at hl 0 rfl) ?_
  refine lv_bipush (v := 7) hx hb dX6_init_45 (by decide) ?_
  refine ci_rowM (h := b + 6) (atype := .int) (N' := 7) (a0 := (7, .inl (fun _ => 0))) hx hb hts hown hin hK hP hD hS z41 (Nat.le_add_right b 6) hfl hai rfl hT.1 rfl (by decide) (by decide) (by decide) (Nat.le_of_ble_eq_true rfl) (Nat.le_of_ble_eq_true rfl) 9 (by decide) (hts (.fieldLink RX6 26 "ThirdOfTheLastModel" "imagedMany" "[I") (List.mem_of_getElem? (i := 11) rfl)) rfl rfl (by decide +kernel) dX6_init_47 dX6_init_49 (fun H locs49 z49 hP hD hS hfl => ?_)
  refine lv_aload_n hx hb dX6_init_52 rfl (lv_at hl 0 rfl) ?_
  refine lv_bipush (v := 84) hx hb dX6_init_53 (by decide) ?_
  refine ci_rowM (h := b + 7) (atype := .int) (N' := 84) (a0 := (84, .inl (fun _ => 0))) hx hb hts hown hin hK hP hD hS z49 (Nat.le_add_right b 7) hfl hai rfl hT.1 rfl (by decide) (by decide) (by decide) (Nat.le_of_ble_eq_true rfl) (Nat.le_of_ble_eq_true rfl) 10 (by decide) (hts (.fieldLink RX6 29 "ThirdOfTheLastModel" "imagedKinds" "[I") (List.mem_of_getElem? (i := 12) rfl)) rfl rfl (by decide +kernel) dX6_init_55 dX6_init_57 (fun H locs57 z57 hP hD hS hfl => ?_)
  refine lv_aload_n hx hb dX6_init_60 rfl (lv_at hl 0 rfl) ?_
  refine lv_bipush (v := 84) hx hb dX6_init_61 (by decide) ?_
  refine ci_rowM (h := b + 8) (atype := .int) (N' := 84) (a0 := (84, .inl (fun _ => 0))) hx hb hts hown hin hK hP hD hS z57 (Nat.le_add_right b 8) hfl hai rfl hT.1 rfl (by decide) (by decide) (by decide) (Nat.le_of_ble_eq_true rfl) (Nat.le_of_ble_eq_true rfl) 11 (by decide) (hts (.fieldLink RX6 32 "ThirdOfTheLastModel" "imagedFigures" "[I") (List.mem_of_getElem? (i := 13) rfl)) rfl rfl (by decide +kernel) dX6_init_63 dX6_init_65 (fun H locs65 z65 hP hD hS hfl => ?_)
  refine lv_aload_n hx hb dX6_init_68 rfl (lv_at hl 0 rfl) ?_
  refine lv_bipush (v := 28) hx hb dX6_init_69 (by decide) ?_
  refine ci_rowM (h := b + 9) (atype := .long) (N' := 28) (a0 := (28, .inr (.inl (fun _ => 0)))) hx hb hts hown hin hK hP hD hS z65 (Nat.le_add_right b 9) hfl hal rfl hT.2 rfl (by decide) (by decide) (by decide) (Nat.le_of_ble_eq_true rfl) (Nat.le_of_ble_eq_true rfl) 13 (by decide) (hts (.fieldLink RX6 35 "ThirdOfTheLastModel" "keptTastes" "[J") (List.mem_of_getElem? (i := 14) rfl)) rfl rfl (by decide +kernel) dX6_init_71 dX6_init_73 (fun H locs73 z73 hP hD hS hfl => ?_)
  refine lv_aload_n hx hb dX6_init_76 rfl (lv_at hl 0 rfl) ?_
  refine lv_bipush (v := 7) hx hb dX6_init_77 (by decide) ?_
  refine ci_rowM (h := b + 10) (atype := .int) (N' := 7) (a0 := (7, .inl (fun _ => 0))) hx hb hts hown hin hK hP hD hS z73 (Nat.le_add_right b 10) hfl hai rfl hT.1 rfl (by decide) (by decide) (by decide) (Nat.le_of_ble_eq_true rfl) (Nat.le_of_ble_eq_true rfl) 14 (by decide) (hts (.fieldLink RX6 38 "ThirdOfTheLastModel" "keptMany" "[I") (List.mem_of_getElem? (i := 15) rfl)) rfl rfl (by decide +kernel) dX6_init_79 dX6_init_81 (fun H locs81 z81 hP hD hS hfl => ?_)
  refine lv_aload_n hx hb dX6_init_84 rfl (lv_at hl 0 rfl) ?_
  refine lv_bipush (v := 84) hx hb dX6_init_85 (by decide) ?_
  refine ci_rowM (h := b + 11) (atype := .int) (N' := 84) (a0 := (84, .inl (fun _ => 0))) hx hb hts hown hin hK hP hD hS z81 (Nat.le_add_right b 11) hfl hai rfl hT.1 rfl (by decide) (by decide) (by decide) (Nat.le_of_ble_eq_true rfl) (Nat.le_of_ble_eq_true rfl) 15 (by decide) (hts (.fieldLink RX6 41 "ThirdOfTheLastModel" "keptKinds" "[I") (List.mem_of_getElem? (i := 16) rfl)) rfl rfl (by decide +kernel) dX6_init_87 dX6_init_89 (fun H locs89 z89 hP hD hS hfl => ?_)
  refine lv_aload_n hx hb dX6_init_92 rfl (lv_at hl 0 rfl) ?_
  refine lv_bipush (v := 84) hx hb dX6_init_93 (by decide) ?_
  refine ci_rowM (h := b + 12) (atype := .int) (N' := 84) (a0 := (84, .inl (fun _ => 0))) hx hb hts hown hin hK hP hD hS z89 (Nat.le_add_right b 12) hfl hai rfl hT.1 rfl (by decide) (by decide) (by decide) (Nat.le_of_ble_eq_true rfl) (Nat.le_of_ble_eq_true rfl) 16 (by decide) (hts (.fieldLink RX6 44 "ThirdOfTheLastModel" "keptFigures" "[I") (List.mem_of_getElem? (i := 17) rfl)) rfl rfl (by decide +kernel) dX6_init_95 dX6_init_97 (fun H locs97 z97 hP hD hS hfl => ?_)
  refine lv_aload_n hx hb dX6_init_100 rfl (lv_at hl 0 rfl) ?_
  refine lv_bipush (v := 51) hx hb dX6_init_101 (by decide) ?_
  refine ci_rowM (h := b + 13) (atype := .int) (N' := 51) (a0 := (51, .inl (fun _ => 0))) hx hb hts hown hin hK hP hD hS z97 (Nat.le_add_right b 13) hfl hai rfl hT.1 rfl (by decide) (by decide) (by decide) (Nat.le_of_ble_eq_true rfl) (Nat.le_of_ble_eq_true rfl) 22 (by decide) (hts (.fieldLink RX6 47 "ThirdOfTheLastModel" "placeOf" "[I") (List.mem_of_getElem? (i := 18) rfl)) rfl rfl (by decide +kernel) dX6_init_103 dX6_init_105 (fun H locs105 z105 hP hD hS hfl => ?_)
  refine lv_aload_n hx hb dX6_init_108 rfl (lv_at hl 0 rfl) ?_
  refine lv_bipush (v := 51) hx hb dX6_init_109 (by decide) ?_
  refine ci_rowM (h := b + 14) (atype := .int) (N' := 51) (a0 := (51, .inl (fun _ => 0))) hx hb hts hown hin hK hP hD hS z105 (Nat.le_add_right b 14) hfl hai rfl hT.1 rfl (by decide) (by decide) (by decide) (Nat.le_of_ble_eq_true rfl) (Nat.le_of_ble_eq_true rfl) 23 (by decide) (hts (.fieldLink RX6 50 "ThirdOfTheLastModel" "letterOf" "[I") (List.mem_of_getElem? (i := 19) rfl)) rfl rfl (by decide +kernel) dX6_init_111 dX6_init_113 (fun H locs113 z113 hP hD hS hfl => ?_)
  refine lv_aload_n hx hb dX6_init_116 rfl (lv_at hl 0 rfl) ?_
  refine lv_sipush (v := 153) hx hb dX6_init_117 (by decide) ?_
  refine ci_rowM (h := b + 15) (atype := .int) (N' := 153) (a0 := (153, .inl (fun _ => 0))) hx hb hts hown hin hK hP hD hS z113 (Nat.le_add_right b 15) hfl hai rfl hT.1 rfl (by decide) (by decide) (by decide) (Nat.le_of_ble_eq_true rfl) (Nat.le_of_ble_eq_true rfl) 24 (by decide) (hts (.fieldLink RX6 53 "ThirdOfTheLastModel" "told" "[I") (List.mem_of_getElem? (i := 20) rfl)) rfl rfl (by decide +kernel) dX6_init_120 dX6_init_122 (fun H locs122 z122 hP hD hS hfl => ?_)
  refine lv_aload_n hx hb dX6_init_125 rfl (lv_at hl 0 rfl) ?_
  refine lv_bipush (v := 8) hx hb dX6_init_126 (by decide) ?_
  refine ci_rowM (h := b + 16) (atype := .int) (N' := 8) (a0 := (8, .inl (fun _ => 0))) hx hb hts hown hin hK hP hD hS z122 (Nat.le_add_right b 16) hfl hai rfl hT.1 rfl (by decide) (by decide) (by decide) (Nat.le_of_ble_eq_true rfl) (Nat.le_of_ble_eq_true rfl) 26 (by decide) (hts (.fieldLink RX6 56 "ThirdOfTheLastModel" "holdsWhat" "[I") (List.mem_of_getElem? (i := 21) rfl)) rfl rfl (by decide +kernel) dX6_init_128 dX6_init_130 (fun H locs130 z130 hP hD hS hfl => ?_)
  refine lv_aload_n hx hb dX6_init_133 rfl (lv_at hl 0 rfl) ?_
  refine lv_bipush (v := 8) hx hb dX6_init_134 (by decide) ?_
  refine ci_rowM (h := b + 17) (atype := .int) (N' := 8) (a0 := (8, .inl (fun _ => 0))) hx hb hts hown hin hK hP hD hS z130 (Nat.le_add_right b 17) hfl hai rfl hT.1 rfl (by decide) (by decide) (by decide) (Nat.le_of_ble_eq_true rfl) (Nat.le_of_ble_eq_true rfl) 27 (by decide) (hts (.fieldLink RX6 59 "ThirdOfTheLastModel" "dishKind" "[I") (List.mem_of_getElem? (i := 22) rfl)) rfl rfl (by decide +kernel) dX6_init_136 dX6_init_138 (fun H locs138 z138 hP hD hS hfl => ?_)
  refine lv_aload_n hx hb dX6_init_141 rfl (lv_at hl 0 rfl) ?_
  refine lv_bipush (v := 8) hx hb dX6_init_142 (by decide) ?_
  refine ci_rowM (h := b + 18) (atype := .int) (N' := 8) (a0 := (8, .inl (fun _ => 0))) hx hb hts hown hin hK hP hD hS z138 (Nat.le_add_right b 18) hfl hai rfl hT.1 rfl (by decide) (by decide) (by decide) (Nat.le_of_ble_eq_true rfl) (Nat.le_of_ble_eq_true rfl) 28 (by decide) (hts (.fieldLink RX6 62 "ThirdOfTheLastModel" "dishFigure" "[I") (List.mem_of_getElem? (i := 23) rfl)) rfl rfl (by decide +kernel) dX6_init_144 dX6_init_146 (fun H locs146 z146 hP hD hS hfl => ?_)
  refine lv_aload_n hx hb dX6_init_149 rfl (lv_at hl 0 rfl) ?_
  refine lv_bipush (v := 8) hx hb dX6_init_150 (by decide) ?_
  refine ci_rowM (h := b + 19) (atype := .int) (N' := 8) (a0 := (8, .inl (fun _ => 0))) hx hb hts hown hin hK hP hD hS z146 (Nat.le_add_right b 19) hfl hai rfl hT.1 rfl (by decide) (by decide) (by decide) (Nat.le_of_ble_eq_true rfl) (Nat.le_of_ble_eq_true rfl) 29 (by decide) (hts (.fieldLink RX6 65 "ThirdOfTheLastModel" "rowSort" "[I") (List.mem_of_getElem? (i := 24) rfl)) rfl rfl (by decide +kernel) dX6_init_152 dX6_init_154 (fun H locs154 z154 hP hD hS hfl => ?_)
  refine lv_aload_n hx hb dX6_init_157 rfl (lv_at hl 0 rfl) ?_
  refine lv_bipush (v := 8) hx hb dX6_init_158 (by decide) ?_
  refine ci_rowM (h := b + 20) (atype := .int) (N' := 8) (a0 := (8, .inl (fun _ => 0))) hx hb hts hown hin hK hP hD hS z154 (Nat.le_add_right b 20) hfl hai rfl hT.1 rfl (by decide) (by decide) (by decide) (Nat.le_of_ble_eq_true rfl) (Nat.le_of_ble_eq_true rfl) 30 (by decide) (hts (.fieldLink RX6 68 "ThirdOfTheLastModel" "rowMany" "[I") (List.mem_of_getElem? (i := 25) rfl)) rfl rfl (by decide +kernel) dX6_init_160 dX6_init_162 (fun H locs162 z162 hP hD hS hfl => ?_)
  refine lv_aload_n hx hb dX6_init_165 rfl (lv_at hl 0 rfl) ?_
  refine lv_sipush (v := 800) hx hb dX6_init_166 (by decide) ?_
  refine ci_rowM (h := b + 21) (atype := .long) (N' := 800) (a0 := (800, .inr (.inl (fun _ => 0)))) hx hb hts hown hin hK hP hD hS z162 (Nat.le_add_right b 21) hfl hal rfl hT.2 rfl (by decide) (by decide) (by decide) (Nat.le_of_ble_eq_true rfl) (Nat.le_of_ble_eq_true rfl) 31 (by decide) (hts (.fieldLink RX6 71 "ThirdOfTheLastModel" "rows" "[J") (List.mem_of_getElem? (i := 26) rfl)) rfl rfl (by decide +kernel) dX6_init_169 dX6_init_171 (fun H locs171 z171 hP hD hS hfl => ?_)
  refine lv_aload_n hx hb dX6_init_174 rfl (lv_at hl 0 rfl) ?_
  refine lv_bipush (v := 100) hx hb dX6_init_175 (by decide) ?_
  refine ci_rowM (h := b + 22) (atype := .long) (N' := 100) (a0 := (100, .inr (.inl (fun _ => 0)))) hx hb hts hown hin hK hP hD hS z171 (Nat.le_add_right b 22) hfl hal rfl hT.2 rfl (by decide) (by decide) (by decide) (Nat.le_of_ble_eq_true rfl) (Nat.le_of_ble_eq_true rfl) 32 (by decide) (hts (.fieldLink RX6 74 "ThirdOfTheLastModel" "between" "[J") (List.mem_of_getElem? (i := 27) rfl)) rfl rfl (by decide +kernel) dX6_init_177 dX6_init_179 (fun H locs179 z179 hP hD hS hfl => ?_)
  refine lv_aload_n hx hb dX6_init_182 rfl (lv_at hl 0 rfl) ?_
  refine lv_iconst (v := 0) hx hb dX6_init_183 (by decide) ?_
  refine ci_put false (D := D) (ci := 6) (v := .int 0) (ty := .int) (C := RX6) (T := TX6) (N := 33) hx hb hts hw tyX6 tyX6_ok nmX6 hown hK hP hD hS z179 0 rfl rfl 5 (by decide) (hts (.fieldLink RX6 77 "ThirdOfTheLastModel" "thrown" "I") (List.mem_of_getElem? (i := 28) rfl)) (fun _ h9 => h9) rfl hin rfl (by decide +kernel) rfl rfl (by rw [hfl]; decide) dX6_init_184 (fun H locs184 z184 hP hD hS => ?_)
  simp only [List.set_cons_succ, List.set_cons_zero, List.cons_append, List.nil_append] at hP
  have hP : va_P D vwCl (cMd cK b) H := by
    rw [cMd]
    exact hP
  exact W.vret hx hb hr (fun t ht hW => ⟨⟨(), rfl, trivial, by rw [ht]; exact z184, by rw [ht]; exact hP⟩, hS.F ht⟩) hS.2.2 dX6_init_187
