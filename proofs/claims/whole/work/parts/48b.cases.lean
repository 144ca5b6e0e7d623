/-! THE LAW, case by case -/
set_option maxHeartbeats 4000000 in
set_option maxRecDepth 100000 in
/-- pot -/
theorem law_1 {p : Program} {l : Launch} {e : Env} {s : State} {m : MethodId} {below : List Frame} {meth : Method} {c : Code} {b L : Nat} {xs : Nat → Int32} {H : Heap} {locs : List Loc} {cells slots : Nat} {Q : State → Prop} {ls : Array Slot} {D : va_G} {cC cM : Nat → ClassId} {cO : ClassId} {aC aM : Nat → Nat} {o i : Nat} {σc σm : St} (C0 : lw_At p s m meth c b L xs) (X : LX D cC cM cO aC aM o s) (hR : RR σc σm) (hW : LW D cC cM cO aC aM o σc σm H) (hS : va_S (fun q : Nat => s.heap.size ≤ q) s.heap H locs) (hL : L ≤ 3072) (hi : i + 6 ≤ L) (hl : lv_has ls 8 (lv5 aC aM o b i)) (hcs : cells + 1 ≤ 601024 ∧ slots + 6 ≤ 7293034) (next : NX p l e s m below meth c b Q D cC cM cO aC aM o i cells slots) : W p l e room_1 s m #[Value.ref b] below meth c H locs cells slots Q (F0 m 209 ls []) := by
  obtain ⟨hx, hb, hr, hml, hown, hts, hX, hbl, hlocks, hgv⟩ := id C0
  have hcs0 : cells ≤ 601024 ∧ slots ≤ 7293034 := ⟨by omega, by omega⟩
  have j1 : Ij aC SC := X.2.2.1
  have j2 : Ij aM SM := X.2.2.2.1
  obtain ⟨r, σc', σm', e1, e2, hR2⟩ := sim_pot hR 
  refine lv_aload_n hx hb dL_law_209 rfl (lv_at hl 1 rfl) ?_
  refine l_Ci (As := []) C0 X hW hS (c_X5_pot l D cC aC j1 σc  _ e1) gL_law_X5_pot rfl ⟨rfl, rfl⟩ hd_X5_pot ⟨Nat.le_of_ble_eq_true rfl, Nat.le_of_ble_eq_true rfl⟩ hcs0 rfl (Nat.le_of_ble_eq_true rfl) hl.1 dL_law_210 (fun H locs hW hS => ?_)
  refine lv_aload_n hx hb dL_law_213 rfl (lv_at hl 2 rfl) ?_
  refine l_Mi (As := []) C0 X hW hS (c_X6_pot l D cM aM j2 σm  _ e2) gL_law_X6_pot rfl ⟨rfl, rfl⟩ hd_X6_pot ⟨Nat.le_of_ble_eq_true rfl, Nat.le_of_ble_eq_true rfl⟩ hcs0 rfl (Nat.le_of_ble_eq_true rfl) hl.1 dL_law_214 (fun H locs hW hS => ?_)
  refine lv_icmp_eq (tgt := 1497) hx hb dL_law_217 (by decide) (fun _ => ?_) (fun c1 => absurd rfl c1)
  exact W.widen (k := cells + 1) (n := slots + 6) (Nat.le_succ _) (Nat.le_add_right _ _) (next _ _ _ _ _ hR2 hW hS hl)
set_option maxHeartbeats 4000000 in
set_option maxRecDepth 100000 in
/-- cook -/
theorem law_2 {p : Program} {l : Launch} {e : Env} {s : State} {m : MethodId} {below : List Frame} {meth : Method} {c : Code} {b L : Nat} {xs : Nat → Int32} {H : Heap} {locs : List Loc} {cells slots : Nat} {Q : State → Prop} {ls : Array Slot} {D : va_G} {cC cM : Nat → ClassId} {cO : ClassId} {aC aM : Nat → Nat} {o i : Nat} {σc σm : St} (C0 : lw_At p s m meth c b L xs) (X : LX D cC cM cO aC aM o s) (hR : RR σc σm) (hW : LW D cC cM cO aC aM o σc σm H) (hS : va_S (fun q : Nat => s.heap.size ≤ q) s.heap H locs) (hL : L ≤ 3072) (hi : i + 6 ≤ L) (hl : lv_has ls 8 (lv5 aC aM o b i)) (hcs : cells + 1 ≤ 601024 ∧ slots + 6 ≤ 7293034) (next : NX p l e s m below meth c b Q D cC cM cO aC aM o i cells slots) : W p l e room_1 s m #[Value.ref b] below meth c H locs cells slots Q (F0 m 222 ls []) := by
  obtain ⟨hx, hb, hr, hml, hown, hts, hX, hbl, hlocks, hgv⟩ := id C0
  have hcs0 : cells ≤ 601024 ∧ slots ≤ 7293034 := ⟨by omega, by omega⟩
  have j1 : Ij aC SC := X.2.2.1
  have j2 : Ij aM SM := X.2.2.2.1
  obtain ⟨r, σc', σm', e1, e2, hR2⟩ := sim_cook hR (xs (i + 1)) (xs (i + 2))
  refine lv_aload_n hx hb dL_law_222 rfl (lv_at hl 1 rfl) ?_
  refine l_arg C0 hS hL hi hl 1 (by omega) rfl dL_law_223 dL_law_224 dL_law_226 dL_law_227 dL_law_228 ?_
  refine l_arg C0 hS hL hi hl 2 (by omega) rfl dL_law_229 dL_law_230 dL_law_232 dL_law_233 dL_law_234 ?_
  refine l_Ci (As := [.int (xs (i + 1)), .int (xs (i + 2))]) C0 X hW hS (c_X5_cook l D cC aC j1 σc (xs (i + 1)) (xs (i + 2)) _ e1) gL_law_X5_cook rfl ⟨rfl, rfl⟩ hd_X5_cook ⟨Nat.le_of_ble_eq_true rfl, Nat.le_of_ble_eq_true rfl⟩ hcs0 rfl (Nat.le_of_ble_eq_true rfl) hl.1 dL_law_235 (fun H locs hW hS => ?_)
  refine lv_aload_n hx hb dL_law_238 rfl (lv_at hl 2 rfl) ?_
  refine l_arg C0 hS hL hi hl 1 (by omega) rfl dL_law_239 dL_law_240 dL_law_242 dL_law_243 dL_law_244 ?_
  refine l_arg C0 hS hL hi hl 2 (by omega) rfl dL_law_245 dL_law_246 dL_law_248 dL_law_249 dL_law_250 ?_
  refine l_Mi (As := [.int (xs (i + 1)), .int (xs (i + 2))]) C0 X hW hS (c_X6_cook l D cM aM j2 σm (xs (i + 1)) (xs (i + 2)) _ e2) gL_law_X6_cook rfl ⟨rfl, rfl⟩ hd_X6_cook ⟨Nat.le_of_ble_eq_true rfl, Nat.le_of_ble_eq_true rfl⟩ hcs0 rfl (Nat.le_of_ble_eq_true rfl) hl.1 dL_law_251 (fun H locs hW hS => ?_)
  refine lv_icmp_eq (tgt := 1497) hx hb dL_law_254 (by decide) (fun _ => ?_) (fun c1 => absurd rfl c1)
  exact W.widen (k := cells + 1) (n := slots + 6) (Nat.le_succ _) (Nat.le_add_right _ _) (next _ _ _ _ _ hR2 hW hS hl)
set_option maxHeartbeats 4000000 in
set_option maxRecDepth 100000 in
/-- dish -/
theorem law_3 {p : Program} {l : Launch} {e : Env} {s : State} {m : MethodId} {below : List Frame} {meth : Method} {c : Code} {b L : Nat} {xs : Nat → Int32} {H : Heap} {locs : List Loc} {cells slots : Nat} {Q : State → Prop} {ls : Array Slot} {D : va_G} {cC cM : Nat → ClassId} {cO : ClassId} {aC aM : Nat → Nat} {o i : Nat} {σc σm : St} (C0 : lw_At p s m meth c b L xs) (X : LX D cC cM cO aC aM o s) (hR : RR σc σm) (hW : LW D cC cM cO aC aM o σc σm H) (hS : va_S (fun q : Nat => s.heap.size ≤ q) s.heap H locs) (hL : L ≤ 3072) (hi : i + 6 ≤ L) (hl : lv_has ls 8 (lv5 aC aM o b i)) (hcs : cells + 1 ≤ 601024 ∧ slots + 6 ≤ 7293034) (next : NX p l e s m below meth c b Q D cC cM cO aC aM o i cells slots) : W p l e room_1 s m #[Value.ref b] below meth c H locs cells slots Q (F0 m 259 ls []) := by
  obtain ⟨hx, hb, hr, hml, hown, hts, hX, hbl, hlocks, hgv⟩ := id C0
  have hcs0 : cells ≤ 601024 ∧ slots ≤ 7293034 := ⟨by omega, by omega⟩
  have j1 : Ij aC SC := X.2.2.1
  have j2 : Ij aM SM := X.2.2.2.1
  obtain ⟨r, σm', e1, e2, hR2⟩ := sim_dish hR (xs (i + 1)) (xs (i + 2)) (xs (i + 3))
  refine lv_aload_n hx hb dL_law_259 rfl (lv_at hl 1 rfl) ?_
  refine l_arg C0 hS hL hi hl 1 (by omega) rfl dL_law_260 dL_law_261 dL_law_263 dL_law_264 dL_law_265 ?_
  refine l_arg C0 hS hL hi hl 2 (by omega) rfl dL_law_266 dL_law_267 dL_law_269 dL_law_270 dL_law_271 ?_
  refine l_arg C0 hS hL hi hl 3 (by omega) rfl dL_law_272 dL_law_273 dL_law_275 dL_law_276 dL_law_277 ?_
  refine l_Ci (As := [.int (xs (i + 1)), .int (xs (i + 2)), .int (xs (i + 3))]) C0 X hW hS (c_X5_dish l D cC aC j1 σc (xs (i + 1)) (xs (i + 2)) (xs (i + 3)) _ e1) gL_law_X5_dish rfl ⟨rfl, rfl⟩ hd_X5_dish ⟨Nat.le_of_ble_eq_true rfl, Nat.le_of_ble_eq_true rfl⟩ hcs0 rfl (Nat.le_of_ble_eq_true rfl) hl.1 dL_law_278 (fun H locs hW hS => ?_)
  refine lv_aload_n hx hb dL_law_281 rfl (lv_at hl 2 rfl) ?_
  refine l_arg C0 hS hL hi hl 1 (by omega) rfl dL_law_282 dL_law_283 dL_law_285 dL_law_286 dL_law_287 ?_
  refine l_arg C0 hS hL hi hl 2 (by omega) rfl dL_law_288 dL_law_289 dL_law_291 dL_law_292 dL_law_293 ?_
  refine l_arg C0 hS hL hi hl 3 (by omega) rfl dL_law_294 dL_law_295 dL_law_297 dL_law_298 dL_law_299 ?_
  refine l_Mi (As := [.int (xs (i + 1)), .int (xs (i + 2)), .int (xs (i + 3))]) C0 X hW hS (c_X6_dish l D cM aM j2 σm (xs (i + 1)) (xs (i + 2)) (xs (i + 3)) _ e2) gL_law_X6_dish rfl ⟨rfl, rfl⟩ hd_X6_dish ⟨Nat.le_of_ble_eq_true rfl, Nat.le_of_ble_eq_true rfl⟩ hcs0 rfl (Nat.le_of_ble_eq_true rfl) hl.1 dL_law_300 (fun H locs hW hS => ?_)
  refine lv_icmp_eq (tgt := 1497) hx hb dL_law_303 (by decide) (fun _ => ?_) (fun c1 => absurd rfl c1)
  exact W.widen (k := cells + 1) (n := slots + 6) (Nat.le_succ _) (Nat.le_add_right _ _) (next _ _ _ _ _ hR2 hW hS hl)
set_option maxHeartbeats 4000000 in
set_option maxRecDepth 100000 in
/-- dishes -/
theorem law_4 {p : Program} {l : Launch} {e : Env} {s : State} {m : MethodId} {below : List Frame} {meth : Method} {c : Code} {b L : Nat} {xs : Nat → Int32} {H : Heap} {locs : List Loc} {cells slots : Nat} {Q : State → Prop} {ls : Array Slot} {D : va_G} {cC cM : Nat → ClassId} {cO : ClassId} {aC aM : Nat → Nat} {o i : Nat} {σc σm : St} (C0 : lw_At p s m meth c b L xs) (X : LX D cC cM cO aC aM o s) (hR : RR σc σm) (hW : LW D cC cM cO aC aM o σc σm H) (hS : va_S (fun q : Nat => s.heap.size ≤ q) s.heap H locs) (hL : L ≤ 3072) (hi : i + 6 ≤ L) (hl : lv_has ls 8 (lv5 aC aM o b i)) (hcs : cells + 1 ≤ 601024 ∧ slots + 6 ≤ 7293034) (next : NX p l e s m below meth c b Q D cC cM cO aC aM o i cells slots) : W p l e room_1 s m #[Value.ref b] below meth c H locs cells slots Q (F0 m 308 ls []) := by
  obtain ⟨hx, hb, hr, hml, hown, hts, hX, hbl, hlocks, hgv⟩ := id C0
  have hcs0 : cells ≤ 601024 ∧ slots ≤ 7293034 := ⟨by omega, by omega⟩
  have j1 : Ij aC SC := X.2.2.1
  have j2 : Ij aM SM := X.2.2.2.1
  obtain ⟨r, σm', e1, e2, hR2⟩ := sim_dishes hR (xs (i + 1))
  refine lv_aload_n hx hb dL_law_308 rfl (lv_at hl 1 rfl) ?_
  refine l_arg C0 hS hL hi hl 1 (by omega) rfl dL_law_309 dL_law_310 dL_law_312 dL_law_313 dL_law_314 ?_
  refine l_Ci (As := [.int (xs (i + 1))]) C0 X hW hS (c_X5_dishes l D cC aC j1 σc (xs (i + 1)) _ e1) gL_law_X5_dishes rfl ⟨rfl, rfl⟩ hd_X5_dishes ⟨Nat.le_of_ble_eq_true rfl, Nat.le_of_ble_eq_true rfl⟩ hcs0 rfl (Nat.le_of_ble_eq_true rfl) hl.1 dL_law_315 (fun H locs hW hS => ?_)
  refine lv_aload_n hx hb dL_law_318 rfl (lv_at hl 2 rfl) ?_
  refine l_arg C0 hS hL hi hl 1 (by omega) rfl dL_law_319 dL_law_320 dL_law_322 dL_law_323 dL_law_324 ?_
  refine l_Mi (As := [.int (xs (i + 1))]) C0 X hW hS (c_X6_dishes l D cM aM j2 σm (xs (i + 1)) _ e2) gL_law_X6_dishes rfl ⟨rfl, rfl⟩ hd_X6_dishes ⟨Nat.le_of_ble_eq_true rfl, Nat.le_of_ble_eq_true rfl⟩ hcs0 rfl (Nat.le_of_ble_eq_true rfl) hl.1 dL_law_325 (fun H locs hW hS => ?_)
  refine lv_icmp_eq (tgt := 1497) hx hb dL_law_328 (by decide) (fun _ => ?_) (fun c1 => absurd rfl c1)
  exact W.widen (k := cells + 1) (n := slots + 6) (Nat.le_succ _) (Nat.le_add_right _ _) (next _ _ _ _ _ hR2 hW hS hl)
set_option maxHeartbeats 4000000 in
set_option maxRecDepth 100000 in
/-- taste -/
theorem law_5 {p : Program} {l : Launch} {e : Env} {s : State} {m : MethodId} {below : List Frame} {meth : Method} {c : Code} {b L : Nat} {xs : Nat → Int32} {H : Heap} {locs : List Loc} {cells slots : Nat} {Q : State → Prop} {ls : Array Slot} {D : va_G} {cC cM : Nat → ClassId} {cO : ClassId} {aC aM : Nat → Nat} {o i : Nat} {σc σm : St} (C0 : lw_At p s m meth c b L xs) (X : LX D cC cM cO aC aM o s) (hR : RR σc σm) (hW : LW D cC cM cO aC aM o σc σm H) (hS : va_S (fun q : Nat => s.heap.size ≤ q) s.heap H locs) (hL : L ≤ 3072) (hi : i + 6 ≤ L) (hl : lv_has ls 8 (lv5 aC aM o b i)) (hcs : cells + 1 ≤ 601024 ∧ slots + 6 ≤ 7293034) (next : NX p l e s m below meth c b Q D cC cM cO aC aM o i cells slots) : W p l e room_1 s m #[Value.ref b] below meth c H locs cells slots Q (F0 m 333 ls []) := by
  obtain ⟨hx, hb, hr, hml, hown, hts, hX, hbl, hlocks, hgv⟩ := id C0
  have hcs0 : cells ≤ 601024 ∧ slots ≤ 7293034 := ⟨by omega, by omega⟩
  have j1 : Ij aC SC := X.2.2.1
  have j2 : Ij aM SM := X.2.2.2.1
  obtain ⟨r, σm', e1, e2, hR2⟩ := sim_taste hR (xs (i + 1)) (xs (i + 2)) (xs (i + 3))
  refine lv_aload_n hx hb dL_law_333 rfl (lv_at hl 1 rfl) ?_
  refine l_arg C0 hS hL hi hl 1 (by omega) rfl dL_law_334 dL_law_335 dL_law_337 dL_law_338 dL_law_339 ?_
  refine l_arg C0 hS hL hi hl 2 (by omega) rfl dL_law_340 dL_law_341 dL_law_343 dL_law_344 dL_law_345 ?_
  refine l_arg C0 hS hL hi hl 3 (by omega) rfl dL_law_346 dL_law_347 dL_law_349 dL_law_350 dL_law_351 ?_
  refine l_Cl (As := [.int (xs (i + 1)), .int (xs (i + 2)), .int (xs (i + 3))]) C0 X hW hS (c_X5_taste l D cC aC j1 σc (xs (i + 1)) (xs (i + 2)) (xs (i + 3)) _ e1) gL_law_X5_taste rfl ⟨rfl, rfl⟩ hd_X5_taste ⟨Nat.le_of_ble_eq_true rfl, Nat.le_of_ble_eq_true rfl⟩ hcs0 rfl (Nat.le_of_ble_eq_true rfl) hl.1 dL_law_352 (fun H locs hW hS => ?_)
  refine lv_aload_n hx hb dL_law_355 rfl (lv_at hl 2 rfl) ?_
  refine l_arg C0 hS hL hi hl 1 (by omega) rfl dL_law_356 dL_law_357 dL_law_359 dL_law_360 dL_law_361 ?_
  refine l_arg C0 hS hL hi hl 2 (by omega) rfl dL_law_362 dL_law_363 dL_law_365 dL_law_366 dL_law_367 ?_
  refine l_arg C0 hS hL hi hl 3 (by omega) rfl dL_law_368 dL_law_369 dL_law_371 dL_law_372 dL_law_373 ?_
  refine l_Ml (As := [.int (xs (i + 1)), .int (xs (i + 2)), .int (xs (i + 3))]) C0 X hW hS (c_X6_taste l D cM aM j2 σm (xs (i + 1)) (xs (i + 2)) (xs (i + 3)) _ e2) gL_law_X6_taste rfl ⟨rfl, rfl⟩ hd_X6_taste ⟨Nat.le_of_ble_eq_true rfl, Nat.le_of_ble_eq_true rfl⟩ hcs0 rfl (Nat.le_of_ble_eq_true rfl) hl.1 dL_law_374 (fun H locs hW hS => ?_)
  refine W.lcmp hx hb dL_law_377 ?_
  refine lv_if_eq (tgt := 1497) hx hb dL_law_378 (by decide) (fun _ => ?_) (fun c1 => absurd ((lg_cmp_eq _ _).mpr rfl) c1)
  exact W.widen (k := cells + 1) (n := slots + 6) (Nat.le_succ _) (Nat.le_add_right _ _) (next _ _ _ _ _ hR2 hW hS hl)
set_option maxHeartbeats 4000000 in
set_option maxRecDepth 100000 in
/-- all -/
theorem law_6 {p : Program} {l : Launch} {e : Env} {s : State} {m : MethodId} {below : List Frame} {meth : Method} {c : Code} {b L : Nat} {xs : Nat → Int32} {H : Heap} {locs : List Loc} {cells slots : Nat} {Q : State → Prop} {ls : Array Slot} {D : va_G} {cC cM : Nat → ClassId} {cO : ClassId} {aC aM : Nat → Nat} {o i : Nat} {σc σm : St} (C0 : lw_At p s m meth c b L xs) (X : LX D cC cM cO aC aM o s) (hR : RR σc σm) (hW : LW D cC cM cO aC aM o σc σm H) (hS : va_S (fun q : Nat => s.heap.size ≤ q) s.heap H locs) (hL : L ≤ 3072) (hi : i + 6 ≤ L) (hl : lv_has ls 8 (lv5 aC aM o b i)) (hcs : cells + 1 ≤ 601024 ∧ slots + 6 ≤ 7293034) (next : NX p l e s m below meth c b Q D cC cM cO aC aM o i cells slots) : W p l e room_1 s m #[Value.ref b] below meth c H locs cells slots Q (F0 m 383 ls []) := by
  obtain ⟨hx, hb, hr, hml, hown, hts, hX, hbl, hlocks, hgv⟩ := id C0
  have hcs0 : cells ≤ 601024 ∧ slots ≤ 7293034 := ⟨by omega, by omega⟩
  have j1 : Ij aC SC := X.2.2.1
  have j2 : Ij aM SM := X.2.2.2.1
  obtain ⟨r, σm', e1, e2, hR2⟩ := sim_all hR (xs (i + 1)) (xs (i + 2))
  refine lv_aload_n hx hb dL_law_383 rfl (lv_at hl 1 rfl) ?_
  refine l_arg C0 hS hL hi hl 1 (by omega) rfl dL_law_384 dL_law_385 dL_law_387 dL_law_388 dL_law_389 ?_
  refine l_arg C0 hS hL hi hl 2 (by omega) rfl dL_law_390 dL_law_391 dL_law_393 dL_law_394 dL_law_395 ?_
  refine l_Cl (As := [.int (xs (i + 1)), .int (xs (i + 2))]) C0 X hW hS (c_X5_all l D cC aC j1 σc (xs (i + 1)) (xs (i + 2)) _ e1) gL_law_X5_all rfl ⟨rfl, rfl⟩ hd_X5_all ⟨Nat.le_of_ble_eq_true rfl, Nat.le_of_ble_eq_true rfl⟩ hcs0 rfl (Nat.le_of_ble_eq_true rfl) hl.1 dL_law_396 (fun H locs hW hS => ?_)
  refine lv_aload_n hx hb dL_law_399 rfl (lv_at hl 2 rfl) ?_
  refine l_arg C0 hS hL hi hl 1 (by omega) rfl dL_law_400 dL_law_401 dL_law_403 dL_law_404 dL_law_405 ?_
  refine l_arg C0 hS hL hi hl 2 (by omega) rfl dL_law_406 dL_law_407 dL_law_409 dL_law_410 dL_law_411 ?_
  refine l_Ml (As := [.int (xs (i + 1)), .int (xs (i + 2))]) C0 X hW hS (c_X6_all l D cM aM j2 σm (xs (i + 1)) (xs (i + 2)) _ e2) gL_law_X6_all rfl ⟨rfl, rfl⟩ hd_X6_all ⟨Nat.le_of_ble_eq_true rfl, Nat.le_of_ble_eq_true rfl⟩ hcs0 rfl (Nat.le_of_ble_eq_true rfl) hl.1 dL_law_412 (fun H locs hW hS => ?_)
  refine W.lcmp hx hb dL_law_415 ?_
  refine lv_if_eq (tgt := 1497) hx hb dL_law_416 (by decide) (fun _ => ?_) (fun c1 => absurd ((lg_cmp_eq _ _).mpr rfl) c1)
  exact W.widen (k := cells + 1) (n := slots + 6) (Nat.le_succ _) (Nat.le_add_right _ _) (next _ _ _ _ _ hR2 hW hS hl)
set_option maxHeartbeats 4000000 in
set_option maxRecDepth 100000 in
/-- portion -/
theorem law_7 {p : Program} {l : Launch} {e : Env} {s : State} {m : MethodId} {below : List Frame} {meth : Method} {c : Code} {b L : Nat} {xs : Nat → Int32} {H : Heap} {locs : List Loc} {cells slots : Nat} {Q : State → Prop} {ls : Array Slot} {D : va_G} {cC cM : Nat → ClassId} {cO : ClassId} {aC aM : Nat → Nat} {o i : Nat} {σc σm : St} (C0 : lw_At p s m meth c b L xs) (X : LX D cC cM cO aC aM o s) (hR : RR σc σm) (hW : LW D cC cM cO aC aM o σc σm H) (hS : va_S (fun q : Nat => s.heap.size ≤ q) s.heap H locs) (hL : L ≤ 3072) (hi : i + 6 ≤ L) (hl : lv_has ls 8 (lv5 aC aM o b i)) (hcs : cells + 1 ≤ 601024 ∧ slots + 6 ≤ 7293034) (next : NX p l e s m below meth c b Q D cC cM cO aC aM o i cells slots) : W p l e room_1 s m #[Value.ref b] below meth c H locs cells slots Q (F0 m 421 ls []) := by
  obtain ⟨hx, hb, hr, hml, hown, hts, hX, hbl, hlocks, hgv⟩ := id C0
  have hcs0 : cells ≤ 601024 ∧ slots ≤ 7293034 := ⟨by omega, by omega⟩
  have j1 : Ij aC SC := X.2.2.1
  have j2 : Ij aM SM := X.2.2.2.1
  obtain ⟨r, σm', e1, e2, hR2⟩ := sim_portion hR (xs (i + 1)) (xs (i + 2))
  refine lv_aload_n hx hb dL_law_421 rfl (lv_at hl 1 rfl) ?_
  refine l_arg C0 hS hL hi hl 1 (by omega) rfl dL_law_422 dL_law_423 dL_law_425 dL_law_426 dL_law_427 ?_
  refine l_arg C0 hS hL hi hl 2 (by omega) rfl dL_law_428 dL_law_429 dL_law_431 dL_law_432 dL_law_433 ?_
  refine l_Ci (As := [.int (xs (i + 1)), .int (xs (i + 2))]) C0 X hW hS (c_X5_portion l D cC aC j1 σc (xs (i + 1)) (xs (i + 2)) _ e1) gL_law_X5_portion rfl ⟨rfl, rfl⟩ hd_X5_portion ⟨Nat.le_of_ble_eq_true rfl, Nat.le_of_ble_eq_true rfl⟩ hcs0 rfl (Nat.le_of_ble_eq_true rfl) hl.1 dL_law_434 (fun H locs hW hS => ?_)
  refine lv_aload_n hx hb dL_law_437 rfl (lv_at hl 2 rfl) ?_
  refine l_arg C0 hS hL hi hl 1 (by omega) rfl dL_law_438 dL_law_439 dL_law_441 dL_law_442 dL_law_443 ?_
  refine l_arg C0 hS hL hi hl 2 (by omega) rfl dL_law_444 dL_law_445 dL_law_447 dL_law_448 dL_law_449 ?_
  refine l_Mi (As := [.int (xs (i + 1)), .int (xs (i + 2))]) C0 X hW hS (c_X6_portion l D cM aM j2 σm (xs (i + 1)) (xs (i + 2)) _ e2) gL_law_X6_portion rfl ⟨rfl, rfl⟩ hd_X6_portion ⟨Nat.le_of_ble_eq_true rfl, Nat.le_of_ble_eq_true rfl⟩ hcs0 rfl (Nat.le_of_ble_eq_true rfl) hl.1 dL_law_450 (fun H locs hW hS => ?_)
  refine lv_icmp_eq (tgt := 1497) hx hb dL_law_453 (by decide) (fun _ => ?_) (fun c1 => absurd rfl c1)
  exact W.widen (k := cells + 1) (n := slots + 6) (Nat.le_succ _) (Nat.le_add_right _ _) (next _ _ _ _ _ hR2 hW hS hl)
