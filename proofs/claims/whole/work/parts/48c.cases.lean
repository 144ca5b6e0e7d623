/-! THE LAW, case by case -/
set_option maxHeartbeats 4000000 in
set_option maxRecDepth 100000 in
/-- over -/
theorem law_8 {p : Program} {l : Launch} {e : Env} {s : State} {m : MethodId} {below : List Frame} {meth : Method} {c : Code} {b L : Nat} {xs : Nat → Int32} {H : Heap} {locs : List Loc} {cells slots : Nat} {Q : State → Prop} {ls : Array Slot} {D : va_G} {cC cM : Nat → ClassId} {cO : ClassId} {aC aM : Nat → Nat} {o i : Nat} {σc σm : St} (C0 : lw_At p s m meth c b L xs) (X : LX D cC cM cO aC aM o s) (hR : RR σc σm) (hW : LW D cC cM cO aC aM o σc σm H) (hS : va_S (fun q : Nat => s.heap.size ≤ q) s.heap H locs) (hL : L ≤ 3072) (hi : i + 6 ≤ L) (hl : lv_has ls 8 (lv5 aC aM o b i)) (hcs : cells + 1 ≤ 601024 ∧ slots + 6 ≤ 7293034) (next : NX p l e s m below meth c b Q D cC cM cO aC aM o i cells slots) : W p l e room_1 s m #[Value.ref b] below meth c H locs cells slots Q (F0 m 458 ls []) := by
  obtain ⟨hx, hb, hr, hml, hown, hts, hX, hbl, hlocks, hgv⟩ := id C0
  have hcs0 : cells ≤ 601024 ∧ slots ≤ 7293034 := ⟨by omega, by omega⟩
  have j1 : Ij aC SC := X.2.2.1
  have j2 : Ij aM SM := X.2.2.2.1
  obtain ⟨r, σm', e1, e2, hR2⟩ := sim_over hR (xs (i + 1)) (xs (i + 2)) (xs (i + 3))
  refine lv_aload_n hx hb dL_law_458 rfl (lv_at hl 1 rfl) ?_
  refine l_arg C0 hS hL hi hl 1 (by omega) rfl dL_law_459 dL_law_460 dL_law_462 dL_law_463 dL_law_464 ?_
  refine l_arg C0 hS hL hi hl 2 (by omega) rfl dL_law_465 dL_law_466 dL_law_468 dL_law_469 dL_law_470 ?_
  refine l_arg C0 hS hL hi hl 3 (by omega) rfl dL_law_471 dL_law_472 dL_law_474 dL_law_475 dL_law_476 ?_
  refine l_Ci (As := [.int (xs (i + 1)), .int (xs (i + 2)), .int (xs (i + 3))]) C0 X hW hS (c_X5_over l D cC aC j1 σc (xs (i + 1)) (xs (i + 2)) (xs (i + 3)) _ e1) gL_law_X5_over rfl ⟨rfl, rfl⟩ hd_X5_over ⟨Nat.le_of_ble_eq_true rfl, Nat.le_of_ble_eq_true rfl⟩ hcs0 rfl (Nat.le_of_ble_eq_true rfl) hl.1 dL_law_477 (fun H locs hW hS => ?_)
  refine lv_aload_n hx hb dL_law_480 rfl (lv_at hl 2 rfl) ?_
  refine l_arg C0 hS hL hi hl 1 (by omega) rfl dL_law_481 dL_law_482 dL_law_484 dL_law_485 dL_law_486 ?_
  refine l_arg C0 hS hL hi hl 2 (by omega) rfl dL_law_487 dL_law_488 dL_law_490 dL_law_491 dL_law_492 ?_
  refine l_arg C0 hS hL hi hl 3 (by omega) rfl dL_law_493 dL_law_494 dL_law_496 dL_law_497 dL_law_498 ?_
  refine l_Mi (As := [.int (xs (i + 1)), .int (xs (i + 2)), .int (xs (i + 3))]) C0 X hW hS (c_X6_over l D cM aM j2 σm (xs (i + 1)) (xs (i + 2)) (xs (i + 3)) _ e2) gL_law_X6_over rfl ⟨rfl, rfl⟩ hd_X6_over ⟨Nat.le_of_ble_eq_true rfl, Nat.le_of_ble_eq_true rfl⟩ hcs0 rfl (Nat.le_of_ble_eq_true rfl) hl.1 dL_law_499 (fun H locs hW hS => ?_)
  refine lv_icmp_eq (tgt := 1497) hx hb dL_law_502 (by decide) (fun _ => ?_) (fun c1 => absurd rfl c1)
  exact W.widen (k := cells + 1) (n := slots + 6) (Nat.le_succ _) (Nat.le_add_right _ _) (next _ _ _ _ _ hR2 hW hS hl)
set_option maxHeartbeats 4000000 in
set_option maxRecDepth 100000 in
/-- part -/
theorem law_9 {p : Program} {l : Launch} {e : Env} {s : State} {m : MethodId} {below : List Frame} {meth : Method} {c : Code} {b L : Nat} {xs : Nat → Int32} {H : Heap} {locs : List Loc} {cells slots : Nat} {Q : State → Prop} {ls : Array Slot} {D : va_G} {cC cM : Nat → ClassId} {cO : ClassId} {aC aM : Nat → Nat} {o i : Nat} {σc σm : St} (C0 : lw_At p s m meth c b L xs) (X : LX D cC cM cO aC aM o s) (hR : RR σc σm) (hW : LW D cC cM cO aC aM o σc σm H) (hS : va_S (fun q : Nat => s.heap.size ≤ q) s.heap H locs) (hL : L ≤ 3072) (hi : i + 6 ≤ L) (hl : lv_has ls 8 (lv5 aC aM o b i)) (hcs : cells + 1 ≤ 601024 ∧ slots + 6 ≤ 7293034) (next : NX p l e s m below meth c b Q D cC cM cO aC aM o i cells slots) : W p l e room_1 s m #[Value.ref b] below meth c H locs cells slots Q (F0 m 507 ls []) := by
  obtain ⟨hx, hb, hr, hml, hown, hts, hX, hbl, hlocks, hgv⟩ := id C0
  have hcs0 : cells ≤ 601024 ∧ slots ≤ 7293034 := ⟨by omega, by omega⟩
  have j1 : Ij aC SC := X.2.2.1
  have j2 : Ij aM SM := X.2.2.2.1
  obtain ⟨r, σm', e1, e2, hR2⟩ := sim_part hR (xs (i + 1)) (xs (i + 2)) (xs (i + 3))
  refine lv_aload_n hx hb dL_law_507 rfl (lv_at hl 1 rfl) ?_
  refine l_arg C0 hS hL hi hl 1 (by omega) rfl dL_law_508 dL_law_509 dL_law_511 dL_law_512 dL_law_513 ?_
  refine l_arg C0 hS hL hi hl 2 (by omega) rfl dL_law_514 dL_law_515 dL_law_517 dL_law_518 dL_law_519 ?_
  refine l_arg C0 hS hL hi hl 3 (by omega) rfl dL_law_520 dL_law_521 dL_law_523 dL_law_524 dL_law_525 ?_
  refine l_Cl (As := [.int (xs (i + 1)), .int (xs (i + 2)), .int (xs (i + 3))]) C0 X hW hS (c_X5_part l D cC aC j1 σc (xs (i + 1)) (xs (i + 2)) (xs (i + 3)) _ e1) gL_law_X5_part rfl ⟨rfl, rfl⟩ hd_X5_part ⟨Nat.le_of_ble_eq_true rfl, Nat.le_of_ble_eq_true rfl⟩ hcs0 rfl (Nat.le_of_ble_eq_true rfl) hl.1 dL_law_526 (fun H locs hW hS => ?_)
  refine lv_aload_n hx hb dL_law_529 rfl (lv_at hl 2 rfl) ?_
  refine l_arg C0 hS hL hi hl 1 (by omega) rfl dL_law_530 dL_law_531 dL_law_533 dL_law_534 dL_law_535 ?_
  refine l_arg C0 hS hL hi hl 2 (by omega) rfl dL_law_536 dL_law_537 dL_law_539 dL_law_540 dL_law_541 ?_
  refine l_arg C0 hS hL hi hl 3 (by omega) rfl dL_law_542 dL_law_543 dL_law_545 dL_law_546 dL_law_547 ?_
  refine l_Ml (As := [.int (xs (i + 1)), .int (xs (i + 2)), .int (xs (i + 3))]) C0 X hW hS (c_X6_part l D cM aM j2 σm (xs (i + 1)) (xs (i + 2)) (xs (i + 3)) _ e2) gL_law_X6_part rfl ⟨rfl, rfl⟩ hd_X6_part ⟨Nat.le_of_ble_eq_true rfl, Nat.le_of_ble_eq_true rfl⟩ hcs0 rfl (Nat.le_of_ble_eq_true rfl) hl.1 dL_law_548 (fun H locs hW hS => ?_)
  refine W.lcmp hx hb dL_law_551 ?_
  refine lv_if_eq (tgt := 1497) hx hb dL_law_552 (by decide) (fun _ => ?_) (fun c1 => absurd ((lg_cmp_eq _ _).mpr rfl) c1)
  exact W.widen (k := cells + 1) (n := slots + 6) (Nat.le_succ _) (Nat.le_add_right _ _) (next _ _ _ _ _ hR2 hW hS hl)
set_option maxHeartbeats 4000000 in
set_option maxRecDepth 100000 in
/-- back -/
theorem law_10 {p : Program} {l : Launch} {e : Env} {s : State} {m : MethodId} {below : List Frame} {meth : Method} {c : Code} {b L : Nat} {xs : Nat → Int32} {H : Heap} {locs : List Loc} {cells slots : Nat} {Q : State → Prop} {ls : Array Slot} {D : va_G} {cC cM : Nat → ClassId} {cO : ClassId} {aC aM : Nat → Nat} {o i : Nat} {σc σm : St} (C0 : lw_At p s m meth c b L xs) (X : LX D cC cM cO aC aM o s) (hR : RR σc σm) (hW : LW D cC cM cO aC aM o σc σm H) (hS : va_S (fun q : Nat => s.heap.size ≤ q) s.heap H locs) (hL : L ≤ 3072) (hi : i + 6 ≤ L) (hl : lv_has ls 8 (lv5 aC aM o b i)) (hcs : cells + 1 ≤ 601024 ∧ slots + 6 ≤ 7293034) (next : NX p l e s m below meth c b Q D cC cM cO aC aM o i cells slots) : W p l e room_1 s m #[Value.ref b] below meth c H locs cells slots Q (F0 m 557 ls []) := by
  obtain ⟨hx, hb, hr, hml, hown, hts, hX, hbl, hlocks, hgv⟩ := id C0
  have hcs0 : cells ≤ 601024 ∧ slots ≤ 7293034 := ⟨by omega, by omega⟩
  have j1 : Ij aC SC := X.2.2.1
  have j2 : Ij aM SM := X.2.2.2.1
  obtain ⟨r, σm', e1, e2, hR2⟩ := sim_back hR (xs (i + 1)) (xs (i + 2))
  refine lv_aload_n hx hb dL_law_557 rfl (lv_at hl 1 rfl) ?_
  refine l_arg C0 hS hL hi hl 1 (by omega) rfl dL_law_558 dL_law_559 dL_law_561 dL_law_562 dL_law_563 ?_
  refine l_arg C0 hS hL hi hl 2 (by omega) rfl dL_law_564 dL_law_565 dL_law_567 dL_law_568 dL_law_569 ?_
  refine l_Ci (As := [.int (xs (i + 1)), .int (xs (i + 2))]) C0 X hW hS (c_X5_back l D cC aC j1 σc (xs (i + 1)) (xs (i + 2)) _ e1) gL_law_X5_back rfl ⟨rfl, rfl⟩ hd_X5_back ⟨Nat.le_of_ble_eq_true rfl, Nat.le_of_ble_eq_true rfl⟩ hcs0 rfl (Nat.le_of_ble_eq_true rfl) hl.1 dL_law_570 (fun H locs hW hS => ?_)
  refine lv_aload_n hx hb dL_law_573 rfl (lv_at hl 2 rfl) ?_
  refine l_arg C0 hS hL hi hl 1 (by omega) rfl dL_law_574 dL_law_575 dL_law_577 dL_law_578 dL_law_579 ?_
  refine l_arg C0 hS hL hi hl 2 (by omega) rfl dL_law_580 dL_law_581 dL_law_583 dL_law_584 dL_law_585 ?_
  refine l_Mi (As := [.int (xs (i + 1)), .int (xs (i + 2))]) C0 X hW hS (c_X6_back l D cM aM j2 σm (xs (i + 1)) (xs (i + 2)) _ e2) gL_law_X6_back rfl ⟨rfl, rfl⟩ hd_X6_back ⟨Nat.le_of_ble_eq_true rfl, Nat.le_of_ble_eq_true rfl⟩ hcs0 rfl (Nat.le_of_ble_eq_true rfl) hl.1 dL_law_586 (fun H locs hW hS => ?_)
  refine lv_icmp_eq (tgt := 1497) hx hb dL_law_589 (by decide) (fun _ => ?_) (fun c1 => absurd rfl c1)
  exact W.widen (k := cells + 1) (n := slots + 6) (Nat.le_succ _) (Nat.le_add_right _ _) (next _ _ _ _ _ hR2 hW hS hl)
set_option maxHeartbeats 4000000 in
set_option maxRecDepth 100000 in
/-- strongest -/
theorem law_11 {p : Program} {l : Launch} {e : Env} {s : State} {m : MethodId} {below : List Frame} {meth : Method} {c : Code} {b L : Nat} {xs : Nat → Int32} {H : Heap} {locs : List Loc} {cells slots : Nat} {Q : State → Prop} {ls : Array Slot} {D : va_G} {cC cM : Nat → ClassId} {cO : ClassId} {aC aM : Nat → Nat} {o i : Nat} {σc σm : St} (C0 : lw_At p s m meth c b L xs) (X : LX D cC cM cO aC aM o s) (hR : RR σc σm) (hW : LW D cC cM cO aC aM o σc σm H) (hS : va_S (fun q : Nat => s.heap.size ≤ q) s.heap H locs) (hL : L ≤ 3072) (hi : i + 6 ≤ L) (hl : lv_has ls 8 (lv5 aC aM o b i)) (hcs : cells + 1 ≤ 601024 ∧ slots + 6 ≤ 7293034) (next : NX p l e s m below meth c b Q D cC cM cO aC aM o i cells slots) : W p l e room_1 s m #[Value.ref b] below meth c H locs cells slots Q (F0 m 594 ls []) := by
  obtain ⟨hx, hb, hr, hml, hown, hts, hX, hbl, hlocks, hgv⟩ := id C0
  have hcs0 : cells ≤ 601024 ∧ slots ≤ 7293034 := ⟨by omega, by omega⟩
  have j1 : Ij aC SC := X.2.2.1
  have j2 : Ij aM SM := X.2.2.2.1
  obtain ⟨r, σm', e1, e2, hR2⟩ := sim_strongest hR (xs (i + 1))
  refine lv_aload_n hx hb dL_law_594 rfl (lv_at hl 1 rfl) ?_
  refine l_arg C0 hS hL hi hl 1 (by omega) rfl dL_law_595 dL_law_596 dL_law_598 dL_law_599 dL_law_600 ?_
  refine l_Ci (As := [.int (xs (i + 1))]) C0 X hW hS (c_X5_strongest l D cC aC j1 σc (xs (i + 1)) _ e1) gL_law_X5_strongest rfl ⟨rfl, rfl⟩ hd_X5_strongest ⟨Nat.le_of_ble_eq_true rfl, Nat.le_of_ble_eq_true rfl⟩ hcs0 rfl (Nat.le_of_ble_eq_true rfl) hl.1 dL_law_601 (fun H locs hW hS => ?_)
  refine lv_aload_n hx hb dL_law_604 rfl (lv_at hl 2 rfl) ?_
  refine l_arg C0 hS hL hi hl 1 (by omega) rfl dL_law_605 dL_law_606 dL_law_608 dL_law_609 dL_law_610 ?_
  refine l_Mi (As := [.int (xs (i + 1))]) C0 X hW hS (c_X6_strongest l D cM aM j2 σm (xs (i + 1)) _ e2) gL_law_X6_strongest rfl ⟨rfl, rfl⟩ hd_X6_strongest ⟨Nat.le_of_ble_eq_true rfl, Nat.le_of_ble_eq_true rfl⟩ hcs0 rfl (Nat.le_of_ble_eq_true rfl) hl.1 dL_law_611 (fun H locs hW hS => ?_)
  refine lv_icmp_eq (tgt := 1497) hx hb dL_law_614 (by decide) (fun _ => ?_) (fun c1 => absurd rfl c1)
  exact W.widen (k := cells + 1) (n := slots + 6) (Nat.le_succ _) (Nat.le_add_right _ _) (next _ _ _ _ _ hR2 hW hS hl)
set_option maxHeartbeats 4000000 in
set_option maxRecDepth 100000 in
/-- harms -/
theorem law_12 {p : Program} {l : Launch} {e : Env} {s : State} {m : MethodId} {below : List Frame} {meth : Method} {c : Code} {b L : Nat} {xs : Nat → Int32} {H : Heap} {locs : List Loc} {cells slots : Nat} {Q : State → Prop} {ls : Array Slot} {D : va_G} {cC cM : Nat → ClassId} {cO : ClassId} {aC aM : Nat → Nat} {o i : Nat} {σc σm : St} (C0 : lw_At p s m meth c b L xs) (X : LX D cC cM cO aC aM o s) (hR : RR σc σm) (hW : LW D cC cM cO aC aM o σc σm H) (hS : va_S (fun q : Nat => s.heap.size ≤ q) s.heap H locs) (hL : L ≤ 3072) (hi : i + 6 ≤ L) (hl : lv_has ls 8 (lv5 aC aM o b i)) (hcs : cells + 1 ≤ 601024 ∧ slots + 6 ≤ 7293034) (next : NX p l e s m below meth c b Q D cC cM cO aC aM o i cells slots) : W p l e room_1 s m #[Value.ref b] below meth c H locs cells slots Q (F0 m 619 ls []) := by
  obtain ⟨hx, hb, hr, hml, hown, hts, hX, hbl, hlocks, hgv⟩ := id C0
  have hcs0 : cells ≤ 601024 ∧ slots ≤ 7293034 := ⟨by omega, by omega⟩
  have j1 : Ij aC SC := X.2.2.1
  have j2 : Ij aM SM := X.2.2.2.1
  obtain ⟨r, σm', e1, e2, hR2⟩ := sim_harms hR (xs (i + 1)) (xs (i + 2)) (xs (i + 3))
  refine lv_aload_n hx hb dL_law_619 rfl (lv_at hl 1 rfl) ?_
  refine l_arg C0 hS hL hi hl 1 (by omega) rfl dL_law_620 dL_law_621 dL_law_623 dL_law_624 dL_law_625 ?_
  refine l_arg C0 hS hL hi hl 2 (by omega) rfl dL_law_626 dL_law_627 dL_law_629 dL_law_630 dL_law_631 ?_
  refine l_arg C0 hS hL hi hl 3 (by omega) rfl dL_law_632 dL_law_633 dL_law_635 dL_law_636 dL_law_637 ?_
  refine l_Ci (As := [.int (xs (i + 1)), .int (xs (i + 2)), .int (xs (i + 3))]) C0 X hW hS (c_X5_harms l D cC aC j1 σc (xs (i + 1)) (xs (i + 2)) (xs (i + 3)) _ e1) gL_law_X5_harms rfl ⟨rfl, rfl⟩ hd_X5_harms ⟨Nat.le_of_ble_eq_true rfl, Nat.le_of_ble_eq_true rfl⟩ hcs0 rfl (Nat.le_of_ble_eq_true rfl) hl.1 dL_law_638 (fun H locs hW hS => ?_)
  refine lv_aload_n hx hb dL_law_641 rfl (lv_at hl 2 rfl) ?_
  refine l_arg C0 hS hL hi hl 1 (by omega) rfl dL_law_642 dL_law_643 dL_law_645 dL_law_646 dL_law_647 ?_
  refine l_arg C0 hS hL hi hl 2 (by omega) rfl dL_law_648 dL_law_649 dL_law_651 dL_law_652 dL_law_653 ?_
  refine l_arg C0 hS hL hi hl 3 (by omega) rfl dL_law_654 dL_law_655 dL_law_657 dL_law_658 dL_law_659 ?_
  refine l_Mi (As := [.int (xs (i + 1)), .int (xs (i + 2)), .int (xs (i + 3))]) C0 X hW hS (c_X6_harms l D cM aM j2 σm (xs (i + 1)) (xs (i + 2)) (xs (i + 3)) _ e2) gL_law_X6_harms rfl ⟨rfl, rfl⟩ hd_X6_harms ⟨Nat.le_of_ble_eq_true rfl, Nat.le_of_ble_eq_true rfl⟩ hcs0 rfl (Nat.le_of_ble_eq_true rfl) hl.1 dL_law_660 (fun H locs hW hS => ?_)
  refine lv_icmp_eq (tgt := 1497) hx hb dL_law_663 (by decide) (fun _ => ?_) (fun c1 => absurd rfl c1)
  exact W.widen (k := cells + 1) (n := slots + 6) (Nat.le_succ _) (Nat.le_add_right _ _) (next _ _ _ _ _ hR2 hW hS hl)
set_option maxHeartbeats 4000000 in
set_option maxRecDepth 100000 in
/-- first -/
theorem law_13 {p : Program} {l : Launch} {e : Env} {s : State} {m : MethodId} {below : List Frame} {meth : Method} {c : Code} {b L : Nat} {xs : Nat → Int32} {H : Heap} {locs : List Loc} {cells slots : Nat} {Q : State → Prop} {ls : Array Slot} {D : va_G} {cC cM : Nat → ClassId} {cO : ClassId} {aC aM : Nat → Nat} {o i : Nat} {σc σm : St} (C0 : lw_At p s m meth c b L xs) (X : LX D cC cM cO aC aM o s) (hR : RR σc σm) (hW : LW D cC cM cO aC aM o σc σm H) (hS : va_S (fun q : Nat => s.heap.size ≤ q) s.heap H locs) (hL : L ≤ 3072) (hi : i + 6 ≤ L) (hl : lv_has ls 8 (lv5 aC aM o b i)) (hcs : cells + 1 ≤ 601024 ∧ slots + 6 ≤ 7293034) (next : NX p l e s m below meth c b Q D cC cM cO aC aM o i cells slots) : W p l e room_1 s m #[Value.ref b] below meth c H locs cells slots Q (F0 m 668 ls []) := by
  obtain ⟨hx, hb, hr, hml, hown, hts, hX, hbl, hlocks, hgv⟩ := id C0
  have hcs0 : cells ≤ 601024 ∧ slots ≤ 7293034 := ⟨by omega, by omega⟩
  have j1 : Ij aC SC := X.2.2.1
  have j2 : Ij aM SM := X.2.2.2.1
  obtain ⟨r, σc', σm', e1, e2, hR2⟩ := sim_first hR (xs (i + 1)) (xs (i + 2)) (xs (i + 3))
  refine lv_aload_n hx hb dL_law_668 rfl (lv_at hl 1 rfl) ?_
  refine l_arg C0 hS hL hi hl 1 (by omega) rfl dL_law_669 dL_law_670 dL_law_672 dL_law_673 dL_law_674 ?_
  refine l_arg C0 hS hL hi hl 2 (by omega) rfl dL_law_675 dL_law_676 dL_law_678 dL_law_679 dL_law_680 ?_
  refine l_arg C0 hS hL hi hl 3 (by omega) rfl dL_law_681 dL_law_682 dL_law_684 dL_law_685 dL_law_686 ?_
  refine l_Ci (As := [.int (xs (i + 1)), .int (xs (i + 2)), .int (xs (i + 3))]) C0 X hW hS (c_X5_first l D cC aC j1 σc (xs (i + 1)) (xs (i + 2)) (xs (i + 3)) _ e1) gL_law_X5_first rfl ⟨rfl, rfl⟩ hd_X5_first ⟨Nat.le_of_ble_eq_true rfl, Nat.le_of_ble_eq_true rfl⟩ hcs0 rfl (Nat.le_of_ble_eq_true rfl) hl.1 dL_law_687 (fun H locs hW hS => ?_)
  refine lv_aload_n hx hb dL_law_690 rfl (lv_at hl 2 rfl) ?_
  refine l_arg C0 hS hL hi hl 1 (by omega) rfl dL_law_691 dL_law_692 dL_law_694 dL_law_695 dL_law_696 ?_
  refine l_arg C0 hS hL hi hl 2 (by omega) rfl dL_law_697 dL_law_698 dL_law_700 dL_law_701 dL_law_702 ?_
  refine l_arg C0 hS hL hi hl 3 (by omega) rfl dL_law_703 dL_law_704 dL_law_706 dL_law_707 dL_law_708 ?_
  refine l_Mi (As := [.int (xs (i + 1)), .int (xs (i + 2)), .int (xs (i + 3))]) C0 X hW hS (c_X6_first l D cM aM j2 σm (xs (i + 1)) (xs (i + 2)) (xs (i + 3)) _ e2) gL_law_X6_first rfl ⟨rfl, rfl⟩ hd_X6_first ⟨Nat.le_of_ble_eq_true rfl, Nat.le_of_ble_eq_true rfl⟩ hcs0 rfl (Nat.le_of_ble_eq_true rfl) hl.1 dL_law_709 (fun H locs hW hS => ?_)
  refine lv_icmp_eq (tgt := 1497) hx hb dL_law_712 (by decide) (fun _ => ?_) (fun c1 => absurd rfl c1)
  exact W.widen (k := cells + 1) (n := slots + 6) (Nat.le_succ _) (Nat.le_add_right _ _) (next _ _ _ _ _ hR2 hW hS hl)
set_option maxHeartbeats 4000000 in
set_option maxRecDepth 100000 in
/-- week -/
theorem law_14 {p : Program} {l : Launch} {e : Env} {s : State} {m : MethodId} {below : List Frame} {meth : Method} {c : Code} {b L : Nat} {xs : Nat → Int32} {H : Heap} {locs : List Loc} {cells slots : Nat} {Q : State → Prop} {ls : Array Slot} {D : va_G} {cC cM : Nat → ClassId} {cO : ClassId} {aC aM : Nat → Nat} {o i : Nat} {σc σm : St} (C0 : lw_At p s m meth c b L xs) (X : LX D cC cM cO aC aM o s) (hR : RR σc σm) (hW : LW D cC cM cO aC aM o σc σm H) (hS : va_S (fun q : Nat => s.heap.size ≤ q) s.heap H locs) (hL : L ≤ 3072) (hi : i + 6 ≤ L) (hl : lv_has ls 8 (lv5 aC aM o b i)) (hcs : cells + 1 ≤ 601024 ∧ slots + 6 ≤ 7293034) (next : NX p l e s m below meth c b Q D cC cM cO aC aM o i cells slots) : W p l e room_1 s m #[Value.ref b] below meth c H locs cells slots Q (F0 m 717 ls []) := by
  obtain ⟨hx, hb, hr, hml, hown, hts, hX, hbl, hlocks, hgv⟩ := id C0
  have hcs0 : cells ≤ 601024 ∧ slots ≤ 7293034 := ⟨by omega, by omega⟩
  have j1 : Ij aC SC := X.2.2.1
  have j2 : Ij aM SM := X.2.2.2.1
  obtain ⟨r, σc', σm', e1, e2, hR2⟩ := sim_week hR (xs (i + 1)) (xs (i + 2)) (xs (i + 3)) (xs (i + 4))
  refine lv_aload_n hx hb dL_law_717 rfl (lv_at hl 1 rfl) ?_
  refine l_arg C0 hS hL hi hl 1 (by omega) rfl dL_law_718 dL_law_719 dL_law_721 dL_law_722 dL_law_723 ?_
  refine l_arg C0 hS hL hi hl 2 (by omega) rfl dL_law_724 dL_law_725 dL_law_727 dL_law_728 dL_law_729 ?_
  refine l_arg C0 hS hL hi hl 3 (by omega) rfl dL_law_730 dL_law_731 dL_law_733 dL_law_734 dL_law_735 ?_
  refine l_arg C0 hS hL hi hl 4 (by omega) rfl dL_law_736 dL_law_737 dL_law_739 dL_law_740 dL_law_741 ?_
  refine l_Ci (As := [.int (xs (i + 1)), .int (xs (i + 2)), .int (xs (i + 3)), .int (xs (i + 4))]) C0 X hW hS (c_X5_week l D cC aC j1 σc (xs (i + 1)) (xs (i + 2)) (xs (i + 3)) (xs (i + 4)) _ e1) gL_law_X5_week rfl ⟨rfl, rfl⟩ hd_X5_week ⟨Nat.le_of_ble_eq_true rfl, Nat.le_of_ble_eq_true rfl⟩ hcs0 rfl (Nat.le_of_ble_eq_true rfl) hl.1 dL_law_742 (fun H locs hW hS => ?_)
  refine lv_aload_n hx hb dL_law_745 rfl (lv_at hl 2 rfl) ?_
  refine l_arg C0 hS hL hi hl 1 (by omega) rfl dL_law_746 dL_law_747 dL_law_749 dL_law_750 dL_law_751 ?_
  refine l_arg C0 hS hL hi hl 2 (by omega) rfl dL_law_752 dL_law_753 dL_law_755 dL_law_756 dL_law_757 ?_
  refine l_arg C0 hS hL hi hl 3 (by omega) rfl dL_law_758 dL_law_759 dL_law_761 dL_law_762 dL_law_763 ?_
  refine l_arg C0 hS hL hi hl 4 (by omega) rfl dL_law_764 dL_law_765 dL_law_767 dL_law_768 dL_law_769 ?_
  refine l_Mi (As := [.int (xs (i + 1)), .int (xs (i + 2)), .int (xs (i + 3)), .int (xs (i + 4))]) C0 X hW hS (c_X6_week l D cM aM j2 σm (xs (i + 1)) (xs (i + 2)) (xs (i + 3)) (xs (i + 4)) _ e2) gL_law_X6_week rfl ⟨rfl, rfl⟩ hd_X6_week ⟨Nat.le_of_ble_eq_true rfl, Nat.le_of_ble_eq_true rfl⟩ hcs0 rfl (Nat.le_of_ble_eq_true rfl) hl.1 dL_law_770 (fun H locs hW hS => ?_)
  refine lv_icmp_eq (tgt := 1497) hx hb dL_law_773 (by decide) (fun _ => ?_) (fun c1 => absurd rfl c1)
  exact W.widen (k := cells + 1) (n := slots + 6) (Nat.le_succ _) (Nat.le_add_right _ _) (next _ _ _ _ _ hR2 hW hS hl)
