/-! THE LAW'S LOOP -/
set_option maxHeartbeats 4000000 in
set_option maxRecDepth 100000 in
theorem law_loop {p : Program} {l : Launch} {e : Env} {s : State} {m : MethodId} {below : List Frame} {meth : Method} {c : Code} {b L : Nat} {xs : Nat → Int32} {D : va_G} {cC cM : Nat → ClassId} {cO : ClassId} {aC aM : Nat → Nat} {o : Nat} (hst9 : l.stackTraces = false) (hL : L ≤ 3072) (C0 : lw_At p s m meth c b L xs) (X : LX D cC cM cO aC aM o s) : ∀ (n q : Nat), 6 * q ≤ L → L < 6 * q + 6 * n → ∀ (σc σm : St) (H : Heap) (locs : List Loc) (ls : Array Slot), RR σc σm → LW D cC cM cO aC aM o σc σm H → va_S (fun q : Nat => s.heap.size ≤ q) s.heap H locs → lv_has ls 8 (lv5 aC aM o b (6 * q)) → W p l e room_1 s m #[Value.ref b] below meth c H locs (166 + q) (4000 + 6 * q) (lw_Z below #[Value.ref b] s) (F0 m 23 ls []) := by
  obtain ⟨hx, hb, hr, hml, hown, hts, hX, hbl, hlocks, hgv⟩ := id C0
  intro n
  induction n with
  | zero =>
    intro q h1 h2
    exact absurd h2 (by omega)
  | succ n ih =>
    intro q h1 h2 σc σm H locs ls hR hW hS hl
    refine lv_iload hx hb dL_law_23 (lv_at hl 4 rfl) ?_
    refine lv_aload_n hx hb dL_law_25 rfl (lv_at hl 0 rfl) ?_
    refine va_slen hx hb hX hbl (Nat.not_le.mpr hbl) hS dL_law_26 ?_
    refine lv_bipush (v := nI 6) hx hb dL_law_27 (by decide) ?_
    refine lv_isub hx hb dL_law_29 ?_
    have e0 : (Int32.ofNat L - nI 6).toInt = (L : Int) - 6 := pk_sub_toInt (a := L) (b := 6) (by omega) (by omega)
    have e1 : (nI (6 * q)).toInt = ((6 * q : Nat) : Int) := nI_toInt (by omega)
    refine lv_icmp_gt (tgt := 1503) hx hb dL_law_30 (by decide) (fun c1 => ?_) (fun c1 => ?_)
    · refine lv_iconst (v := 1) hx hb dL_law_1503 (by decide) ?_
      refine va_forget (fun q hq => hS.2.2 q hq) ?_
      refine W.widen (k := 601024) (n := 7293034) (by omega) (by omega) ?_
      exact lw_ret hx hb hr hlocks dL_law_1504
    · rw [Int32.lt_iff_toInt_lt, e0, e1] at c1
      have hi : 6 * q + 6 ≤ L := by omega
      have hcs : 166 + q + 1 ≤ 601024 ∧ 4000 + 6 * q + 6 ≤ 7293034 := ⟨by omega, by omega⟩
      refine lv_aload_n hx hb dL_law_33 rfl (lv_at hl 0 rfl) ?_
      refine lv_iload hx hb dL_law_34 (lv_at hl 4 rfl) ?_
      refine va_sld hx hb hX hbl (Nat.not_le.mpr hbl) hS (vp_in_nI (by omega) (by omega)) dL_law_36 ?_
      refine lv_bipush (v := 31) hx hb dL_law_37 (by decide) ?_
      refine lv_iand hx hb dL_law_39 ?_
      obtain ⟨j, hj, ej⟩ := pk_andE (xs (nI (6 * q)).toNatClampNeg) (m := 31) 5 (by decide)
      rw [ej]
      have hj : j < 32 := hj
      have e6 : nI (6 * q) + Int32.ofInt 6 = nI (6 * (q + 1)) := (nI_add (6 * q) 6).trans (congrArg nI (by omega))
      have next : NX p l e s m below meth c b (lw_Z below #[Value.ref b] s) D cC cM cO aC aM o (6 * q) (166 + q) (4000 + 6 * q) := by
        intro σc σm H locs ls hR hW hS hl
        refine lv_iinc (v := nI (6 * (q + 1))) (lv' := [(4, .int (nI (6 * (q + 1)))), (0, .ref b), (1, .ref (aC 0)), (2, .ref (aM 0)), (3, .ref o)]) hx hb dL_law_1497 hl (k := 4) rfl e6 (by decide) rfl (fun ls hl => ?_)
        refine lv_goto (tgt := 23) hx hb dL_law_1500 (by decide) ?_
        exact ih (q + 1) (by omega) (by omega) _ _ _ _ _ hR hW hS (lv_sub hl [1, 2, 3, 4, 0] rfl)
      rcases (show j = 0 ∨ j = 1 ∨ j = 2 ∨ j = 3 ∨ j = 4 ∨ j = 5 ∨ j = 6 ∨ j = 7 ∨ j = 8 ∨ j = 9 ∨ j = 10 ∨ j = 11 ∨ j = 12 ∨ j = 13 ∨ j = 14 ∨ j = 15 ∨ j = 16 ∨ j = 17 ∨ j = 18 ∨ j = 19 ∨ j = 20 ∨ j = 21 ∨ j = 22 ∨ j = 23 ∨ j = 24 ∨ j = 25 ∨ j = 26 ∨ j = 27 ∨ j = 28 ∨ j = 29 ∨ j = 30 ∨ j = 31 by omega) with rfl | rfl | rfl | rfl | rfl | rfl | rfl | rfl | rfl | rfl | rfl | rfl | rfl | rfl | rfl | rfl | rfl | rfl | rfl | rfl | rfl | rfl | rfl | rfl | rfl | rfl | rfl | rfl | rfl | rfl | rfl | rfl
      · exact lv_tableIn (off := 144) (tgt := 184) hx hb dL_law_40 (by decide +kernel) (by decide +kernel) (by decide +kernel) (by decide) (law_0 C0 X hR hW hS hL hi hl hcs next)
      · exact lv_tableIn (off := 169) (tgt := 209) hx hb dL_law_40 (by decide +kernel) (by decide +kernel) (by decide +kernel) (by decide) (law_1 C0 X hR hW hS hL hi hl hcs next)
      · exact lv_tableIn (off := 182) (tgt := 222) hx hb dL_law_40 (by decide +kernel) (by decide +kernel) (by decide +kernel) (by decide) (law_2 C0 X hR hW hS hL hi hl hcs next)
      · exact lv_tableIn (off := 219) (tgt := 259) hx hb dL_law_40 (by decide +kernel) (by decide +kernel) (by decide +kernel) (by decide) (law_3 C0 X hR hW hS hL hi hl hcs next)
      · exact lv_tableIn (off := 268) (tgt := 308) hx hb dL_law_40 (by decide +kernel) (by decide +kernel) (by decide +kernel) (by decide) (law_4 C0 X hR hW hS hL hi hl hcs next)
      · exact lv_tableIn (off := 293) (tgt := 333) hx hb dL_law_40 (by decide +kernel) (by decide +kernel) (by decide +kernel) (by decide) (law_5 C0 X hR hW hS hL hi hl hcs next)
      · exact lv_tableIn (off := 343) (tgt := 383) hx hb dL_law_40 (by decide +kernel) (by decide +kernel) (by decide +kernel) (by decide) (law_6 C0 X hR hW hS hL hi hl hcs next)
      · exact lv_tableIn (off := 381) (tgt := 421) hx hb dL_law_40 (by decide +kernel) (by decide +kernel) (by decide +kernel) (by decide) (law_7 C0 X hR hW hS hL hi hl hcs next)
      · exact lv_tableIn (off := 418) (tgt := 458) hx hb dL_law_40 (by decide +kernel) (by decide +kernel) (by decide +kernel) (by decide) (law_8 C0 X hR hW hS hL hi hl hcs next)
      · exact lv_tableIn (off := 467) (tgt := 507) hx hb dL_law_40 (by decide +kernel) (by decide +kernel) (by decide +kernel) (by decide) (law_9 C0 X hR hW hS hL hi hl hcs next)
      · exact lv_tableIn (off := 517) (tgt := 557) hx hb dL_law_40 (by decide +kernel) (by decide +kernel) (by decide +kernel) (by decide) (law_10 C0 X hR hW hS hL hi hl hcs next)
      · exact lv_tableIn (off := 554) (tgt := 594) hx hb dL_law_40 (by decide +kernel) (by decide +kernel) (by decide +kernel) (by decide) (law_11 C0 X hR hW hS hL hi hl hcs next)
      · exact lv_tableIn (off := 579) (tgt := 619) hx hb dL_law_40 (by decide +kernel) (by decide +kernel) (by decide +kernel) (by decide) (law_12 C0 X hR hW hS hL hi hl hcs next)
      · exact lv_tableIn (off := 628) (tgt := 668) hx hb dL_law_40 (by decide +kernel) (by decide +kernel) (by decide +kernel) (by decide) (law_13 C0 X hR hW hS hL hi hl hcs next)
      · exact lv_tableIn (off := 677) (tgt := 717) hx hb dL_law_40 (by decide +kernel) (by decide +kernel) (by decide +kernel) (by decide) (law_14 C0 X hR hW hS hL hi hl hcs next)
      · exact lv_tableIn (off := 738) (tgt := 778) hx hb dL_law_40 (by decide +kernel) (by decide +kernel) (by decide +kernel) (by decide) (law_15 C0 X hR hW hS hL hi hl hcs next)
      · exact lv_tableIn (off := 811) (tgt := 851) hx hb dL_law_40 (by decide +kernel) (by decide +kernel) (by decide +kernel) (by decide) (law_16 C0 X hR hW hS hL hi hl hcs next)
      · exact lv_tableIn (off := 872) (tgt := 912) hx hb dL_law_40 (by decide +kernel) (by decide +kernel) (by decide +kernel) (by decide) (law_17 C0 X hR hW hS hL hi hl hcs next)
      · exact lv_tableIn (off := 897) (tgt := 937) hx hb dL_law_40 (by decide +kernel) (by decide +kernel) (by decide +kernel) (by decide) (law_18 C0 X hR hW hS hL hi hl hcs next)
      · exact lv_tableIn (off := 934) (tgt := 974) hx hb dL_law_40 (by decide +kernel) (by decide +kernel) (by decide +kernel) (by decide) (law_19 C0 X hR hW hS hL hi hl hcs next)
      · exact lv_tableIn (off := 983) (tgt := 1023) hx hb dL_law_40 (by decide +kernel) (by decide +kernel) (by decide +kernel) (by decide) (law_20 C0 X hR hW hS hL hi hl hcs next)
      · exact lv_tableIn (off := 1032) (tgt := 1072) hx hb dL_law_40 (by decide +kernel) (by decide +kernel) (by decide +kernel) (by decide) (law_21 C0 X hR hW hS hL hi hl hcs next)
      · exact lv_tableIn (off := 1057) (tgt := 1097) hx hb dL_law_40 (by decide +kernel) (by decide +kernel) (by decide +kernel) (by decide) (law_22 C0 X hR hW hS hL hi hl hcs next)
      · exact lv_tableIn (off := 1070) (tgt := 1110) hx hb dL_law_40 (by decide +kernel) (by decide +kernel) (by decide +kernel) (by decide) (law_23 C0 X hR hW hS hL hi hl hcs next)
      · exact lv_tableIn (off := 1083) (tgt := 1123) hx hb dL_law_40 (by decide +kernel) (by decide +kernel) (by decide +kernel) (by decide) (law_24 C0 X hR hW hS hL hi hl hcs next)
      · exact lv_tableIn (off := 1108) (tgt := 1148) hx hb dL_law_40 (by decide +kernel) (by decide +kernel) (by decide +kernel) (by decide) (law_25 C0 X hR hW hS hL hi hl hcs next)
      · exact lv_tableIn (off := 1169) (tgt := 1209) hx hb dL_law_40 (by decide +kernel) (by decide +kernel) (by decide +kernel) (by decide) (law_26 C0 X hR hW hS hL hi hl hcs next)
      · exact lv_tableIn (off := 1218) (tgt := 1258) hx hb dL_law_40 (by decide +kernel) (by decide +kernel) (by decide +kernel) (by decide) (law_27 C0 X hR hW hS hL hi hl hcs next)
      · exact lv_tableIn (off := 1267) (tgt := 1307) hx hb dL_law_40 (by decide +kernel) (by decide +kernel) (by decide +kernel) (by decide) (law_28 hst9 C0 X hR hW hS hL hi hl hcs next)
      · exact lv_tableIn (off := 1334) (tgt := 1374) hx hb dL_law_40 (by decide +kernel) (by decide +kernel) (by decide +kernel) (by decide) (law_29 C0 X hR hW hS hL hi hl hcs next)
      · exact lv_tableIn (off := 1407) (tgt := 1447) hx hb dL_law_40 (by decide +kernel) (by decide +kernel) (by decide +kernel) (by decide) (law_30 C0 X hR hW hS hL hi hl hcs next)
      · exact lv_tableIn (off := 1432) (tgt := 1472) hx hb dL_law_40 (by decide +kernel) (by decide +kernel) (by decide +kernel) (by decide) (law_31 C0 X hR hW hS hL hi hl hcs next)
