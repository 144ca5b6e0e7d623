/-! THE LAW: element -/
section LEL
variable {p : Program} {l : Launch} {e : Env} {s : State} {m : MethodId} {below : List Frame} {meth : Method} {c : Code} {b L : Nat} {xs : Nat → Int32} {H : Heap} {locs : List Loc} {cells slots : Nat} {Q : State → Prop} {ls : Array Slot} {D : va_G} {cC cM : Nat → ClassId} {cO : ClassId} {aC aM : Nat → Nat} {o i : Nat} {σc σm : St}
theorem l_el (C0 : lw_At p s m meth c b L xs) (X : LX D cC cM cO aC aM o s) (w1 : Wr D cC aC SC σc H) (w2 : Wr D cM aM SM σm H) {v0 v1 : Int64} (w3 : OutAt cO o v0 H) (hS : va_S (fun q : Nat => s.heap.size ≤ q) s.heap H locs) {x y k : Int32} (hM : Met l yL_element wsL_element rmL (PL D cC aC cO o x y σc v0) (QL D cC aC cO o σc k v1) 1 6 (AL aC o)) (hcs : cells + 1 ≤ 601024 ∧ slots + 6 ≤ 7293034) (hls : ls.size = 8)
    (kk : ∀ (H1 : Heap) (locs1 : List Loc), Wr D cC aC SC σc H1 → Wr D cM aM SM σm H1 → OutAt cO o v1 H1 → va_S (fun q : Nat => s.heap.size ≤ q) s.heap H1 locs1 → W p l e room_1 s m #[Value.ref b] below meth c H1 locs1 (cells + 1) (slots + 6) Q (F0 m (1321 + 3) ls [.int k])) : W p l e room_1 s m #[Value.ref b] below meth c H locs cells slots Q (F0 m 1321 ls [.ref o, .int y, .int x, .ref (aC 0)]) := by
  obtain ⟨hx, hb, hr, hml, hown, hts, hX, hbl, hlocks, hgv⟩ := C0
  obtain ⟨k1, k2, j1, j2, a1, a2, d1, o1, o2, o3, kO, xp, nc⟩ := X
  have hts : ∀ w ∈ wsL_law, w.before #[Value.ref b] s = true := fun w h => hts w (wsL_law_in w h)
  have hA : ∀ q, AL aC o q → s.heap.size ≤ q := fun q h => h.elim (fun h => a1 q h) (fun h => by rw [h]; exact o3)
  have hpre : PreS s H (PL D cC aC cO o x y σc v0) [.ref (aC 0), .int x, .int y, .ref o] := ⟨PL.blind, fun U hU hWm => by
    have xU : XP (fun q : Nat => s.heap.size ≤ q) U := xp.warm hWm.alike (fun a h1 h2 => by rw [hU]; exact hS.2.1 a h1 h2)
    exact ⟨rfl, by rw [hU]; exact w1, by rw [hU]; exact w3, Kn.warm hWm k1, va_K.moved hWm.alike kO, ⟨xU.1, xU.2.1.narrow a1, xU.2.2.narrow a1⟩, va_Nc.moved hWm.alike nc⟩⟩
  refine va_calli (vx_runSW (own := RL) (hh := [(0, 9, 12, 13), (0, 9, 16, 15)]) (As := [.ref (aC 0), .int x, .int y, .ref o]) (rest := []) ⟨hx, hb, hml, hown, hts⟩ hM (vx_cwSW 4 hts gL_law_L_element rfl rfl rfl (by decide +kernel) ⟨Nat.le_of_ble_eq_true rfl, Nat.le_of_ble_eq_true rfl⟩) hpre rfl rfl hls rfl (lv_room (Nat.le_of_ble_eq_true rfl)) dL_law_1321 hcs) hS (fun q _ h => hA q h) hA (fun r0 u t H1 locs1 ht hvm hw hB hz1 hk1 hS => ?_)
  obtain ⟨b1, b2⟩ := hB
  rw [ht] at b1 b2
  have hw2 : r0 = k := hw
  rw [hw2]
  exact kk H1 locs1 b1 (Wr.fr w2 j2 hk1 (fun q h1 h2 => h2.elim (fun h => d1 q h h1) (fun h => o2 (h ▸ h1)))) b2 hS
set_option maxHeartbeats 4000000 in
set_option maxRecDepth 100000 in
/-- element -/
theorem law_28 (hst9 : l.stackTraces = false) (C0 : lw_At p s m meth c b L xs) (X : LX D cC cM cO aC aM o s) (hR : RR σc σm) (hW : LW D cC cM cO aC aM o σc σm H) (hS : va_S (fun q : Nat => s.heap.size ≤ q) s.heap H locs) (hL : L ≤ 3072) (hi : i + 6 ≤ L) (hl : lv_has ls 8 (lv5 aC aM o b i)) (hcs : cells + 1 ≤ 601024 ∧ slots + 6 ≤ 7293034) (next : NX p l e s m below meth c b Q D cC cM cO aC aM o i cells slots) : W p l e room_1 s m #[Value.ref b] below meth c H locs cells slots Q (F0 m 1307 ls []) := by
  obtain ⟨hx, hb, hr, hml, hown, hts, hX, hbl, hlocks, hgv⟩ := id C0
  obtain ⟨k1, k2, j1, j2, a1, a2, d1, o1, o2, o3, kO, xp, nc⟩ := id X
  obtain ⟨w1, w2, v0, w3⟩ := hW
  obtain ⟨k, v1, bb, σm', hM, e2, e3, e4, hR2⟩ := sim_element hR l hst9 D cC aC j1 cO o o1 (xs (i + 1)) (xs (i + 2)) v0
  refine lv_aload_n hx hb dL_law_1307 rfl (lv_at hl 1 rfl) ?_
  refine l_arg C0 hS hL hi hl 1 (by omega) rfl dL_law_1308 dL_law_1309 dL_law_1311 dL_law_1312 dL_law_1313 ?_
  refine l_arg C0 hS hL hi hl 2 (by omega) rfl dL_law_1314 dL_law_1315 dL_law_1317 dL_law_1318 dL_law_1319 ?_
  refine lv_aload_n hx hb dL_law_1320 rfl (lv_at hl 3 rfl) ?_
  refine l_el C0 X w1 w2 w3 hS hM hcs hl.1 (fun H locs w1 w2 w3 hS => ?_)
  refine lv_istore (lv' := [(5, .int k), (0, .ref b), (1, .ref (aC 0)), (2, .ref (aM 0)), (3, .ref o), (4, .int (nI i))]) hx hb dL_law_1324 hl (by decide) rfl (fun ls hl => ?_)
  refine lv_aload_n hx hb dL_law_1326 rfl (lv_at hl 3 rfl) ?_
  have hl5 : lv_has ls 8 (lv5 aC aM o b i) := lv_sub hl [1, 2, 3, 4, 5] rfl
  refine l_arg C0 hS hL hi hl5 1 (by omega) rfl dL_law_1327 dL_law_1328 dL_law_1330 dL_law_1331 dL_law_1332 ?_
  refine l_arg C0 hS hL hi hl5 2 (by omega) rfl dL_law_1333 dL_law_1334 dL_law_1336 dL_law_1337 dL_law_1338 ?_
  refine l_cVl (K := 6) (As := [.int (xs (i + 1)), .int (xs (i + 2))]) C0 k2 a2 w2 hS kM_0 iM_0 rfl (c_X6_element l D cM aM j2 σm (xs (i + 1)) (xs (i + 2)) _ e2) gL_law_X6_element rfl ⟨rfl, rfl⟩ hd_X6_element ⟨Nat.le_of_ble_eq_true rfl, Nat.le_of_ble_eq_true rfl⟩ hcs rfl (Nat.le_of_ble_eq_true rfl) hl.1 dL_law_1339 (fun H1 locs1 w2 hS hk => ?_)
  have w1 := Wr.fr w1 j1 hk (fun q h1 h2 => d1 q h1 h2)
  have w3 := w3.fr (hk o w3.lt o2)
  refine lv_lstore (lv' := [(6, .long bb), (5, .int k), (0, .ref b), (1, .ref (aC 0)), (2, .ref (aM 0)), (3, .ref o), (4, .int (nI i))]) hx hb dL_law_1342 hl (by decide) rfl (fun ls hl => ?_)
  refine lv_aload_n hx hb dL_law_1344 rfl (lv_at hl 4 rfl) ?_
  refine l_cVi (K := 6) (As := []) C0 k2 a2 w2 hS kM_0 iM_0 rfl (c_X6_thrown l D cM aM j2 σm' _ rfl) gL_law_X6_thrown rfl ⟨rfl, rfl⟩ hd_X6_thrown ⟨Nat.le_of_ble_eq_true rfl, Nat.le_of_ble_eq_true rfl⟩ hcs rfl (Nat.le_of_ble_eq_true rfl) hl.1 dL_law_1345 (fun H2 locs2 w2 hS hk => ?_)
  have w1 := Wr.fr w1 j1 hk (fun q h1 h2 => d1 q h1 h2)
  have w3 := w3.fr (hk o w3.lt o2)
  refine lv_iload hx hb dL_law_1348 (lv_at hl 1 rfl) ?_
  refine lv_icmp_eq (tgt := 1355) hx hb dL_law_1350 (by decide) (fun _ => ?_) (fun c1 => absurd e3 c1)
  refine lv_iload hx hb dL_law_1355 (lv_at hl 1 rfl) ?_
  have fin : W p l e room_1 s m #[Value.ref b] below meth c H2 locs2 (cells + 1) (slots + 6) Q (F0 m 1371 ls []) := lv_goto (tgt := 1497) hx hb dL_law_1371 (by decide) (next _ _ _ _ _ hR2 ⟨w1, w2, _, w3⟩ hS (lv_sub hl [2, 3, 4, 5, 6] rfl))
  refine lv_if_ne (tgt := 1371) hx hb dL_law_1357 (by decide) (fun _ => fin) (fun c1 => ?_)
  refine lv_aload_n hx hb dL_law_1360 rfl (lv_at hl 5 rfl) ?_
  refine lv_iconst (v := 0) hx hb dL_law_1361 (by decide) ?_
  obtain ⟨f, g1, g2⟩ := id w3
  have hPo : va_P D vwCl [(o, .inl (cO, 1, .inr (.inl f)))] H2 := fun k q hk => by
    have hz : k < 1 := (List.getElem?_eq_some_iff.mp hk).1
    rw [show k = 0 by omega] at hk
    cases hk
    exact g1
  refine va_lald hx hb kO hPo 0 0 rfl rfl (by unfold vp_in; decide) dL_law_1362 ?_
  refine lv_lload hx hb dL_law_1363 (lv_at hl 0 rfl) ?_
  refine W.lcmp hx hb dL_law_1365 ?_
  refine lv_if_eq (tgt := 1371) hx hb dL_law_1366 (by decide) (fun _ => fin) (fun c2 => absurd ((lg_cmp_eq _ _).mpr ?_) c2)
  exact g2.trans (e4 c1)
end LEL
