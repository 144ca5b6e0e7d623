/-! THE LAW, case by case -/
set_option maxHeartbeats 4000000 in
set_option maxRecDepth 100000 in
/-- restore -/
theorem law_23 {p : Program} {l : Launch} {e : Env} {s : State} {m : MethodId} {below : List Frame} {meth : Method} {c : Code} {b L : Nat} {xs : Nat → Int32} {H : Heap} {locs : List Loc} {cells slots : Nat} {Q : State → Prop} {ls : Array Slot} {D : va_G} {cC cM : Nat → ClassId} {cO : ClassId} {aC aM : Nat → Nat} {o i : Nat} {σc σm : St} (C0 : lw_At p s m meth c b L xs) (X : LX D cC cM cO aC aM o s) (hR : RR σc σm) (hW : LW D cC cM cO aC aM o σc σm H) (hS : va_S (fun q : Nat => s.heap.size ≤ q) s.heap H locs) (hL : L ≤ 3072) (hi : i + 6 ≤ L) (hl : lv_has ls 8 (lv5 aC aM o b i)) (hcs : cells + 1 ≤ 601024 ∧ slots + 6 ≤ 7293034) (next : NX p l e s m below meth c b Q D cC cM cO aC aM o i cells slots) : W p l e room_1 s m #[Value.ref b] below meth c H locs cells slots Q (F0 m 1110 ls []) := by
  obtain ⟨hx, hb, hr, hml, hown, hts, hX, hbl, hlocks, hgv⟩ := id C0
  have hcs0 : cells ≤ 601024 ∧ slots ≤ 7293034 := ⟨by omega, by omega⟩
  have j1 : Ij aC SC := X.2.2.1
  have j2 : Ij aM SM := X.2.2.2.1
  obtain ⟨r, σc', σm', e1, e2, hR2⟩ := sim_restore hR 
  refine lv_aload_n hx hb dL_law_1110 rfl (lv_at hl 1 rfl) ?_
  refine l_Ci (As := []) C0 X hW hS (c_X5_restore l D cC aC j1 σc  _ e1) gL_law_X5_restore rfl ⟨rfl, rfl⟩ hd_X5_restore ⟨Nat.le_of_ble_eq_true rfl, Nat.le_of_ble_eq_true rfl⟩ hcs0 rfl (Nat.le_of_ble_eq_true rfl) hl.1 dL_law_1111 (fun H locs hW hS => ?_)
  refine lv_aload_n hx hb dL_law_1114 rfl (lv_at hl 2 rfl) ?_
  refine l_Mi (As := []) C0 X hW hS (c_X6_restore l D cM aM j2 σm  _ e2) gL_law_X6_restore rfl ⟨rfl, rfl⟩ hd_X6_restore ⟨Nat.le_of_ble_eq_true rfl, Nat.le_of_ble_eq_true rfl⟩ hcs0 rfl (Nat.le_of_ble_eq_true rfl) hl.1 dL_law_1115 (fun H locs hW hS => ?_)
  refine lv_icmp_eq (tgt := 1497) hx hb dL_law_1118 (by decide) (fun _ => ?_) (fun c1 => absurd rfl c1)
  exact W.widen (k := cells + 1) (n := slots + 6) (Nat.le_succ _) (Nat.le_add_right _ _) (next _ _ _ _ _ hR2 hW hS hl)
set_option maxHeartbeats 4000000 in
set_option maxRecDepth 100000 in
/-- count -/
theorem law_24 {p : Program} {l : Launch} {e : Env} {s : State} {m : MethodId} {below : List Frame} {meth : Method} {c : Code} {b L : Nat} {xs : Nat → Int32} {H : Heap} {locs : List Loc} {cells slots : Nat} {Q : State → Prop} {ls : Array Slot} {D : va_G} {cC cM : Nat → ClassId} {cO : ClassId} {aC aM : Nat → Nat} {o i : Nat} {σc σm : St} (C0 : lw_At p s m meth c b L xs) (X : LX D cC cM cO aC aM o s) (hR : RR σc σm) (hW : LW D cC cM cO aC aM o σc σm H) (hS : va_S (fun q : Nat => s.heap.size ≤ q) s.heap H locs) (hL : L ≤ 3072) (hi : i + 6 ≤ L) (hl : lv_has ls 8 (lv5 aC aM o b i)) (hcs : cells + 1 ≤ 601024 ∧ slots + 6 ≤ 7293034) (next : NX p l e s m below meth c b Q D cC cM cO aC aM o i cells slots) : W p l e room_1 s m #[Value.ref b] below meth c H locs cells slots Q (F0 m 1123 ls []) := by
  obtain ⟨hx, hb, hr, hml, hown, hts, hX, hbl, hlocks, hgv⟩ := id C0
  have hcs0 : cells ≤ 601024 ∧ slots ≤ 7293034 := ⟨by omega, by omega⟩
  have j1 : Ij aC SC := X.2.2.1
  have j2 : Ij aM SM := X.2.2.2.1
  obtain ⟨r, σm', e1, e2, hR2⟩ := sim_count hR (xs (i + 1))
  refine lv_aload_n hx hb dL_law_1123 rfl (lv_at hl 1 rfl) ?_
  refine l_arg C0 hS hL hi hl 1 (by omega) rfl dL_law_1124 dL_law_1125 dL_law_1127 dL_law_1128 dL_law_1129 ?_
  refine l_Ci (As := [.int (xs (i + 1))]) C0 X hW hS (c_X5_count l D cC aC j1 σc (xs (i + 1)) _ e1) gL_law_X5_count rfl ⟨rfl, rfl⟩ hd_X5_count ⟨Nat.le_of_ble_eq_true rfl, Nat.le_of_ble_eq_true rfl⟩ hcs0 rfl (Nat.le_of_ble_eq_true rfl) hl.1 dL_law_1130 (fun H locs hW hS => ?_)
  refine lv_aload_n hx hb dL_law_1133 rfl (lv_at hl 2 rfl) ?_
  refine l_arg C0 hS hL hi hl 1 (by omega) rfl dL_law_1134 dL_law_1135 dL_law_1137 dL_law_1138 dL_law_1139 ?_
  refine l_Mi (As := [.int (xs (i + 1))]) C0 X hW hS (c_X6_count l D cM aM j2 σm (xs (i + 1)) _ e2) gL_law_X6_count rfl ⟨rfl, rfl⟩ hd_X6_count ⟨Nat.le_of_ble_eq_true rfl, Nat.le_of_ble_eq_true rfl⟩ hcs0 rfl (Nat.le_of_ble_eq_true rfl) hl.1 dL_law_1140 (fun H locs hW hS => ?_)
  refine lv_icmp_eq (tgt := 1497) hx hb dL_law_1143 (by decide) (fun _ => ?_) (fun c1 => absurd rfl c1)
  exact W.widen (k := cells + 1) (n := slots + 6) (Nat.le_succ _) (Nat.le_add_right _ _) (next _ _ _ _ _ hR2 hW hS hl)
set_option maxHeartbeats 4000000 in
set_option maxRecDepth 100000 in
/-- keep -/
theorem law_25 {p : Program} {l : Launch} {e : Env} {s : State} {m : MethodId} {below : List Frame} {meth : Method} {c : Code} {b L : Nat} {xs : Nat → Int32} {H : Heap} {locs : List Loc} {cells slots : Nat} {Q : State → Prop} {ls : Array Slot} {D : va_G} {cC cM : Nat → ClassId} {cO : ClassId} {aC aM : Nat → Nat} {o i : Nat} {σc σm : St} (C0 : lw_At p s m meth c b L xs) (X : LX D cC cM cO aC aM o s) (hR : RR σc σm) (hW : LW D cC cM cO aC aM o σc σm H) (hS : va_S (fun q : Nat => s.heap.size ≤ q) s.heap H locs) (hL : L ≤ 3072) (hi : i + 6 ≤ L) (hl : lv_has ls 8 (lv5 aC aM o b i)) (hcs : cells + 1 ≤ 601024 ∧ slots + 6 ≤ 7293034) (next : NX p l e s m below meth c b Q D cC cM cO aC aM o i cells slots) : W p l e room_1 s m #[Value.ref b] below meth c H locs cells slots Q (F0 m 1148 ls []) := by
  obtain ⟨hx, hb, hr, hml, hown, hts, hX, hbl, hlocks, hgv⟩ := id C0
  have hcs0 : cells ≤ 601024 ∧ slots ≤ 7293034 := ⟨by omega, by omega⟩
  have j1 : Ij aC SC := X.2.2.1
  have j2 : Ij aM SM := X.2.2.2.1
  obtain ⟨r, σc', σm', e1, e2, hR2⟩ := sim_keep hR (xs (i + 1)) (xs (i + 2)) (xs (i + 3)) (xs (i + 4))
  refine lv_aload_n hx hb dL_law_1148 rfl (lv_at hl 1 rfl) ?_
  refine l_arg C0 hS hL hi hl 1 (by omega) rfl dL_law_1149 dL_law_1150 dL_law_1152 dL_law_1153 dL_law_1154 ?_
  refine l_arg C0 hS hL hi hl 2 (by omega) rfl dL_law_1155 dL_law_1156 dL_law_1158 dL_law_1159 dL_law_1160 ?_
  refine l_arg C0 hS hL hi hl 3 (by omega) rfl dL_law_1161 dL_law_1162 dL_law_1164 dL_law_1165 dL_law_1166 ?_
  refine l_arg C0 hS hL hi hl 4 (by omega) rfl dL_law_1167 dL_law_1168 dL_law_1170 dL_law_1171 dL_law_1172 ?_
  refine l_Ci (As := [.int (xs (i + 1)), .int (xs (i + 2)), .int (xs (i + 3)), .int (xs (i + 4))]) C0 X hW hS (c_X5_keep l D cC aC j1 σc (xs (i + 1)) (xs (i + 2)) (xs (i + 3)) (xs (i + 4)) _ e1) gL_law_X5_keep rfl ⟨rfl, rfl⟩ hd_X5_keep ⟨Nat.le_of_ble_eq_true rfl, Nat.le_of_ble_eq_true rfl⟩ hcs0 rfl (Nat.le_of_ble_eq_true rfl) hl.1 dL_law_1173 (fun H locs hW hS => ?_)
  refine lv_aload_n hx hb dL_law_1176 rfl (lv_at hl 2 rfl) ?_
  refine l_arg C0 hS hL hi hl 1 (by omega) rfl dL_law_1177 dL_law_1178 dL_law_1180 dL_law_1181 dL_law_1182 ?_
  refine l_arg C0 hS hL hi hl 2 (by omega) rfl dL_law_1183 dL_law_1184 dL_law_1186 dL_law_1187 dL_law_1188 ?_
  refine l_arg C0 hS hL hi hl 3 (by omega) rfl dL_law_1189 dL_law_1190 dL_law_1192 dL_law_1193 dL_law_1194 ?_
  refine l_arg C0 hS hL hi hl 4 (by omega) rfl dL_law_1195 dL_law_1196 dL_law_1198 dL_law_1199 dL_law_1200 ?_
  refine l_Mi (As := [.int (xs (i + 1)), .int (xs (i + 2)), .int (xs (i + 3)), .int (xs (i + 4))]) C0 X hW hS (c_X6_keep l D cM aM j2 σm (xs (i + 1)) (xs (i + 2)) (xs (i + 3)) (xs (i + 4)) _ e2) gL_law_X6_keep rfl ⟨rfl, rfl⟩ hd_X6_keep ⟨Nat.le_of_ble_eq_true rfl, Nat.le_of_ble_eq_true rfl⟩ hcs0 rfl (Nat.le_of_ble_eq_true rfl) hl.1 dL_law_1201 (fun H locs hW hS => ?_)
  refine lv_icmp_eq (tgt := 1497) hx hb dL_law_1204 (by decide) (fun _ => ?_) (fun c1 => absurd rfl c1)
  exact W.widen (k := cells + 1) (n := slots + 6) (Nat.le_succ _) (Nat.le_add_right _ _) (next _ _ _ _ _ hR2 hW hS hl)
set_option maxHeartbeats 4000000 in
set_option maxRecDepth 100000 in
/-- row -/
theorem law_26 {p : Program} {l : Launch} {e : Env} {s : State} {m : MethodId} {below : List Frame} {meth : Method} {c : Code} {b L : Nat} {xs : Nat → Int32} {H : Heap} {locs : List Loc} {cells slots : Nat} {Q : State → Prop} {ls : Array Slot} {D : va_G} {cC cM : Nat → ClassId} {cO : ClassId} {aC aM : Nat → Nat} {o i : Nat} {σc σm : St} (C0 : lw_At p s m meth c b L xs) (X : LX D cC cM cO aC aM o s) (hR : RR σc σm) (hW : LW D cC cM cO aC aM o σc σm H) (hS : va_S (fun q : Nat => s.heap.size ≤ q) s.heap H locs) (hL : L ≤ 3072) (hi : i + 6 ≤ L) (hl : lv_has ls 8 (lv5 aC aM o b i)) (hcs : cells + 1 ≤ 601024 ∧ slots + 6 ≤ 7293034) (next : NX p l e s m below meth c b Q D cC cM cO aC aM o i cells slots) : W p l e room_1 s m #[Value.ref b] below meth c H locs cells slots Q (F0 m 1209 ls []) := by
  obtain ⟨hx, hb, hr, hml, hown, hts, hX, hbl, hlocks, hgv⟩ := id C0
  have hcs0 : cells ≤ 601024 ∧ slots ≤ 7293034 := ⟨by omega, by omega⟩
  have j1 : Ij aC SC := X.2.2.1
  have j2 : Ij aM SM := X.2.2.2.1
  obtain ⟨r, σc', σm', e1, e2, hR2⟩ := sim_row hR (xs (i + 1)) (xs (i + 2)) (xs (i + 3))
  refine lv_aload_n hx hb dL_law_1209 rfl (lv_at hl 1 rfl) ?_
  refine l_arg C0 hS hL hi hl 1 (by omega) rfl dL_law_1210 dL_law_1211 dL_law_1213 dL_law_1214 dL_law_1215 ?_
  refine l_arg C0 hS hL hi hl 2 (by omega) rfl dL_law_1216 dL_law_1217 dL_law_1219 dL_law_1220 dL_law_1221 ?_
  refine l_arg C0 hS hL hi hl 3 (by omega) rfl dL_law_1222 dL_law_1223 dL_law_1225 dL_law_1226 dL_law_1227 ?_
  refine l_Ci (As := [.int (xs (i + 1)), .int (xs (i + 2)), .int (xs (i + 3))]) C0 X hW hS (c_X5_row l D cC aC j1 σc (xs (i + 1)) (xs (i + 2)) (xs (i + 3)) _ e1) gL_law_X5_row rfl ⟨rfl, rfl⟩ hd_X5_row ⟨Nat.le_of_ble_eq_true rfl, Nat.le_of_ble_eq_true rfl⟩ hcs0 rfl (Nat.le_of_ble_eq_true rfl) hl.1 dL_law_1228 (fun H locs hW hS => ?_)
  refine lv_aload_n hx hb dL_law_1231 rfl (lv_at hl 2 rfl) ?_
  refine l_arg C0 hS hL hi hl 1 (by omega) rfl dL_law_1232 dL_law_1233 dL_law_1235 dL_law_1236 dL_law_1237 ?_
  refine l_arg C0 hS hL hi hl 2 (by omega) rfl dL_law_1238 dL_law_1239 dL_law_1241 dL_law_1242 dL_law_1243 ?_
  refine l_arg C0 hS hL hi hl 3 (by omega) rfl dL_law_1244 dL_law_1245 dL_law_1247 dL_law_1248 dL_law_1249 ?_
  refine l_Mi (As := [.int (xs (i + 1)), .int (xs (i + 2)), .int (xs (i + 3))]) C0 X hW hS (c_X6_row l D cM aM j2 σm (xs (i + 1)) (xs (i + 2)) (xs (i + 3)) _ e2) gL_law_X6_row rfl ⟨rfl, rfl⟩ hd_X6_row ⟨Nat.le_of_ble_eq_true rfl, Nat.le_of_ble_eq_true rfl⟩ hcs0 rfl (Nat.le_of_ble_eq_true rfl) hl.1 dL_law_1250 (fun H locs hW hS => ?_)
  refine lv_icmp_eq (tgt := 1497) hx hb dL_law_1253 (by decide) (fun _ => ?_) (fun c1 => absurd rfl c1)
  exact W.widen (k := cells + 1) (n := slots + 6) (Nat.le_succ _) (Nat.le_add_right _ _) (next _ _ _ _ _ hR2 hW hS hl)
set_option maxHeartbeats 4000000 in
set_option maxRecDepth 100000 in
/-- put -/
theorem law_27 {p : Program} {l : Launch} {e : Env} {s : State} {m : MethodId} {below : List Frame} {meth : Method} {c : Code} {b L : Nat} {xs : Nat → Int32} {H : Heap} {locs : List Loc} {cells slots : Nat} {Q : State → Prop} {ls : Array Slot} {D : va_G} {cC cM : Nat → ClassId} {cO : ClassId} {aC aM : Nat → Nat} {o i : Nat} {σc σm : St} (C0 : lw_At p s m meth c b L xs) (X : LX D cC cM cO aC aM o s) (hR : RR σc σm) (hW : LW D cC cM cO aC aM o σc σm H) (hS : va_S (fun q : Nat => s.heap.size ≤ q) s.heap H locs) (hL : L ≤ 3072) (hi : i + 6 ≤ L) (hl : lv_has ls 8 (lv5 aC aM o b i)) (hcs : cells + 1 ≤ 601024 ∧ slots + 6 ≤ 7293034) (next : NX p l e s m below meth c b Q D cC cM cO aC aM o i cells slots) : W p l e room_1 s m #[Value.ref b] below meth c H locs cells slots Q (F0 m 1258 ls []) := by
  obtain ⟨hx, hb, hr, hml, hown, hts, hX, hbl, hlocks, hgv⟩ := id C0
  have hcs0 : cells ≤ 601024 ∧ slots ≤ 7293034 := ⟨by omega, by omega⟩
  have j1 : Ij aC SC := X.2.2.1
  have j2 : Ij aM SM := X.2.2.2.1
  obtain ⟨r, σc', σm', e1, e2, hR2⟩ := sim_put hR (xs (i + 1)) (xs (i + 2)) (xs (i + 3))
  refine lv_aload_n hx hb dL_law_1258 rfl (lv_at hl 1 rfl) ?_
  refine l_arg C0 hS hL hi hl 1 (by omega) rfl dL_law_1259 dL_law_1260 dL_law_1262 dL_law_1263 dL_law_1264 ?_
  refine l_arg C0 hS hL hi hl 2 (by omega) rfl dL_law_1265 dL_law_1266 dL_law_1268 dL_law_1269 dL_law_1270 ?_
  refine l_arg C0 hS hL hi hl 3 (by omega) rfl dL_law_1271 dL_law_1272 dL_law_1274 dL_law_1275 dL_law_1276 ?_
  refine l_Ci (As := [.int (xs (i + 1)), .int (xs (i + 2)), .int (xs (i + 3))]) C0 X hW hS (c_X5_put l D cC aC j1 σc (xs (i + 1)) (xs (i + 2)) (xs (i + 3)) _ e1) gL_law_X5_put rfl ⟨rfl, rfl⟩ hd_X5_put ⟨Nat.le_of_ble_eq_true rfl, Nat.le_of_ble_eq_true rfl⟩ hcs0 rfl (Nat.le_of_ble_eq_true rfl) hl.1 dL_law_1277 (fun H locs hW hS => ?_)
  refine lv_aload_n hx hb dL_law_1280 rfl (lv_at hl 2 rfl) ?_
  refine l_arg C0 hS hL hi hl 1 (by omega) rfl dL_law_1281 dL_law_1282 dL_law_1284 dL_law_1285 dL_law_1286 ?_
  refine l_arg C0 hS hL hi hl 2 (by omega) rfl dL_law_1287 dL_law_1288 dL_law_1290 dL_law_1291 dL_law_1292 ?_
  refine l_arg C0 hS hL hi hl 3 (by omega) rfl dL_law_1293 dL_law_1294 dL_law_1296 dL_law_1297 dL_law_1298 ?_
  refine l_Mi (As := [.int (xs (i + 1)), .int (xs (i + 2)), .int (xs (i + 3))]) C0 X hW hS (c_X6_put l D cM aM j2 σm (xs (i + 1)) (xs (i + 2)) (xs (i + 3)) _ e2) gL_law_X6_put rfl ⟨rfl, rfl⟩ hd_X6_put ⟨Nat.le_of_ble_eq_true rfl, Nat.le_of_ble_eq_true rfl⟩ hcs0 rfl (Nat.le_of_ble_eq_true rfl) hl.1 dL_law_1299 (fun H locs hW hS => ?_)
  refine lv_icmp_eq (tgt := 1497) hx hb dL_law_1302 (by decide) (fun _ => ?_) (fun c1 => absurd rfl c1)
  exact W.widen (k := cells + 1) (n := slots + 6) (Nat.le_succ _) (Nat.le_add_right _ _) (next _ _ _ _ _ hR2 hW hS hl)
set_option maxHeartbeats 4000000 in
set_option maxRecDepth 100000 in
/-- copy -/
theorem law_29 {p : Program} {l : Launch} {e : Env} {s : State} {m : MethodId} {below : List Frame} {meth : Method} {c : Code} {b L : Nat} {xs : Nat → Int32} {H : Heap} {locs : List Loc} {cells slots : Nat} {Q : State → Prop} {ls : Array Slot} {D : va_G} {cC cM : Nat → ClassId} {cO : ClassId} {aC aM : Nat → Nat} {o i : Nat} {σc σm : St} (C0 : lw_At p s m meth c b L xs) (X : LX D cC cM cO aC aM o s) (hR : RR σc σm) (hW : LW D cC cM cO aC aM o σc σm H) (hS : va_S (fun q : Nat => s.heap.size ≤ q) s.heap H locs) (hL : L ≤ 3072) (hi : i + 6 ≤ L) (hl : lv_has ls 8 (lv5 aC aM o b i)) (hcs : cells + 1 ≤ 601024 ∧ slots + 6 ≤ 7293034) (next : NX p l e s m below meth c b Q D cC cM cO aC aM o i cells slots) : W p l e room_1 s m #[Value.ref b] below meth c H locs cells slots Q (F0 m 1374 ls []) := by
  obtain ⟨hx, hb, hr, hml, hown, hts, hX, hbl, hlocks, hgv⟩ := id C0
  have hcs0 : cells ≤ 601024 ∧ slots ≤ 7293034 := ⟨by omega, by omega⟩
  have j1 : Ij aC SC := X.2.2.1
  have j2 : Ij aM SM := X.2.2.2.1
  obtain ⟨r, σc', σm', e1, e2, hR2⟩ := sim_copy hR (xs (i + 1)) (xs (i + 2)) (xs (i + 3)) (xs (i + 4)) (xs (i + 5))
  refine lv_aload_n hx hb dL_law_1374 rfl (lv_at hl 1 rfl) ?_
  refine l_arg C0 hS hL hi hl 1 (by omega) rfl dL_law_1375 dL_law_1376 dL_law_1378 dL_law_1379 dL_law_1380 ?_
  refine l_arg C0 hS hL hi hl 2 (by omega) rfl dL_law_1381 dL_law_1382 dL_law_1384 dL_law_1385 dL_law_1386 ?_
  refine l_arg C0 hS hL hi hl 3 (by omega) rfl dL_law_1387 dL_law_1388 dL_law_1390 dL_law_1391 dL_law_1392 ?_
  refine l_arg C0 hS hL hi hl 4 (by omega) rfl dL_law_1393 dL_law_1394 dL_law_1396 dL_law_1397 dL_law_1398 ?_
  refine l_arg C0 hS hL hi hl 5 (by omega) rfl dL_law_1399 dL_law_1400 dL_law_1402 dL_law_1403 dL_law_1404 ?_
  refine l_Ci (As := [.int (xs (i + 1)), .int (xs (i + 2)), .int (xs (i + 3)), .int (xs (i + 4)), .int (xs (i + 5))]) C0 X hW hS (c_X5_copy l D cC aC j1 σc (xs (i + 1)) (xs (i + 2)) (xs (i + 3)) (xs (i + 4)) (xs (i + 5)) _ e1) gL_law_X5_copy rfl ⟨rfl, rfl⟩ hd_X5_copy ⟨Nat.le_of_ble_eq_true rfl, Nat.le_of_ble_eq_true rfl⟩ hcs0 rfl (Nat.le_of_ble_eq_true rfl) hl.1 dL_law_1405 (fun H locs hW hS => ?_)
  refine lv_aload_n hx hb dL_law_1408 rfl (lv_at hl 2 rfl) ?_
  refine l_arg C0 hS hL hi hl 1 (by omega) rfl dL_law_1409 dL_law_1410 dL_law_1412 dL_law_1413 dL_law_1414 ?_
  refine l_arg C0 hS hL hi hl 2 (by omega) rfl dL_law_1415 dL_law_1416 dL_law_1418 dL_law_1419 dL_law_1420 ?_
  refine l_arg C0 hS hL hi hl 3 (by omega) rfl dL_law_1421 dL_law_1422 dL_law_1424 dL_law_1425 dL_law_1426 ?_
  refine l_arg C0 hS hL hi hl 4 (by omega) rfl dL_law_1427 dL_law_1428 dL_law_1430 dL_law_1431 dL_law_1432 ?_
  refine l_arg C0 hS hL hi hl 5 (by omega) rfl dL_law_1433 dL_law_1434 dL_law_1436 dL_law_1437 dL_law_1438 ?_
  refine l_Mi (As := [.int (xs (i + 1)), .int (xs (i + 2)), .int (xs (i + 3)), .int (xs (i + 4)), .int (xs (i + 5))]) C0 X hW hS (c_X6_copy l D cM aM j2 σm (xs (i + 1)) (xs (i + 2)) (xs (i + 3)) (xs (i + 4)) (xs (i + 5)) _ e2) gL_law_X6_copy rfl ⟨rfl, rfl⟩ hd_X6_copy ⟨Nat.le_of_ble_eq_true rfl, Nat.le_of_ble_eq_true rfl⟩ hcs0 rfl (Nat.le_of_ble_eq_true rfl) hl.1 dL_law_1439 (fun H locs hW hS => ?_)
  refine lv_icmp_eq (tgt := 1497) hx hb dL_law_1442 (by decide) (fun _ => ?_) (fun c1 => absurd rfl c1)
  exact W.widen (k := cells + 1) (n := slots + 6) (Nat.le_succ _) (Nat.le_add_right _ _) (next _ _ _ _ _ hR2 hW hS hl)
set_option maxHeartbeats 4000000 in
set_option maxRecDepth 100000 in
/-- price -/
theorem law_30 {p : Program} {l : Launch} {e : Env} {s : State} {m : MethodId} {below : List Frame} {meth : Method} {c : Code} {b L : Nat} {xs : Nat → Int32} {H : Heap} {locs : List Loc} {cells slots : Nat} {Q : State → Prop} {ls : Array Slot} {D : va_G} {cC cM : Nat → ClassId} {cO : ClassId} {aC aM : Nat → Nat} {o i : Nat} {σc σm : St} (C0 : lw_At p s m meth c b L xs) (X : LX D cC cM cO aC aM o s) (hR : RR σc σm) (hW : LW D cC cM cO aC aM o σc σm H) (hS : va_S (fun q : Nat => s.heap.size ≤ q) s.heap H locs) (hL : L ≤ 3072) (hi : i + 6 ≤ L) (hl : lv_has ls 8 (lv5 aC aM o b i)) (hcs : cells + 1 ≤ 601024 ∧ slots + 6 ≤ 7293034) (next : NX p l e s m below meth c b Q D cC cM cO aC aM o i cells slots) : W p l e room_1 s m #[Value.ref b] below meth c H locs cells slots Q (F0 m 1447 ls []) := by
  obtain ⟨hx, hb, hr, hml, hown, hts, hX, hbl, hlocks, hgv⟩ := id C0
  have hcs0 : cells ≤ 601024 ∧ slots ≤ 7293034 := ⟨by omega, by omega⟩
  have j1 : Ij aC SC := X.2.2.1
  have j2 : Ij aM SM := X.2.2.2.1
  obtain ⟨r, σm', e1, e2, hR2⟩ := sim_price hR (xs (i + 1))
  refine lv_aload_n hx hb dL_law_1447 rfl (lv_at hl 1 rfl) ?_
  refine l_arg C0 hS hL hi hl 1 (by omega) rfl dL_law_1448 dL_law_1449 dL_law_1451 dL_law_1452 dL_law_1453 ?_
  refine l_Ci (As := [.int (xs (i + 1))]) C0 X hW hS (c_X5_price l D cC aC j1 σc (xs (i + 1)) _ e1) gL_law_X5_price rfl ⟨rfl, rfl⟩ hd_X5_price ⟨Nat.le_of_ble_eq_true rfl, Nat.le_of_ble_eq_true rfl⟩ hcs0 rfl (Nat.le_of_ble_eq_true rfl) hl.1 dL_law_1454 (fun H locs hW hS => ?_)
  refine lv_aload_n hx hb dL_law_1457 rfl (lv_at hl 2 rfl) ?_
  refine l_arg C0 hS hL hi hl 1 (by omega) rfl dL_law_1458 dL_law_1459 dL_law_1461 dL_law_1462 dL_law_1463 ?_
  refine l_Mi (As := [.int (xs (i + 1))]) C0 X hW hS (c_X6_price l D cM aM j2 σm (xs (i + 1)) _ e2) gL_law_X6_price rfl ⟨rfl, rfl⟩ hd_X6_price ⟨Nat.le_of_ble_eq_true rfl, Nat.le_of_ble_eq_true rfl⟩ hcs0 rfl (Nat.le_of_ble_eq_true rfl) hl.1 dL_law_1464 (fun H locs hW hS => ?_)
  refine lv_icmp_eq (tgt := 1497) hx hb dL_law_1467 (by decide) (fun _ => ?_) (fun c1 => absurd rfl c1)
  exact W.widen (k := cells + 1) (n := slots + 6) (Nat.le_succ _) (Nat.le_add_right _ _) (next _ _ _ _ _ hR2 hW hS hl)
set_option maxHeartbeats 4000000 in
set_option maxRecDepth 100000 in
/-- toss -/
theorem law_31 {p : Program} {l : Launch} {e : Env} {s : State} {m : MethodId} {below : List Frame} {meth : Method} {c : Code} {b L : Nat} {xs : Nat → Int32} {H : Heap} {locs : List Loc} {cells slots : Nat} {Q : State → Prop} {ls : Array Slot} {D : va_G} {cC cM : Nat → ClassId} {cO : ClassId} {aC aM : Nat → Nat} {o i : Nat} {σc σm : St} (C0 : lw_At p s m meth c b L xs) (X : LX D cC cM cO aC aM o s) (hR : RR σc σm) (hW : LW D cC cM cO aC aM o σc σm H) (hS : va_S (fun q : Nat => s.heap.size ≤ q) s.heap H locs) (hL : L ≤ 3072) (hi : i + 6 ≤ L) (hl : lv_has ls 8 (lv5 aC aM o b i)) (hcs : cells + 1 ≤ 601024 ∧ slots + 6 ≤ 7293034) (next : NX p l e s m below meth c b Q D cC cM cO aC aM o i cells slots) : W p l e room_1 s m #[Value.ref b] below meth c H locs cells slots Q (F0 m 1472 ls []) := by
  obtain ⟨hx, hb, hr, hml, hown, hts, hX, hbl, hlocks, hgv⟩ := id C0
  have hcs0 : cells ≤ 601024 ∧ slots ≤ 7293034 := ⟨by omega, by omega⟩
  have j1 : Ij aC SC := X.2.2.1
  have j2 : Ij aM SM := X.2.2.2.1
  obtain ⟨r, σm', e1, e2, hR2⟩ := sim_toss hR (xs (i + 1))
  refine lv_aload_n hx hb dL_law_1472 rfl (lv_at hl 1 rfl) ?_
  refine l_arg C0 hS hL hi hl 1 (by omega) rfl dL_law_1473 dL_law_1474 dL_law_1476 dL_law_1477 dL_law_1478 ?_
  refine l_Ci (As := [.int (xs (i + 1))]) C0 X hW hS (c_X5_toss l D cC aC j1 σc (xs (i + 1)) _ e1) gL_law_X5_toss rfl ⟨rfl, rfl⟩ hd_X5_toss ⟨Nat.le_of_ble_eq_true rfl, Nat.le_of_ble_eq_true rfl⟩ hcs0 rfl (Nat.le_of_ble_eq_true rfl) hl.1 dL_law_1479 (fun H locs hW hS => ?_)
  refine lv_aload_n hx hb dL_law_1482 rfl (lv_at hl 2 rfl) ?_
  refine l_arg C0 hS hL hi hl 1 (by omega) rfl dL_law_1483 dL_law_1484 dL_law_1486 dL_law_1487 dL_law_1488 ?_
  refine l_Mi (As := [.int (xs (i + 1))]) C0 X hW hS (c_X6_toss l D cM aM j2 σm (xs (i + 1)) _ e2) gL_law_X6_toss rfl ⟨rfl, rfl⟩ hd_X6_toss ⟨Nat.le_of_ble_eq_true rfl, Nat.le_of_ble_eq_true rfl⟩ hcs0 rfl (Nat.le_of_ble_eq_true rfl) hl.1 dL_law_1489 (fun H locs hW hS => ?_)
  refine lv_icmp_eq (tgt := 1497) hx hb dL_law_1492 (by decide) (fun _ => ?_) (fun c1 => absurd rfl c1)
  exact W.widen (k := cells + 1) (n := slots + 6) (Nat.le_succ _) (Nat.le_add_right _ _) (next _ _ _ _ _ hR2 hW hS hl)
