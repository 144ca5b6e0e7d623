/-! the class's constructor -/
theorem PQ.blind {D : va_G} {cK : Nat → ClassId} {b ci : Nat} {fs : List Value} : FrameBlind (PQ D cK b ci fs) := fun a U g mk q => by
  obtain ⟨q0, q1, q2, q3, q4, q5, q6⟩ := q
  exact ⟨q0, q1, q2, va_K.moved (u := U) (U := U.calling g mk a) (Vm.Alike.refl U.vm) q3, q4, NW.same (u := U) (U := U.calling g mk a) rfl q5, KQ.moved (u := U) (U := U.calling g mk a) (Vm.Alike.refl U.vm) q6⟩
theorem PQ.pre {D : va_G} {cK : Nat → ClassId} {b ci : Nat} {fs : List Value} {s : State} {H : Heap} (hz : H.size = b + 1) (hP : va_P D vwCl [(b, .inr (ci, fs))] H) (hK : va_K D vwCl [] s) (hT : KT cK s) (hN : NW s) (hQ : KQ cK s) : PreS s H (PQ D cK b ci fs) [.ref b] := ⟨PQ.blind, fun U hU hW => ⟨rfl, by rw [hU]; exact hz, by rw [hU]; exact hP, va_K.moved hW.alike hK, KT.moved hW.alike hT, NW.warm hW hN, KQ.moved hW.alike hQ⟩⟩
def cSh (cI : ClassId) (b : Nat) : va_W := [(b, .inr (4, [.int 0, .int 0, .int 0, .int 0, .int 0, .ref (b + 1)])), (b + 1, .inl (cI, 100, .inl (fun _ => 0)))]
theorem cSh_len (cI : ClassId) (b : Nat) : (cSh cI b).length = 2 := rfl
theorem cSh_sq (cI : ClassId) (b : Nat) : Sq b (cSh cI b) := ⟨rfl, rfl, trivial⟩
def rT1 (cK : Nat → ClassId) (b : Nat) : va_W := kt0 cK (b + 1) 6
def rT2 (cK : Nat → ClassId) (b : Nat) : va_W := rT1 cK b ++ kt0 cK (b + 33) 6
def rT3 (cK : Nat → ClassId) (b : Nat) : va_W := rT2 cK b ++ kt0 cK (b + 65) 6
def rT4 (cK : Nat → ClassId) (b : Nat) : va_W := rT3 cK b ++ mtB cK (b + 97) 5
def rT5 (cK : Nat → ClassId) (b : Nat) : va_W := rT4 cK b ++ cFl (cK 21) (b + 122)
def rT6 (cK : Nat → ClassId) (b : Nat) : va_W := rT5 cK b ++ [(b + 124, .inl (cK 20, 6, .inl (fun _ => 0)))]
def rS (T : va_W) (cK : Nat → ClassId) (a o j : Nat) : va_W := T ++ ((a, .inl (cK 24, 8, .inr (.inr (.inr (.inr (rfs o 2 j)))))) :: cRow (cSh (cK 20)) o 2 j)
theorem rT1_len (cK : Nat → ClassId) (b : Nat) : (rT1 cK b).length = 32 := kt0_len cK (b + 1) 6
theorem rT2_len (cK : Nat → ClassId) (b : Nat) : (rT2 cK b).length = 64 := by rw [rT2, List.length_append, rT1_len, kt0_len]
theorem rT3_len (cK : Nat → ClassId) (b : Nat) : (rT3 cK b).length = 96 := by rw [rT3, List.length_append, rT2_len, kt0_len]
theorem rT4_len (cK : Nat → ClassId) (b : Nat) : (rT4 cK b).length = 121 := by rw [rT4, List.length_append, rT3_len, mtB_len]
theorem rT5_len (cK : Nat → ClassId) (b : Nat) : (rT5 cK b).length = 123 := by rw [rT5, List.length_append, rT4_len, cFl_len]
theorem rT6_len (cK : Nat → ClassId) (b : Nat) : (rT6 cK b).length = 124 := by rw [rT6, List.length_append, rT5_len]; rfl
theorem rS_len {T : va_W} (hT : T.length = 124) (cK : Nat → ClassId) (a o j : Nat) : (rS T cK a o j).length = 125 + 2 * j := by rw [rS, List.length_append, hT, List.length_cons, cRow_len (cSh_len (cK 20))]; omega
theorem rT1_sq (cK : Nat → ClassId) (b : Nat) : Sq (b + 1) (rT1 cK b) := kt0_sq cK (b + 1) 6
theorem rT2_sq (cK : Nat → ClassId) (b : Nat) : Sq (b + 1) (rT2 cK b) := Sq.app2 (rT1_sq cK b) (rT1_len cK b) (by omega) (kt0_sq cK (b + 33) 6)
theorem rT3_sq (cK : Nat → ClassId) (b : Nat) : Sq (b + 1) (rT3 cK b) := Sq.app2 (rT2_sq cK b) (rT2_len cK b) (by omega) (kt0_sq cK (b + 65) 6)
theorem rT4_sq (cK : Nat → ClassId) (b : Nat) : Sq (b + 1) (rT4 cK b) := Sq.app2 (rT3_sq cK b) (rT3_len cK b) (by omega) (mtB_sq cK (b + 97) 5)
theorem rT5_sq (cK : Nat → ClassId) (b : Nat) : Sq (b + 1) (rT5 cK b) := Sq.app2 (rT4_sq cK b) (rT4_len cK b) (by omega) (cFl_sq (cK 21) (b + 122))
theorem rT6_sq (cK : Nat → ClassId) (b : Nat) : Sq (b + 1) (rT6 cK b) := Sq.app2 (b' := b + 124) (rT5_sq cK b) (rT5_len cK b) (by omega) ⟨rfl, trivial⟩
theorem rS_sq {T : va_W} {b a o : Nat} (hq : Sq (b + 1) T) (hT : T.length = 124) (ha : a = b + 125) (ho : o = a + 1) (cK : Nat → ClassId) (j : Nat) : Sq (b + 1) (rS T cK a o j) := Sq.app2 hq hT (by omega) ⟨rfl, by rw [← ho]; exact cRow_sq (cSh_len (cK 20)) (cSh_sq (cK 20)) j⟩
theorem Sq.cons {b : Nat} {e : va_E} {t : va_W} (h : Sq (b + 1) t) : Sq b ((b, e) :: t) := ⟨rfl, h⟩
theorem at125 {x : Nat × va_E} {T R : va_W} {y : Nat × va_E} (h : T.length = 124) : (x :: (T ++ (y :: R)))[125]? = some y := by
  rw [List.getElem?_cons_succ, List.getElem?_append_right (by omega), h]
  rfl
theorem set125 {x : Nat × va_E} {T R : va_W} {y z : Nat × va_E} (h : T.length = 124) : (x :: (T ++ (y :: R))).set 125 z = x :: (T ++ (z :: R)) := by
  show x :: (T ++ (y :: R)).set 124 z = _
  rw [List.set_append, if_neg (by omega), h]
  rfl
theorem atEnd {x : Nat × va_E} {T R : va_W} {y : Nat × va_E} {n : Nat} (h : T.length = n) : ((x :: T) ++ (y :: R))[n + 1]? = some y := by
  show (T ++ (y :: R))[n]? = _
  rw [List.getElem?_append_right (by omega), h, Nat.sub_self]
  rfl
abbrev rmX5 : Room := { frames := 5, cells := 141, slots := 1600, locals := 160 }
set_option maxHeartbeats 4000000 in
set_option maxRecDepth 100000 in
theorem c_X5_loop (l : Launch) (D : va_G) (cK : Nat → ClassId) {b a o : Nat} (ha : a = b + 125) (ho : o = a + 1) {T : va_W} (hT6 : T.length = 124) (hS6 : Sq (b + 1) T) {v0 v1 v2 v3 v4 v5 v6 : Value} {p : Program} {e : Env} {s : State} {m : MethodId} {below : List Frame} {meth : Method} {c : Code} (hx : p.tables.exec = Jvm.exec) (hb : c.code = cX5_init) (hml : c.maxLocals = 2) (hr : meth.sig.returnType = none) (hlk : meth.locks = false) (hown : s.vm.findClass RX5 = some m.cls) (hts : ∀ w ∈ wsX5_init, w.before #[Value.ref b] s = true) (hw : ∀ w ∈ wsX50, w ∈ wsX5_init) (hw4 : ∀ w ∈ wsX40, w ∈ wsX5_init) (hK : va_K D vwCl [] s) (hK24 : va_K D vwCl [(cK 24, .object "ThirdOfTheLast$Shelf")] s) (hT : KT cK s) (hN : NW s) (hAr : ArrOfT s (cK 24) (.object "ThirdOfTheLast$Shelf") ∧ va_RA s (cK 24) (.object "ThirdOfTheLast$Shelf")) :
    ∀ (n j : Nat), j + n = 8 → ∀ (H : Heap) (locs : List Loc) (ls : Array Slot), H.size = o + 2 * j → va_P D vwCl ((b, .inr (5, [v0, v1, v2, v3, v4, v5, v6, .ref a])) :: rS T cK a o j) H → va_S (fun q => b ≤ q) s.heap H locs → lv_has ls 2 [(1, .int (nI j)), (0, .ref b)] → W p l e (headSpec wsX5_init rmX5).room s m #[Value.ref b] below meth c H locs (125 + 2 * j) (752 + 106 * j) (MQ below (QI D b 142 ((b, .inr (5, [v0, v1, v2, v3, v4, v5, v6, .ref a])) :: rS T cK a o 8)) #[Value.ref b] s 141 1600 (fun q => b ≤ q)) (F0 m 78 ls []) := by
  intro n
  induction n with
  | zero =>
    intro j hj H locs ls hz hP hS hl
    obtain rfl : j = 8 := by omega
    refine lv_iload_n hx hb dX5_init_78 rfl (lv_at hl 0 rfl) ?_
    refine lv_aload_n hx hb dX5_init_79 rfl (lv_at hl 1 rfl) ?_
    refine va_get (D := D) (ci := 5) (v := .ref a) (C := RX5) (T := TX5) (N := 8) hx hb hts hw hown hK hP 0 rfl rfl 7 (by decide) (hts (.fieldLink RX5 42 "ThirdOfTheLast" "shelves" "[LThirdOfTheLast$Shelf;") (List.mem_of_getElem? (i := 21) rfl)) (fun _ h9 => h9) rfl dX5_init_80 ?_
    refine va_alen (v := 8) hx hb hK24 hP 125 0 (at125 hT6) rfl rfl dX5_init_83 ?_
    refine lv_icmp_ge (tgt := 106) hx hb dX5_init_84 (by decide) (fun c1 => ?_) (fun c1 => absurd (by decide) c1)
    exact W.vret hx hb hr (fun t ht hW => ⟨⟨(), rfl, trivial, by rw [ht, hz]; omega, by rw [ht]; exact hP⟩, hS.F ht⟩) hS.2.2 dX5_init_106
  | succ n ih =>
    intro j hj H locs ls hz hP hS hl
    refine lv_iload_n hx hb dX5_init_78 rfl (lv_at hl 0 rfl) ?_
    refine lv_aload_n hx hb dX5_init_79 rfl (lv_at hl 1 rfl) ?_
    refine va_get (D := D) (ci := 5) (v := .ref a) (C := RX5) (T := TX5) (N := 8) hx hb hts hw hown hK hP 0 rfl rfl 7 (by decide) (hts (.fieldLink RX5 42 "ThirdOfTheLast" "shelves" "[LThirdOfTheLast$Shelf;") (List.mem_of_getElem? (i := 21) rfl)) (fun _ h9 => h9) rfl dX5_init_80 ?_
    refine va_alen (v := 8) hx hb hK24 hP 125 0 (at125 hT6) rfl rfl dX5_init_83 ?_
    refine lv_icmp_ge (tgt := 106) hx hb dX5_init_84 (by decide) (fun c1 => ?_) (fun c1 => ?_)
    · exact absurd c1 (by rcases (show j = 0 ∨ j = 1 ∨ j = 2 ∨ j = 3 ∨ j = 4 ∨ j = 5 ∨ j = 6 ∨ j = 7 by omega) with rfl | rfl | rfl | rfl | rfl | rfl | rfl | rfl <;> decide)
    refine lv_aload_n hx hb dX5_init_87 rfl (lv_at hl 1 rfl) ?_
    refine va_get (D := D) (ci := 5) (v := .ref a) (C := RX5) (T := TX5) (N := 8) hx hb hts hw hown hK hP 0 rfl rfl 7 (by decide) (hts (.fieldLink RX5 42 "ThirdOfTheLast" "shelves" "[LThirdOfTheLast$Shelf;") (List.mem_of_getElem? (i := 21) rfl)) (fun _ h9 => h9) rfl dX5_init_88 ?_
    refine lv_iload_n hx hb dX5_init_91 rfl (lv_at hl 0 rfl) ?_
    have hq : Sq b ((b, .inr (5, [v0, v1, v2, v3, v4, v5, v6, .ref a])) :: rS T cK a o j) := Sq.cons (rS_sq hS6 hT6 ha ho cK j)
    obtain ⟨h, hh⟩ : ∃ h, h = o + 2 * j := ⟨_, rfl⟩
    obtain ⟨z, hzs⟩ : ∃ z, z = 752 + 106 * j := ⟨_, rfl⟩
    obtain ⟨y, hys⟩ : ∃ y, y = 125 + 2 * j := ⟨_, rfl⟩
    rw [← hh] at hz
    rw [← hzs, ← hys]
    have hc1 : y + 1 ≤ 141 := by omega
    have hc2 : y + 1 + 1 ≤ 141 := by omega
    have hs1 : z + 6 ≤ 1600 := by omega
    have hs2 : z + 6 + 100 ≤ 1600 := by omega
    have hbh : b ≤ h := by omega
    refine ci_new (h := h) (ci := 4) (fs := [.int 0, .int 0, .int 0, .int 0, .int 0, .null]) (C := RX4) (T := TX4) (N := 6) hx hb hts hw4 tyX4 tyX4_ok hown (hts (.classLink RX5 40 RX4) (List.mem_of_getElem? (i := 20) rfl)) (hts (.instantiable RX4 6) (List.mem_of_getElem? (i := 22) rfl)) (hts (.initialized RX4) (List.mem_of_getElem? (i := 23) rfl)) hK hP hq.D hS hz hbh rfl (fun j hj => by rcases (show j = 0 ∨ j = 1 ∨ j = 2 ∨ j = 3 ∨ j = 4 ∨ j = 5 by omega) with rfl | rfl | rfl | rfl | rfl | rfl <;> rfl) hc1 hs1 dX5_init_92 (fun H1 z1 hP hD hS => ?_)
    refine lv_dup hx hb dX5_init_95 rfl ?_
    refine va_callv (va_runIN (host := RX5) (As := []) (rest := [.ref h, .int (nI j), .ref a]) ⟨hx, hb, hml, hown, hts⟩ (c_X4_init l D cK h) ⟨va_cnB 0 hts gX5_init_X4_init_n46 rfl rfl rfl (hN _ (List.mem_of_getElem? (i := 4) rfl)) (hts (.initialized RX4) (List.mem_of_getElem? (i := 23) rfl)) (by decide +kernel) ⟨Nat.le_of_ble_eq_true rfl, Nat.le_of_ble_eq_true rfl⟩, rfl, hts (.instanceMethod yX4_init) (List.mem_of_getElem? (i := 52) rfl)⟩ (PI.pre z1 hP.right hK hT hN) rfl rfl hl.1 rfl (lv_room (Nat.le_of_ble_eq_true rfl)) dX5_init_96 ⟨hc2, hs2⟩) hS (fun q _ h1 => Nat.le_trans hbh h1) (fun q h1 => Nat.le_trans hbh h1) (fun u t H2 locs2 ht hvm _ hB hz1 hk1 hS => ?_)
    obtain ⟨z2, hP1⟩ := hB
    rw [ht] at z2 hP1
    have hP := hP.left.grown (k := 126 + 2 * j) hq (by rw [List.length_cons, rS_len hT6]; omega) (fun q h1 h2 => hk1 q h1 (fun h3 => h2 (by have h3 : h ≤ q := h3; omega))) (by omega) hP1
    have eE : (b, .inr (5, [v0, v1, v2, v3, v4, v5, v6, .ref a])) :: (T ++ ((a, .inl (cK 24, 8, .inr (.inr (.inr (.inr (rfs o 2 j)))))) :: cRow (cSh (cK 20)) o 2 (j + 1))) = ((b, .inr (5, [v0, v1, v2, v3, v4, v5, v6, .ref a])) :: rS T cK a o j) ++ cSh (cK 20) h := by
      rw [cRow_s, ← hh, rS]
      simp only [List.cons_append, List.append_assoc]
    have hP : va_P D vwCl ((b, .inr (5, [v0, v1, v2, v3, v4, v5, v6, .ref a])) :: (T ++ ((a, .inl (cK 24, 8, .inr (.inr (.inr (.inr (rfs o 2 j)))))) :: cRow (cSh (cK 20)) o 2 (j + 1)))) H2 := by
      rw [eE]
      exact hP
    have hq : Sq b ((b, .inr (5, [v0, v1, v2, v3, v4, v5, v6, .ref a])) :: (T ++ ((a, .inl (cK 24, 8, .inr (.inr (.inr (.inr (rfs o 2 j)))))) :: cRow (cSh (cK 20)) o 2 (j + 1)))) := Sq.cons (Sq.app2 hS6 hT6 (by omega) ⟨rfl, by rw [← ho]; exact cRow_sq (cSh_len (cK 20)) (cSh_sq (cK 20)) (j + 1)⟩)
    have hv : ((b, .inr (5, [v0, v1, v2, v3, v4, v5, v6, .ref a])) :: (T ++ ((a, .inl (cK 24, 8, .inr (.inr (.inr (.inr (rfs o 2 j)))))) :: cRow (cSh (cK 20)) o 2 (j + 1))))[126 + 2 * j]? = some (h, .inr (4, [.int 0, .int 0, .int 0, .int 0, .int 0, .ref (h + 1)])) := by
      rw [eE, List.getElem?_append_right (by rw [List.length_cons, rS_len hT6]; omega), List.length_cons, rS_len hT6, show 126 + 2 * j - (125 + 2 * j + 1) = 0 by omega]
      rfl
    refine ci_astq (r := (RX4, TX4, 6)) hx hb hK hP hq.D hS z2 125 (126 + 2 * j) 4 (at125 hT6) hAr hv rfl (vp_in_nI (by omega) (by omega)) dX5_init_99 (fun H3 locs3 z3 hP hD hS => ?_)
    rw [nI_clamp (by omega), set125 hT6, hh, rfs_up o 2 j] at hP
    refine lv_iinc (v := nI (j + 1)) (lv' := [(1, .int (nI (j + 1))), (0, .ref b)]) hx hb dX5_init_100 hl (k := 0) rfl (nI_1 j) (by decide) rfl (fun ls hl => ?_)
    refine lv_goto (tgt := 78) hx hb dX5_init_103 (by decide) ?_
    refine W.widen (k := 125 + 2 * (j + 1)) (n := 752 + 106 * (j + 1)) (by omega) (by omega) ?_
    exact ih (j + 1) (by omega) H3 locs3 ls (by omega) hP hS hl
