/-! THE LAW, from its entry -/
theorem nest_in : ∀ w ∈ nestW, w ∈ lw_tbl := by decide +kernel
theorem B_in : ∀ w ∈ B1 ++ B2, w ∈ lw_tbl := by decide +kernel
theorem NW0 {s : State} {args : Array Value} (hts : ∀ w ∈ lw_tbl, w.before args s = true) : NW s := by
  intro w hw
  have h2 := hts w (nest_in w hw)
  obtain ⟨a, i, x, hh, rfl⟩ := nest_form w hw
  exact va_Nw.of rfl h2
theorem XK0 {s : State} {args : Array Value} (hts : ∀ w ∈ lw_tbl, w.before args s = true) : XK s := by
  intro w hw
  have h1 := List.all_eq_true.mp B_lay w hw
  have h2 := hts w (B_in w hw)
  cases w with
  | lays a b c d => exact va_tabs (A := args) (A' := #[]) rfl rfl h2
  | declares a => exact va_tabs (A := args) (A' := #[]) rfl rfl h2
  | castable a b => exact va_tabs (A := args) (A' := #[]) rfl rfl h2
  | _ => simp [isLay] at h1
theorem ar_p {s : State} {args : Array Value} {ty : FieldType} (hty : ty = .int ∨ ty = .long) (h : (Cond.arrayClass ty).before args s = true) : ∃ cA : ClassId, s.vm.findClass ("[" ++ ty.toString) = some cA ∧ ArrOfT s cA ty ∧ va_RA s cA ty := by
  obtain ⟨cA, kA, comp, h1, h2, h3⟩ := Cond.arrayClass_spec h
  refine ⟨cA, h1, fun n z => ⟨fun k h => (by cases h), kA, h2, comp, h3⟩, ?_⟩
  rcases hty with rfl | rfl <;> exact h1
theorem ar_o {s : State} {args : Array Value} {C : String} (h : (Cond.arrayOver (.object C)).before args s = true) : ∃ cA : ClassId, s.vm.findClass ("[" ++ (FieldType.object C).toString) = some cA ∧ ArrOfT s cA (.object C) ∧ va_RA s cA (.object C) := by
  obtain ⟨comp, cA, kA, h1, h2, h3, h4, h5⟩ := Cond.arrayOver_spec h
  exact ⟨cA, h5, fun n z => ⟨fun k h => (by cases h), kA, h3, comp, h4⟩, kA, comp, h3, h4, h1, h5⟩
theorem kdC_le : ∀ i, i < 142 → kdC i < 25 := by decide +kernel
theorem kdM_le : ∀ i, i < 23 → kdM i < 25 := by decide +kernel
theorem cMd_sq (cK : Nat → ClassId) (b : Nat) : Sq b (cMd cK b) := ⟨rfl, rfl, rfl, rfl, rfl, rfl, rfl, rfl, rfl, rfl, rfl, rfl, rfl, rfl, rfl, rfl, rfl, rfl, rfl, rfl, rfl, rfl, rfl, trivial⟩
theorem wX5_len (cK : Nat → ClassId) (b : Nat) : (wX5 cK b).length = 142 := by rw [wX5, List.length_cons, rS_len (rT6_len cK b)]
theorem wX5_sq (cK : Nat → ClassId) (b : Nat) : Sq b (wX5 cK b) := Sq.cons (rS_sq (rT6_sq cK b) (rT6_len cK b) rfl rfl cK 8)
theorem wXM_sq (cK : Nat → ClassId) (b : Nat) : Sq b (wX5 cK b ++ cMd cK (b + 142)) := Sq.app2 (wX5_sq cK b) (wX5_len cK b) rfl (cMd_sq cK (b + 142))
theorem st9 {l : Launch} (h : l.flags = flags0) : l.stackTraces = false := by
  unfold Launch.stackTraces
  rw [h]
  decide +kernel
/-- what the tables say at the law's start, for constructors and calls -/
theorem start_K {s : State} {args : Array Value} (hts : ∀ w ∈ lw_tbl, w.before args s = true) : ∃ (D : va_G) (cK : Nat → ClassId), va_K D vwCl [] s ∧ KT cK s ∧ KQ cK s ∧ Kn D (cAC cK) SC s ∧ Kn D (cAM cK) SM s ∧ va_K D vwCl [(cK 21, .long)] s := by
  obtain ⟨c0, i0, g0⟩ := u_known (C := RX0) (T := TX0) (N := 3) (n := 3) hts inX0 (hts (.instantiable RX0 3) (by decide +kernel))
  obtain ⟨c1, i1, g1⟩ := u_known (C := RX1) (T := TX1) (N := 2) (n := 2) hts inX1 (hts (.instantiable RX1 2) (by decide +kernel))
  obtain ⟨c2, i2, g2⟩ := u_known (C := RX2) (T := TX2) (N := 7) (n := 7) hts inX2 (hts (.instantiable RX2 7) (by decide +kernel))
  obtain ⟨c3, i3, g3⟩ := u_known (C := RX3) (T := TX3) (N := 3) (n := 3) hts inX3 (hts (.instantiable RX3 3) (by decide +kernel))
  obtain ⟨c4, i4, g4⟩ := u_known (C := RX4) (T := TX4) (N := 6) (n := 6) hts inX4 (hts (.instantiable RX4 6) (by decide +kernel))
  obtain ⟨c5, i5, g5⟩ := u_known (C := RX5) (T := TX5) (N := 8) (n := 8) hts inX5 (hts (.instantiable RX5 8) (by decide +kernel))
  obtain ⟨c6, i6, g6⟩ := u_known (C := RX6) (T := TX6) (N := 33) (n := 33) hts inX6 (hts (.instantiable RX6 33) (by decide +kernel))
  obtain ⟨a20, n20, r20⟩ := ar_p (Or.inl rfl) (hts (.arrayClass .int) (by decide +kernel))
  obtain ⟨a21, n21, r21⟩ := ar_p (Or.inr rfl) (hts (.arrayClass .long) (by decide +kernel))
  have o22 := hts (.arrayOver (.object "ThirdOfTheLast$Pot")) (by decide +kernel)
  have o23 := hts (.arrayOver (.object "ThirdOfTheLast$Flavour")) (by decide +kernel)
  have o24 := hts (.arrayOver (.object "ThirdOfTheLast$Shelf")) (by decide +kernel)
  obtain ⟨a22, n22, r22⟩ := ar_o o22
  obtain ⟨a23, n23, r23⟩ := ar_o o23
  obtain ⟨a24, n24, r24⟩ := ar_o o24
  obtain ⟨D, hK⟩ : ∃ D : va_G, va_K D vwCl [] s := by
    refine ⟨(fun k => match k with | 0 => c0 | 1 => c1 | 2 => c2 | 3 => c3 | 4 => c4 | 5 => c5 | _ => c6, fun k => match k with | 0 => i0 | 1 => i1 | 2 => i2 | 3 => i3 | 4 => i4 | 5 => i5 | _ => i6), fun k q hq => ?_, fun k q h => by simp at h⟩
    match k, hq with
    | 0, hq => cases hq; exact g0
    | 1, hq => cases hq; exact g1
    | 2, hq => cases hq; exact g2
    | 3, hq => cases hq; exact g3
    | 4, hq => cases hq; exact g4
    | 5, hq => cases hq; exact g5
    | 6, hq => cases hq; exact g6
    | k + 7, hq => simp [vwCl] at hq
  obtain ⟨cK, e20, e21, e22, e23, e24⟩ : ∃ cK : Nat → ClassId, cK 20 = a20 ∧ cK 21 = a21 ∧ cK 22 = a22 ∧ cK 23 = a23 ∧ cK 24 = a24 := ⟨fun k => match k with | 20 => a20 | 21 => a21 | 22 => a22 | 23 => a23 | _ => a24, rfl, rfl, rfl, rfl, rfl⟩
  have one : ∀ k, 20 ≤ k → k < 25 → va_K D vwCl [(cK k, tyK k)] s := by
    intro k h1 h2
    rcases (show k = 20 ∨ k = 21 ∨ k = 22 ∨ k = 23 ∨ k = 24 by omega) with rfl | rfl | rfl | rfl | rfl
    · exact K_push (tys := []) hK (by rw [e20]; exact r20)
    · exact K_push (tys := []) hK (by rw [e21]; exact r21)
    · exact K_push (tys := []) hK (by rw [e22]; exact r22)
    · exact K_push (tys := []) hK (by rw [e23]; exact r23)
    · exact K_push (tys := []) hK (by rw [e24]; exact r24)
  refine ⟨D, cK, hK, ⟨by rw [e20]; exact n20, by rw [e21]; exact n21⟩, ?_, ⟨hK, fun i hi h => one (kdC i) h (kdC_le i hi), NW0 hts⟩, ⟨hK, fun i hi h => one (kdM i) h (kdM_le i hi), NW0 hts⟩, one 21 (by omega) (by omega)⟩
  intro k C hk
  simp only [List.mem_cons, List.not_mem_nil, or_false, Prod.mk.injEq] at hk
  rcases hk with ⟨rfl, rfl⟩ | ⟨rfl, rfl⟩ | ⟨rfl, rfl⟩
  · exact ⟨by rw [e22]; exact n22, va_AO.of o22⟩
  · exact ⟨by rw [e23]; exact n23, va_AO.of o23⟩
  · exact ⟨by rw [e24]; exact n24, va_AO.of o24⟩
set_option maxHeartbeats 4000000 in
set_option maxRecDepth 100000 in
theorem whole_start {p : Program} {e : Env} {s : State} {m : MethodId} {below : List Frame} {meth : Method} {c : Code} (l : Launch) (hflags : l.flags = flags0) {b L : Nat} {xs : Nat → Int32} (hL : L ≤ 3072) (C0 : lw_At p s m meth c b L xs) : W p l e room_1 s m #[Value.ref b] below meth c s.heap [] 0 0 (lw_Z below #[Value.ref b] s) (entryFrame m ([Value.ref b] : List Value).toArray 8) := by
  obtain ⟨hx, hb, hr, hml, hown, hts0, hX, hbl, hlocks, hgv⟩ := id C0
  obtain ⟨D, cK, hK, hT, hQ, kC, kM, kO⟩ := start_K hts0
  have hN : NW s := NW0 hts0
  have hts : ∀ w ∈ wsL_law, w.before #[Value.ref b] s = true := fun w h => hts0 w (wsL_law_in w h)
  have hg := flat_of_before _ hgv
  obtain ⟨B, hB0⟩ : ∃ B : Nat, s.heap.size = B := ⟨_, rfl⟩
  have hS : va_S (fun q : Nat => s.heap.size ≤ q) s.heap s.heap [] := va_S.rf
  have hP0 : va_P D vwCl [] s.heap := fun k q h => by simp at h
  have hD0 : va_D (fun q : Nat => s.heap.size ≤ q) [] := ⟨fun i j p q h => by simp at h, fun k q h => by simp at h⟩
  have hl := lv_entry ([.ref b]) (n := 8) (Nat.le_of_ble_eq_true rfl)
  rw [lg_entry_eq]
  generalize (lg_sl ([.ref b]) ++ List.replicate (8 - (lg_sl ([.ref b])).length) Slot.unset).toArray = ls at hl ⊢
  have hl : lv_has ls 8 [(0, .ref b)] := hl
  have wk : ∀ {ws : va_W}, Sq B ws → va_D (fun q : Nat => s.heap.size ≤ q) ws := fun h => by rw [hB0]; exact h.D
  refine ci_new (own := RL) (h := B) (ci := 5) (fs := [.null, .null, .null, .int 0, .null, .null, .null, .null]) (C := RX5) (T := TX5) (N := 8) hx hb hts inlX5 tyX5 tyX5_ok hown (hts0 (.classLink RL 8 RX5) (by decide +kernel)) (hts0 (.instantiable RX5 8) (by decide +kernel)) (hts0 (.initialized RX5) (by decide +kernel)) hK hP0 hD0 hS hB0 (Nat.le_of_eq hB0) rfl (fun j hj => by rcases (show j = 0 ∨ j = 1 ∨ j = 2 ∨ j = 3 ∨ j = 4 ∨ j = 5 ∨ j = 6 ∨ j = 7 by omega) with rfl | rfl | rfl | rfl | rfl | rfl | rfl | rfl <;> rfl) (Nat.le_of_ble_eq_true rfl) (Nat.le_of_ble_eq_true rfl) dL_law_0 (fun H1 z1 hP hD hS => ?_)
  refine lv_dup hx hb dL_law_3 rfl ?_
  refine va_callv (va_runI (own := RL) (As := []) (rest := [.ref B]) ⟨hx, hb, hml, hown, hts⟩ (c_X5_init l D cK B) (cwI 0 hts gL_law_X5_init rfl rfl rfl (hts0 (.initialized RX5) (by decide +kernel)) (hts0 (.methodLink RL 17 yX5_init) (by decide +kernel)) (hts0 (.instanceMethod yX5_init) (by decide +kernel)) rfl (by decide +kernel) ⟨Nat.le_of_ble_eq_true rfl, Nat.le_of_ble_eq_true rfl⟩) (PQ.pre z1 hP hK hT hN hQ) rfl rfl hl.1 rfl (lv_room (Nat.le_of_ble_eq_true rfl)) dL_law_4 ⟨Nat.le_of_ble_eq_true rfl, Nat.le_of_ble_eq_true rfl⟩) hS (fun q _ h => by rw [hB0]; exact h) (fun q h => by rw [hB0]; exact h) (fun u t H2 locs2 ht hvm _ hB hz1 hk1 hS => ?_)
  obtain ⟨z2, hP1⟩ := hB
  rw [ht] at z2 hP1
  have hP : va_P D vwCl (wX5 cK B) H2 := hP1
  refine lv_astore_n (lv' := [(1, .ref B), (0, .ref b)]) hx hb dL_law_7 rfl hl (by decide) rfl (fun ls hl => ?_)
  refine ci_new (own := RL) (h := B + 142) (ci := 6) (fs := [.int 0, .null, .null, .null, .null, .int 0, .int 0, .int 0, .null, .null, .null, .null, .int 0, .null, .null, .null, .null, .int 0, .int 0, .int 0, .int 0, .int 0, .null, .null, .null, .int 0, .null, .null, .null, .null, .null, .null, .null]) (C := RX6) (T := TX6) (N := 33) hx hb hts inlX6 tyX6 tyX6_ok hown (hts0 (.classLink RL 18 RX6) (by decide +kernel)) (hts0 (.instantiable RX6 33) (by decide +kernel)) (hts0 (.initialized RX6) (by decide +kernel)) hK hP (wk (wX5_sq cK B)) hS z2 (by show s.heap.size ≤ _; omega) rfl ?_ (Nat.le_of_ble_eq_true rfl) (Nat.le_of_ble_eq_true rfl) dL_law_8 (fun H3 z3 hP hD hS => ?_)
  · have h33 : ∀ j : Fin 33, defaultValue (tyX6 j.1) = vp_V [.int 0, .null, .null, .null, .null, .int 0, .int 0, .int 0, .null, .null, .null, .null, .int 0, .null, .null, .null, .null, .int 0, .int 0, .int 0, .int 0, .int 0, .null, .null, .null, .int 0, .null, .null, .null, .null, .null, .null, .null] j.1 := by decide +kernel
    exact fun j hj => h33 ⟨j, hj⟩
  refine lv_dup hx hb dL_law_11 rfl ?_
  refine va_callv (va_runI (own := RL) (As := []) (rest := [.ref (B + 142)]) ⟨hx, hb, hml, hown, hts⟩ (c_X6_init l D cK (B + 142)) (cwI 0 hts gL_law_X6_init rfl rfl rfl (hts0 (.initialized RX6) (by decide +kernel)) (hts0 (.methodLink RL 20 yX6_init) (by decide +kernel)) (hts0 (.instanceMethod yX6_init) (by decide +kernel)) rfl (by decide +kernel) ⟨Nat.le_of_ble_eq_true rfl, Nat.le_of_ble_eq_true rfl⟩) (PI.pre z3 hP.right hK hT hN) rfl rfl hl.1 rfl (lv_room (Nat.le_of_ble_eq_true rfl)) dL_law_12 ⟨Nat.le_of_ble_eq_true rfl, Nat.le_of_ble_eq_true rfl⟩) hS (fun q _ h => by have h : B + 142 ≤ q := h; show s.heap.size ≤ q; omega) (fun q h => by have h : B + 142 ≤ q := h; show s.heap.size ≤ q; omega) (fun u t H4 locs4 ht hvm _ hB hz1 hk1 hS => ?_)
  obtain ⟨z4, hP1⟩ := hB
  rw [ht] at z4 hP1
  have hP := hP.left.grown (k := 142) (wX5_sq cK B) (wX5_len cK B) (fun q h1 h2 => hk1 q h1 (by show ¬ B + 142 ≤ q; omega)) (by omega) hP1
  refine lv_astore_n (lv' := [(2, .ref (B + 142)), (1, .ref B), (0, .ref b)]) hx hb dL_law_15 rfl hl (by decide) rfl (fun ls hl => ?_)
  refine lv_iconst (v := 1) hx hb dL_law_16 (by decide) ?_
  refine ci_newa (h := B + 165) (atype := .long) (N' := 1) (a0 := (1, .inr (.inl (fun _ => 0)))) hx hb (hts0 (.arrayClass .long) (by decide +kernel)) rfl hT.2 hP (wk (wXM_sq cK B)) hS (z4.trans (by omega)) (by show s.heap.size ≤ _; omega) rfl (by decide) (by decide) (by decide) (Nat.le_of_ble_eq_true rfl) (Nat.le_of_ble_eq_true rfl) dL_law_17 (fun H5 z5 hP hD hS => ?_)
  refine lv_astore_n (lv' := [(3, .ref (B + 165)), (2, .ref (B + 142)), (1, .ref B), (0, .ref b)]) hx hb dL_law_19 rfl hl (by decide) rfl (fun ls hl => ?_)
  refine lv_iconst (v := 0) hx hb dL_law_20 (by decide) ?_
  refine lv_istore (lv' := [(4, .int 0), (3, .ref (B + 165)), (2, .ref (B + 142)), (1, .ref B), (0, .ref b)]) hx hb dL_law_21 hl (by decide) rfl (fun ls hl => ?_)
  have w1 := wrC hP.left.left
  have w2 := wrM hP.left.right
  have w3 : OutAt (cK 21) (B + 165) 0 H5 := ⟨fun _ => 0, hP.right 0 _ rfl, rfl⟩
  have aC : ∀ q, Aw (adC B) SC q → B ≤ q ∧ q < B + 142 := fun q ⟨i, hi, e⟩ => by rw [e]; exact adC_lt hi
  have aM : ∀ q, Aw (adM (B + 142)) SM q → B + 142 ≤ q ∧ q < B + 165 := fun q ⟨i, hi, e⟩ => by
    have hi : i < 23 := hi
    rw [e]
    unfold adM
    omega
  have X : LX D (cAC cK) (cAM cK) (cK 21) (adC B) (adM (B + 142)) (B + 165) s := ⟨kC, kM, adC_ij, adM_ij, fun q h => by have := aC q h; omega, fun q h => by have := aM q h; omega, fun q h1 h2 => by have := aC q h1; have := aM q h2; omega, fun h => by have := aC _ h; omega, fun h => by have := aM _ h; omega, by omega, kO,
    ⟨XK0 hts0, vx_Zqof (hts0 (.laysStatic Bundle.tN "UNASSIGNED_STACK" Bundle.steD) (by decide +kernel)) (hts0 (.initialized Bundle.tN) (by decide +kernel)) (hg _ (by decide +kernel)) (fun a h1 h2 => absurd h2 (Nat.not_le.mpr h1)), vx_Zqof (hts0 (.laysStatic Bundle.tN "SUPPRESSED_SENTINEL" Bundle.listD) (by decide +kernel)) (hts0 (.initialized Bundle.tN) (by decide +kernel)) (hg _ (by decide +kernel)) (fun a h1 h2 => absurd h2 (Nat.not_le.mpr h1))⟩, va_Nc.of (hg _ (by decide +kernel))⟩
  refine W.widen (k := 166 + 0) (n := 4000 + 6 * 0) (by decide) (by decide) ?_
  exact law_loop (st9 hflags) hL C0 X 600 0 (by omega) (by omega) st0C st0M H5 _ ls RR0 ⟨w1, w2, 0, w3⟩ hS (lv_sub hl [4, 3, 2, 1, 0] rfl)
