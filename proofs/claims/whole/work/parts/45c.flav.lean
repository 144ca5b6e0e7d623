/-! the flavour's and the shelf's constructors -/
def cFl (cL : ClassId) (b : Nat) : va_W := [(b, .inr (0, [.ref (b + 1), .long 1, .int 0])), (b + 1, .inl (cL, 4, .inr (.inl (fun _ => 0))))]
/-- what a constructor finds: the bare object is the last cell; the classes of the rows are known -/
def KT (cK : Nat → ClassId) (U : State) : Prop := U.vm.findClass ("[" ++ FieldType.int.toString) = some (cK 20) ∧ U.vm.findClass ("[" ++ FieldType.long.toString) = some (cK 21)
def PI (D : va_G) (cK : Nat → ClassId) (b ci : Nat) (fs : List Value) : Array Value → State → Prop := va_Pc [.ref b] (fun U => U.heap.size = b + 1 ∧ va_P D vwCl [(b, .inr (ci, fs))] U.heap ∧ va_K D vwCl [] U ∧ KT cK U ∧ NW U)
def QI (D : va_G) (b n : Nat) (ws : va_W) : Array Value → State → Outcome → State → Prop := va_Qv (fun _ : Unit => True) (fun _ t => t.heap.size = b + n ∧ va_P D vwCl ws t.heap) (fun q => b ≤ q)
theorem D1 (b : Nat) (e : va_E) : va_D (fun q => b ≤ q) [(b, e)] := by
  refine ⟨fun i j p q hi hj _ => ?_, fun k q hk => ?_⟩
  · have h1 : i < 1 := (List.getElem?_eq_some_iff.mp hi).1
    have h2 : j < 1 := (List.getElem?_eq_some_iff.mp hj).1
    omega
  · have h1 : k < 1 := (List.getElem?_eq_some_iff.mp hk).1
    rw [show k = 0 by omega] at hk
    cases hk
    exact Nat.le_refl b
set_option maxHeartbeats 4000000 in
set_option maxRecDepth 100000 in
theorem c_X0_init (l : Launch) (D : va_G) (cK : Nat → ClassId) (b : Nat) : Met l yX0_init wsX0_init { frames := 1, cells := 1, slots := 4, locals := 20 } (PI D cK b 0 [.null, .long 0, .int 0]) (QI D b 2 (cFl (cK 21) b)) 1 4 (fun q => b ≤ q) := by
  refine Met.ofW (cc := cX0_init) (maxL := 1) (ret := none) (by decide) rfl ?_
  intro p e s m args below meth c s₁ B hml hv
  obtain ⟨rfl, hsz, hP, hK, hT, hN⟩ := hv
  have hx := B.exec
  have hb := B.bytes
  have hr := B.returns
  have hts := atoms_spec (ws := wsX0_init) B.pre
  have hown : s.vm.findClass RX0 = some m.cls := findClass_of_methodNamed B.named
  have hin : meth.name = "<init>" := (name_of_methodNamed B.named B.method).1
  have hD := D1 b (.inr (0, [.null, .long 0, .int 0]))
  have hS : va_S (fun q => b ≤ q) s.heap s.heap [] := va_S.rf
  have hl := lv_entry ([.ref b]) (n := 1) (Nat.le_of_ble_eq_true rfl)
  rw [lg_entry_eq]
  generalize (lg_sl ([.ref b]) ++ List.replicate (1 - (lg_sl ([.ref b])).length) Slot.unset).toArray = ls at hl ⊢
  have hl : lv_has ls 1 [(0, .ref b)] := hl
  refine lv_aload_n hx hb dX0_init_0 rfl (lv_at hl 0 rfl) ?_
  refine W.objInit hx hb hown (hts (.methodLink RX0 3 objectInit) (List.mem_of_getElem? (i := 1) rfl)) (hts (.instanceMethod objectInit) (List.mem_of_getElem? (i := 2) rfl)) (hts _ (List.mem_of_getElem? (i := 3) rfl)) rfl (by rw [hml]; exact hl.1) rfl dX0_init_1 (Nat.le_of_ble_eq_true rfl) (Nat.le_of_ble_eq_true rfl) ?_
  refine W.eq (g2 := F0 m 4 ls []) rfl ?_
  refine lv_aload_n hx hb dX0_init_4 rfl (lv_at hl 0 rfl) ?_
  refine lv_iconst (v := 4) hx hb dX0_init_5 (by decide) ?_
  refine ci_newa (atype := .long) (N' := 4) (a0 := (4, .inr (.inl (fun _ => 0)))) hx hb (hts (.arrayClass .long) (List.mem_of_getElem? (i := 4) rfl)) rfl hT.2 hP hD hS hsz (Nat.le_succ b) rfl (by decide) (by decide) (by decide) (Nat.le_of_ble_eq_true rfl) (Nat.le_of_ble_eq_true rfl) dX0_init_6 (fun H z1 hP hD hS => ?_)
  have hw : ∀ w ∈ wsX00, w ∈ wsX0_init := fun w h => List.mem_cons_of_mem _ (List.mem_append_right _ h)
  refine ci_put true (D := D) (ci := 0) (v := .ref (b + 1)) (ty := .array .long) (C := RX0) (T := TX0) (N := 3) hx hb hts hw tyX0 tyX0_ok nmX0 hown hK hP hD hS z1 0 rfl rfl 0 (by decide) (hts (.fieldLink RX0 9 "ThirdOfTheLast$Flavour" "above" "[J") (List.mem_of_getElem? (i := 5) rfl)) (fun _ h9 => h9) rfl hin rfl (by decide +kernel) rfl rfl (Nat.le_of_ble_eq_true rfl) dX0_init_8 (fun H1 locs1 z1 hP hD hS => ?_)
  refine lv_aload_n hx hb dX0_init_11 rfl (lv_at hl 0 rfl) ?_
  refine lv_lconst (v := 1) hx hb dX0_init_12 (by decide) ?_
  refine ci_put false (D := D) (ci := 0) (v := .long 1) (ty := .long) (C := RX0) (T := TX0) (N := 3) hx hb hts hw tyX0 tyX0_ok nmX0 hown hK hP hD hS z1 0 rfl rfl 1 (by decide) (hts (.fieldLink RX0 15 "ThirdOfTheLast$Flavour" "below" "J") (List.mem_of_getElem? (i := 6) rfl)) (fun _ h9 => h9) rfl hin rfl (by decide +kernel) rfl rfl (Nat.le_of_ble_eq_true rfl) dX0_init_13 (fun H2 locs2 z2 hP hD hS => ?_)
  exact W.vret hx hb hr (fun t ht hW => ⟨⟨(), rfl, trivial, by rw [ht]; exact z2, by rw [ht]; exact hP⟩, hS.F ht⟩) hS.2.2 dX0_init_16
