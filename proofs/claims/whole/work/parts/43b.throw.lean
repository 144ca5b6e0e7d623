/-! ELEMENT, when it throws -/
abbrev upN : List String := ["java/lang/RuntimeException", "java/lang/Exception"]
def isLay (w : Cond) : Bool := match w with
  | .lays _ _ _ _ => true
  | .declares _ => true
  | .castable _ _ => true
  | _ => false
def B1 : List Cond := (vx_at0 RX5 293 "java/lang/IllegalArgumentException" upN).filter (fun w => !goodWord w)
def B2 : List Cond := (vx_at0 RX5 299 "java/lang/IllegalStateException" upN).filter (fun w => !goodWord w)
theorem B_lay : (B1 ++ B2).all isLay = true := by decide +kernel
def XK (U : State) : Prop := ∀ w ∈ B1 ++ B2, w.before #[] U = true
theorem XK.alike {s U : State} (hvm : s.vm.Alike U.vm) (h : XK s) : XK U := by
  intro w hw
  have h1 := List.all_eq_true.mp B_lay w hw
  have h2 := h w hw
  cases w with
  | lays a b c d =>
    have h3 := Cond.lays_setVm hvm h2
    exact va_tabs (A := #[]) (A' := #[]) rfl (rfl : (s.setVm U.vm).vm = U.vm) h3
  | declares a =>
    have h3 : (Cond.declares a).before #[] (s.setVm U.vm) = true := by rw [Cond.declares_setVm hvm]; exact h2
    exact va_tabs (A := #[]) (A' := #[]) rfl (rfl : (s.setVm U.vm).vm = U.vm) h3
  | castable a b =>
    have h3 : (Cond.castable a b).before #[] (s.setVm U.vm) = true := by rw [Cond.castable_setVm hvm]; exact h2
    exact va_tabs (A := #[]) (A' := #[]) rfl (rfl : (s.setVm U.vm).vm = U.vm) h3
  | _ => simp [isLay] at h1
theorem XK.args {s : State} {args : Array Value} (h : XK s) : ∀ w ∈ B1 ++ B2, w.before args s = true := by
  intro w hw
  have h1 := List.all_eq_true.mp B_lay w hw
  have h2 := h w hw
  cases w with
  | lays a b c d => exact va_tabs (A := #[]) (A' := args) rfl rfl h2
  | declares a => exact va_tabs (A := #[]) (A' := args) rfl rfl h2
  | castable a b => exact va_tabs (A := #[]) (A' := args) rfl rfl h2
  | _ => simp [isLay] at h1
/-- what a throw needs of the tables and of the statics -/
def XP (A : Nat → Prop) (U : State) : Prop := XK U ∧ vx_Zq Bundle.tN "UNASSIGNED_STACK" Bundle.steD A U U.heap ∧ vx_Zq Bundle.tN "SUPPRESSED_SENTINEL" Bundle.listD A U U.heap
def PX (D : va_G) (cA : Nat → ClassId) (ad : Nat → Nat) (S : Sd) (As : List Value) (σ : St) : Array Value → State → Prop := fun v U => PC D cA ad S As σ v U ∧ XP (Aw ad S) U
theorem PX.blind {D : va_G} {cA : Nat → ClassId} {ad : Nat → Nat} {S : Sd} {As : List Value} {σ : St} : FrameBlind (PX D cA ad S As σ) := fun a U g mk q =>
  ⟨PC.blind a U g mk q.1, XK.alike (s := U) (U := U.calling g mk a) (Vm.Alike.refl U.vm) q.2.1, vx_Zq.moved (u := U) (U := U.calling g mk a) (Vm.Alike.refl U.vm) q.2.2.1, vx_Zq.moved (u := U) (U := U.calling g mk a) (Vm.Alike.refl U.vm) q.2.2.2⟩
/-- what is so when it has thrown -/
def XE (X : String) (D : va_G) (cA : Nat → ClassId) (ad : Nat → Nat) (S : Sd) (σ : St) : String → State → State → Prop := vx_X (fun (_ : Unit) => True) (fun E _ t => E = X ∧ Wr D cA ad S σ t.heap) (Aw ad S)
def fr1 (A : Nat → Prop) (sz : Nat) : Nat → Prop := fun q => A q ∨ sz ≤ q
abbrev rmE : Room := { frames := 8, cells := 1, slots := 6, locals := 160 }
theorem xk_head {l : Launch} {own : String} {ws : List Cond} {cc : ByteArray} {nL : Nat} {ret : Option FieldType} {D : va_G} {cA : Nat → ClassId} {ad : Nat → Nat} {S : Sd} {σ : St} {y : MethodName} {ws' : List Cond} {rm : Room} {As : List Value} {Qc : Array Value → State → Outcome → State → Prop} {XC : String → State → State → Prop} {mc ms : Nat} (hy : plainName y.cls = true) (hyc : y.cls = own) (hw : ws = Cond.code y cc nL ret :: ws') (hij : Ij ad S) (hn : (lg_sl As).length ≤ nL)
    (body : ∀ (p : Program) (e : Env) (s : State) (m : MethodId) (below : List Frame) (meth : Method) (c : Code) (ls : Array Slot), Cx own ws cc nL ret D cA ad S p s m As.toArray meth c → Rn D cA ad S s.heap σ s.heap [] → lv_has ls nL (lv_args 0 As) → (∀ x ∈ c.exceptionTable.toList, False) → XP (Aw ad S) s → W p l e rm s m As.toArray below meth c s.heap [] 0 0 (vx_MQ below Qc XC As.toArray s mc ms (Aw ad S)) (F0 m 0 ls [])) : vx_Met l y ws rm (PX D cA ad S As σ) Qc XC mc ms (Aw ad S) := by
  refine vx_ofW (cc := cc) (maxL := nL) (ret := ret) hy hw ?_
  intro p e s m args below meth c s₁ B hml htab hv
  obtain ⟨⟨rfl, hP, hK⟩, hX⟩ := hv
  have hts := atoms_spec (ws := ws) B.pre
  have hown : s.vm.findClass own = some m.cls := hyc ▸ findClass_of_methodNamed B.named
  have hl := lv_entry As (n := nL) hn
  rw [lg_entry_eq]
  exact body p e s m below meth c _ ⟨B.exec, B.bytes, hml, hown, hts, B.returns, B.notSynchronized, hK, hij⟩ ⟨hP, va_S.rf⟩ hl htab hX
theorem ca1 : ∀ w ∈ Cond.classLink RX5 291 "java/lang/IllegalArgumentException" :: Cond.initialized "java/lang/IllegalArgumentException" :: vx_at0 RX5 293 "java/lang/IllegalArgumentException" upN, vx_ot w = true := by decide +kernel
theorem ca2 : ∀ w ∈ Cond.classLink RX5 297 "java/lang/IllegalStateException" :: Cond.initialized "java/lang/IllegalStateException" :: vx_at0 RX5 299 "java/lang/IllegalStateException" upN, vx_ot w = true := by decide +kernel
theorem inE1 : ∀ w ∈ (vx_at0 RX5 293 "java/lang/IllegalArgumentException" upN).filter goodWord, w ∈ wsX5_element := fun _ h => List.mem_cons_of_mem _ (List.mem_append_left _ (List.mem_append_right _ h))
theorem inE2 : ∀ w ∈ (vx_at0 RX5 299 "java/lang/IllegalStateException" upN).filter goodWord, w ∈ wsX5_element := fun _ h => List.mem_cons_of_mem _ (List.mem_append_right _ h)
section ELX
variable {p : Program} {l : Launch} {e : Env} {s : State} {m : MethodId} {args : Array Value} {below : List Frame} {meth : Method} {c : Code} {D : va_G} {cA : Nat → ClassId} {ad : Nat → Nat} {σ : St} {ls : Array Slot} {H : Heap} {locs : List Loc} {Qc : Array Value → State → Outcome → State → Prop}
set_option maxHeartbeats 4000000 in
set_option maxRecDepth 100000 in
theorem el_t1 (hl : l.stackTraces = false) (X : Cx RX5 wsX5_element cX5_element 3 (some .long) D cA ad SC p s m args meth c) (hW : Rn D cA ad SC s.heap σ H locs) (ht : ∀ x ∈ c.exceptionTable.toList, False) (hX : XP (Aw ad SC) s) (hls : ls.size = 3) : W p l e rmE s m args below meth c H locs 0 0 (vx_MQ below Qc (XE "java/lang/IllegalArgumentException" D cA ad SC σ) args s 1 6 (Aw ad SC)) (F0 m 7 ls []) := by
  obtain ⟨hx, hb, hml, hown, hts, hr, hlk, hK, hij⟩ := X
  refine vx_throw0 (names := upN) hx hb hl hown (by decide +kernel) (by decide +kernel) (hts _ (List.mem_of_getElem? (i := 1) rfl)) (hts _ (List.mem_of_getElem? (i := 2) rfl)) (vx_hat (B := B1 ++ B2) (fun w hw => hts w (inE1 w hw)) (fun w hw => List.mem_append_left _ hw) hX.1.args) ca1 hX.2.1 hX.2.2 hW.2 (hls.trans hml.symm) dX5_element_7 dX5_element_10 dX5_element_11 dX5_element_14 (fun x hx => (ht x hx).elim) (by decide) (by decide) (by decide) (by decide) hlk (fun t hvm hz hk => ⟨(), trivial, ⟨rfl, ?_⟩, ?_⟩) hW.2.2.2 (by decide) (by decide)
  · exact hW.1.kept (fun k q hq => hk _ (hW.1 k q hq).lt)
  · exact ⟨Nat.le_trans hW.2.1 hz, fun q h1 h2 => (hk q (Nat.lt_of_lt_of_le h1 hW.2.1)).trans (hW.2.2.1 q h1 h2)⟩
set_option maxHeartbeats 4000000 in
set_option maxRecDepth 100000 in
theorem el_t2 (hl : l.stackTraces = false) (X : Cx RX5 wsX5_element cX5_element 3 (some .long) D cA ad SC p s m args meth c) (hW : Rn D cA ad SC s.heap σ H locs) (ht : ∀ x ∈ c.exceptionTable.toList, False) (hX : XP (Aw ad SC) s) (hls : ls.size = 3) : W p l e rmE s m args below meth c H locs 0 0 (vx_MQ below Qc (XE "java/lang/IllegalStateException" D cA ad SC σ) args s 1 6 (Aw ad SC)) (F0 m 40 ls []) := by
  obtain ⟨hx, hb, hml, hown, hts, hr, hlk, hK, hij⟩ := X
  refine vx_throw0 (names := upN) hx hb hl hown (by decide +kernel) (by decide +kernel) (hts _ (List.mem_of_getElem? (i := 3) rfl)) (hts _ (List.mem_of_getElem? (i := 4) rfl)) (vx_hat (B := B1 ++ B2) (fun w hw => hts w (inE2 w hw)) (fun w hw => List.mem_append_right _ hw) hX.1.args) ca2 hX.2.1 hX.2.2 hW.2 (hls.trans hml.symm) dX5_element_40 dX5_element_43 dX5_element_44 dX5_element_47 (fun x hx => (ht x hx).elim) (by decide) (by decide) (by decide) (by decide) hlk (fun t hvm hz hk => ⟨(), trivial, ⟨rfl, ?_⟩, ?_⟩) hW.2.2.2 (by decide) (by decide)
  · exact hW.1.kept (fun k q hq => hk _ (hW.1 k q hq).lt)
  · exact ⟨Nat.le_trans hW.2.1 hz, fun q h1 h2 => (hk q (Nat.lt_of_lt_of_le h1 hW.2.1)).trans (hW.2.2.1 q h1 h2)⟩
end ELX
set_option maxHeartbeats 4000000 in
set_option maxRecDepth 100000 in
theorem x1_X5_element (l : Launch) (hl9 : l.stackTraces = false) (D : va_G) (cA : Nat → ClassId) (ad : Nat → Nat) (hij : Ij ad SC) (σ : St) (a1 : Int32) (a2 : Int32) (hf : f_X5_isNoShelf a1 = some 1) : vx_Met l yX5_element wsX5_element rmE (PX D cA ad SC [.ref (ad 0), .int a1, .int a2] σ) (va_Ql (fun (_ : Int64) (_ : Unit) => False) (fun _ _ => False) (Aw ad SC)) (XE "java/lang/IllegalArgumentException" D cA ad SC σ) 1 6 (Aw ad SC) := by
  refine xk_head (own := RX5) (ws := wsX5_element) (cc := cX5_element) (nL := 3) (ret := (some .long)) pn_X5 rfl rfl hij (Nat.le_of_ble_eq_true rfl) (fun p e s m below meth c ls X hW hl ht hX => ?_)
  have hl : lv_has ls 3 [(0, .ref (ad 0)), (1, .int a1), (2, .int a2)] := hl
  obtain ⟨hx, hb, hml, hown, hts, hr, hlk, hK, hij⟩ := id X
  refine lv_iload_n hx hb dX5_element_0 rfl (lv_at hl 1 rfl) ?_
  refine r_cSiR X hW (c_X5_isNoShelf l D cA ad hij σ a1 1 hf) gX5_element_X5_isNoShelf rfl ⟨rfl, rfl⟩ hd_X5_isNoShelf ⟨Nat.le_of_ble_eq_true rfl, Nat.le_of_ble_eq_true rfl⟩ rfl (Nat.le_of_ble_eq_true rfl) hl.1 dX5_element_1 (fun H locs hW => ?_)
  refine lv_if_eq (tgt := 15) hx hb dX5_element_4 (by decide) (fun c2 => ?_) (fun c2 => ?_)
  · exact absurd c2 (by decide)
  · exact el_t1 hl9 X hW ht hX hl.1
set_option maxHeartbeats 4000000 in
set_option maxRecDepth 100000 in
theorem x2_X5_element (l : Launch) (hl9 : l.stackTraces = false) (D : va_G) (cA : Nat → ClassId) (ad : Nat → Nat) (hij : Ij ad SC) (σ : St) (a1 : Int32) (a2 : Int32) (hf : f_X5_isNoShelf a1 = some 0) (x3 : inb a1 8 = true) (q5 : kOK SC (126 + 2 * a1.toNatClampNeg) 4 = true) (hh : f_X4_holdsRow σ (126 + 2 * a1.toNatClampNeg) = some 0 ∨ (f_X4_holdsRow σ (126 + 2 * a1.toNatClampNeg) = some 1 ∧ f_X4_hasElement σ (126 + 2 * a1.toNatClampNeg) a2 = some 0)) : vx_Met l yX5_element wsX5_element rmE (PX D cA ad SC [.ref (ad 0), .int a1, .int a2] σ) (va_Ql (fun (_ : Int64) (_ : Unit) => False) (fun _ _ => False) (Aw ad SC)) (XE "java/lang/IllegalStateException" D cA ad SC σ) 1 6 (Aw ad SC) := by
  refine xk_head (own := RX5) (ws := wsX5_element) (cc := cX5_element) (nL := 3) (ret := (some .long)) pn_X5 rfl rfl hij (Nat.le_of_ble_eq_true rfl) (fun p e s m below meth c ls X hW hl ht hX => ?_)
  have hl : lv_has ls 3 [(0, .ref (ad 0)), (1, .int a1), (2, .int a2)] := hl
  obtain ⟨hx, hb, hml, hown, hts, hr, hlk, hK, hij⟩ := id X
  obtain ⟨i5, k5⟩ := kOK_e q5
  refine lv_iload_n hx hb dX5_element_0 rfl (lv_at hl 1 rfl) ?_
  refine r_cSiR X hW (c_X5_isNoShelf l D cA ad hij σ a1 0 hf) gX5_element_X5_isNoShelf rfl ⟨rfl, rfl⟩ hd_X5_isNoShelf ⟨Nat.le_of_ble_eq_true rfl, Nat.le_of_ble_eq_true rfl⟩ rfl (Nat.le_of_ble_eq_true rfl) hl.1 dX5_element_1 (fun H locs hW => ?_)
  refine lv_if_eq (tgt := 15) hx hb dX5_element_4 (by decide) (fun c2 => ?_) (fun c2 => absurd rfl c2)
  refine lv_aload_n hx hb dX5_element_15 rfl (lv_at hl 0 rfl) ?_
  refine get_5_7 X hW kC_0 iC_0 inX5_element_5 (List.mem_of_getElem? (i := 5) rfl) dX5_element_16 ?_
  refine lv_iload_n hx hb dX5_element_19 rfl (lv_at hl 1 rfl) ?_
  refine r_aald (j := 126 + 2 * a1.toNatClampNeg) X hW kC_125 iC_125 nC_125 (by decide) rfl x3 rfl dX5_element_20 ?_
  rcases hh with h0 | ⟨h0, h1⟩
  · refine r_cViR X hW k5 i5 rfl (c_X4_holdsRow l D cA ad hij σ (126 + 2 * a1.toNatClampNeg) 0 h0) gX5_element_X4_holdsRow rfl ⟨rfl, rfl⟩ hd_X4_holdsRow ⟨Nat.le_of_ble_eq_true rfl, Nat.le_of_ble_eq_true rfl⟩ rfl (Nat.le_of_ble_eq_true rfl) hl.1 dX5_element_21 (fun H locs hW => ?_)
    refine lv_if_eq (tgt := 40) hx hb dX5_element_24 (by decide) (fun c6 => ?_) (fun c6 => absurd rfl c6)
    exact el_t2 hl9 X hW ht hX hl.1
  · refine r_cViR X hW k5 i5 rfl (c_X4_holdsRow l D cA ad hij σ (126 + 2 * a1.toNatClampNeg) 1 h0) gX5_element_X4_holdsRow rfl ⟨rfl, rfl⟩ hd_X4_holdsRow ⟨Nat.le_of_ble_eq_true rfl, Nat.le_of_ble_eq_true rfl⟩ rfl (Nat.le_of_ble_eq_true rfl) hl.1 dX5_element_21 (fun H locs hW => ?_)
    refine lv_if_eq (tgt := 40) hx hb dX5_element_24 (by decide) (fun c6 => absurd c6 (by decide)) (fun c6 => ?_)
    refine lv_aload_n hx hb dX5_element_27 rfl (lv_at hl 0 rfl) ?_
    refine get_5_7 X hW kC_0 iC_0 inX5_element_5 (List.mem_of_getElem? (i := 5) rfl) dX5_element_28 ?_
    refine lv_iload_n hx hb dX5_element_31 rfl (lv_at hl 1 rfl) ?_
    refine r_aald (j := 126 + 2 * a1.toNatClampNeg) X hW kC_125 iC_125 nC_125 (by decide) rfl x3 rfl dX5_element_32 ?_
    refine lv_iload_n hx hb dX5_element_33 rfl (lv_at hl 2 rfl) ?_
    refine r_cViR X hW k5 i5 rfl (c_X4_hasElement l D cA ad hij σ (126 + 2 * a1.toNatClampNeg) a2 0 h1) gX5_element_X4_hasElement rfl ⟨rfl, rfl⟩ hd_X4_hasElement ⟨Nat.le_of_ble_eq_true rfl, Nat.le_of_ble_eq_true rfl⟩ rfl (Nat.le_of_ble_eq_true rfl) hl.1 dX5_element_34 (fun H locs hW => ?_)
    refine lv_if_ne (tgt := 48) hx hb dX5_element_37 (by decide) (fun c8 => absurd rfl c8) (fun c8 => ?_)
    exact el_t2 hl9 X hW ht hX hl.1
