/-! THE LAW'S element: it catches -/
def outE (cO : ClassId) (f : Nat → Int64) : va_E := .inl (cO, 1, .inr (.inl f))
def OutAt (cO : ClassId) (o : Nat) (v : Int64) (H : Heap) : Prop := ∃ f : Nat → Int64, H[o]? = some (vp_cell cO (1, .inr (.inl f))) ∧ f 0 = v
def AL (ad : Nat → Nat) (o : Nat) : Nat → Prop := fun q => Aw ad SC q ∨ q = o
def KL (D : va_G) (cA : Nat → ClassId) (ad : Nat → Nat) (cO : ClassId) (U : State) : Prop := Kn D cA SC U ∧ va_K D vwCl [(cO, .long)] U ∧ XP (Aw ad SC) U ∧ va_Nc "java/lang/IllegalStateException" "java/lang/IllegalArgumentException" U
def PL (D : va_G) (cA : Nat → ClassId) (ad : Nat → Nat) (cO : ClassId) (o : Nat) (a1 a2 : Int32) (σ : St) (v : Int64) : Array Value → State → Prop := va_Pc [.ref (ad 0), .int a1, .int a2, .ref o] (fun U => Wr D cA ad SC σ U.heap ∧ OutAt cO o v U.heap ∧ KL D cA ad cO U)
def QL (D : va_G) (cA : Nat → ClassId) (ad : Nat → Nat) (cO : ClassId) (o : Nat) (σ : St) (k : Int32) (v : Int64) : Array Value → State → Outcome → State → Prop := va_Qi (fun (r : Int32) (_ : Unit) => r = k) (fun _ t => Wr D cA ad SC σ t.heap ∧ OutAt cO o v t.heap) (AL ad o)
abbrev rmL : Room := { frames := 10, cells := 1, slots := 6, locals := 200 }
theorem KL.call {D : va_G} {cA : Nat → ClassId} {ad : Nat → Nat} {cO : ClassId} {U : State} {g : JFrame} {mk : MethodId} {a : Array Value} (h : KL D cA ad cO U) : KL D cA ad cO (U.calling g mk a) :=
  ⟨Kn.call h.1, va_K.moved (u := U) (U := U.calling g mk a) (Vm.Alike.refl U.vm) h.2.1, ⟨XK.alike (s := U) (U := U.calling g mk a) (Vm.Alike.refl U.vm) h.2.2.1.1, vx_Zq.moved (u := U) (U := U.calling g mk a) (Vm.Alike.refl U.vm) h.2.2.1.2.1, vx_Zq.moved (u := U) (U := U.calling g mk a) (Vm.Alike.refl U.vm) h.2.2.1.2.2⟩, va_Nc.moved (u := U) (U := U.calling g mk a) (Vm.Alike.refl U.vm) h.2.2.2⟩
theorem PL.blind {D : va_G} {cA : Nat → ClassId} {ad : Nat → Nat} {cO : ClassId} {o : Nat} {a1 a2 : Int32} {σ : St} {v : Int64} : FrameBlind (PL D cA ad cO o a1 a2 σ v) := fun a U g mk q => by
  obtain ⟨q0, q1, q2, q3⟩ := q
  exact ⟨q0, q1, q2, KL.call q3⟩
theorem pn_L : plainName RL = true := by decide +kernel
theorem ca_iae : Cond.castable "java/lang/IllegalArgumentException" "java/lang/IllegalArgumentException" ∈ B1 ++ B2 := by decide +kernel
theorem ca_ise : Cond.castable "java/lang/IllegalStateException" "java/lang/IllegalStateException" ∈ B1 ++ B2 := by decide +kernel
theorem XP.warm {A : Nat → Prop} {s U : State} (h : XP A s) (hvm : s.vm.Alike U.vm) (hU : ∀ a : Nat, a < s.heap.size → ¬ A a → U.heap[a]? = s.heap[a]?) : XP A U := ⟨h.1.alike hvm, vx_Zq.moved hvm (h.2.1.kept hU), vx_Zq.moved hvm (h.2.2.kept hU)⟩
theorem PX.at {D : va_G} {cA : Nat → ClassId} {ad : Nat → Nat} {S : Sd} {σ : St} {s : State} {H : Heap} {As : List Value} {locs : List Loc} (hW : Rn D cA ad S s.heap σ H locs) (hK : Kn D cA S s) (hX : XP (Aw ad S) s) : ∀ U : State, U.heap = H → s.WarmedH U.vm → PX D cA ad S As σ As.toArray U := fun U hU hWm => ⟨PC.at hW.1 hK U hU hWm, hX.warm hWm.alike (fun a h1 h2 => by rw [hU]; exact hW.2.2.1 a h1 h2)⟩
theorem AL_S {ad : Nat → Nat} {o : Nat} {H0 H : Heap} {locs : List Loc} (h : va_S (Aw ad SC) H0 H locs) : va_S (AL ad o) H0 H locs := ⟨h.1, fun q h1 h2 => h.2.1 q h1 (fun z => h2 (Or.inl z)), fun l hl => Or.inl (h.2.2 l hl)⟩
set_option maxHeartbeats 4000000 in
set_option maxRecDepth 100000 in
theorem c0_L_element (l : Launch) (D : va_G) (cA : Nat → ClassId) (ad : Nat → Nat) (hij : Ij ad SC) (cO : ClassId) (o : Nat) (ho : ¬ Aw ad SC o) (σ : St) (a1 a2 : Int32) (v r : Int64) (hf : f_X5_element σ a1 a2 = some r) : Met l yL_element wsL_element rmL (PL D cA ad cO o a1 a2 σ v) (QL D cA ad cO o σ 0 r) 1 6 (AL ad o) := by
  refine va_MetW (cc := cL_element) (maxL := 5) (ret := some .int) (hh := [(0, 9, 12, 13), (0, 9, 16, 15)]) pn_L rfl ?_
  intro p e s m args below meth c s₁ B hml hv
  obtain ⟨rfl, hP, hO, hK, hKO, hX, hN⟩ := hv
  have hts := atoms_spec (ws := wsL_element) B.pre
  have hown : s.vm.findClass RL = some m.cls := findClass_of_methodNamed B.named
  have hl := lv_entry [.ref (ad 0), .int a1, .int a2, .ref o] (n := 5) (Nat.le_of_ble_eq_true rfl)
  rw [lg_entry_eq]
  generalize (lg_sl ([.ref (ad 0), .int a1, .int a2, .ref o]) ++ List.replicate (5 - (lg_sl ([.ref (ad 0), .int a1, .int a2, .ref o])).length) Slot.unset).toArray = ls at hl ⊢
  have hl : lv_has ls 5 [(0, .ref (ad 0)), (1, .int a1), (2, .int a2), (3, .ref o)] := hl
  have X : Cx RL wsL_element cL_element 5 (some .int) D cA ad SC p s m (([.ref (ad 0), .int a1, .int a2, .ref o] : List Value).toArray) meth c := ⟨B.exec, B.bytes, hml, hown, hts, B.returns, B.notSynchronized, hK, hij⟩
  obtain ⟨hx, hb, hml, hown, hts, hr, hlk, hK, hij⟩ := id X
  have hW : Rn D cA ad SC s.heap σ s.heap [] := ⟨hP, va_S.rf⟩
  obtain ⟨f, hof, hf0⟩ := hO
  have hol : o < s.heap.size := (Array.getElem?_eq_some_iff.mp hof).1
  refine lv_aload_n hx hb dL_element_0 rfl (lv_at hl 3 rfl) ?_
  refine lv_iconst (v := 0) hx hb dL_element_1 (by decide) ?_
  refine lv_aload_n hx hb dL_element_2 rfl (lv_at hl 0 rfl) ?_
  refine lv_iload_n hx hb dL_element_3 rfl (lv_at hl 1 rfl) ?_
  refine lv_iload_n hx hb dL_element_4 rfl (lv_at hl 2 rfl) ?_
  refine r_cVlR X hW kC_0 iC_0 rfl (c_X5_element l D cA ad hij σ a1 a2 r hf) gL_element_X5_element rfl ⟨rfl, rfl⟩ hd_X5_element ⟨Nat.le_of_ble_eq_true rfl, Nat.le_of_ble_eq_true rfl⟩ rfl (Nat.le_of_ble_eq_true rfl) hl.1 dL_element_5 (fun H locs hW => ?_)
  have hlen : (wd ad cA SC σ).length = SC.1 := by simp [wd]
  have hoH : H[o]? = some (vp_cell cO (1, .inr (.inl f))) := by rw [hW.2.2.1 o hol ho]; exact hof
  have hP2 : va_P D vwCl (wd ad cA SC σ ++ [(o, outE cO f)]) H := va_P.app hW.1 (fun k q hk => by
    have hz : k < 1 := (List.getElem?_eq_some_iff.mp hk).1
    rw [show k = 0 by omega] at hk
    cases hk
    exact hoH)
  have hD2 : va_D (AL ad o) (wd ad cA SC σ ++ [(o, outE cO f)]) := va_D.app ((wd_D hij).weaken (fun k q _ h => Or.inl h)) ⟨fun i j x y hi hj _ => by
      have h1 := (List.getElem?_eq_some_iff.mp hi).1
      have h2 := (List.getElem?_eq_some_iff.mp hj).1
      simp only [List.length_cons, List.length_nil] at h1 h2
      omega, fun k q hk => by
      have hz : k < 1 := (List.getElem?_eq_some_iff.mp hk).1
      rw [show k = 0 by omega] at hk
      cases hk
      exact Or.inr rfl⟩ (fun i j x y hi hj e => by
      have hz : j < 1 := (List.getElem?_eq_some_iff.mp hj).1
      rw [show j = 0 by omega] at hj
      cases hj
      have := (wd_D (cA := cA) (σ := σ) hij).2 i x hi
      rw [e] at this
      exact ho this)
  refine va_last hx hb hKO hP2 hD2 (AL_S hW.2) SC.1 0 (by rw [List.getElem?_append_right (Nat.le_of_eq hlen), hlen, Nat.sub_self]; rfl) rfl (by unfold vp_in; decide) dL_element_8 (fun H1 locs1 hP3 hD3 hS3 => ?_)
  refine lv_goto (tgt := 20) hx hb dL_element_9 (by decide) ?_
  refine lv_iconst (v := 0) hx hb dL_element_20 (by decide) ?_
  refine W.widen (k := 1) (n := 6) (by omega) (by omega) ?_
  refine W.zret (v := 0) hx hb hr rfl (fun t ht hWm => ⟨⟨0, (), rfl, rfl, ?_, ?_⟩, hS3.F ht⟩) hS3.2.2 dL_element_21 hlk
  · rw [ht]
    intro k q hk
    have hkl : k < SC.1 := by
      have := (List.getElem?_eq_some_iff.mp hk).1
      omega
    refine hP3 k q ?_
    rw [List.getElem?_set_ne (by omega), List.getElem?_append_left (by omega)]
    exact hk
  · rw [ht]
    refine ⟨_, hP3 SC.1 (o, outE cO (vp_updL f (0 : Int32).toNatClampNeg r)) ?_, ?_⟩
    · rw [List.getElem?_set_self (by rw [List.length_append, hlen]; exact Nat.lt_succ_self _)]
      rfl
    · exact if_pos rfl
