/-! worlds whose cells lie in a row; the shelf's and the pot's constructors -/
def Sq : Nat → va_W → Prop
  | _, [] => True
  | b, q :: t => q.1 = b ∧ Sq (b + 1) t
theorem Sq.at {ws : va_W} : ∀ {b : Nat}, Sq b ws → ∀ (k : Nat) (q : Nat × va_E), ws[k]? = some q → q.1 = b + k := by
  induction ws with
  | nil => intro b _ k q hq; simp at hq
  | cons x t ih =>
    intro b h k q hq
    cases k with
    | zero => simp at hq; subst hq; exact h.1
    | succ k => rw [List.getElem?_cons_succ] at hq; rw [ih h.2 k q hq]; omega
theorem Sq.D {b : Nat} {ws : va_W} (h : Sq b ws) : va_D (fun q => b ≤ q) ws := by
  refine ⟨fun i j p q hi hj e => ?_, fun k q hk => ?_⟩
  · have h1 := h.at i p hi
    have h2 := h.at j q hj
    omega
  · have h1 := h.at k q hk
    show b ≤ q.1
    omega
theorem PI.blind {D : va_G} {cK : Nat → ClassId} {b ci : Nat} {fs : List Value} : FrameBlind (PI D cK b ci fs) := fun a U g mk q => by
  obtain ⟨q0, q1, q2, q3, q4, q5⟩ := q
  exact ⟨q0, q1, q2, va_K.moved (u := U) (U := U.calling g mk a) (Vm.Alike.refl U.vm) q3, q4, NW.same (u := U) (U := U.calling g mk a) rfl q5⟩
theorem KT.moved {cK : Nat → ClassId} {u U : State} (hvm : u.vm.Alike U.vm) (h : KT cK u) : KT cK U := ⟨by rw [hvm.findClass]; exact h.1, by rw [hvm.findClass]; exact h.2⟩
theorem PI.pre {D : va_G} {cK : Nat → ClassId} {b ci : Nat} {fs : List Value} {s : State} {H : Heap} (hz : H.size = b + 1) (hP : va_P D vwCl [(b, .inr (ci, fs))] H) (hK : va_K D vwCl [] s) (hT : KT cK s) (hN : NW s) : PreS s H (PI D cK b ci fs) [.ref b] := ⟨PI.blind, fun U hU hW => ⟨rfl, by rw [hU]; exact hz, by rw [hU]; exact hP, va_K.moved hW.alike hK, KT.moved hW.alike hT, NW.warm hW hN⟩⟩
set_option maxHeartbeats 4000000 in
set_option maxRecDepth 100000 in
theorem c_X4_init (l : Launch) (D : va_G) (cK : Nat → ClassId) (b : Nat) : Met l yX4_init wsX4_init { frames := 1, cells := 1, slots := 100, locals := 20 } (PI D cK b 4 [.int 0, .int 0, .int 0, .int 0, .int 0, .null]) (QI D b 2 [(b, .inr (4, [.int 0, .int 0, .int 0, .int 0, .int 0, .ref (b + 1)])), (b + 1, .inl (cK 20, 100, .inl (fun _ => 0)))]) 1 100 (fun q => b ≤ q) := by
  refine Met.ofW (cc := cX4_init) (maxL := 1) (ret := none) (by decide) rfl ?_
  intro p e s m args below meth c s₁ B hml hv
  obtain ⟨rfl, hsz, hP, hK, hT, hN⟩ := hv
  have hx := B.exec
  have hb := B.bytes
  have hr := B.returns
  have hts := atoms_spec (ws := wsX4_init) B.pre
  have hown : s.vm.findClass RX4 = some m.cls := findClass_of_methodNamed B.named
  have hin : meth.name = "<init>" := (name_of_methodNamed B.named B.method).1
  have hD := D1 b (.inr (4, [.int 0, .int 0, .int 0, .int 0, .int 0, .null]))
  have hS : va_S (fun q => b ≤ q) s.heap s.heap [] := va_S.rf
  have hl := lv_entry ([.ref b]) (n := 1) (Nat.le_of_ble_eq_true rfl)
  rw [lg_entry_eq]
  generalize (lg_sl ([.ref b]) ++ List.replicate (1 - (lg_sl ([.ref b])).length) Slot.unset).toArray = ls at hl ⊢
  have hl : lv_has ls 1 [(0, .ref b)] := hl
  refine lv_aload_n hx hb dX4_init_0 rfl (lv_at hl 0 rfl) ?_
  refine W.objInit hx hb hown (hts (.methodLink RX4 3 objectInit) (List.mem_of_getElem? (i := 1) rfl)) (hts (.instanceMethod objectInit) (List.mem_of_getElem? (i := 2) rfl)) (hts _ (List.mem_of_getElem? (i := 3) rfl)) rfl (by rw [hml]; exact hl.1) rfl dX4_init_1 (Nat.le_of_ble_eq_true rfl) (Nat.le_of_ble_eq_true rfl) ?_
  refine W.eq (g2 := F0 m 4 ls []) rfl ?_
  refine lv_aload_n hx hb dX4_init_4 rfl (lv_at hl 0 rfl) ?_
  refine lv_bipush hx hb dX4_init_5 (v := 100) rfl ?_
  refine ci_newa (atype := .int) (N' := 100) (a0 := (100, .inl (fun _ => 0))) hx hb (hts (.arrayClass .int) (List.mem_of_getElem? (i := 4) rfl)) rfl hT.1 hP hD hS hsz (Nat.le_succ b) rfl (by decide) (by decide) (by decide) (Nat.le_of_ble_eq_true rfl) (Nat.le_of_ble_eq_true rfl) dX4_init_7 (fun H z1 hP hD hS => ?_)
  have hw : ∀ w ∈ wsX40, w ∈ wsX4_init := fun w h => List.mem_cons_of_mem _ (List.mem_append_right _ h)
  refine ci_put true (D := D) (ci := 4) (v := .ref (b + 1)) (ty := .array .int) (C := RX4) (T := TX4) (N := 6) hx hb hts hw tyX4 tyX4_ok nmX4 hown hK hP hD hS z1 0 rfl rfl 5 (by decide) (hts (.fieldLink RX4 9 "ThirdOfTheLast$Shelf" "elements" "[I") (List.mem_of_getElem? (i := 5) rfl)) (fun _ h9 => h9) rfl hin rfl (by decide +kernel) rfl rfl (Nat.le_of_ble_eq_true rfl) dX4_init_9 (fun H1 locs1 z1 hP hD hS => ?_)
  exact W.vret hx hb hr (fun t ht hW => ⟨⟨(), rfl, trivial, by rw [ht]; exact z1, by rw [ht]; exact hP⟩, hS.F ht⟩) hS.2.2 dX4_init_12
