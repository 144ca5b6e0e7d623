/-! THE LAW, case by case -/
/-- what the law does behind a call: the loop goes on -/
def NX (p : Program) (l : Launch) (e : Env) (s : State) (m : MethodId) (below : List Frame) (meth : Method) (c : Code) (b : Nat) (Q : State → Prop) (D : va_G) (cC cM : Nat → ClassId) (cO : ClassId) (aC aM : Nat → Nat) (o i cells slots : Nat) : Prop := ∀ (σc σm : St) (H : Heap) (locs : List Loc) (ls : Array Slot), RR σc σm → LW D cC cM cO aC aM o σc σm H → va_S (fun q : Nat => s.heap.size ≤ q) s.heap H locs → lv_has ls 8 (lv5 aC aM o b i) → W p l e room_1 s m #[Value.ref b] below meth c H locs (cells + 1) (slots + 6) Q (F0 m 1497 ls [])
set_option maxHeartbeats 4000000 in
set_option maxRecDepth 100000 in
/-- kitchen -/
theorem law_0 {p : Program} {l : Launch} {e : Env} {s : State} {m : MethodId} {below : List Frame} {meth : Method} {c : Code} {b L : Nat} {xs : Nat → Int32} {H : Heap} {locs : List Loc} {cells slots : Nat} {Q : State → Prop} {ls : Array Slot} {D : va_G} {cC cM : Nat → ClassId} {cO : ClassId} {aC aM : Nat → Nat} {o i : Nat} {σc σm : St} (C0 : lw_At p s m meth c b L xs) (X : LX D cC cM cO aC aM o s) (hR : RR σc σm) (hW : LW D cC cM cO aC aM o σc σm H) (hS : va_S (fun q : Nat => s.heap.size ≤ q) s.heap H locs) (hL : L ≤ 3072) (hi : i + 6 ≤ L) (hl : lv_has ls 8 (lv5 aC aM o b i)) (hcs : cells + 1 ≤ 601024 ∧ slots + 6 ≤ 7293034) (next : NX p l e s m below meth c b Q D cC cM cO aC aM o i cells slots) : W p l e room_1 s m #[Value.ref b] below meth c H locs cells slots Q (F0 m 184 ls []) := by
  obtain ⟨hx, hb, hr, hml, hown, hts, hX, hbl, hlocks, hgv⟩ := id C0
  have hcs0 : cells ≤ 601024 ∧ slots ≤ 7293034 := ⟨by omega, by omega⟩
  have j1 : Ij aC SC := X.2.2.1
  have j2 : Ij aM SM := X.2.2.2.1
  obtain ⟨r, σc', σm', e1, e2, hR2⟩ := sim_kitchen hR (xs (i + 1))
  refine lv_aload_n hx hb dL_law_184 rfl (lv_at hl 1 rfl) ?_
  refine l_arg C0 hS hL hi hl 1 (by omega) rfl dL_law_185 dL_law_186 dL_law_188 dL_law_189 dL_law_190 ?_
  refine l_Ci (As := [.int (xs (i + 1))]) C0 X hW hS (c_X5_kitchen l D cC aC j1 σc (xs (i + 1)) _ e1) gL_law_X5_kitchen rfl ⟨rfl, rfl⟩ hd_X5_kitchen ⟨Nat.le_of_ble_eq_true rfl, Nat.le_of_ble_eq_true rfl⟩ hcs0 rfl (Nat.le_of_ble_eq_true rfl) hl.1 dL_law_191 (fun H locs hW hS => ?_)
  refine lv_aload_n hx hb dL_law_194 rfl (lv_at hl 2 rfl) ?_
  refine l_arg C0 hS hL hi hl 1 (by omega) rfl dL_law_195 dL_law_196 dL_law_198 dL_law_199 dL_law_200 ?_
  refine l_Mi (As := [.int (xs (i + 1))]) C0 X hW hS (c_X6_kitchen l D cM aM j2 σm (xs (i + 1)) _ e2) gL_law_X6_kitchen rfl ⟨rfl, rfl⟩ hd_X6_kitchen ⟨Nat.le_of_ble_eq_true rfl, Nat.le_of_ble_eq_true rfl⟩ hcs0 rfl (Nat.le_of_ble_eq_true rfl) hl.1 dL_law_201 (fun H locs hW hS => ?_)
  refine lv_icmp_eq (tgt := 1497) hx hb dL_law_204 (by decide) (fun _ => ?_) (fun c1 => absurd rfl c1)
  exact W.widen (k := cells + 1) (n := slots + 6) (Nat.le_succ _) (Nat.le_add_right _ _) (next _ _ _ _ _ hR2 hW hS hl)
