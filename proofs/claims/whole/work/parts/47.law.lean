/-! THE LAW: its world, and its rows -/
/-- what the law knows of the tables and of the addresses of both sides and of its own row -/
def LX (D : va_G) (cC cM : Nat → ClassId) (cO : ClassId) (aC aM : Nat → Nat) (o : Nat) (s : State) : Prop := Kn D cC SC s ∧ Kn D cM SM s ∧ Ij aC SC ∧ Ij aM SM ∧ (∀ q, Aw aC SC q → s.heap.size ≤ q) ∧ (∀ q, Aw aM SM q → s.heap.size ≤ q) ∧ (∀ q, Aw aC SC q → ¬ Aw aM SM q) ∧ ¬ Aw aC SC o ∧ ¬ Aw aM SM o ∧ s.heap.size ≤ o ∧ va_K D vwCl [(cO, .long)] s ∧ XP (fun q => s.heap.size ≤ q) s ∧ va_Nc "java/lang/IllegalStateException" "java/lang/IllegalArgumentException" s
def LW (D : va_G) (cC cM : Nat → ClassId) (cO : ClassId) (aC aM : Nat → Nat) (o : Nat) (σc σm : St) (H : Heap) : Prop := Wr D cC aC SC σc H ∧ Wr D cM aM SM σm H ∧ ∃ v, OutAt cO o v H
abbrev lv5 (aC aM : Nat → Nat) (o b i : Nat) : List (Nat × Value) := [(0, .ref b), (1, .ref (aC 0)), (2, .ref (aM 0)), (3, .ref o), (4, .int (nI i))]
theorem Wr.fr {D : va_G} {cA : Nat → ClassId} {ad : Nat → Nat} {S : Sd} {σ : St} {H H1 : Heap} {P : Nat → Prop} (h : Wr D cA ad S σ H) (hij : Ij ad S) (hk : ∀ q : Nat, q < H.size → ¬ P q → H1[q]? = H[q]?) (hd : ∀ q, Aw ad S q → ¬ P q) : Wr D cA ad S σ H1 :=
  va_P.kept (ws := wd ad cA S σ) h (fun k x hx => hk x.1 ((h k x hx).lt) (hd x.1 ((wd_D (cA := cA) (σ := σ) hij).2 k x hx)))
theorem OutAt.lt {cO : ClassId} {o : Nat} {v : Int64} {H : Heap} (h : OutAt cO o v H) : o < H.size := by
  obtain ⟨f, h1, -⟩ := h
  exact (Array.getElem?_eq_some_iff.mp h1).1
theorem OutAt.fr {cO : ClassId} {o : Nat} {v : Int64} {H H1 : Heap} (h : OutAt cO o v H) (e : H1[o]? = H[o]?) : OutAt cO o v H1 := by
  obtain ⟨f, h1, h2⟩ := h
  exact ⟨f, e.trans h1, h2⟩
section LAW
variable {p : Program} {l : Launch} {e : Env} {s : State} {m : MethodId} {below : List Frame} {meth : Method} {c : Code} {b L : Nat} {xs : Nat → Int32} {H : Heap} {locs : List Loc} {cells slots : Nat} {Q : State → Prop} {pc : Nat} {ls : Array Slot} {rest st : List Value} {D : va_G} {cC cM : Nat → ClassId} {cO : ClassId} {aC aM : Nat → Nat} {o i : Nat} {σc σm : St}
theorem l_arg (C0 : lw_At p s m meth c b L xs) (hS : va_S (fun q : Nat => s.heap.size ≤ q) s.heap H locs) (hL : L ≤ 3072) (hi : i + 6 ≤ L) (hl : lv_has ls 8 (lv5 aC aM o b i)) (k : Nat) (hk : k < 6) {n : Int} (hn : Int32.ofInt n = nI k) (d0 : decode cL_law pc = .ok (.aload_n 0, 1)) (d1 : decode cL_law (pc + 1) = .ok (.iload 4, 2)) (d3 : decode cL_law (pc + 1 + 2) = .ok (.iconst n, 1)) (d4 : decode cL_law (pc + 1 + 2 + 1) = .ok (.iadd, 1)) (d5 : decode cL_law (pc + 1 + 2 + 1 + 1) = .ok (.iaload, 1))
    (kk : W p l e room_1 s m #[Value.ref b] below meth c H locs cells slots Q (F0 m (pc + 1 + 2 + 1 + 1 + 1) ls (.int (xs (i + k)) :: rest))) : W p l e room_1 s m #[Value.ref b] below meth c H locs cells slots Q (F0 m pc ls rest) := by
  obtain ⟨hx, hb, hr, hml, hown, hts, hX, hbl, hlocks, hgv⟩ := C0
  refine lv_aload_n hx hb d0 rfl (lv_at hl 0 rfl) ?_
  refine lv_iload hx hb d1 (lv_at hl 4 rfl) ?_
  refine lv_iconst (v := nI k) hx hb d3 hn ?_
  refine lv_iadd hx hb d4 ?_
  rw [nI_add]
  refine va_sld hx hb hX hbl (Nat.not_le.mpr hbl) hS (vp_in_nI (by omega) (by omega)) d5 ?_
  rw [nI_clamp (by omega)]
  exact kk
/-- a call of one side: int answer -/
theorem l_cVi (C0 : lw_At p s m meth c b L xs) {S : Sd} {cA : Nat → ClassId} {ad : Nat → Nat} {σ : St} (hK : Kn D cA S s) (hA : ∀ q, Aw ad S q → s.heap.size ≤ q) (hW : Wr D cA ad S σ H) (hS : va_S (fun q : Nat => s.heap.size ≤ q) s.heap H locs) {K : Nat} {C : String} {T : u_T} {N : Nat} (hk : S.2.1 0 = K) (hi : 0 < S.1) (hc : vwCl[K]? = some (C, T, N)) {As : List Value} {r : Int32 × St} {y : MethodName} {wsY ws' : List Cond} {rm : Room} {bytes : ByteArray} {maxL index : Nat} {rt : Option FieldType}
    (hM : Met l y wsY rm (PC D cA ad S (.ref (ad 0) :: As) σ) (Qi D cA ad S r) 0 0 (Aw ad S)) (hG : GoodIn wsL_law (wsV RL index C y wsY)) (hw : wsY = Cond.code y bytes maxL rt :: ws') (hrm : rm.cells = 0 ∧ rm.slots = 0) (hd : y.cls = C ∧ y.cls ≠ "java/lang/invoke/MethodHandle" ∧ y.cls ≠ "java/lang/invoke/VarHandle" ∧ (parseMethodDescriptor y.desc).map (fun d => d.parameters.length) = some As.length) (hR : rm.frames + 1 ≤ room_1.frames ∧ 8 + (maxL + 11) + rm.locals ≤ room_1.locals) (hcs : cells ≤ 601024 ∧ slots ≤ 7293034) (hst : st = As.reverse ++ .ref (ad 0) :: rest) (hcat : (rest.map fun v => v.category).sum ≤ 8) (hls : ls.size = 8) (hdg : decode cL_law pc = .ok (.invokevirtual index, 3))
    (kk : ∀ (H1 : Heap) (locs1 : List Loc), Wr D cA ad S r.2 H1 → va_S (fun q : Nat => s.heap.size ≤ q) s.heap H1 locs1 → (∀ q : Nat, q < H.size → ¬ Aw ad S q → H1[q]? = H[q]?) → W p l e room_1 s m #[Value.ref b] below meth c H1 locs1 cells slots Q (F0 m (pc + 3) ls (.int r.1 :: rest))) : W p l e room_1 s m #[Value.ref b] below meth c H locs cells slots Q (F0 m pc ls st) := by
  obtain ⟨hx, hb, hr, hml, hown, hts, hX, hbl, hlocks, hgv⟩ := C0
  subst hst
  have hts : ∀ w ∈ wsL_law, w.before #[Value.ref b] s = true := fun w h => hts w (wsL_law_in w h)
  refine va_calli (va_runV (own := RL) (As := As) (rest := rest) ⟨hx, hb, hml, hown, hts⟩ hM (cwV As.length hts hG hw hrm.1 hrm.2 hd hR) ⟨PC.blind, va_recv hK.1 hW hc (wd_obj hk hi hc), PC.at hW hK⟩ rfl rfl hls rfl (lv_room hcat) hdg hcs) hS (fun q _ h => hA q h) (fun q h => hA q h) (fun r0 u t H1 locs1 ht hvm hw hB hz1 hk1 hS => ?_)
  have hw2 := hw
  rw [ht] at hB
  rw [hw2]
  exact kk H1 locs1 hB hS hk1
/-- .. long answer -/
theorem l_cVl (C0 : lw_At p s m meth c b L xs) {S : Sd} {cA : Nat → ClassId} {ad : Nat → Nat} {σ : St} (hK : Kn D cA S s) (hA : ∀ q, Aw ad S q → s.heap.size ≤ q) (hW : Wr D cA ad S σ H) (hS : va_S (fun q : Nat => s.heap.size ≤ q) s.heap H locs) {K : Nat} {C : String} {T : u_T} {N : Nat} (hk : S.2.1 0 = K) (hi : 0 < S.1) (hc : vwCl[K]? = some (C, T, N)) {As : List Value} {r : Int64 × St} {y : MethodName} {wsY ws' : List Cond} {rm : Room} {bytes : ByteArray} {maxL index : Nat} {rt : Option FieldType}
    (hM : Met l y wsY rm (PC D cA ad S (.ref (ad 0) :: As) σ) (Ql D cA ad S r) 0 0 (Aw ad S)) (hG : GoodIn wsL_law (wsV RL index C y wsY)) (hw : wsY = Cond.code y bytes maxL rt :: ws') (hrm : rm.cells = 0 ∧ rm.slots = 0) (hd : y.cls = C ∧ y.cls ≠ "java/lang/invoke/MethodHandle" ∧ y.cls ≠ "java/lang/invoke/VarHandle" ∧ (parseMethodDescriptor y.desc).map (fun d => d.parameters.length) = some As.length) (hR : rm.frames + 1 ≤ room_1.frames ∧ 8 + (maxL + 11) + rm.locals ≤ room_1.locals) (hcs : cells ≤ 601024 ∧ slots ≤ 7293034) (hst : st = As.reverse ++ .ref (ad 0) :: rest) (hcat : (rest.map fun v => v.category).sum ≤ 8) (hls : ls.size = 8) (hdg : decode cL_law pc = .ok (.invokevirtual index, 3))
    (kk : ∀ (H1 : Heap) (locs1 : List Loc), Wr D cA ad S r.2 H1 → va_S (fun q : Nat => s.heap.size ≤ q) s.heap H1 locs1 → (∀ q : Nat, q < H.size → ¬ Aw ad S q → H1[q]? = H[q]?) → W p l e room_1 s m #[Value.ref b] below meth c H1 locs1 cells slots Q (F0 m (pc + 3) ls (.long r.1 :: rest))) : W p l e room_1 s m #[Value.ref b] below meth c H locs cells slots Q (F0 m pc ls st) := by
  obtain ⟨hx, hb, hr, hml, hown, hts, hX, hbl, hlocks, hgv⟩ := C0
  subst hst
  have hts : ∀ w ∈ wsL_law, w.before #[Value.ref b] s = true := fun w h => hts w (wsL_law_in w h)
  refine va_calll (va_runV (own := RL) (As := As) (rest := rest) ⟨hx, hb, hml, hown, hts⟩ hM (cwV As.length hts hG hw hrm.1 hrm.2 hd hR) ⟨PC.blind, va_recv hK.1 hW hc (wd_obj hk hi hc), PC.at hW hK⟩ rfl rfl hls rfl (lv_room hcat) hdg hcs) hS (fun q _ h => hA q h) (fun q h => hA q h) (fun r0 u t H1 locs1 ht hvm hw hB hz1 hk1 hS => ?_)
  have hw2 := hw
  rw [ht] at hB
  rw [hw2]
  exact kk H1 locs1 hB hS hk1
theorem l_Ci (C0 : lw_At p s m meth c b L xs) (X : LX D cC cM cO aC aM o s) (hW : LW D cC cM cO aC aM o σc σm H) (hS : va_S (fun q : Nat => s.heap.size ≤ q) s.heap H locs) {As : List Value} {r : Int32 × St} {y : MethodName} {wsY ws' : List Cond} {rm : Room} {bytes : ByteArray} {maxL index : Nat} {rt : Option FieldType}
    (hM : Met l y wsY rm (PC D cC aC SC (.ref (aC 0) :: As) σc) (Qi D cC aC SC r) 0 0 (Aw aC SC)) (hG : GoodIn wsL_law (wsV RL index RX5 y wsY)) (hw : wsY = Cond.code y bytes maxL rt :: ws') (hrm : rm.cells = 0 ∧ rm.slots = 0) (hd : y.cls = RX5 ∧ y.cls ≠ "java/lang/invoke/MethodHandle" ∧ y.cls ≠ "java/lang/invoke/VarHandle" ∧ (parseMethodDescriptor y.desc).map (fun d => d.parameters.length) = some As.length) (hR : rm.frames + 1 ≤ room_1.frames ∧ 8 + (maxL + 11) + rm.locals ≤ room_1.locals) (hcs : cells ≤ 601024 ∧ slots ≤ 7293034) (hst : st = As.reverse ++ .ref (aC 0) :: rest) (hcat : (rest.map fun v => v.category).sum ≤ 8) (hls : ls.size = 8) (hdg : decode cL_law pc = .ok (.invokevirtual index, 3))
    (kk : ∀ (H1 : Heap) (locs1 : List Loc), LW D cC cM cO aC aM o r.2 σm H1 → va_S (fun q : Nat => s.heap.size ≤ q) s.heap H1 locs1 → W p l e room_1 s m #[Value.ref b] below meth c H1 locs1 cells slots Q (F0 m (pc + 3) ls (.int r.1 :: rest))) : W p l e room_1 s m #[Value.ref b] below meth c H locs cells slots Q (F0 m pc ls st) := by
  obtain ⟨k1, k2, j1, j2, a1, a2, d1, o1, o2, -⟩ := X
  obtain ⟨w1, w2, w3⟩ := hW
  exact l_cVi (K := 5) C0 k1 a1 w1 hS kC_0 iC_0 rfl hM hG hw hrm hd hR hcs hst hcat hls hdg (fun H1 locs1 w hS hk => kk H1 locs1 ⟨w, Wr.fr w2 j2 hk (fun q h1 h2 => d1 q h2 h1), w3.elim fun v h => ⟨v, OutAt.fr h (hk o h.lt o1)⟩⟩ hS)
theorem l_Cl (C0 : lw_At p s m meth c b L xs) (X : LX D cC cM cO aC aM o s) (hW : LW D cC cM cO aC aM o σc σm H) (hS : va_S (fun q : Nat => s.heap.size ≤ q) s.heap H locs) {As : List Value} {r : Int64 × St} {y : MethodName} {wsY ws' : List Cond} {rm : Room} {bytes : ByteArray} {maxL index : Nat} {rt : Option FieldType}
    (hM : Met l y wsY rm (PC D cC aC SC (.ref (aC 0) :: As) σc) (Ql D cC aC SC r) 0 0 (Aw aC SC)) (hG : GoodIn wsL_law (wsV RL index RX5 y wsY)) (hw : wsY = Cond.code y bytes maxL rt :: ws') (hrm : rm.cells = 0 ∧ rm.slots = 0) (hd : y.cls = RX5 ∧ y.cls ≠ "java/lang/invoke/MethodHandle" ∧ y.cls ≠ "java/lang/invoke/VarHandle" ∧ (parseMethodDescriptor y.desc).map (fun d => d.parameters.length) = some As.length) (hR : rm.frames + 1 ≤ room_1.frames ∧ 8 + (maxL + 11) + rm.locals ≤ room_1.locals) (hcs : cells ≤ 601024 ∧ slots ≤ 7293034) (hst : st = As.reverse ++ .ref (aC 0) :: rest) (hcat : (rest.map fun v => v.category).sum ≤ 8) (hls : ls.size = 8) (hdg : decode cL_law pc = .ok (.invokevirtual index, 3))
    (kk : ∀ (H1 : Heap) (locs1 : List Loc), LW D cC cM cO aC aM o r.2 σm H1 → va_S (fun q : Nat => s.heap.size ≤ q) s.heap H1 locs1 → W p l e room_1 s m #[Value.ref b] below meth c H1 locs1 cells slots Q (F0 m (pc + 3) ls (.long r.1 :: rest))) : W p l e room_1 s m #[Value.ref b] below meth c H locs cells slots Q (F0 m pc ls st) := by
  obtain ⟨k1, k2, j1, j2, a1, a2, d1, o1, o2, -⟩ := X
  obtain ⟨w1, w2, w3⟩ := hW
  exact l_cVl (K := 5) C0 k1 a1 w1 hS kC_0 iC_0 rfl hM hG hw hrm hd hR hcs hst hcat hls hdg (fun H1 locs1 w hS hk => kk H1 locs1 ⟨w, Wr.fr w2 j2 hk (fun q h1 h2 => d1 q h2 h1), w3.elim fun v h => ⟨v, OutAt.fr h (hk o h.lt o1)⟩⟩ hS)
theorem l_Mi (C0 : lw_At p s m meth c b L xs) (X : LX D cC cM cO aC aM o s) (hW : LW D cC cM cO aC aM o σc σm H) (hS : va_S (fun q : Nat => s.heap.size ≤ q) s.heap H locs) {As : List Value} {r : Int32 × St} {y : MethodName} {wsY ws' : List Cond} {rm : Room} {bytes : ByteArray} {maxL index : Nat} {rt : Option FieldType}
    (hM : Met l y wsY rm (PC D cM aM SM (.ref (aM 0) :: As) σm) (Qi D cM aM SM r) 0 0 (Aw aM SM)) (hG : GoodIn wsL_law (wsV RL index RX6 y wsY)) (hw : wsY = Cond.code y bytes maxL rt :: ws') (hrm : rm.cells = 0 ∧ rm.slots = 0) (hd : y.cls = RX6 ∧ y.cls ≠ "java/lang/invoke/MethodHandle" ∧ y.cls ≠ "java/lang/invoke/VarHandle" ∧ (parseMethodDescriptor y.desc).map (fun d => d.parameters.length) = some As.length) (hR : rm.frames + 1 ≤ room_1.frames ∧ 8 + (maxL + 11) + rm.locals ≤ room_1.locals) (hcs : cells ≤ 601024 ∧ slots ≤ 7293034) (hst : st = As.reverse ++ .ref (aM 0) :: rest) (hcat : (rest.map fun v => v.category).sum ≤ 8) (hls : ls.size = 8) (hdg : decode cL_law pc = .ok (.invokevirtual index, 3))
    (kk : ∀ (H1 : Heap) (locs1 : List Loc), LW D cC cM cO aC aM o σc r.2 H1 → va_S (fun q : Nat => s.heap.size ≤ q) s.heap H1 locs1 → W p l e room_1 s m #[Value.ref b] below meth c H1 locs1 cells slots Q (F0 m (pc + 3) ls (.int r.1 :: rest))) : W p l e room_1 s m #[Value.ref b] below meth c H locs cells slots Q (F0 m pc ls st) := by
  obtain ⟨k1, k2, j1, j2, a1, a2, d1, o1, o2, -⟩ := X
  obtain ⟨w1, w2, w3⟩ := hW
  exact l_cVi (K := 6) C0 k2 a2 w2 hS kM_0 iM_0 rfl hM hG hw hrm hd hR hcs hst hcat hls hdg (fun H1 locs1 w hS hk => kk H1 locs1 ⟨Wr.fr w1 j1 hk (fun q h1 h2 => d1 q h1 h2), w, w3.elim fun v h => ⟨v, OutAt.fr h (hk o h.lt o2)⟩⟩ hS)
theorem l_Ml (C0 : lw_At p s m meth c b L xs) (X : LX D cC cM cO aC aM o s) (hW : LW D cC cM cO aC aM o σc σm H) (hS : va_S (fun q : Nat => s.heap.size ≤ q) s.heap H locs) {As : List Value} {r : Int64 × St} {y : MethodName} {wsY ws' : List Cond} {rm : Room} {bytes : ByteArray} {maxL index : Nat} {rt : Option FieldType}
    (hM : Met l y wsY rm (PC D cM aM SM (.ref (aM 0) :: As) σm) (Ql D cM aM SM r) 0 0 (Aw aM SM)) (hG : GoodIn wsL_law (wsV RL index RX6 y wsY)) (hw : wsY = Cond.code y bytes maxL rt :: ws') (hrm : rm.cells = 0 ∧ rm.slots = 0) (hd : y.cls = RX6 ∧ y.cls ≠ "java/lang/invoke/MethodHandle" ∧ y.cls ≠ "java/lang/invoke/VarHandle" ∧ (parseMethodDescriptor y.desc).map (fun d => d.parameters.length) = some As.length) (hR : rm.frames + 1 ≤ room_1.frames ∧ 8 + (maxL + 11) + rm.locals ≤ room_1.locals) (hcs : cells ≤ 601024 ∧ slots ≤ 7293034) (hst : st = As.reverse ++ .ref (aM 0) :: rest) (hcat : (rest.map fun v => v.category).sum ≤ 8) (hls : ls.size = 8) (hdg : decode cL_law pc = .ok (.invokevirtual index, 3))
    (kk : ∀ (H1 : Heap) (locs1 : List Loc), LW D cC cM cO aC aM o σc r.2 H1 → va_S (fun q : Nat => s.heap.size ≤ q) s.heap H1 locs1 → W p l e room_1 s m #[Value.ref b] below meth c H1 locs1 cells slots Q (F0 m (pc + 3) ls (.long r.1 :: rest))) : W p l e room_1 s m #[Value.ref b] below meth c H locs cells slots Q (F0 m pc ls st) := by
  obtain ⟨k1, k2, j1, j2, a1, a2, d1, o1, o2, -⟩ := X
  obtain ⟨w1, w2, w3⟩ := hW
  exact l_cVl (K := 6) C0 k2 a2 w2 hS kM_0 iM_0 rfl hM hG hw hrm hd hR hcs hst hcat hls hdg (fun H1 locs1 w hS hk => kk H1 locs1 ⟨Wr.fr w1 j1 hk (fun q h1 h2 => d1 q h1 h2), w, w3.elim fun v h => ⟨v, OutAt.fr h (hk o h.lt o2)⟩⟩ hS)
end LAW
