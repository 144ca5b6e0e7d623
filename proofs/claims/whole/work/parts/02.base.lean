/-! THE STORE: the cells of one side (the class, or the reference) by numbers 0 .. N-1; a cell holds whole numbers and longs; its references are told by the layout alone. -/
abbrev St : Type := (Nat → Nat → Int32) × (Nat → Nat → Int64)
def uI (σ : St) (i k : Nat) (v : Int32) : St := (fun a b => if a = i ∧ b = k then v else σ.1 a b, σ.2)
def uL (σ : St) (i k : Nat) (v : Int64) : St := (σ.1, fun a b => if a = i ∧ b = k then v else σ.2 a b)
def cpI (σ : St) (i : Nat) (sp : Int32) (j : Nat) (dp n : Int32) : St := (fun a b => if a = j then va_cpy (σ.1 i) (σ.1 j) sp.toNatClampNeg dp.toNatClampNeg n.toNatClampNeg b else σ.1 a b, σ.2)
abbrev Sd : Type := Nat × (Nat → Nat) × (Nat → Nat)
def chk {β : Type} (b : Bool) (k : Option β) : Option β := if b = true then k else none
def nw {α β : Type} (a : α) (k : α → Option β) : Option β := k a
def bnd {α β : Type} (a : Option α) (k : α → Option β) : Option β := match a with
  | none => none
  | some x => k x
theorem chk_e {β : Type} {b : Bool} {k : Option β} {r : β} (h : chk b k = some r) : b = true ∧ k = some r := by
  unfold chk at h
  split at h
  · exact ⟨by assumption, h⟩
  · cases h
theorem nw_e {α β : Type} {a : α} {k : α → Option β} {r : β} (h : nw a k = some r) : ∃ x, x = a ∧ k x = some r := ⟨a, rfl, h⟩
theorem bnd_e {α β : Type} {a : Option α} {k : α → Option β} {r : β} (h : bnd a k = some r) : ∃ x, a = some x ∧ k x = some r := by
  cases a with
  | none => cases h
  | some x => exact ⟨x, rfl, h⟩
theorem it_e {β : Type} {c : Prop} {d : Decidable c} {a b r : β} (h : (if c then a else b) = r) (q : c) : a = r := (if_pos q).symm.trans h
theorem ie_e {β : Type} {c : Prop} {d : Decidable c} {a b r : β} (h : (if c then a else b) = r) (q : ¬ c) : b = r := (if_neg q).symm.trans h
def inb (i : Int32) (n : Nat) : Bool := decide (0 ≤ i.toInt) && decide (i.toInt < n)
theorem inb_e {i : Int32} {n : Nat} (h : inb i n = true) : vp_in i n := by
  rw [vp_in_iff]
  simpa [inb] using h
def b01 (v : Int32) : Bool := v == 0 || v == 1
theorem b01_e {v : Int32} (h : b01 v = true) : narrow .boolean (.int v) = .int v ∧ fits .boolean (.int v) = true := by
  have h2 : v = 0 ∨ v = 1 := by simpa [b01] using h
  rcases h2 with rfl | rfl <;> exact ⟨by decide +kernel, by decide +kernel⟩
def nz (v : Int32) : Bool := !(v == 0)
theorem nz_e {v : Int32} (h : nz v = true) : ¬ v = 0 := by simpa [nz] using h
def nzl (v : Int64) : Bool := !(v == 0)
theorem nzl_e {v : Int64} (h : nzl v = true) : ¬ v = 0 := by simpa [nzl] using h
def cpk (sp dp n : Int32) (n0 n1 : Nat) : Bool := (decide (0 ≤ sp) && decide (0 ≤ dp) && decide (0 ≤ n)) && (decide (sp.toNatClampNeg + n.toNatClampNeg ≤ n0) && decide (dp.toNatClampNeg + n.toNatClampNeg ≤ n1))
/-- a cell of a kind; a row of a kind and a length -/
def kOK (S : Sd) (i K : Nat) : Bool := decide (i < S.1) && (S.2.1 i == K)
def aOK (S : Sd) (i K n : Nat) : Bool := decide (i < S.1) && (S.2.1 i == K && S.2.2 i == n)
theorem kOK_e {S : Sd} {i K : Nat} (h : kOK S i K = true) : i < S.1 ∧ S.2.1 i = K := by simpa [kOK] using h
theorem aOK_e {S : Sd} {i K n : Nat} (h : aOK S i K n = true) : i < S.1 ∧ S.2.1 i = K ∧ S.2.2 i = n := by simpa [aOK] using h
/-- what an object of class K at the number i holds -/
def fl (ad : Nat → Nat) (K i : Nat) (I : Nat → Int32) (L : Nat → Int64) : List Value := match K with
  | 0 => [.ref (ad (i + 1)), .long (L 1), .int (I 2)]
  | 1 => [.ref (ad (i + 1)), .int (I 1)]
  | 2 => [.ref (ad (i + 1)), .ref (ad (i + 14)), .int (I 2), .int (I 3), .int (I 4), .int (I 5), .int (I 6)]
  | 3 => [.ref (ad (i + 1)), .ref (ad (i + 3)), .ref (ad (i + 4))]
  | 4 => [.int (I 0), .int (I 1), .int (I 2), .int (I 3), .int (I 4), .ref (ad (i + 1))]
  | 5 => [.ref (ad (i + 1)), .ref (ad (i + 33)), .ref (ad (i + 65)), .int (I 3), .ref (ad (i + 97)), .ref (ad (i + 122)), .ref (ad (i + 124)), .ref (ad (i + 125))]
  | _ => [.int (I 0), .ref (ad (i + 1)), .ref (ad (i + 2)), .ref (ad (i + 3)), .ref (ad (i + 4)), .int (I 5), .int (I 6), .int (I 7), .ref (ad (i + 5)), .ref (ad (i + 6)), .ref (ad (i + 7)), .ref (ad (i + 8)), .int (I 12), .ref (ad (i + 9)), .ref (ad (i + 10)), .ref (ad (i + 11)), .ref (ad (i + 12)), .int (I 17), .int (I 18), .int (I 19), .int (I 20), .int (I 21), .ref (ad (i + 13)), .ref (ad (i + 14)), .ref (ad (i + 15)), .int (I 25), .ref (ad (i + 16)), .ref (ad (i + 17)), .ref (ad (i + 18)), .ref (ad (i + 19)), .ref (ad (i + 20)), .ref (ad (i + 21)), .ref (ad (i + 22))]
def stR (K : Nat) : Nat := if K = 22 then 5 else 2
def ent (ad : Nat → Nat) (cA : Nat → ClassId) (S : Sd) (σ : St) (i : Nat) : va_E :=
  if S.2.1 i < 20 then .inr (S.2.1 i, fl ad (S.2.1 i) i (σ.1 i) (σ.2 i))
  else if S.2.1 i = 20 then .inl (cA i, S.2.2 i, .inl (σ.1 i))
  else if S.2.1 i = 21 then .inl (cA i, S.2.2 i, .inr (.inl (σ.2 i)))
  else .inl (cA i, S.2.2 i, .inr (.inr (.inr (.inr (fun j => some (ad (i + 1 + stR (S.2.1 i) * j)))))))
def wd (ad : Nat → Nat) (cA : Nat → ClassId) (S : Sd) (σ : St) : va_W := (List.range S.1).map (fun i => (ad i, ent ad cA S σ i))
def kdC : Nat → Nat := fun i => ([5, 1, 22, 3, 0, 21, 20, 20, 3, 0, 21, 20, 20, 3, 0, 21, 20, 20, 3, 0, 21, 20, 20, 3, 0, 21, 20, 20, 3, 0, 21, 20, 20, 1, 22, 3, 0, 21, 20, 20, 3, 0, 21, 20, 20, 3, 0, 21, 20, 20, 3, 0, 21, 20, 20, 3, 0, 21, 20, 20, 3, 0, 21, 20, 20, 1, 22, 3, 0, 21, 20, 20, 3, 0, 21, 20, 20, 3, 0, 21, 20, 20, 3, 0, 21, 20, 20, 3, 0, 21, 20, 20, 3, 0, 21, 20, 20, 2, 23, 0, 21, 0, 21, 0, 21, 0, 21, 0, 21, 0, 21, 23, 0, 21, 0, 21, 0, 21, 0, 21, 0, 21, 0, 21, 20, 24, 4, 20, 4, 20, 4, 20, 4, 20, 4, 20, 4, 20, 4, 20, 4, 20] : List Nat).getD i 99
def lnC : Nat → Nat := fun i => ([0, 0, 6, 0, 0, 4, 12, 12, 0, 0, 4, 12, 12, 0, 0, 4, 12, 12, 0, 0, 4, 12, 12, 0, 0, 4, 12, 12, 0, 0, 4, 12, 12, 0, 6, 0, 0, 4, 12, 12, 0, 0, 4, 12, 12, 0, 0, 4, 12, 12, 0, 0, 4, 12, 12, 0, 0, 4, 12, 12, 0, 0, 4, 12, 12, 0, 6, 0, 0, 4, 12, 12, 0, 0, 4, 12, 12, 0, 0, 4, 12, 12, 0, 0, 4, 12, 12, 0, 0, 4, 12, 12, 0, 0, 4, 12, 12, 0, 6, 0, 4, 0, 4, 0, 4, 0, 4, 0, 4, 0, 4, 5, 0, 4, 0, 4, 0, 4, 0, 4, 0, 4, 0, 4, 6, 8, 0, 100, 0, 100, 0, 100, 0, 100, 0, 100, 0, 100, 0, 100, 0, 100] : List Nat).getD i 0
def SC : Sd := (142, kdC, lnC)
def kdM : Nat → Nat := fun i => ([6, 21, 20, 20, 20, 21, 20, 20, 20, 21, 20, 20, 20, 20, 20, 20, 20, 20, 20, 20, 20, 21, 21] : List Nat).getD i 99
def lnM : Nat → Nat := fun i => ([0, 28, 7, 84, 84, 28, 7, 84, 84, 28, 7, 84, 84, 51, 51, 153, 8, 8, 8, 8, 8, 800, 100] : List Nat).getD i 0
def SM : Sd := (23, kdM, lnM)
def tyK (K : Nat) : FieldType := match K with
  | 20 => .int
  | 21 => .long
  | 22 => .object "ThirdOfTheLast$Pot"
  | 23 => .object "ThirdOfTheLast$Flavour"
  | _ => .object "ThirdOfTheLast$Shelf"
def nestW : List Cond := [.methodLinkNest "ThirdOfTheLast$Kitchen" 17 ⟨"ThirdOfTheLast$Pot", "<init>", "()V"⟩ "ThirdOfTheLast", .methodLinkNest "ThirdOfTheLast$Pot" 11 ⟨"ThirdOfTheLast$Flavour", "<init>", "()V"⟩ "ThirdOfTheLast", .methodLinkNest "ThirdOfTheLast$Mind" 20 ⟨"ThirdOfTheLast$Flavour", "<init>", "()V"⟩ "ThirdOfTheLast", .methodLinkNest "ThirdOfTheLast" 31 ⟨"ThirdOfTheLast$Flavour", "<init>", "()V"⟩ "ThirdOfTheLast", .methodLinkNest "ThirdOfTheLast" 46 ⟨"ThirdOfTheLast$Shelf", "<init>", "()V"⟩ "ThirdOfTheLast", .methodLinkNest "ThirdOfTheLast$Kitchen" 48 ⟨"ThirdOfTheLast", "isNoFigure", "(I)Z"⟩ "ThirdOfTheLast", .methodLinkNest "ThirdOfTheLast$Kitchen" 71 ⟨"ThirdOfTheLast", "isNoKind", "(I)Z"⟩ "ThirdOfTheLast", .methodLinkNest "ThirdOfTheLast$Flavour" 23 ⟨"ThirdOfTheLast", "keepsOf", "(I)I"⟩ "ThirdOfTheLast", .methodLinkNest "ThirdOfTheLast$Flavour" 29 ⟨"ThirdOfTheLast", "ownOf", "(III)I"⟩ "ThirdOfTheLast", .methodLinkNest "ThirdOfTheLast$Pot" 51 ⟨"ThirdOfTheLast", "keepsOf", "(I)I"⟩ "ThirdOfTheLast", .methodLinkNest "ThirdOfTheLast$Shelf" 39 ⟨"ThirdOfTheLast", "isNoKind", "(I)Z"⟩ "ThirdOfTheLast", .methodLinkNest "ThirdOfTheLast$Shelf" 42 ⟨"ThirdOfTheLast", "isNoFigure", "(I)Z"⟩ "ThirdOfTheLast", .methodLinkNest "ThirdOfTheLast$Flavour" 33 ⟨"ThirdOfTheLast", "kindIn", "(II)I"⟩ "ThirdOfTheLast"]
def NW (U : State) : Prop := ∀ w ∈ nestW, va_Nw w U
theorem nest_form : ∀ w ∈ nestW, ∃ (a : String) (i : Nat) (x : MethodName) (h : String), w = .methodLinkNest a i x h := by
  intro w hw
  simp only [nestW, List.mem_cons, List.not_mem_nil, or_false] at hw
  rcases hw with rfl | rfl | rfl | rfl | rfl | rfl | rfl | rfl | rfl | rfl | rfl | rfl | rfl <;> exact ⟨_, _, _, _, rfl⟩
theorem NW.warm {s U : State} (hW : s.WarmedH U.vm) (h : NW s) : NW U := by
  intro w hw
  obtain ⟨a, i, x, hh, rfl⟩ := nest_form w hw
  exact va_Nw.warmM hW (h _ hw)
theorem NW.same {u U : State} (hv : u.vm = U.vm) (h : NW u) : NW U := by
  intro w hw
  obtain ⟨a, i, x, hh, rfl⟩ := nest_form w hw
  exact va_Nw.same rfl hv (h _ hw)
def Kn (D : va_G) (cA : Nat → ClassId) (S : Sd) (U : State) : Prop := va_K D vwCl [] U ∧ (∀ i, i < S.1 → 20 ≤ S.2.1 i → va_K D vwCl [(cA i, tyK (S.2.1 i))] U) ∧ NW U
theorem Kn.warm {D : va_G} {cA : Nat → ClassId} {S : Sd} {s U : State} (hW : s.WarmedH U.vm) (h : Kn D cA S s) : Kn D cA S U := ⟨va_K.moved hW.alike h.1, fun i h1 h2 => va_K.moved hW.alike (h.2.1 i h1 h2), NW.warm hW h.2.2⟩
theorem Kn.call {D : va_G} {cA : Nat → ClassId} {S : Sd} {U : State} {g : JFrame} {mk : MethodId} {a : Array Value} (h : Kn D cA S U) : Kn D cA S (U.calling g mk a) := ⟨va_K.moved (u := U) (U := U.calling g mk a) (Vm.Alike.refl U.vm) h.1, fun i h1 h2 => va_K.moved (u := U) (U := U.calling g mk a) (Vm.Alike.refl U.vm) (h.2.1 i h1 h2), NW.same (u := U) (U := U.calling g mk a) rfl h.2.2⟩
def Wr (D : va_G) (cA : Nat → ClassId) (ad : Nat → Nat) (S : Sd) (σ : St) (H : Heap) : Prop := va_P D vwCl (wd ad cA S σ) H
def Aw (ad : Nat → Nat) (S : Sd) : Nat → Prop := fun q => ∃ i, i < S.1 ∧ q = ad i
def Ij (ad : Nat → Nat) (S : Sd) : Prop := ∀ i j, i < S.1 → j < S.1 → ad i = ad j → i = j
def Rn (D : va_G) (cA : Nat → ClassId) (ad : Nat → Nat) (S : Sd) (H0 : Heap) (σ : St) (H : Heap) (locs : List Loc) : Prop := Wr D cA ad S σ H ∧ va_S (Aw ad S) H0 H locs
def Cx (own : String) (ws : List Cond) (cc : ByteArray) (nL : Nat) (ret : Option FieldType) (D : va_G) (cA : Nat → ClassId) (ad : Nat → Nat) (S : Sd) (p : Program) (s : State) (m : MethodId) (args : Array Value) (meth : Method) (c : Code) : Prop :=
  p.tables.exec = Jvm.exec ∧ c.code = cc ∧ c.maxLocals = nL ∧ s.vm.findClass own = some m.cls ∧ (∀ w ∈ ws, w.before args s = true) ∧ meth.sig.returnType = ret ∧ meth.locks = false ∧ Kn D cA S s ∧ Ij ad S
def PC (D : va_G) (cA : Nat → ClassId) (ad : Nat → Nat) (S : Sd) (As : List Value) (σ : St) : Array Value → State → Prop := va_Pc As (fun U => Wr D cA ad S σ U.heap ∧ Kn D cA S U)
def Qi (D : va_G) (cA : Nat → ClassId) (ad : Nat → Nat) (S : Sd) (r : Int32 × St) : Array Value → State → Outcome → State → Prop := va_Qi (fun (v : Int32) (_ : Unit) => v = r.1) (fun _ t => Wr D cA ad S r.2 t.heap) (Aw ad S)
def Ql (D : va_G) (cA : Nat → ClassId) (ad : Nat → Nat) (S : Sd) (r : Int64 × St) : Array Value → State → Outcome → State → Prop := va_Ql (fun (v : Int64) (_ : Unit) => v = r.1) (fun _ t => Wr D cA ad S r.2 t.heap) (Aw ad S)
def Qv (D : va_G) (cA : Nat → ClassId) (ad : Nat → Nat) (S : Sd) (r : St) : Array Value → State → Outcome → State → Prop := va_Qv (fun (_ : Unit) => True) (fun _ t => Wr D cA ad S r t.heap) (Aw ad S)
theorem PC.blind {D : va_G} {cA : Nat → ClassId} {ad : Nat → Nat} {S : Sd} {As : List Value} {σ : St} : FrameBlind (PC D cA ad S As σ) := fun a U g mk q => by
  obtain ⟨q0, q1, q2⟩ := q
  exact ⟨q0, q1, Kn.call q2⟩
theorem wd_at {ad : Nat → Nat} {cA : Nat → ClassId} {S : Sd} {σ : St} {i : Nat} (hi : i < S.1) : (wd ad cA S σ)[i]? = some (ad i, ent ad cA S σ i) := by simp [wd, hi]
theorem wd_set {ad : Nat → Nat} {cA : Nat → ClassId} {S : Sd} {σ σ' : St} {i : Nat} {e : va_E} (hi : i < S.1) (he : e = ent ad cA S σ' i) (h : ∀ j, j ≠ i → ent ad cA S σ' j = ent ad cA S σ j) : (wd ad cA S σ).set i (ad i, e) = wd ad cA S σ' := by
  subst he
  apply List.ext_getElem?
  intro j
  rw [List.getElem?_set]
  by_cases hj : i = j
  · subst hj
    simp [wd, hi]
  · rw [if_neg hj]
    by_cases hl : j < S.1
    · rw [wd_at hl, wd_at hl, h j (fun q => hj q.symm)]
    · simp [wd, hl]
theorem ent_uI {ad : Nat → Nat} {cA : Nat → ClassId} {S : Sd} {σ : St} {i k : Nat} {v : Int32} : ∀ j, j ≠ i → ent ad cA S (uI σ i k v) j = ent ad cA S σ j := by
  intro j hj
  have h1 : (uI σ i k v).1 j = σ.1 j := by funext b; simp [uI, hj]
  have h2 : (uI σ i k v).2 j = σ.2 j := rfl
  simp only [ent, h1, h2]
theorem ent_uL {ad : Nat → Nat} {cA : Nat → ClassId} {S : Sd} {σ : St} {i k : Nat} {v : Int64} : ∀ j, j ≠ i → ent ad cA S (uL σ i k v) j = ent ad cA S σ j := by
  intro j hj
  have h1 : (uL σ i k v).1 j = σ.1 j := rfl
  have h2 : (uL σ i k v).2 j = σ.2 j := by funext b; simp [uL, hj]
  simp only [ent, h1, h2]
theorem ent_cp {ad : Nat → Nat} {cA : Nat → ClassId} {S : Sd} {σ : St} {i d : Nat} {sp dp n : Int32} : ∀ j, j ≠ d → ent ad cA S (cpI σ i sp d dp n) j = ent ad cA S σ j := by
  intro j hj
  have h1 : (cpI σ i sp d dp n).1 j = σ.1 j := by funext b; simp [cpI, hj]
  have h2 : (cpI σ i sp d dp n).2 j = σ.2 j := rfl
  simp only [ent, h1, h2]
theorem ent_obj {ad : Nat → Nat} {cA : Nat → ClassId} {S : Sd} {σ : St} {i K : Nat} (hk : S.2.1 i = K) (h : K < 20) : ent ad cA S σ i = .inr (K, fl ad K i (σ.1 i) (σ.2 i)) := by
  subst hk
  simp only [ent, if_pos h]
theorem ent_int {ad : Nat → Nat} {cA : Nat → ClassId} {S : Sd} {σ : St} {i n : Nat} (hk : S.2.1 i = 20) (hn : S.2.2 i = n) : ent ad cA S σ i = .inl (cA i, n, .inl (σ.1 i)) := by
  subst hn
  simp [ent, hk]
theorem ent_long {ad : Nat → Nat} {cA : Nat → ClassId} {S : Sd} {σ : St} {i n : Nat} (hk : S.2.1 i = 21) (hn : S.2.2 i = n) : ent ad cA S σ i = .inl (cA i, n, .inr (.inl (σ.2 i))) := by
  subst hn
  simp [ent, hk]
theorem ent_ref {ad : Nat → Nat} {cA : Nat → ClassId} {S : Sd} {σ : St} {i K n : Nat} (hk : S.2.1 i = K) (h : 22 ≤ K) (hn : S.2.2 i = n) : ent ad cA S σ i = .inl (cA i, n, .inr (.inr (.inr (.inr (fun j => some (ad (i + 1 + stR K * j))))))) := by
  subst hn
  subst hk
  have h1 : ¬ S.2.1 i < 20 := by omega
  have h2 : ¬ S.2.1 i = 20 := by omega
  have h3 : ¬ S.2.1 i = 21 := by omega
  simp only [ent, if_neg h1, if_neg h2, if_neg h3]
theorem wd_D {ad : Nat → Nat} {cA : Nat → ClassId} {S : Sd} {σ : St} (h : Ij ad S) : va_D (Aw ad S) (wd ad cA S σ) := by
  have key : ∀ (k : Nat) (q : Nat × va_E), (wd ad cA S σ)[k]? = some q → k < S.1 ∧ q.1 = ad k := by
    intro k q hk
    by_cases hl : k < S.1
    · rw [wd_at hl] at hk
      cases hk
      exact ⟨hl, rfl⟩
    · simp [wd, hl] at hk
  refine ⟨fun i j p q hi hj e => ?_, fun k q hk => ⟨k, (key k q hk).1, (key k q hk).2⟩⟩
  obtain ⟨h1, h2⟩ := key i p hi
  obtain ⟨h3, h4⟩ := key j q hj
  exact h i j h1 h3 (by rw [← h2, ← h4]; exact e)
theorem ty0_at {D : va_G} {cA : Nat → ClassId} {S : Sd} {s : State} (hK : Kn D cA S s) {i K : Nat} (hk : S.2.1 i = K) (hi : i < S.1) (h : 20 ≤ K) : va_K D vwCl [(cA i, tyK K)] s := by
  subst hk
  exact hK.2.1 i hi h
section ROWS
variable {p : Program} {l : Launch} {e : Env} {R : Room} {s : State} {m : MethodId} {args : Array Value} {below : List Frame} {meth : Method} {c : Code} {H : Heap} {locs : List Loc} {Q : State → Prop}
variable {own : String} {ws : List Cond} {cc : ByteArray} {nL : Nat} {ret : Option FieldType} {D : va_G} {cA : Nat → ClassId} {ad : Nat → Nat} {S : Sd} {σ σ' : St} {pc : Nat} {ls : Array Slot} {rest st : List Value} {i K k index n : Nat}
theorem tI (x : Int32) {v : Int32} (h : v = x) (k : W p l e R s m args below meth c H locs 0 0 Q (F0 m pc ls (.int v :: rest))) : W p l e R s m args below meth c H locs 0 0 Q (F0 m pc ls (.int x :: rest)) := h ▸ k
theorem tL (x : Int64) {v : Int64} (h : v = x) (k : W p l e R s m args below meth c H locs 0 0 Q (F0 m pc ls (.long v :: rest))) : W p l e R s m args below meth c H locs 0 0 Q (F0 m pc ls (.long x :: rest)) := h ▸ k
theorem tR (x : Nat) {v : Nat} (h : v = x) (k : W p l e R s m args below meth c H locs 0 0 Q (F0 m pc ls (.ref (ad v) :: rest))) : W p l e R s m args below meth c H locs 0 0 Q (F0 m pc ls (.ref (ad x) :: rest)) := h ▸ k
theorem wd_obj (hk : S.2.1 i = K) (hi : i < S.1) {C : String} {T : u_T} {N : Nat} (hc : vwCl[K]? = some (C, T, N)) : (wd ad cA S σ)[i]? = some (ad i, .inr (K, fl ad K i (σ.1 i) (σ.2 i))) := by
  have hK : K < 7 := (List.getElem?_eq_some_iff.mp hc).1
  rw [wd_at hi, ent_obj hk (by omega)]
theorem r_get (X : Cx own ws cc nL ret D cA ad S p s m args meth c) (hW : Rn D cA ad S s.heap σ H locs) {C : String} {T : u_T} {N : Nat} (hk : S.2.1 i = K) (hi : i < S.1) (hc : vwCl[K]? = some (C, T, N)) (hin : ∀ w ∈ u_ws C T N, w ∈ ws) (hkN : k < N) (hl : Cond.fieldLink own index (T k).1 (T k).2.1 (T k).2.2.1 ∈ ws) {v : Value} (hv : (fl ad K i (σ.1 i) (σ.2 i))[k]? = some v) (hdg : decode cc pc = .ok (.getfield index, 3))
    (kk : W p l e R s m args below meth c H locs 0 0 Q (F0 m (pc + 3) ls (v :: rest))) : W p l e R s m args below meth c H locs 0 0 Q (F0 m pc ls (.ref (ad i) :: rest)) := by
  obtain ⟨hx, hb, hml, hown, hts, hr, hlk, hK, hij⟩ := X
  exact va_get hx hb hts hin hown hK.1 hW.1 i (wd_obj hk hi hc) hc k hkN (hts _ hl) (fun _ h => h) hv hdg kk
theorem r_putI (X : Cx own ws cc nL ret D cA ad S p s m args meth c) (hW : Rn D cA ad S s.heap σ H locs) {C : String} {T : u_T} {N : Nat} (hk : S.2.1 i = K) (hi : i < S.1) (hc : vwCl[K]? = some (C, T, N)) (hin : ∀ w ∈ u_ws C T N, w ∈ ws) (ty0 : Nat → FieldType) (hty : ∀ k, k < N → parseFieldDescriptor (T k).2.2.1 = some (ty0 k)) (hnm : ∀ a, a < N → ∀ b, b < N → a ≠ b → (T a).2.1 ≠ (T b).2.1) (hkN : k < N) (hl : Cond.fieldLink own index (T k).1 (T k).2.1 (T k).2.2.1 ∈ ws) (hfin : (T k).2.2.2 = false) {ty : FieldType} {v : Int32} (hd : parseFieldDescriptor (T k).2.2.1 = some ty) (hn : narrow ty (.int v) = .int v) (hfit : fits ty (.int v) = true) (hlen : k < (fl ad K i (σ.1 i) (σ.2 i)).length)
    (hs : (fl ad K i (σ.1 i) (σ.2 i)).set k (.int v) = fl ad K i (fun b => if b = k then v else σ.1 i b) (σ.2 i)) (he : σ' = uI σ i k v) (hdg : decode cc pc = .ok (.putfield index, 3))
    (kk : ∀ (H : Heap) (locs : List Loc), Rn D cA ad S s.heap σ' H locs → W p l e R s m args below meth c H locs 0 0 Q (F0 m (pc + 3) ls rest)) : W p l e R s m args below meth c H locs 0 0 Q (F0 m pc ls (.int v :: .ref (ad i) :: rest)) := by
  obtain ⟨hx, hb, hml, hown, hts, hr, hlk, hK, hij⟩ := X
  have hK7 : K < 7 := (List.getElem?_eq_some_iff.mp hc).1
  refine va_put hx hb hts hin ty0 hty hnm hown hK.1 hW.1 (wd_D hij) hW.2 i (wd_obj hk hi hc) hc k hkN (hts _ hl) (fun _ h => h) hfin hd hn hfit hlen hdg (fun H1 locs1 hP _ hS => kk H1 locs1 ⟨?_, hS⟩)
  subst he
  rw [wd_set (σ' := uI σ i k v) hi ?_ ent_uI] at hP
  · exact hP
  · rw [ent_obj hk (by omega), hs]
    have h1 : (uI σ i k v).1 i = fun b => if b = k then v else σ.1 i b := by funext b; simp [uI]
    have h2 : (uI σ i k v).2 i = σ.2 i := rfl
    rw [h1, h2]
theorem r_putL (X : Cx own ws cc nL ret D cA ad S p s m args meth c) (hW : Rn D cA ad S s.heap σ H locs) {C : String} {T : u_T} {N : Nat} (hk : S.2.1 i = K) (hi : i < S.1) (hc : vwCl[K]? = some (C, T, N)) (hin : ∀ w ∈ u_ws C T N, w ∈ ws) (ty0 : Nat → FieldType) (hty : ∀ k, k < N → parseFieldDescriptor (T k).2.2.1 = some (ty0 k)) (hnm : ∀ a, a < N → ∀ b, b < N → a ≠ b → (T a).2.1 ≠ (T b).2.1) (hkN : k < N) (hl : Cond.fieldLink own index (T k).1 (T k).2.1 (T k).2.2.1 ∈ ws) (hfin : (T k).2.2.2 = false) {ty : FieldType} {v : Int64} (hd : parseFieldDescriptor (T k).2.2.1 = some ty) (hn : narrow ty (.long v) = .long v) (hfit : fits ty (.long v) = true) (hlen : k < (fl ad K i (σ.1 i) (σ.2 i)).length)
    (hs : (fl ad K i (σ.1 i) (σ.2 i)).set k (.long v) = fl ad K i (σ.1 i) (fun b => if b = k then v else σ.2 i b)) (he : σ' = uL σ i k v) (hdg : decode cc pc = .ok (.putfield index, 3))
    (kk : ∀ (H : Heap) (locs : List Loc), Rn D cA ad S s.heap σ' H locs → W p l e R s m args below meth c H locs 0 0 Q (F0 m (pc + 3) ls rest)) : W p l e R s m args below meth c H locs 0 0 Q (F0 m pc ls (.long v :: .ref (ad i) :: rest)) := by
  obtain ⟨hx, hb, hml, hown, hts, hr, hlk, hK, hij⟩ := X
  have hK7 : K < 7 := (List.getElem?_eq_some_iff.mp hc).1
  refine va_put hx hb hts hin ty0 hty hnm hown hK.1 hW.1 (wd_D hij) hW.2 i (wd_obj hk hi hc) hc k hkN (hts _ hl) (fun _ h => h) hfin hd hn hfit hlen hdg (fun H1 locs1 hP _ hS => kk H1 locs1 ⟨?_, hS⟩)
  subst he
  rw [wd_set (σ' := uL σ i k v) hi ?_ ent_uL] at hP
  · exact hP
  · rw [ent_obj hk (by omega), hs]
    have h1 : (uL σ i k v).2 i = fun b => if b = k then v else σ.2 i b := by funext b; simp [uL]
    have h2 : (uL σ i k v).1 i = σ.1 i := rfl
    rw [h1, h2]
theorem r_iald (X : Cx own ws cc nL ret D cA ad S p s m args meth c) (hW : Rn D cA ad S s.heap σ H locs) {x : Int32} (hk : S.2.1 i = 20) (hi : i < S.1) (hn : S.2.2 i = n) (hin : inb x n = true) (hdg : decode cc pc = .ok (.iaload, 1))
    (kk : W p l e R s m args below meth c H locs 0 0 Q (F0 m (pc + 1) ls (.int (σ.1 i x.toNatClampNeg) :: rest))) : W p l e R s m args below meth c H locs 0 0 Q (F0 m pc ls (.int x :: .ref (ad i) :: rest)) := by
  obtain ⟨hx, hb, hml, hown, hts, hr, hlk, hK, hij⟩ := X
  exact va_iald hx hb (ty0_at hK hk hi (Nat.le_refl 20)) hW.1 i 0 (by rw [wd_at hi, ent_int hk hn]) rfl (inb_e hin) hdg kk
theorem r_lald (X : Cx own ws cc nL ret D cA ad S p s m args meth c) (hW : Rn D cA ad S s.heap σ H locs) {x : Int32} (hk : S.2.1 i = 21) (hi : i < S.1) (hn : S.2.2 i = n) (hin : inb x n = true) (hdg : decode cc pc = .ok (.laload, 1))
    (kk : W p l e R s m args below meth c H locs 0 0 Q (F0 m (pc + 1) ls (.long (σ.2 i x.toNatClampNeg) :: rest))) : W p l e R s m args below meth c H locs 0 0 Q (F0 m pc ls (.int x :: .ref (ad i) :: rest)) := by
  obtain ⟨hx, hb, hml, hown, hts, hr, hlk, hK, hij⟩ := X
  exact va_lald hx hb (ty0_at hK hk hi (by decide)) hW.1 i 0 (by rw [wd_at hi, ent_long hk hn]) rfl (inb_e hin) hdg kk
theorem r_aald (X : Cx own ws cc nL ret D cA ad S p s m args meth c) (hW : Rn D cA ad S s.heap σ H locs) {x : Int32} {C : String} {j : Nat} (hk : S.2.1 i = K) (hi : i < S.1) (hn : S.2.2 i = n) (hK2 : 22 ≤ K) (hC : tyK K = .object C) (hin : inb x n = true) (hj : i + 1 + stR K * x.toNatClampNeg = j) (hdg : decode cc pc = .ok (.aaload, 1))
    (kk : W p l e R s m args below meth c H locs 0 0 Q (F0 m (pc + 1) ls (.ref (ad j) :: rest))) : W p l e R s m args below meth c H locs 0 0 Q (F0 m pc ls (.int x :: .ref (ad i) :: rest)) := by
  obtain ⟨hx, hb, hml, hown, hts, hr, hlk, hK, hij⟩ := X
  subst hj
  exact va_aldq hx hb (C := C) (f := fun j => some (ad (i + 1 + stR K * j))) (ty0_at hK hk hi (by omega)) hW.1 i 0 (by rw [wd_at hi, ent_ref hk hK2 hn]) (by rw [hC]; rfl) (inb_e hin) hdg kk
theorem r_iast (X : Cx own ws cc nL ret D cA ad S p s m args meth c) (hW : Rn D cA ad S s.heap σ H locs) {x v : Int32} (hk : S.2.1 i = 20) (hi : i < S.1) (hn : S.2.2 i = n) (hin : inb x n = true) (he : σ' = uI σ i x.toNatClampNeg v) (hdg : decode cc pc = .ok (.iastore, 1))
    (kk : ∀ (H : Heap) (locs : List Loc), Rn D cA ad S s.heap σ' H locs → W p l e R s m args below meth c H locs 0 0 Q (F0 m (pc + 1) ls rest)) : W p l e R s m args below meth c H locs 0 0 Q (F0 m pc ls (.int v :: .int x :: .ref (ad i) :: rest)) := by
  obtain ⟨hx, hb, hml, hown, hts, hr, hlk, hK, hij⟩ := X
  refine va_iast hx hb (ty0_at hK hk hi (Nat.le_refl 20)) hW.1 (wd_D hij) hW.2 i 0 (by rw [wd_at hi, ent_int hk hn]) rfl (inb_e hin) hdg (fun H1 locs1 hP _ hS => kk H1 locs1 ⟨?_, hS⟩)
  subst he
  rw [wd_set (σ' := uI σ i x.toNatClampNeg v) hi ?_ ent_uI] at hP
  · exact hP
  · rw [ent_int hk hn]
    have h1 : (uI σ i x.toNatClampNeg v).1 i = upd (σ.1 i) x.toNatClampNeg v := by funext b; simp [uI, upd]
    rw [h1]
theorem r_last (X : Cx own ws cc nL ret D cA ad S p s m args meth c) (hW : Rn D cA ad S s.heap σ H locs) {x : Int32} {v : Int64} (hk : S.2.1 i = 21) (hi : i < S.1) (hn : S.2.2 i = n) (hin : inb x n = true) (he : σ' = uL σ i x.toNatClampNeg v) (hdg : decode cc pc = .ok (.lastore, 1))
    (kk : ∀ (H : Heap) (locs : List Loc), Rn D cA ad S s.heap σ' H locs → W p l e R s m args below meth c H locs 0 0 Q (F0 m (pc + 1) ls rest)) : W p l e R s m args below meth c H locs 0 0 Q (F0 m pc ls (.long v :: .int x :: .ref (ad i) :: rest)) := by
  obtain ⟨hx, hb, hml, hown, hts, hr, hlk, hK, hij⟩ := X
  refine va_last hx hb (ty0_at hK hk hi (by decide)) hW.1 (wd_D hij) hW.2 i 0 (by rw [wd_at hi, ent_long hk hn]) rfl (inb_e hin) hdg (fun H1 locs1 hP _ hS => kk H1 locs1 ⟨?_, hS⟩)
  subst he
  rw [wd_set (σ' := uL σ i x.toNatClampNeg v) hi ?_ ent_uL] at hP
  · exact hP
  · rw [ent_long hk hn]
    have h1 : (uL σ i x.toNatClampNeg v).2 i = vp_updL (σ.2 i) x.toNatClampNeg v := by funext b; simp [uL, vp_updL]
    rw [h1]
theorem r_alenI (X : Cx own ws cc nL ret D cA ad S p s m args meth c) (hW : Rn D cA ad S s.heap σ H locs) {v : Int32} (hk : S.2.1 i = 20) (hi : i < S.1) (hn : S.2.2 i = n) (hv : Int32.ofNat n = v) (hdg : decode cc pc = .ok (.arraylength, 1))
    (kk : W p l e R s m args below meth c H locs 0 0 Q (F0 m (pc + 1) ls (.int v :: rest))) : W p l e R s m args below meth c H locs 0 0 Q (F0 m pc ls (.ref (ad i) :: rest)) := by
  obtain ⟨hx, hb, hml, hown, hts, hr, hlk, hK, hij⟩ := X
  exact va_alen hx hb (ty0_at hK hk hi (Nat.le_refl 20)) hW.1 i 0 (by rw [wd_at hi, ent_int hk hn]) rfl hv hdg kk
theorem r_alenR (X : Cx own ws cc nL ret D cA ad S p s m args meth c) (hW : Rn D cA ad S s.heap σ H locs) {v : Int32} (hk : S.2.1 i = K) (hi : i < S.1) (hn : S.2.2 i = n) (hK2 : 22 ≤ K) (hv : Int32.ofNat n = v) (hdg : decode cc pc = .ok (.arraylength, 1))
    (kk : W p l e R s m args below meth c H locs 0 0 Q (F0 m (pc + 1) ls (.int v :: rest))) : W p l e R s m args below meth c H locs 0 0 Q (F0 m pc ls (.ref (ad i) :: rest)) := by
  obtain ⟨hx, hb, hml, hown, hts, hr, hlk, hK, hij⟩ := X
  exact va_alen hx hb (ty0_at hK hk hi (by omega)) hW.1 i 0 (by rw [wd_at hi, ent_ref hk hK2 hn]) rfl hv hdg kk
theorem r_copy (X : Cx own ws cc nL ret D cA ad S p s m args meth c) (hW : Rn D cA ad S s.heap σ H locs) {j n0 n1 : Nat} {sp dp z : Int32} (hk : S.2.1 i = 20) (hi : i < S.1) (hn : S.2.2 i = n0) (hk1 : S.2.1 j = 20) (hi1 : j < S.1) (hn1 : S.2.2 j = n1) (hc : cpk sp dp z n0 n1 = true) (he : σ' = cpI σ i sp j dp z) (hls : ls.size = nL)
    (hw1 : Cond.methodLink own index arraycopyName ∈ ws) (hw2 : Cond.native arraycopyName ∈ ws) (hw3 : Cond.static arraycopyName ∈ ws) (hw4 : Cond.initialized "java/lang/System" ∈ ws) (hR : 1 ≤ R.frames ∧ (rest.map fun v => v.category).sum + (nativeFrameWords "java/lang/System" "arraycopy" 5 + 11) ≤ R.locals) (hdg : decode cc pc = .ok (.invokestatic index, 3))
    (kk : ∀ (H : Heap) (locs : List Loc), Rn D cA ad S s.heap σ' H locs → W p l e R s m args below meth c H locs 0 0 Q (F0 m (pc + 3) ls rest)) : W p l e R s m args below meth c H locs 0 0 Q (F0 m pc ls (.int z :: .int dp :: .ref (ad j) :: .int sp :: .ref (ad i) :: rest)) := by
  obtain ⟨hx, hb, hml, hown, hts, hr, hlk, hK, hij⟩ := X
  have hc2 : ((0 ≤ sp ∧ 0 ≤ dp) ∧ 0 ≤ z) ∧ (sp.toNatClampNeg + z.toNatClampNeg ≤ n0 ∧ dp.toNatClampNeg + z.toNatClampNeg ≤ n1) := by simpa [cpk] using hc
  obtain ⟨⟨⟨q1, q2⟩, q3⟩, q4, q5⟩ := hc2
  have nn : ∀ v : Int32, 0 ≤ v → ¬ v < 0 := fun v h => by rw [Int32.not_lt]; exact h
  refine va_copyi hx hb (hml.trans hls.symm) hown (hts _ hw1) (hts _ hw2) (hts _ hw3) (hts _ hw4) ((ty0_at hK hk hi (Nat.le_refl 20)).app (ty0_at hK hk1 hi1 (Nat.le_refl 20))) hW.1 (wd_D hij) hW.2 i j 0 1 (ty := .int) (by rw [wd_at hi, ent_int hk hn]) (by rw [wd_at hi1, ent_int hk1 hn1]) rfl rfl rfl (nn _ q1) (nn _ q2) (nn _ q3) q4 q5 (fun _ _ => rfl) hR.1 hR.2 hdg (fun H1 locs1 hP _ hS => kk H1 locs1 ⟨?_, hS⟩)
  subst he
  rw [wd_set (σ' := cpI σ i sp j dp z) hi1 ?_ ent_cp] at hP
  · exact hP
  · rw [ent_int hk1 hn1]
    have h1 : (cpI σ i sp j dp z).1 j = va_cpy (σ.1 i) (σ.1 j) sp.toNatClampNeg dp.toNatClampNeg z.toNatClampNeg := by funext b; simp [cpI]
    rw [h1]
theorem r_max (X : Cx own ws cc nL ret D cA ad S p s m args meth c) {x y : Int32} (hls : ls.size = nL) (hw1 : Cond.methodLink own index Lib.Math.max.name ∈ ws) (hw2 : Cond.static Lib.Math.max.name ∈ ws) (hw3 : Cond.initialized "java/lang/Math" ∈ ws) (hw4 : Cond.code Lib.Math.max.name Lib.Math.max.code 2 (some .int) ∈ ws) (hR : 1 ≤ R.frames ∧ (rest.map fun v => v.category).sum + 13 ≤ R.locals) (hdg : decode cc pc = .ok (.invokestatic index, 3))
    (kk : W p l e R s m args below meth c H locs 0 0 Q (F0 m (pc + 3) ls (.int (if x < y then y else x) :: rest))) : W p l e R s m args below meth c H locs 0 0 Q (F0 m pc ls (.int y :: .int x :: rest)) := by
  obtain ⟨hx, hb, hml, hown, hts, hr, hlk, hK, hij⟩ := X
  exact va_mmax hx hb (hml.trans hls.symm) hown (hts _ hw1) (hts _ hw2) (hts _ hw3) (hts _ hw4) hR.1 hR.2 (Nat.zero_le _) (Nat.zero_le _) hdg kk
theorem r_min (X : Cx own ws cc nL ret D cA ad S p s m args meth c) {x y : Int32} (hls : ls.size = nL) (hw1 : Cond.methodLink own index Lib.Math.min.name ∈ ws) (hw2 : Cond.static Lib.Math.min.name ∈ ws) (hw3 : Cond.initialized "java/lang/Math" ∈ ws) (hw4 : Cond.code Lib.Math.min.name Lib.Math.min.code 2 (some .int) ∈ ws) (hR : 1 ≤ R.frames ∧ (rest.map fun v => v.category).sum + 13 ≤ R.locals) (hdg : decode cc pc = .ok (.invokestatic index, 3))
    (kk : W p l e R s m args below meth c H locs 0 0 Q (F0 m (pc + 3) ls (.int (if y < x then y else x) :: rest))) : W p l e R s m args below meth c H locs 0 0 Q (F0 m pc ls (.int y :: .int x :: rest)) := by
  obtain ⟨hx, hb, hml, hown, hts, hr, hlk, hK, hij⟩ := X
  exact va_mmin hx hb (hml.trans hls.symm) hown (hts _ hw1) (hts _ hw2) (hts _ hw3) (hts _ hw4) hR.1 hR.2 (Nat.zero_le _) (Nat.zero_le _) hdg kk
theorem PC.at {As : List Value} (hW : Wr D cA ad S σ H) (hK : Kn D cA S s) : ∀ U : State, U.heap = H → s.WarmedH U.vm → PC D cA ad S As σ As.toArray U := fun U hU hWm => ⟨rfl, by rw [hU]; exact hW, Kn.warm hWm hK⟩
theorem r_cVi (X : Cx own ws cc nL ret D cA ad S p s m args meth c) (hW : Rn D cA ad S s.heap σ H locs) {C : String} {T : u_T} {N : Nat} (hk : S.2.1 i = K) (hi : i < S.1) (hc : vwCl[K]? = some (C, T, N)) {As : List Value} {r : Int32 × St} {y : MethodName} {wsY ws' : List Cond} {rm : Room} {bytes : ByteArray} {maxL : Nat} {rt : Option FieldType} (hM : Met l y wsY rm (PC D cA ad S (.ref (ad i) :: As) σ) (Qi D cA ad S r) 0 0 (Aw ad S)) (hG : GoodIn ws (wsV own index C y wsY)) (hw : wsY = Cond.code y bytes maxL rt :: ws') (hrm : rm.cells = 0 ∧ rm.slots = 0) (hd : y.cls = C ∧ y.cls ≠ "java/lang/invoke/MethodHandle" ∧ y.cls ≠ "java/lang/invoke/VarHandle" ∧ (parseMethodDescriptor y.desc).map (fun d => d.parameters.length) = some As.length) (hR : rm.frames + 1 ≤ R.frames ∧ 8 + (maxL + 11) + rm.locals ≤ R.locals) (hst : st = As.reverse ++ .ref (ad i) :: rest) (hcat : (rest.map fun v => v.category).sum ≤ 8) (hls : ls.size = nL) (hdg : decode cc pc = .ok (.invokevirtual index, 3))
    (kk : ∀ (H : Heap) (locs : List Loc), Rn D cA ad S s.heap r.2 H locs → W p l e R s m args below meth c H locs 0 0 Q (F0 m (pc + 3) ls (.int r.1 :: rest))) : W p l e R s m args below meth c H locs 0 0 Q (F0 m pc ls st) := by
  obtain ⟨hx, hb, hml, hown, hts, hr, hlk, hK, hij⟩ := X
  subst hst
  refine va_calli (va_runV (As := As) (rest := rest) ⟨hx, hb, hml, hown, hts⟩ hM (cwV As.length hts hG hw hrm.1 hrm.2 hd hR) ⟨PC.blind, va_recv hK.1 hW.1 hc (wd_obj hk hi hc), PC.at hW.1 hK⟩ rfl rfl hls rfl (lv_room hcat) hdg ⟨Nat.zero_le _, Nat.zero_le _⟩) hW.2 (fun _ _ h => h) (fun _ h => h) (fun r0 u t H1 locs1 ht hvm hw hB hz1 hk1 hS => ?_)
  have hw2 := hw
  rw [ht] at hB
  rw [hw2]
  exact kk H1 locs1 ⟨hB, hS⟩
theorem r_cSi (X : Cx own ws cc nL ret D cA ad S p s m args meth c) (hW : Rn D cA ad S s.heap σ H locs) {As : List Value} {r : Int32 × St} {y : MethodName} {wsY ws' : List Cond} {rm : Room} {bytes : ByteArray} {maxL : Nat} {rt : Option FieldType} (hM : Met l y wsY rm (PC D cA ad S As σ) (Qi D cA ad S r) 0 0 (Aw ad S)) (hG : GoodIn ws (va_wsS own index y wsY)) (hw : wsY = Cond.code y bytes maxL rt :: ws') (hrm : rm.cells = 0 ∧ rm.slots = 0) {C : String} (hd : y.cls = C ∧ y.cls ≠ "java/lang/invoke/MethodHandle" ∧ y.cls ≠ "java/lang/invoke/VarHandle" ∧ (parseMethodDescriptor y.desc).map (fun d => d.parameters.length) = some As.length) (hR : rm.frames + 1 ≤ R.frames ∧ 8 + (maxL + 11) + rm.locals ≤ R.locals) (hst : st = As.reverse ++ rest) (hcat : (rest.map fun v => v.category).sum ≤ 8) (hls : ls.size = nL) (hdg : decode cc pc = .ok (.invokestatic index, 3))
    (kk : ∀ (H : Heap) (locs : List Loc), Rn D cA ad S s.heap r.2 H locs → W p l e R s m args below meth c H locs 0 0 Q (F0 m (pc + 3) ls (.int r.1 :: rest))) : W p l e R s m args below meth c H locs 0 0 Q (F0 m pc ls st) := by
  obtain ⟨hx, hb, hml, hown, hts, hr, hlk, hK, hij⟩ := X
  subst hst
  refine va_calli (va_runS (As := As) (rest := rest) ⟨hx, hb, hml, hown, hts⟩ hM (va_cwS As.length hts hG hw hrm.1 hrm.2 hd.2 hR) ⟨PC.blind, PC.at hW.1 hK⟩ rfl rfl hls rfl (lv_room hcat) hdg ⟨Nat.zero_le _, Nat.zero_le _⟩) hW.2 (fun _ _ h => h) (fun _ h => h) (fun r0 u t H1 locs1 ht hvm hw hB hz1 hk1 hS => ?_)
  have hw2 := hw
  rw [ht] at hB
  rw [hw2]
  exact kk H1 locs1 ⟨hB, hS⟩
theorem r_cNi (X : Cx own ws cc nL ret D cA ad S p s m args meth c) (hW : Rn D cA ad S s.heap σ H locs) {As : List Value} {r : Int32 × St} {y : MethodName} {wsY ws' : List Cond} {rm : Room} {bytes : ByteArray} {maxL : Nat} {rt : Option FieldType} (hM : Met l y wsY rm (PC D cA ad S As σ) (Qi D cA ad S r) 0 0 (Aw ad S)) (hG : GoodIn ws wsY) (hw : wsY = Cond.code y bytes maxL rt :: ws') (hrm : rm.cells = 0 ∧ rm.slots = 0) {host C : String} (hl : Cond.methodLinkNest own index y host ∈ nestW) (hini : Cond.initialized y.cls ∈ ws) (hsta : Cond.static y ∈ ws) (hd : y.cls = C ∧ y.cls ≠ "java/lang/invoke/MethodHandle" ∧ y.cls ≠ "java/lang/invoke/VarHandle" ∧ (parseMethodDescriptor y.desc).map (fun d => d.parameters.length) = some As.length) (hR : rm.frames + 1 ≤ R.frames ∧ 8 + (maxL + 11) + rm.locals ≤ R.locals) (hst : st = As.reverse ++ rest) (hcat : (rest.map fun v => v.category).sum ≤ 8) (hls : ls.size = nL) (hdg : decode cc pc = .ok (.invokestatic index, 3))
    (kk : ∀ (H : Heap) (locs : List Loc), Rn D cA ad S s.heap r.2 H locs → W p l e R s m args below meth c H locs 0 0 Q (F0 m (pc + 3) ls (.int r.1 :: rest))) : W p l e R s m args below meth c H locs 0 0 Q (F0 m pc ls st) := by
  obtain ⟨hx, hb, hml, hown, hts, hr, hlk, hK, hij⟩ := X
  subst hst
  refine va_calli (va_runSN (host := host) (As := As) (rest := rest) ⟨hx, hb, hml, hown, hts⟩ hM ⟨va_cnB As.length hts hG hw hrm.1 hrm.2 (hK.2.2 _ hl) (hts _ hini) hd.2 hR, hts _ hsta, trivial⟩ ⟨PC.blind, PC.at hW.1 hK⟩ rfl rfl hls rfl (lv_room hcat) hdg ⟨Nat.zero_le _, Nat.zero_le _⟩) hW.2 (fun _ _ h => h) (fun _ h => h) (fun r0 u t H1 locs1 ht hvm hw hB hz1 hk1 hS => ?_)
  have hw2 := hw
  rw [ht] at hB
  rw [hw2]
  exact kk H1 locs1 ⟨hB, hS⟩
theorem r_cVl (X : Cx own ws cc nL ret D cA ad S p s m args meth c) (hW : Rn D cA ad S s.heap σ H locs) {C : String} {T : u_T} {N : Nat} (hk : S.2.1 i = K) (hi : i < S.1) (hc : vwCl[K]? = some (C, T, N)) {As : List Value} {r : Int64 × St} {y : MethodName} {wsY ws' : List Cond} {rm : Room} {bytes : ByteArray} {maxL : Nat} {rt : Option FieldType} (hM : Met l y wsY rm (PC D cA ad S (.ref (ad i) :: As) σ) (Ql D cA ad S r) 0 0 (Aw ad S)) (hG : GoodIn ws (wsV own index C y wsY)) (hw : wsY = Cond.code y bytes maxL rt :: ws') (hrm : rm.cells = 0 ∧ rm.slots = 0) (hd : y.cls = C ∧ y.cls ≠ "java/lang/invoke/MethodHandle" ∧ y.cls ≠ "java/lang/invoke/VarHandle" ∧ (parseMethodDescriptor y.desc).map (fun d => d.parameters.length) = some As.length) (hR : rm.frames + 1 ≤ R.frames ∧ 8 + (maxL + 11) + rm.locals ≤ R.locals) (hst : st = As.reverse ++ .ref (ad i) :: rest) (hcat : (rest.map fun v => v.category).sum ≤ 8) (hls : ls.size = nL) (hdg : decode cc pc = .ok (.invokevirtual index, 3))
    (kk : ∀ (H : Heap) (locs : List Loc), Rn D cA ad S s.heap r.2 H locs → W p l e R s m args below meth c H locs 0 0 Q (F0 m (pc + 3) ls (.long r.1 :: rest))) : W p l e R s m args below meth c H locs 0 0 Q (F0 m pc ls st) := by
  obtain ⟨hx, hb, hml, hown, hts, hr, hlk, hK, hij⟩ := X
  subst hst
  refine va_calll (va_runV (As := As) (rest := rest) ⟨hx, hb, hml, hown, hts⟩ hM (cwV As.length hts hG hw hrm.1 hrm.2 hd hR) ⟨PC.blind, va_recv hK.1 hW.1 hc (wd_obj hk hi hc), PC.at hW.1 hK⟩ rfl rfl hls rfl (lv_room hcat) hdg ⟨Nat.zero_le _, Nat.zero_le _⟩) hW.2 (fun _ _ h => h) (fun _ h => h) (fun r0 u t H1 locs1 ht hvm hw hB hz1 hk1 hS => ?_)
  have hw2 := hw
  rw [ht] at hB
  rw [hw2]
  exact kk H1 locs1 ⟨hB, hS⟩
theorem r_cSl (X : Cx own ws cc nL ret D cA ad S p s m args meth c) (hW : Rn D cA ad S s.heap σ H locs) {As : List Value} {r : Int64 × St} {y : MethodName} {wsY ws' : List Cond} {rm : Room} {bytes : ByteArray} {maxL : Nat} {rt : Option FieldType} (hM : Met l y wsY rm (PC D cA ad S As σ) (Ql D cA ad S r) 0 0 (Aw ad S)) (hG : GoodIn ws (va_wsS own index y wsY)) (hw : wsY = Cond.code y bytes maxL rt :: ws') (hrm : rm.cells = 0 ∧ rm.slots = 0) {C : String} (hd : y.cls = C ∧ y.cls ≠ "java/lang/invoke/MethodHandle" ∧ y.cls ≠ "java/lang/invoke/VarHandle" ∧ (parseMethodDescriptor y.desc).map (fun d => d.parameters.length) = some As.length) (hR : rm.frames + 1 ≤ R.frames ∧ 8 + (maxL + 11) + rm.locals ≤ R.locals) (hst : st = As.reverse ++ rest) (hcat : (rest.map fun v => v.category).sum ≤ 8) (hls : ls.size = nL) (hdg : decode cc pc = .ok (.invokestatic index, 3))
    (kk : ∀ (H : Heap) (locs : List Loc), Rn D cA ad S s.heap r.2 H locs → W p l e R s m args below meth c H locs 0 0 Q (F0 m (pc + 3) ls (.long r.1 :: rest))) : W p l e R s m args below meth c H locs 0 0 Q (F0 m pc ls st) := by
  obtain ⟨hx, hb, hml, hown, hts, hr, hlk, hK, hij⟩ := X
  subst hst
  refine va_calll (va_runS (As := As) (rest := rest) ⟨hx, hb, hml, hown, hts⟩ hM (va_cwS As.length hts hG hw hrm.1 hrm.2 hd.2 hR) ⟨PC.blind, PC.at hW.1 hK⟩ rfl rfl hls rfl (lv_room hcat) hdg ⟨Nat.zero_le _, Nat.zero_le _⟩) hW.2 (fun _ _ h => h) (fun _ h => h) (fun r0 u t H1 locs1 ht hvm hw hB hz1 hk1 hS => ?_)
  have hw2 := hw
  rw [ht] at hB
  rw [hw2]
  exact kk H1 locs1 ⟨hB, hS⟩
theorem r_cNl (X : Cx own ws cc nL ret D cA ad S p s m args meth c) (hW : Rn D cA ad S s.heap σ H locs) {As : List Value} {r : Int64 × St} {y : MethodName} {wsY ws' : List Cond} {rm : Room} {bytes : ByteArray} {maxL : Nat} {rt : Option FieldType} (hM : Met l y wsY rm (PC D cA ad S As σ) (Ql D cA ad S r) 0 0 (Aw ad S)) (hG : GoodIn ws wsY) (hw : wsY = Cond.code y bytes maxL rt :: ws') (hrm : rm.cells = 0 ∧ rm.slots = 0) {host C : String} (hl : Cond.methodLinkNest own index y host ∈ nestW) (hini : Cond.initialized y.cls ∈ ws) (hsta : Cond.static y ∈ ws) (hd : y.cls = C ∧ y.cls ≠ "java/lang/invoke/MethodHandle" ∧ y.cls ≠ "java/lang/invoke/VarHandle" ∧ (parseMethodDescriptor y.desc).map (fun d => d.parameters.length) = some As.length) (hR : rm.frames + 1 ≤ R.frames ∧ 8 + (maxL + 11) + rm.locals ≤ R.locals) (hst : st = As.reverse ++ rest) (hcat : (rest.map fun v => v.category).sum ≤ 8) (hls : ls.size = nL) (hdg : decode cc pc = .ok (.invokestatic index, 3))
    (kk : ∀ (H : Heap) (locs : List Loc), Rn D cA ad S s.heap r.2 H locs → W p l e R s m args below meth c H locs 0 0 Q (F0 m (pc + 3) ls (.long r.1 :: rest))) : W p l e R s m args below meth c H locs 0 0 Q (F0 m pc ls st) := by
  obtain ⟨hx, hb, hml, hown, hts, hr, hlk, hK, hij⟩ := X
  subst hst
  refine va_calll (va_runSN (host := host) (As := As) (rest := rest) ⟨hx, hb, hml, hown, hts⟩ hM ⟨va_cnB As.length hts hG hw hrm.1 hrm.2 (hK.2.2 _ hl) (hts _ hini) hd.2 hR, hts _ hsta, trivial⟩ ⟨PC.blind, PC.at hW.1 hK⟩ rfl rfl hls rfl (lv_room hcat) hdg ⟨Nat.zero_le _, Nat.zero_le _⟩) hW.2 (fun _ _ h => h) (fun _ h => h) (fun r0 u t H1 locs1 ht hvm hw hB hz1 hk1 hS => ?_)
  have hw2 := hw
  rw [ht] at hB
  rw [hw2]
  exact kk H1 locs1 ⟨hB, hS⟩
theorem r_cVv (X : Cx own ws cc nL ret D cA ad S p s m args meth c) (hW : Rn D cA ad S s.heap σ H locs) {C : String} {T : u_T} {N : Nat} (hk : S.2.1 i = K) (hi : i < S.1) (hc : vwCl[K]? = some (C, T, N)) {As : List Value} {r : St} {y : MethodName} {wsY ws' : List Cond} {rm : Room} {bytes : ByteArray} {maxL : Nat} {rt : Option FieldType} (hM : Met l y wsY rm (PC D cA ad S (.ref (ad i) :: As) σ) (Qv D cA ad S r) 0 0 (Aw ad S)) (hG : GoodIn ws (wsV own index C y wsY)) (hw : wsY = Cond.code y bytes maxL rt :: ws') (hrm : rm.cells = 0 ∧ rm.slots = 0) (hd : y.cls = C ∧ y.cls ≠ "java/lang/invoke/MethodHandle" ∧ y.cls ≠ "java/lang/invoke/VarHandle" ∧ (parseMethodDescriptor y.desc).map (fun d => d.parameters.length) = some As.length) (hR : rm.frames + 1 ≤ R.frames ∧ 8 + (maxL + 11) + rm.locals ≤ R.locals) (hst : st = As.reverse ++ .ref (ad i) :: rest) (hcat : (rest.map fun v => v.category).sum ≤ 8) (hls : ls.size = nL) (hdg : decode cc pc = .ok (.invokevirtual index, 3))
    (kk : ∀ (H : Heap) (locs : List Loc), Rn D cA ad S s.heap r H locs → W p l e R s m args below meth c H locs 0 0 Q (F0 m (pc + 3) ls rest)) : W p l e R s m args below meth c H locs 0 0 Q (F0 m pc ls st) := by
  obtain ⟨hx, hb, hml, hown, hts, hr, hlk, hK, hij⟩ := X
  subst hst
  refine va_callv (va_runV (As := As) (rest := rest) ⟨hx, hb, hml, hown, hts⟩ hM (cwV As.length hts hG hw hrm.1 hrm.2 hd hR) ⟨PC.blind, va_recv hK.1 hW.1 hc (wd_obj hk hi hc), PC.at hW.1 hK⟩ rfl rfl hls rfl (lv_room hcat) hdg ⟨Nat.zero_le _, Nat.zero_le _⟩) hW.2 (fun _ _ h => h) (fun _ h => h) (fun u t H1 locs1 ht hvm hw hB hz1 hk1 hS => ?_)
  have hw2 := hw
  rw [ht] at hB
  exact kk H1 locs1 ⟨hB, hS⟩
theorem r_cSv (X : Cx own ws cc nL ret D cA ad S p s m args meth c) (hW : Rn D cA ad S s.heap σ H locs) {As : List Value} {r : St} {y : MethodName} {wsY ws' : List Cond} {rm : Room} {bytes : ByteArray} {maxL : Nat} {rt : Option FieldType} (hM : Met l y wsY rm (PC D cA ad S As σ) (Qv D cA ad S r) 0 0 (Aw ad S)) (hG : GoodIn ws (va_wsS own index y wsY)) (hw : wsY = Cond.code y bytes maxL rt :: ws') (hrm : rm.cells = 0 ∧ rm.slots = 0) {C : String} (hd : y.cls = C ∧ y.cls ≠ "java/lang/invoke/MethodHandle" ∧ y.cls ≠ "java/lang/invoke/VarHandle" ∧ (parseMethodDescriptor y.desc).map (fun d => d.parameters.length) = some As.length) (hR : rm.frames + 1 ≤ R.frames ∧ 8 + (maxL + 11) + rm.locals ≤ R.locals) (hst : st = As.reverse ++ rest) (hcat : (rest.map fun v => v.category).sum ≤ 8) (hls : ls.size = nL) (hdg : decode cc pc = .ok (.invokestatic index, 3))
    (kk : ∀ (H : Heap) (locs : List Loc), Rn D cA ad S s.heap r H locs → W p l e R s m args below meth c H locs 0 0 Q (F0 m (pc + 3) ls rest)) : W p l e R s m args below meth c H locs 0 0 Q (F0 m pc ls st) := by
  obtain ⟨hx, hb, hml, hown, hts, hr, hlk, hK, hij⟩ := X
  subst hst
  refine va_callv (va_runS (As := As) (rest := rest) ⟨hx, hb, hml, hown, hts⟩ hM (va_cwS As.length hts hG hw hrm.1 hrm.2 hd.2 hR) ⟨PC.blind, PC.at hW.1 hK⟩ rfl rfl hls rfl (lv_room hcat) hdg ⟨Nat.zero_le _, Nat.zero_le _⟩) hW.2 (fun _ _ h => h) (fun _ h => h) (fun u t H1 locs1 ht hvm hw hB hz1 hk1 hS => ?_)
  have hw2 := hw
  rw [ht] at hB
  exact kk H1 locs1 ⟨hB, hS⟩
theorem r_cNv (X : Cx own ws cc nL ret D cA ad S p s m args meth c) (hW : Rn D cA ad S s.heap σ H locs) {As : List Value} {r : St} {y : MethodName} {wsY ws' : List Cond} {rm : Room} {bytes : ByteArray} {maxL : Nat} {rt : Option FieldType} (hM : Met l y wsY rm (PC D cA ad S As σ) (Qv D cA ad S r) 0 0 (Aw ad S)) (hG : GoodIn ws wsY) (hw : wsY = Cond.code y bytes maxL rt :: ws') (hrm : rm.cells = 0 ∧ rm.slots = 0) {host C : String} (hl : Cond.methodLinkNest own index y host ∈ nestW) (hini : Cond.initialized y.cls ∈ ws) (hsta : Cond.static y ∈ ws) (hd : y.cls = C ∧ y.cls ≠ "java/lang/invoke/MethodHandle" ∧ y.cls ≠ "java/lang/invoke/VarHandle" ∧ (parseMethodDescriptor y.desc).map (fun d => d.parameters.length) = some As.length) (hR : rm.frames + 1 ≤ R.frames ∧ 8 + (maxL + 11) + rm.locals ≤ R.locals) (hst : st = As.reverse ++ rest) (hcat : (rest.map fun v => v.category).sum ≤ 8) (hls : ls.size = nL) (hdg : decode cc pc = .ok (.invokestatic index, 3))
    (kk : ∀ (H : Heap) (locs : List Loc), Rn D cA ad S s.heap r H locs → W p l e R s m args below meth c H locs 0 0 Q (F0 m (pc + 3) ls rest)) : W p l e R s m args below meth c H locs 0 0 Q (F0 m pc ls st) := by
  obtain ⟨hx, hb, hml, hown, hts, hr, hlk, hK, hij⟩ := X
  subst hst
  refine va_callv (va_runSN (host := host) (As := As) (rest := rest) ⟨hx, hb, hml, hown, hts⟩ hM ⟨va_cnB As.length hts hG hw hrm.1 hrm.2 (hK.2.2 _ hl) (hts _ hini) hd.2 hR, hts _ hsta, trivial⟩ ⟨PC.blind, PC.at hW.1 hK⟩ rfl rfl hls rfl (lv_room hcat) hdg ⟨Nat.zero_le _, Nat.zero_le _⟩) hW.2 (fun _ _ h => h) (fun _ h => h) (fun u t H1 locs1 ht hvm hw hB hz1 hk1 hS => ?_)
  have hw2 := hw
  rw [ht] at hB
  exact kk H1 locs1 ⟨hB, hS⟩
theorem r_cViR (X : Cx own ws cc nL ret D cA ad S p s m args meth c) (hW : Rn D cA ad S s.heap σ H locs) {C : String} {T : u_T} {N : Nat} (hk : S.2.1 i = K) (hi : i < S.1) (hc : vwCl[K]? = some (C, T, N)) {As : List Value} {r : Int32} {y : MethodName} {wsY ws' : List Cond} {rm : Room} {bytes : ByteArray} {maxL : Nat} {rt : Option FieldType} (hM : Met l y wsY rm (PC D cA ad S (.ref (ad i) :: As) σ) (Qi D cA ad S (r, σ)) 0 0 (Aw ad S)) (hG : GoodIn ws (wsV own index C y wsY)) (hw : wsY = Cond.code y bytes maxL rt :: ws') (hrm : rm.cells = 0 ∧ rm.slots = 0) (hd : y.cls = C ∧ y.cls ≠ "java/lang/invoke/MethodHandle" ∧ y.cls ≠ "java/lang/invoke/VarHandle" ∧ (parseMethodDescriptor y.desc).map (fun d => d.parameters.length) = some As.length) (hR : rm.frames + 1 ≤ R.frames ∧ 8 + (maxL + 11) + rm.locals ≤ R.locals) (hst : st = As.reverse ++ .ref (ad i) :: rest) (hcat : (rest.map fun v => v.category).sum ≤ 8) (hls : ls.size = nL) (hdg : decode cc pc = .ok (.invokevirtual index, 3))
    (kk : ∀ (H : Heap) (locs : List Loc), Rn D cA ad S s.heap σ H locs → W p l e R s m args below meth c H locs 0 0 Q (F0 m (pc + 3) ls (.int r :: rest))) : W p l e R s m args below meth c H locs 0 0 Q (F0 m pc ls st) := r_cVi (r := (r, σ)) X hW hk hi hc hM hG hw hrm hd hR hst hcat hls hdg kk
theorem r_cSiR (X : Cx own ws cc nL ret D cA ad S p s m args meth c) (hW : Rn D cA ad S s.heap σ H locs) {As : List Value} {r : Int32} {y : MethodName} {wsY ws' : List Cond} {rm : Room} {bytes : ByteArray} {maxL : Nat} {rt : Option FieldType} (hM : Met l y wsY rm (PC D cA ad S As σ) (Qi D cA ad S (r, σ)) 0 0 (Aw ad S)) (hG : GoodIn ws (va_wsS own index y wsY)) (hw : wsY = Cond.code y bytes maxL rt :: ws') (hrm : rm.cells = 0 ∧ rm.slots = 0) {C : String} (hd : y.cls = C ∧ y.cls ≠ "java/lang/invoke/MethodHandle" ∧ y.cls ≠ "java/lang/invoke/VarHandle" ∧ (parseMethodDescriptor y.desc).map (fun d => d.parameters.length) = some As.length) (hR : rm.frames + 1 ≤ R.frames ∧ 8 + (maxL + 11) + rm.locals ≤ R.locals) (hst : st = As.reverse ++ rest) (hcat : (rest.map fun v => v.category).sum ≤ 8) (hls : ls.size = nL) (hdg : decode cc pc = .ok (.invokestatic index, 3))
    (kk : ∀ (H : Heap) (locs : List Loc), Rn D cA ad S s.heap σ H locs → W p l e R s m args below meth c H locs 0 0 Q (F0 m (pc + 3) ls (.int r :: rest))) : W p l e R s m args below meth c H locs 0 0 Q (F0 m pc ls st) := r_cSi (r := (r, σ)) X hW hM hG hw hrm hd hR hst hcat hls hdg kk
theorem r_cNiR (X : Cx own ws cc nL ret D cA ad S p s m args meth c) (hW : Rn D cA ad S s.heap σ H locs) {As : List Value} {r : Int32} {y : MethodName} {wsY ws' : List Cond} {rm : Room} {bytes : ByteArray} {maxL : Nat} {rt : Option FieldType} (hM : Met l y wsY rm (PC D cA ad S As σ) (Qi D cA ad S (r, σ)) 0 0 (Aw ad S)) (hG : GoodIn ws wsY) (hw : wsY = Cond.code y bytes maxL rt :: ws') (hrm : rm.cells = 0 ∧ rm.slots = 0) {host C : String} (hl : Cond.methodLinkNest own index y host ∈ nestW) (hini : Cond.initialized y.cls ∈ ws) (hsta : Cond.static y ∈ ws) (hd : y.cls = C ∧ y.cls ≠ "java/lang/invoke/MethodHandle" ∧ y.cls ≠ "java/lang/invoke/VarHandle" ∧ (parseMethodDescriptor y.desc).map (fun d => d.parameters.length) = some As.length) (hR : rm.frames + 1 ≤ R.frames ∧ 8 + (maxL + 11) + rm.locals ≤ R.locals) (hst : st = As.reverse ++ rest) (hcat : (rest.map fun v => v.category).sum ≤ 8) (hls : ls.size = nL) (hdg : decode cc pc = .ok (.invokestatic index, 3))
    (kk : ∀ (H : Heap) (locs : List Loc), Rn D cA ad S s.heap σ H locs → W p l e R s m args below meth c H locs 0 0 Q (F0 m (pc + 3) ls (.int r :: rest))) : W p l e R s m args below meth c H locs 0 0 Q (F0 m pc ls st) := r_cNi (r := (r, σ)) X hW hM hG hw hrm hl hini hsta hd hR hst hcat hls hdg kk
theorem r_cVlR (X : Cx own ws cc nL ret D cA ad S p s m args meth c) (hW : Rn D cA ad S s.heap σ H locs) {C : String} {T : u_T} {N : Nat} (hk : S.2.1 i = K) (hi : i < S.1) (hc : vwCl[K]? = some (C, T, N)) {As : List Value} {r : Int64} {y : MethodName} {wsY ws' : List Cond} {rm : Room} {bytes : ByteArray} {maxL : Nat} {rt : Option FieldType} (hM : Met l y wsY rm (PC D cA ad S (.ref (ad i) :: As) σ) (Ql D cA ad S (r, σ)) 0 0 (Aw ad S)) (hG : GoodIn ws (wsV own index C y wsY)) (hw : wsY = Cond.code y bytes maxL rt :: ws') (hrm : rm.cells = 0 ∧ rm.slots = 0) (hd : y.cls = C ∧ y.cls ≠ "java/lang/invoke/MethodHandle" ∧ y.cls ≠ "java/lang/invoke/VarHandle" ∧ (parseMethodDescriptor y.desc).map (fun d => d.parameters.length) = some As.length) (hR : rm.frames + 1 ≤ R.frames ∧ 8 + (maxL + 11) + rm.locals ≤ R.locals) (hst : st = As.reverse ++ .ref (ad i) :: rest) (hcat : (rest.map fun v => v.category).sum ≤ 8) (hls : ls.size = nL) (hdg : decode cc pc = .ok (.invokevirtual index, 3))
    (kk : ∀ (H : Heap) (locs : List Loc), Rn D cA ad S s.heap σ H locs → W p l e R s m args below meth c H locs 0 0 Q (F0 m (pc + 3) ls (.long r :: rest))) : W p l e R s m args below meth c H locs 0 0 Q (F0 m pc ls st) := r_cVl (r := (r, σ)) X hW hk hi hc hM hG hw hrm hd hR hst hcat hls hdg kk
theorem r_cSlR (X : Cx own ws cc nL ret D cA ad S p s m args meth c) (hW : Rn D cA ad S s.heap σ H locs) {As : List Value} {r : Int64} {y : MethodName} {wsY ws' : List Cond} {rm : Room} {bytes : ByteArray} {maxL : Nat} {rt : Option FieldType} (hM : Met l y wsY rm (PC D cA ad S As σ) (Ql D cA ad S (r, σ)) 0 0 (Aw ad S)) (hG : GoodIn ws (va_wsS own index y wsY)) (hw : wsY = Cond.code y bytes maxL rt :: ws') (hrm : rm.cells = 0 ∧ rm.slots = 0) {C : String} (hd : y.cls = C ∧ y.cls ≠ "java/lang/invoke/MethodHandle" ∧ y.cls ≠ "java/lang/invoke/VarHandle" ∧ (parseMethodDescriptor y.desc).map (fun d => d.parameters.length) = some As.length) (hR : rm.frames + 1 ≤ R.frames ∧ 8 + (maxL + 11) + rm.locals ≤ R.locals) (hst : st = As.reverse ++ rest) (hcat : (rest.map fun v => v.category).sum ≤ 8) (hls : ls.size = nL) (hdg : decode cc pc = .ok (.invokestatic index, 3))
    (kk : ∀ (H : Heap) (locs : List Loc), Rn D cA ad S s.heap σ H locs → W p l e R s m args below meth c H locs 0 0 Q (F0 m (pc + 3) ls (.long r :: rest))) : W p l e R s m args below meth c H locs 0 0 Q (F0 m pc ls st) := r_cSl (r := (r, σ)) X hW hM hG hw hrm hd hR hst hcat hls hdg kk
theorem r_cNlR (X : Cx own ws cc nL ret D cA ad S p s m args meth c) (hW : Rn D cA ad S s.heap σ H locs) {As : List Value} {r : Int64} {y : MethodName} {wsY ws' : List Cond} {rm : Room} {bytes : ByteArray} {maxL : Nat} {rt : Option FieldType} (hM : Met l y wsY rm (PC D cA ad S As σ) (Ql D cA ad S (r, σ)) 0 0 (Aw ad S)) (hG : GoodIn ws wsY) (hw : wsY = Cond.code y bytes maxL rt :: ws') (hrm : rm.cells = 0 ∧ rm.slots = 0) {host C : String} (hl : Cond.methodLinkNest own index y host ∈ nestW) (hini : Cond.initialized y.cls ∈ ws) (hsta : Cond.static y ∈ ws) (hd : y.cls = C ∧ y.cls ≠ "java/lang/invoke/MethodHandle" ∧ y.cls ≠ "java/lang/invoke/VarHandle" ∧ (parseMethodDescriptor y.desc).map (fun d => d.parameters.length) = some As.length) (hR : rm.frames + 1 ≤ R.frames ∧ 8 + (maxL + 11) + rm.locals ≤ R.locals) (hst : st = As.reverse ++ rest) (hcat : (rest.map fun v => v.category).sum ≤ 8) (hls : ls.size = nL) (hdg : decode cc pc = .ok (.invokestatic index, 3))
    (kk : ∀ (H : Heap) (locs : List Loc), Rn D cA ad S s.heap σ H locs → W p l e R s m args below meth c H locs 0 0 Q (F0 m (pc + 3) ls (.long r :: rest))) : W p l e R s m args below meth c H locs 0 0 Q (F0 m pc ls st) := r_cNl (r := (r, σ)) X hW hM hG hw hrm hl hini hsta hd hR hst hcat hls hdg kk
theorem r_iret (X : Cx own ws cc nL ret D cA ad S p s m args meth c) (hW : Rn D cA ad S s.heap σ H locs) {v : Int32} {r : Int32 × St} {ty : FieldType} (hret : ret = some ty) (hn : narrow ty (.int v) = .int v) (he : some (v, σ) = some r) (hdg : decode cc pc = .ok (.ireturn, 1)) : W p l e R s m args below meth c H locs 0 0 (MQ below (Qi D cA ad S r) args s 0 0 (Aw ad S)) (F0 m pc ls [.int v]) := by
  obtain ⟨hx, hb, hml, hown, hts, hr, hlk, hK, hij⟩ := X
  cases he
  exact W.zret hx hb (hr.trans hret) hn (fun t ht hWm => ⟨⟨v, (), rfl, rfl, by show Wr D cA ad S σ t.heap; rw [ht]; exact hW.1⟩, hW.2.F ht⟩) hW.2.2.2 hdg hlk
theorem r_iretR (X : Cx own ws cc nL ret D cA ad S p s m args meth c) (hW : Rn D cA ad S s.heap σ H locs) {v r : Int32} {ty : FieldType} (hret : ret = some ty) (hn : narrow ty (.int v) = .int v) (he : some v = some r) (hdg : decode cc pc = .ok (.ireturn, 1)) : W p l e R s m args below meth c H locs 0 0 (MQ below (Qi D cA ad S (r, σ)) args s 0 0 (Aw ad S)) (F0 m pc ls [.int v]) := by
  cases he
  exact r_iret X hW hret hn rfl hdg
theorem r_lret (X : Cx own ws cc nL ret D cA ad S p s m args meth c) (hW : Rn D cA ad S s.heap σ H locs) {v : Int64} {r : Int64 × St} (hret : ret = some .long) (he : some (v, σ) = some r) (hdg : decode cc pc = .ok (.lreturn, 1)) : W p l e R s m args below meth c H locs 0 0 (MQ below (Ql D cA ad S r) args s 0 0 (Aw ad S)) (F0 m pc ls [.long v]) := by
  obtain ⟨hx, hb, hml, hown, hts, hr, hlk, hK, hij⟩ := X
  cases he
  exact W.lret hx hb (hr.trans hret) (fun t ht hWm => ⟨⟨v, (), rfl, rfl, by show Wr D cA ad S σ t.heap; rw [ht]; exact hW.1⟩, hW.2.F ht⟩) hW.2.2.2 hdg hlk
theorem r_lretR (X : Cx own ws cc nL ret D cA ad S p s m args meth c) (hW : Rn D cA ad S s.heap σ H locs) {v r : Int64} (hret : ret = some .long) (he : some v = some r) (hdg : decode cc pc = .ok (.lreturn, 1)) : W p l e R s m args below meth c H locs 0 0 (MQ below (Ql D cA ad S (r, σ)) args s 0 0 (Aw ad S)) (F0 m pc ls [.long v]) := by
  cases he
  exact r_lret X hW hret rfl hdg
theorem r_vret (X : Cx own ws cc nL ret D cA ad S p s m args meth c) (hW : Rn D cA ad S s.heap σ H locs) {r : St} (hret : ret = none) (he : some σ = some r) (hdg : decode cc pc = .ok (.return_, 1)) : W p l e R s m args below meth c H locs 0 0 (MQ below (Qv D cA ad S r) args s 0 0 (Aw ad S)) (F0 m pc ls []) := by
  obtain ⟨hx, hb, hml, hown, hts, hr, hlk, hK, hij⟩ := X
  cases he
  exact W.vret hx hb (hr.trans hret) (fun t ht hWm => ⟨⟨(), rfl, trivial, by show Wr D cA ad S σ t.heap; rw [ht]; exact hW.1⟩, hW.2.F ht⟩) hW.2.2.2 hdg hlk
theorem k_head {y : MethodName} {ws' : List Cond} {rm : Room} {As : List Value} {Qc : Array Value → State → Outcome → State → Prop} (hy : plainName y.cls = true) (hyc : y.cls = own) (hw : ws = Cond.code y cc nL ret :: ws') (hij : Ij ad S) (hn : (lg_sl As).length ≤ nL)
    (body : ∀ (p : Program) (e : Env) (s : State) (m : MethodId) (below : List Frame) (meth : Method) (c : Code) (ls : Array Slot), Cx own ws cc nL ret D cA ad S p s m As.toArray meth c → Rn D cA ad S s.heap σ s.heap [] → lv_has ls nL (lv_args 0 As) → W p l e rm s m As.toArray below meth c s.heap [] 0 0 (MQ below Qc As.toArray s 0 0 (Aw ad S)) (F0 m 0 ls [])) : Met l y ws rm (PC D cA ad S As σ) Qc 0 0 (Aw ad S) := by
  refine Met.ofW (cc := cc) (maxL := nL) (ret := ret) hy hw ?_
  intro p e s m args below meth c s₁ B hml hv
  obtain ⟨rfl, hP, hK⟩ := hv
  have hts := atoms_spec (ws := ws) B.pre
  have hown : s.vm.findClass own = some m.cls := hyc ▸ findClass_of_methodNamed B.named
  have hl := lv_entry As (n := nL) hn
  rw [lg_entry_eq]
  exact body p e s m below meth c _ ⟨B.exec, B.bytes, hml, hown, hts, B.returns, B.notSynchronized, hK, hij⟩ ⟨hP, va_S.rf⟩ hl
end ROWS
section FROWS
variable {p : Program} {l : Launch} {e : Env} {R : Room} {s : State} {m : MethodId} {args : Array Value} {below : List Frame} {meth : Method} {c : Code} {H : Heap} {locs : List Loc} {Q : State → Prop}
variable {own : String} {ws : List Cond} {cc : ByteArray} {nL : Nat} {ret : Option FieldType} {D : va_G} {cA : Nat → ClassId} {ad : Nat → Nat} {S : Sd} {σ σ' : St} {pc : Nat} {ls : Array Slot} {rest st : List Value} {i K k index n : Nat}
theorem get_0_0 (X : Cx own ws cc nL ret D cA ad S p s m args meth c) (hW : Rn D cA ad S s.heap σ H locs) (hk : S.2.1 i = 0) (hi : i < S.1) (hin : ∀ w ∈ wsX00, w ∈ ws) (hl : Cond.fieldLink own index "ThirdOfTheLast$Flavour" "above" "[J" ∈ ws) (hdg : decode cc pc = .ok (.getfield index, 3)) (kk : W p l e R s m args below meth c H locs 0 0 Q (F0 m (pc + 3) ls (.ref (ad (i + 1)) :: rest))) : W p l e R s m args below meth c H locs 0 0 Q (F0 m pc ls (.ref (ad i) :: rest)) := r_get (K := 0) (k := 0) (C := RX0) (T := TX0) (N := 3) X hW hk hi rfl hin (by decide) hl rfl hdg kk
theorem get_0_1 (X : Cx own ws cc nL ret D cA ad S p s m args meth c) (hW : Rn D cA ad S s.heap σ H locs) (hk : S.2.1 i = 0) (hi : i < S.1) (hin : ∀ w ∈ wsX00, w ∈ ws) (hl : Cond.fieldLink own index "ThirdOfTheLast$Flavour" "below" "J" ∈ ws) (hdg : decode cc pc = .ok (.getfield index, 3)) (kk : W p l e R s m args below meth c H locs 0 0 Q (F0 m (pc + 3) ls (.long (σ.2 i 1) :: rest))) : W p l e R s m args below meth c H locs 0 0 Q (F0 m pc ls (.ref (ad i) :: rest)) := r_get (K := 0) (k := 1) (C := RX0) (T := TX0) (N := 3) X hW hk hi rfl hin (by decide) hl rfl hdg kk
theorem put_0_1 (X : Cx own ws cc nL ret D cA ad S p s m args meth c) (hW : Rn D cA ad S s.heap σ H locs) {v : Int64} (hk : S.2.1 i = 0) (hi : i < S.1) (hin : ∀ w ∈ wsX00, w ∈ ws) (hl : Cond.fieldLink own index "ThirdOfTheLast$Flavour" "below" "J" ∈ ws) (he : σ' = uL σ i 1 v) (hdg : decode cc pc = .ok (.putfield index, 3)) (kk : ∀ (H : Heap) (locs : List Loc), Rn D cA ad S s.heap σ' H locs → W p l e R s m args below meth c H locs 0 0 Q (F0 m (pc + 3) ls rest)) : W p l e R s m args below meth c H locs 0 0 Q (F0 m pc ls (.long v :: .ref (ad i) :: rest)) := r_putL (K := 0) (k := 1) (C := RX0) (T := TX0) (N := 3) (ty := .long) X hW hk hi rfl hin tyX0 tyX0_ok nmX0 (by decide) hl rfl (by decide +kernel) rfl rfl (by simp [fl]) rfl he hdg kk
theorem get_0_2 (X : Cx own ws cc nL ret D cA ad S p s m args meth c) (hW : Rn D cA ad S s.heap σ H locs) (hk : S.2.1 i = 0) (hi : i < S.1) (hin : ∀ w ∈ wsX00, w ∈ ws) (hl : Cond.fieldLink own index "ThirdOfTheLast$Flavour" "count" "I" ∈ ws) (hdg : decode cc pc = .ok (.getfield index, 3)) (kk : W p l e R s m args below meth c H locs 0 0 Q (F0 m (pc + 3) ls (.int (σ.1 i 2) :: rest))) : W p l e R s m args below meth c H locs 0 0 Q (F0 m pc ls (.ref (ad i) :: rest)) := r_get (K := 0) (k := 2) (C := RX0) (T := TX0) (N := 3) X hW hk hi rfl hin (by decide) hl rfl hdg kk
theorem put_0_2 (X : Cx own ws cc nL ret D cA ad S p s m args meth c) (hW : Rn D cA ad S s.heap σ H locs) {v : Int32} (hk : S.2.1 i = 0) (hi : i < S.1) (hin : ∀ w ∈ wsX00, w ∈ ws) (hl : Cond.fieldLink own index "ThirdOfTheLast$Flavour" "count" "I" ∈ ws) (he : σ' = uI σ i 2 v) (hdg : decode cc pc = .ok (.putfield index, 3)) (kk : ∀ (H : Heap) (locs : List Loc), Rn D cA ad S s.heap σ' H locs → W p l e R s m args below meth c H locs 0 0 Q (F0 m (pc + 3) ls rest)) : W p l e R s m args below meth c H locs 0 0 Q (F0 m pc ls (.int v :: .ref (ad i) :: rest)) := r_putI (K := 0) (k := 2) (C := RX0) (T := TX0) (N := 3) (ty := .int) X hW hk hi rfl hin tyX0 tyX0_ok nmX0 (by decide) hl rfl (by decide +kernel) rfl rfl (by simp [fl]) rfl he hdg kk
theorem get_1_0 (X : Cx own ws cc nL ret D cA ad S p s m args meth c) (hW : Rn D cA ad S s.heap σ H locs) (hk : S.2.1 i = 1) (hi : i < S.1) (hin : ∀ w ∈ wsX10, w ∈ ws) (hl : Cond.fieldLink own index "ThirdOfTheLast$Kitchen" "pots" "[LThirdOfTheLast$Pot;" ∈ ws) (hdg : decode cc pc = .ok (.getfield index, 3)) (kk : W p l e R s m args below meth c H locs 0 0 Q (F0 m (pc + 3) ls (.ref (ad (i + 1)) :: rest))) : W p l e R s m args below meth c H locs 0 0 Q (F0 m pc ls (.ref (ad i) :: rest)) := r_get (K := 1) (k := 0) (C := RX1) (T := TX1) (N := 2) X hW hk hi rfl hin (by decide) hl rfl hdg kk
theorem get_1_1 (X : Cx own ws cc nL ret D cA ad S p s m args meth c) (hW : Rn D cA ad S s.heap σ H locs) (hk : S.2.1 i = 1) (hi : i < S.1) (hin : ∀ w ∈ wsX10, w ∈ ws) (hl : Cond.fieldLink own index "ThirdOfTheLast$Kitchen" "size" "I" ∈ ws) (hdg : decode cc pc = .ok (.getfield index, 3)) (kk : W p l e R s m args below meth c H locs 0 0 Q (F0 m (pc + 3) ls (.int (σ.1 i 1) :: rest))) : W p l e R s m args below meth c H locs 0 0 Q (F0 m pc ls (.ref (ad i) :: rest)) := r_get (K := 1) (k := 1) (C := RX1) (T := TX1) (N := 2) X hW hk hi rfl hin (by decide) hl rfl hdg kk
theorem put_1_1 (X : Cx own ws cc nL ret D cA ad S p s m args meth c) (hW : Rn D cA ad S s.heap σ H locs) {v : Int32} (hk : S.2.1 i = 1) (hi : i < S.1) (hin : ∀ w ∈ wsX10, w ∈ ws) (hl : Cond.fieldLink own index "ThirdOfTheLast$Kitchen" "size" "I" ∈ ws) (he : σ' = uI σ i 1 v) (hdg : decode cc pc = .ok (.putfield index, 3)) (kk : ∀ (H : Heap) (locs : List Loc), Rn D cA ad S s.heap σ' H locs → W p l e R s m args below meth c H locs 0 0 Q (F0 m (pc + 3) ls rest)) : W p l e R s m args below meth c H locs 0 0 Q (F0 m pc ls (.int v :: .ref (ad i) :: rest)) := r_putI (K := 1) (k := 1) (C := RX1) (T := TX1) (N := 2) (ty := .int) X hW hk hi rfl hin tyX1 tyX1_ok nmX1 (by decide) hl rfl (by decide +kernel) rfl rfl (by simp [fl]) rfl he hdg kk
theorem get_2_0 (X : Cx own ws cc nL ret D cA ad S p s m args meth c) (hW : Rn D cA ad S s.heap σ H locs) (hk : S.2.1 i = 2) (hi : i < S.1) (hin : ∀ w ∈ wsX20, w ∈ ws) (hl : Cond.fieldLink own index "ThirdOfTheLast$Mind" "pots" "[LThirdOfTheLast$Flavour;" ∈ ws) (hdg : decode cc pc = .ok (.getfield index, 3)) (kk : W p l e R s m args below meth c H locs 0 0 Q (F0 m (pc + 3) ls (.ref (ad (i + 1)) :: rest))) : W p l e R s m args below meth c H locs 0 0 Q (F0 m pc ls (.ref (ad i) :: rest)) := r_get (K := 2) (k := 0) (C := RX2) (T := TX2) (N := 7) X hW hk hi rfl hin (by decide) hl rfl hdg kk
theorem get_2_1 (X : Cx own ws cc nL ret D cA ad S p s m args meth c) (hW : Rn D cA ad S s.heap σ H locs) (hk : S.2.1 i = 2) (hi : i < S.1) (hin : ∀ w ∈ wsX20, w ∈ ws) (hl : Cond.fieldLink own index "ThirdOfTheLast$Mind" "before" "[LThirdOfTheLast$Flavour;" ∈ ws) (hdg : decode cc pc = .ok (.getfield index, 3)) (kk : W p l e R s m args below meth c H locs 0 0 Q (F0 m (pc + 3) ls (.ref (ad (i + 14)) :: rest))) : W p l e R s m args below meth c H locs 0 0 Q (F0 m pc ls (.ref (ad i) :: rest)) := r_get (K := 2) (k := 1) (C := RX2) (T := TX2) (N := 7) X hW hk hi rfl hin (by decide) hl rfl hdg kk
theorem get_2_2 (X : Cx own ws cc nL ret D cA ad S p s m args meth c) (hW : Rn D cA ad S s.heap σ H locs) (hk : S.2.1 i = 2) (hi : i < S.1) (hin : ∀ w ∈ wsX20, w ∈ ws) (hl : Cond.fieldLink own index "ThirdOfTheLast$Mind" "size" "I" ∈ ws) (hdg : decode cc pc = .ok (.getfield index, 3)) (kk : W p l e R s m args below meth c H locs 0 0 Q (F0 m (pc + 3) ls (.int (σ.1 i 2) :: rest))) : W p l e R s m args below meth c H locs 0 0 Q (F0 m pc ls (.ref (ad i) :: rest)) := r_get (K := 2) (k := 2) (C := RX2) (T := TX2) (N := 7) X hW hk hi rfl hin (by decide) hl rfl hdg kk
theorem put_2_2 (X : Cx own ws cc nL ret D cA ad S p s m args meth c) (hW : Rn D cA ad S s.heap σ H locs) {v : Int32} (hk : S.2.1 i = 2) (hi : i < S.1) (hin : ∀ w ∈ wsX20, w ∈ ws) (hl : Cond.fieldLink own index "ThirdOfTheLast$Mind" "size" "I" ∈ ws) (he : σ' = uI σ i 2 v) (hdg : decode cc pc = .ok (.putfield index, 3)) (kk : ∀ (H : Heap) (locs : List Loc), Rn D cA ad S s.heap σ' H locs → W p l e R s m args below meth c H locs 0 0 Q (F0 m (pc + 3) ls rest)) : W p l e R s m args below meth c H locs 0 0 Q (F0 m pc ls (.int v :: .ref (ad i) :: rest)) := r_putI (K := 2) (k := 2) (C := RX2) (T := TX2) (N := 7) (ty := .int) X hW hk hi rfl hin tyX2 tyX2_ok nmX2 (by decide) hl rfl (by decide +kernel) rfl rfl (by simp [fl]) rfl he hdg kk
theorem get_2_3 (X : Cx own ws cc nL ret D cA ad S p s m args meth c) (hW : Rn D cA ad S s.heap σ H locs) (hk : S.2.1 i = 2) (hi : i < S.1) (hin : ∀ w ∈ wsX20, w ∈ ws) (hl : Cond.fieldLink own index "ThirdOfTheLast$Mind" "bans" "I" ∈ ws) (hdg : decode cc pc = .ok (.getfield index, 3)) (kk : W p l e R s m args below meth c H locs 0 0 Q (F0 m (pc + 3) ls (.int (σ.1 i 3) :: rest))) : W p l e R s m args below meth c H locs 0 0 Q (F0 m pc ls (.ref (ad i) :: rest)) := r_get (K := 2) (k := 3) (C := RX2) (T := TX2) (N := 7) X hW hk hi rfl hin (by decide) hl rfl hdg kk
theorem put_2_3 (X : Cx own ws cc nL ret D cA ad S p s m args meth c) (hW : Rn D cA ad S s.heap σ H locs) {v : Int32} (hk : S.2.1 i = 2) (hi : i < S.1) (hin : ∀ w ∈ wsX20, w ∈ ws) (hl : Cond.fieldLink own index "ThirdOfTheLast$Mind" "bans" "I" ∈ ws) (he : σ' = uI σ i 3 v) (hdg : decode cc pc = .ok (.putfield index, 3)) (kk : ∀ (H : Heap) (locs : List Loc), Rn D cA ad S s.heap σ' H locs → W p l e R s m args below meth c H locs 0 0 Q (F0 m (pc + 3) ls rest)) : W p l e R s m args below meth c H locs 0 0 Q (F0 m pc ls (.int v :: .ref (ad i) :: rest)) := r_putI (K := 2) (k := 3) (C := RX2) (T := TX2) (N := 7) (ty := .int) X hW hk hi rfl hin tyX2 tyX2_ok nmX2 (by decide) hl rfl (by decide +kernel) rfl rfl (by simp [fl]) rfl he hdg kk
theorem get_2_4 (X : Cx own ws cc nL ret D cA ad S p s m args meth c) (hW : Rn D cA ad S s.heap σ H locs) (hk : S.2.1 i = 2) (hi : i < S.1) (hin : ∀ w ∈ wsX20, w ∈ ws) (hl : Cond.fieldLink own index "ThirdOfTheLast$Mind" "p" "I" ∈ ws) (hdg : decode cc pc = .ok (.getfield index, 3)) (kk : W p l e R s m args below meth c H locs 0 0 Q (F0 m (pc + 3) ls (.int (σ.1 i 4) :: rest))) : W p l e R s m args below meth c H locs 0 0 Q (F0 m pc ls (.ref (ad i) :: rest)) := r_get (K := 2) (k := 4) (C := RX2) (T := TX2) (N := 7) X hW hk hi rfl hin (by decide) hl rfl hdg kk
theorem put_2_4 (X : Cx own ws cc nL ret D cA ad S p s m args meth c) (hW : Rn D cA ad S s.heap σ H locs) {v : Int32} (hk : S.2.1 i = 2) (hi : i < S.1) (hin : ∀ w ∈ wsX20, w ∈ ws) (hl : Cond.fieldLink own index "ThirdOfTheLast$Mind" "p" "I" ∈ ws) (he : σ' = uI σ i 4 v) (hdg : decode cc pc = .ok (.putfield index, 3)) (kk : ∀ (H : Heap) (locs : List Loc), Rn D cA ad S s.heap σ' H locs → W p l e R s m args below meth c H locs 0 0 Q (F0 m (pc + 3) ls rest)) : W p l e R s m args below meth c H locs 0 0 Q (F0 m pc ls (.int v :: .ref (ad i) :: rest)) := r_putI (K := 2) (k := 4) (C := RX2) (T := TX2) (N := 7) (ty := .int) X hW hk hi rfl hin tyX2 tyX2_ok nmX2 (by decide) hl rfl (by decide +kernel) rfl rfl (by simp [fl]) rfl he hdg kk
theorem get_2_5 (X : Cx own ws cc nL ret D cA ad S p s m args meth c) (hW : Rn D cA ad S s.heap σ H locs) (hk : S.2.1 i = 2) (hi : i < S.1) (hin : ∀ w ∈ wsX20, w ∈ ws) (hl : Cond.fieldLink own index "ThirdOfTheLast$Mind" "ways" "I" ∈ ws) (hdg : decode cc pc = .ok (.getfield index, 3)) (kk : W p l e R s m args below meth c H locs 0 0 Q (F0 m (pc + 3) ls (.int (σ.1 i 5) :: rest))) : W p l e R s m args below meth c H locs 0 0 Q (F0 m pc ls (.ref (ad i) :: rest)) := r_get (K := 2) (k := 5) (C := RX2) (T := TX2) (N := 7) X hW hk hi rfl hin (by decide) hl rfl hdg kk
theorem put_2_5 (X : Cx own ws cc nL ret D cA ad S p s m args meth c) (hW : Rn D cA ad S s.heap σ H locs) {v : Int32} (hk : S.2.1 i = 2) (hi : i < S.1) (hin : ∀ w ∈ wsX20, w ∈ ws) (hl : Cond.fieldLink own index "ThirdOfTheLast$Mind" "ways" "I" ∈ ws) (he : σ' = uI σ i 5 v) (hdg : decode cc pc = .ok (.putfield index, 3)) (kk : ∀ (H : Heap) (locs : List Loc), Rn D cA ad S s.heap σ' H locs → W p l e R s m args below meth c H locs 0 0 Q (F0 m (pc + 3) ls rest)) : W p l e R s m args below meth c H locs 0 0 Q (F0 m pc ls (.int v :: .ref (ad i) :: rest)) := r_putI (K := 2) (k := 5) (C := RX2) (T := TX2) (N := 7) (ty := .int) X hW hk hi rfl hin tyX2 tyX2_ok nmX2 (by decide) hl rfl (by decide +kernel) rfl rfl (by simp [fl]) rfl he hdg kk
theorem get_2_6 (X : Cx own ws cc nL ret D cA ad S p s m args meth c) (hW : Rn D cA ad S s.heap σ H locs) (hk : S.2.1 i = 2) (hi : i < S.1) (hin : ∀ w ∈ wsX20, w ∈ ws) (hl : Cond.fieldLink own index "ThirdOfTheLast$Mind" "firstWay" "I" ∈ ws) (hdg : decode cc pc = .ok (.getfield index, 3)) (kk : W p l e R s m args below meth c H locs 0 0 Q (F0 m (pc + 3) ls (.int (σ.1 i 6) :: rest))) : W p l e R s m args below meth c H locs 0 0 Q (F0 m pc ls (.ref (ad i) :: rest)) := r_get (K := 2) (k := 6) (C := RX2) (T := TX2) (N := 7) X hW hk hi rfl hin (by decide) hl rfl hdg kk
theorem put_2_6 (X : Cx own ws cc nL ret D cA ad S p s m args meth c) (hW : Rn D cA ad S s.heap σ H locs) {v : Int32} (hk : S.2.1 i = 2) (hi : i < S.1) (hin : ∀ w ∈ wsX20, w ∈ ws) (hl : Cond.fieldLink own index "ThirdOfTheLast$Mind" "firstWay" "I" ∈ ws) (he : σ' = uI σ i 6 v) (hdg : decode cc pc = .ok (.putfield index, 3)) (kk : ∀ (H : Heap) (locs : List Loc), Rn D cA ad S s.heap σ' H locs → W p l e R s m args below meth c H locs 0 0 Q (F0 m (pc + 3) ls rest)) : W p l e R s m args below meth c H locs 0 0 Q (F0 m pc ls (.int v :: .ref (ad i) :: rest)) := r_putI (K := 2) (k := 6) (C := RX2) (T := TX2) (N := 7) (ty := .int) X hW hk hi rfl hin tyX2 tyX2_ok nmX2 (by decide) hl rfl (by decide +kernel) rfl rfl (by simp [fl]) rfl he hdg kk
theorem get_3_0 (X : Cx own ws cc nL ret D cA ad S p s m args meth c) (hW : Rn D cA ad S s.heap σ H locs) (hk : S.2.1 i = 3) (hi : i < S.1) (hin : ∀ w ∈ wsX30, w ∈ ws) (hl : Cond.fieldLink own index "ThirdOfTheLast$Pot" "flavour" "LThirdOfTheLast$Flavour;" ∈ ws) (hdg : decode cc pc = .ok (.getfield index, 3)) (kk : W p l e R s m args below meth c H locs 0 0 Q (F0 m (pc + 3) ls (.ref (ad (i + 1)) :: rest))) : W p l e R s m args below meth c H locs 0 0 Q (F0 m pc ls (.ref (ad i) :: rest)) := r_get (K := 3) (k := 0) (C := RX3) (T := TX3) (N := 3) X hW hk hi rfl hin (by decide) hl rfl hdg kk
theorem get_3_1 (X : Cx own ws cc nL ret D cA ad S p s m args meth c) (hW : Rn D cA ad S s.heap σ H locs) (hk : S.2.1 i = 3) (hi : i < S.1) (hin : ∀ w ∈ wsX30, w ∈ ws) (hl : Cond.fieldLink own index "ThirdOfTheLast$Pot" "kinds" "[I" ∈ ws) (hdg : decode cc pc = .ok (.getfield index, 3)) (kk : W p l e R s m args below meth c H locs 0 0 Q (F0 m (pc + 3) ls (.ref (ad (i + 3)) :: rest))) : W p l e R s m args below meth c H locs 0 0 Q (F0 m pc ls (.ref (ad i) :: rest)) := r_get (K := 3) (k := 1) (C := RX3) (T := TX3) (N := 3) X hW hk hi rfl hin (by decide) hl rfl hdg kk
theorem get_3_2 (X : Cx own ws cc nL ret D cA ad S p s m args meth c) (hW : Rn D cA ad S s.heap σ H locs) (hk : S.2.1 i = 3) (hi : i < S.1) (hin : ∀ w ∈ wsX30, w ∈ ws) (hl : Cond.fieldLink own index "ThirdOfTheLast$Pot" "figures" "[I" ∈ ws) (hdg : decode cc pc = .ok (.getfield index, 3)) (kk : W p l e R s m args below meth c H locs 0 0 Q (F0 m (pc + 3) ls (.ref (ad (i + 4)) :: rest))) : W p l e R s m args below meth c H locs 0 0 Q (F0 m pc ls (.ref (ad i) :: rest)) := r_get (K := 3) (k := 2) (C := RX3) (T := TX3) (N := 3) X hW hk hi rfl hin (by decide) hl rfl hdg kk
theorem get_4_0 (X : Cx own ws cc nL ret D cA ad S p s m args meth c) (hW : Rn D cA ad S s.heap σ H locs) (hk : S.2.1 i = 4) (hi : i < S.1) (hin : ∀ w ∈ wsX40, w ∈ ws) (hl : Cond.fieldLink own index "ThirdOfTheLast$Shelf" "held" "I" ∈ ws) (hdg : decode cc pc = .ok (.getfield index, 3)) (kk : W p l e R s m args below meth c H locs 0 0 Q (F0 m (pc + 3) ls (.int (σ.1 i 0) :: rest))) : W p l e R s m args below meth c H locs 0 0 Q (F0 m pc ls (.ref (ad i) :: rest)) := r_get (K := 4) (k := 0) (C := RX4) (T := TX4) (N := 6) X hW hk hi rfl hin (by decide) hl rfl hdg kk
theorem put_4_0 (X : Cx own ws cc nL ret D cA ad S p s m args meth c) (hW : Rn D cA ad S s.heap σ H locs) {v : Int32} (hk : S.2.1 i = 4) (hi : i < S.1) (hin : ∀ w ∈ wsX40, w ∈ ws) (hl : Cond.fieldLink own index "ThirdOfTheLast$Shelf" "held" "I" ∈ ws) (he : σ' = uI σ i 0 v) (hdg : decode cc pc = .ok (.putfield index, 3)) (kk : ∀ (H : Heap) (locs : List Loc), Rn D cA ad S s.heap σ' H locs → W p l e R s m args below meth c H locs 0 0 Q (F0 m (pc + 3) ls rest)) : W p l e R s m args below meth c H locs 0 0 Q (F0 m pc ls (.int v :: .ref (ad i) :: rest)) := r_putI (K := 4) (k := 0) (C := RX4) (T := TX4) (N := 6) (ty := .int) X hW hk hi rfl hin tyX4 tyX4_ok nmX4 (by decide) hl rfl (by decide +kernel) rfl rfl (by simp [fl]) rfl he hdg kk
theorem get_4_1 (X : Cx own ws cc nL ret D cA ad S p s m args meth c) (hW : Rn D cA ad S s.heap σ H locs) (hk : S.2.1 i = 4) (hi : i < S.1) (hin : ∀ w ∈ wsX40, w ∈ ws) (hl : Cond.fieldLink own index "ThirdOfTheLast$Shelf" "kind" "I" ∈ ws) (hdg : decode cc pc = .ok (.getfield index, 3)) (kk : W p l e R s m args below meth c H locs 0 0 Q (F0 m (pc + 3) ls (.int (σ.1 i 1) :: rest))) : W p l e R s m args below meth c H locs 0 0 Q (F0 m pc ls (.ref (ad i) :: rest)) := r_get (K := 4) (k := 1) (C := RX4) (T := TX4) (N := 6) X hW hk hi rfl hin (by decide) hl rfl hdg kk
theorem put_4_1 (X : Cx own ws cc nL ret D cA ad S p s m args meth c) (hW : Rn D cA ad S s.heap σ H locs) {v : Int32} (hk : S.2.1 i = 4) (hi : i < S.1) (hin : ∀ w ∈ wsX40, w ∈ ws) (hl : Cond.fieldLink own index "ThirdOfTheLast$Shelf" "kind" "I" ∈ ws) (he : σ' = uI σ i 1 v) (hdg : decode cc pc = .ok (.putfield index, 3)) (kk : ∀ (H : Heap) (locs : List Loc), Rn D cA ad S s.heap σ' H locs → W p l e R s m args below meth c H locs 0 0 Q (F0 m (pc + 3) ls rest)) : W p l e R s m args below meth c H locs 0 0 Q (F0 m pc ls (.int v :: .ref (ad i) :: rest)) := r_putI (K := 4) (k := 1) (C := RX4) (T := TX4) (N := 6) (ty := .int) X hW hk hi rfl hin tyX4 tyX4_ok nmX4 (by decide) hl rfl (by decide +kernel) rfl rfl (by simp [fl]) rfl he hdg kk
theorem get_4_2 (X : Cx own ws cc nL ret D cA ad S p s m args meth c) (hW : Rn D cA ad S s.heap σ H locs) (hk : S.2.1 i = 4) (hi : i < S.1) (hin : ∀ w ∈ wsX40, w ∈ ws) (hl : Cond.fieldLink own index "ThirdOfTheLast$Shelf" "figure" "I" ∈ ws) (hdg : decode cc pc = .ok (.getfield index, 3)) (kk : W p l e R s m args below meth c H locs 0 0 Q (F0 m (pc + 3) ls (.int (σ.1 i 2) :: rest))) : W p l e R s m args below meth c H locs 0 0 Q (F0 m pc ls (.ref (ad i) :: rest)) := r_get (K := 4) (k := 2) (C := RX4) (T := TX4) (N := 6) X hW hk hi rfl hin (by decide) hl rfl hdg kk
theorem put_4_2 (X : Cx own ws cc nL ret D cA ad S p s m args meth c) (hW : Rn D cA ad S s.heap σ H locs) {v : Int32} (hk : S.2.1 i = 4) (hi : i < S.1) (hin : ∀ w ∈ wsX40, w ∈ ws) (hl : Cond.fieldLink own index "ThirdOfTheLast$Shelf" "figure" "I" ∈ ws) (he : σ' = uI σ i 2 v) (hdg : decode cc pc = .ok (.putfield index, 3)) (kk : ∀ (H : Heap) (locs : List Loc), Rn D cA ad S s.heap σ' H locs → W p l e R s m args below meth c H locs 0 0 Q (F0 m (pc + 3) ls rest)) : W p l e R s m args below meth c H locs 0 0 Q (F0 m pc ls (.int v :: .ref (ad i) :: rest)) := r_putI (K := 4) (k := 2) (C := RX4) (T := TX4) (N := 6) (ty := .int) X hW hk hi rfl hin tyX4 tyX4_ok nmX4 (by decide) hl rfl (by decide +kernel) rfl rfl (by simp [fl]) rfl he hdg kk
theorem get_4_3 (X : Cx own ws cc nL ret D cA ad S p s m args meth c) (hW : Rn D cA ad S s.heap σ H locs) (hk : S.2.1 i = 4) (hi : i < S.1) (hin : ∀ w ∈ wsX40, w ∈ ws) (hl : Cond.fieldLink own index "ThirdOfTheLast$Shelf" "sort" "I" ∈ ws) (hdg : decode cc pc = .ok (.getfield index, 3)) (kk : W p l e R s m args below meth c H locs 0 0 Q (F0 m (pc + 3) ls (.int (σ.1 i 3) :: rest))) : W p l e R s m args below meth c H locs 0 0 Q (F0 m pc ls (.ref (ad i) :: rest)) := r_get (K := 4) (k := 3) (C := RX4) (T := TX4) (N := 6) X hW hk hi rfl hin (by decide) hl rfl hdg kk
theorem put_4_3 (X : Cx own ws cc nL ret D cA ad S p s m args meth c) (hW : Rn D cA ad S s.heap σ H locs) {v : Int32} (hk : S.2.1 i = 4) (hi : i < S.1) (hin : ∀ w ∈ wsX40, w ∈ ws) (hl : Cond.fieldLink own index "ThirdOfTheLast$Shelf" "sort" "I" ∈ ws) (he : σ' = uI σ i 3 v) (hdg : decode cc pc = .ok (.putfield index, 3)) (kk : ∀ (H : Heap) (locs : List Loc), Rn D cA ad S s.heap σ' H locs → W p l e R s m args below meth c H locs 0 0 Q (F0 m (pc + 3) ls rest)) : W p l e R s m args below meth c H locs 0 0 Q (F0 m pc ls (.int v :: .ref (ad i) :: rest)) := r_putI (K := 4) (k := 3) (C := RX4) (T := TX4) (N := 6) (ty := .int) X hW hk hi rfl hin tyX4 tyX4_ok nmX4 (by decide) hl rfl (by decide +kernel) rfl rfl (by simp [fl]) rfl he hdg kk
theorem get_4_4 (X : Cx own ws cc nL ret D cA ad S p s m args meth c) (hW : Rn D cA ad S s.heap σ H locs) (hk : S.2.1 i = 4) (hi : i < S.1) (hin : ∀ w ∈ wsX40, w ∈ ws) (hl : Cond.fieldLink own index "ThirdOfTheLast$Shelf" "size" "I" ∈ ws) (hdg : decode cc pc = .ok (.getfield index, 3)) (kk : W p l e R s m args below meth c H locs 0 0 Q (F0 m (pc + 3) ls (.int (σ.1 i 4) :: rest))) : W p l e R s m args below meth c H locs 0 0 Q (F0 m pc ls (.ref (ad i) :: rest)) := r_get (K := 4) (k := 4) (C := RX4) (T := TX4) (N := 6) X hW hk hi rfl hin (by decide) hl rfl hdg kk
theorem put_4_4 (X : Cx own ws cc nL ret D cA ad S p s m args meth c) (hW : Rn D cA ad S s.heap σ H locs) {v : Int32} (hk : S.2.1 i = 4) (hi : i < S.1) (hin : ∀ w ∈ wsX40, w ∈ ws) (hl : Cond.fieldLink own index "ThirdOfTheLast$Shelf" "size" "I" ∈ ws) (he : σ' = uI σ i 4 v) (hdg : decode cc pc = .ok (.putfield index, 3)) (kk : ∀ (H : Heap) (locs : List Loc), Rn D cA ad S s.heap σ' H locs → W p l e R s m args below meth c H locs 0 0 Q (F0 m (pc + 3) ls rest)) : W p l e R s m args below meth c H locs 0 0 Q (F0 m pc ls (.int v :: .ref (ad i) :: rest)) := r_putI (K := 4) (k := 4) (C := RX4) (T := TX4) (N := 6) (ty := .int) X hW hk hi rfl hin tyX4 tyX4_ok nmX4 (by decide) hl rfl (by decide +kernel) rfl rfl (by simp [fl]) rfl he hdg kk
theorem get_4_5 (X : Cx own ws cc nL ret D cA ad S p s m args meth c) (hW : Rn D cA ad S s.heap σ H locs) (hk : S.2.1 i = 4) (hi : i < S.1) (hin : ∀ w ∈ wsX40, w ∈ ws) (hl : Cond.fieldLink own index "ThirdOfTheLast$Shelf" "elements" "[I" ∈ ws) (hdg : decode cc pc = .ok (.getfield index, 3)) (kk : W p l e R s m args below meth c H locs 0 0 Q (F0 m (pc + 3) ls (.ref (ad (i + 1)) :: rest))) : W p l e R s m args below meth c H locs 0 0 Q (F0 m pc ls (.ref (ad i) :: rest)) := r_get (K := 4) (k := 5) (C := RX4) (T := TX4) (N := 6) X hW hk hi rfl hin (by decide) hl rfl hdg kk
theorem get_5_0 (X : Cx own ws cc nL ret D cA ad S p s m args meth c) (hW : Rn D cA ad S s.heap σ H locs) (hk : S.2.1 i = 5) (hi : i < S.1) (hin : ∀ w ∈ wsX50, w ∈ ws) (hl : Cond.fieldLink own index "ThirdOfTheLast" "now" "LThirdOfTheLast$Kitchen;" ∈ ws) (hdg : decode cc pc = .ok (.getfield index, 3)) (kk : W p l e R s m args below meth c H locs 0 0 Q (F0 m (pc + 3) ls (.ref (ad (i + 1)) :: rest))) : W p l e R s m args below meth c H locs 0 0 Q (F0 m pc ls (.ref (ad i) :: rest)) := r_get (K := 5) (k := 0) (C := RX5) (T := TX5) (N := 8) X hW hk hi rfl hin (by decide) hl rfl hdg kk
theorem get_5_1 (X : Cx own ws cc nL ret D cA ad S p s m args meth c) (hW : Rn D cA ad S s.heap σ H locs) (hk : S.2.1 i = 5) (hi : i < S.1) (hin : ∀ w ∈ wsX50, w ∈ ws) (hl : Cond.fieldLink own index "ThirdOfTheLast" "tried" "LThirdOfTheLast$Kitchen;" ∈ ws) (hdg : decode cc pc = .ok (.getfield index, 3)) (kk : W p l e R s m args below meth c H locs 0 0 Q (F0 m (pc + 3) ls (.ref (ad (i + 33)) :: rest))) : W p l e R s m args below meth c H locs 0 0 Q (F0 m pc ls (.ref (ad i) :: rest)) := r_get (K := 5) (k := 1) (C := RX5) (T := TX5) (N := 8) X hW hk hi rfl hin (by decide) hl rfl hdg kk
theorem get_5_2 (X : Cx own ws cc nL ret D cA ad S p s m args meth c) (hW : Rn D cA ad S s.heap σ H locs) (hk : S.2.1 i = 5) (hi : i < S.1) (hin : ∀ w ∈ wsX50, w ∈ ws) (hl : Cond.fieldLink own index "ThirdOfTheLast" "kept" "LThirdOfTheLast$Kitchen;" ∈ ws) (hdg : decode cc pc = .ok (.getfield index, 3)) (kk : W p l e R s m args below meth c H locs 0 0 Q (F0 m (pc + 3) ls (.ref (ad (i + 65)) :: rest))) : W p l e R s m args below meth c H locs 0 0 Q (F0 m pc ls (.ref (ad i) :: rest)) := r_get (K := 5) (k := 2) (C := RX5) (T := TX5) (N := 8) X hW hk hi rfl hin (by decide) hl rfl hdg kk
theorem get_5_3 (X : Cx own ws cc nL ret D cA ad S p s m args meth c) (hW : Rn D cA ad S s.heap σ H locs) (hk : S.2.1 i = 5) (hi : i < S.1) (hin : ∀ w ∈ wsX50, w ∈ ws) (hl : Cond.fieldLink own index "ThirdOfTheLast" "isKept" "Z" ∈ ws) (hdg : decode cc pc = .ok (.getfield index, 3)) (kk : W p l e R s m args below meth c H locs 0 0 Q (F0 m (pc + 3) ls (.int (σ.1 i 3) :: rest))) : W p l e R s m args below meth c H locs 0 0 Q (F0 m pc ls (.ref (ad i) :: rest)) := r_get (K := 5) (k := 3) (C := RX5) (T := TX5) (N := 8) X hW hk hi rfl hin (by decide) hl rfl hdg kk
theorem put_5_3 (X : Cx own ws cc nL ret D cA ad S p s m args meth c) (hW : Rn D cA ad S s.heap σ H locs) {v : Int32} (hk : S.2.1 i = 5) (hi : i < S.1) (hin : ∀ w ∈ wsX50, w ∈ ws) (hl : Cond.fieldLink own index "ThirdOfTheLast" "isKept" "Z" ∈ ws) (hv : b01 v = true) (he : σ' = uI σ i 3 v) (hdg : decode cc pc = .ok (.putfield index, 3)) (kk : ∀ (H : Heap) (locs : List Loc), Rn D cA ad S s.heap σ' H locs → W p l e R s m args below meth c H locs 0 0 Q (F0 m (pc + 3) ls rest)) : W p l e R s m args below meth c H locs 0 0 Q (F0 m pc ls (.int v :: .ref (ad i) :: rest)) := r_putI (K := 5) (k := 3) (C := RX5) (T := TX5) (N := 8) (ty := .boolean) X hW hk hi rfl hin tyX5 tyX5_ok nmX5 (by decide) hl rfl (by decide +kernel) (b01_e hv).1 (b01_e hv).2 (by simp [fl]) rfl he hdg kk
theorem get_5_4 (X : Cx own ws cc nL ret D cA ad S p s m args meth c) (hW : Rn D cA ad S s.heap σ H locs) (hk : S.2.1 i = 5) (hi : i < S.1) (hin : ∀ w ∈ wsX50, w ∈ ws) (hl : Cond.fieldLink own index "ThirdOfTheLast" "mind" "LThirdOfTheLast$Mind;" ∈ ws) (hdg : decode cc pc = .ok (.getfield index, 3)) (kk : W p l e R s m args below meth c H locs 0 0 Q (F0 m (pc + 3) ls (.ref (ad (i + 97)) :: rest))) : W p l e R s m args below meth c H locs 0 0 Q (F0 m pc ls (.ref (ad i) :: rest)) := r_get (K := 5) (k := 4) (C := RX5) (T := TX5) (N := 8) X hW hk hi rfl hin (by decide) hl rfl hdg kk
theorem get_5_5 (X : Cx own ws cc nL ret D cA ad S p s m args meth c) (hW : Rn D cA ad S s.heap σ H locs) (hk : S.2.1 i = 5) (hi : i < S.1) (hin : ∀ w ∈ wsX50, w ∈ ws) (hl : Cond.fieldLink own index "ThirdOfTheLast" "trial" "LThirdOfTheLast$Flavour;" ∈ ws) (hdg : decode cc pc = .ok (.getfield index, 3)) (kk : W p l e R s m args below meth c H locs 0 0 Q (F0 m (pc + 3) ls (.ref (ad (i + 122)) :: rest))) : W p l e R s m args below meth c H locs 0 0 Q (F0 m pc ls (.ref (ad i) :: rest)) := r_get (K := 5) (k := 5) (C := RX5) (T := TX5) (N := 8) X hW hk hi rfl hin (by decide) hl rfl hdg kk
theorem get_5_6 (X : Cx own ws cc nL ret D cA ad S p s m args meth c) (hW : Rn D cA ad S s.heap σ H locs) (hk : S.2.1 i = 5) (hi : i < S.1) (hin : ∀ w ∈ wsX50, w ∈ ws) (hl : Cond.fieldLink own index "ThirdOfTheLast" "portions" "[I" ∈ ws) (hdg : decode cc pc = .ok (.getfield index, 3)) (kk : W p l e R s m args below meth c H locs 0 0 Q (F0 m (pc + 3) ls (.ref (ad (i + 124)) :: rest))) : W p l e R s m args below meth c H locs 0 0 Q (F0 m pc ls (.ref (ad i) :: rest)) := r_get (K := 5) (k := 6) (C := RX5) (T := TX5) (N := 8) X hW hk hi rfl hin (by decide) hl rfl hdg kk
theorem get_5_7 (X : Cx own ws cc nL ret D cA ad S p s m args meth c) (hW : Rn D cA ad S s.heap σ H locs) (hk : S.2.1 i = 5) (hi : i < S.1) (hin : ∀ w ∈ wsX50, w ∈ ws) (hl : Cond.fieldLink own index "ThirdOfTheLast" "shelves" "[LThirdOfTheLast$Shelf;" ∈ ws) (hdg : decode cc pc = .ok (.getfield index, 3)) (kk : W p l e R s m args below meth c H locs 0 0 Q (F0 m (pc + 3) ls (.ref (ad (i + 125)) :: rest))) : W p l e R s m args below meth c H locs 0 0 Q (F0 m pc ls (.ref (ad i) :: rest)) := r_get (K := 5) (k := 7) (C := RX5) (T := TX5) (N := 8) X hW hk hi rfl hin (by decide) hl rfl hdg kk
theorem get_6_0 (X : Cx own ws cc nL ret D cA ad S p s m args meth c) (hW : Rn D cA ad S s.heap σ H locs) (hk : S.2.1 i = 6) (hi : i < S.1) (hin : ∀ w ∈ wsX60, w ∈ ws) (hl : Cond.fieldLink own index "ThirdOfTheLastModel" "pots" "I" ∈ ws) (hdg : decode cc pc = .ok (.getfield index, 3)) (kk : W p l e R s m args below meth c H locs 0 0 Q (F0 m (pc + 3) ls (.int (σ.1 i 0) :: rest))) : W p l e R s m args below meth c H locs 0 0 Q (F0 m pc ls (.ref (ad i) :: rest)) := r_get (K := 6) (k := 0) (C := RX6) (T := TX6) (N := 33) X hW hk hi rfl hin (by decide) hl rfl hdg kk
theorem put_6_0 (X : Cx own ws cc nL ret D cA ad S p s m args meth c) (hW : Rn D cA ad S s.heap σ H locs) {v : Int32} (hk : S.2.1 i = 6) (hi : i < S.1) (hin : ∀ w ∈ wsX60, w ∈ ws) (hl : Cond.fieldLink own index "ThirdOfTheLastModel" "pots" "I" ∈ ws) (he : σ' = uI σ i 0 v) (hdg : decode cc pc = .ok (.putfield index, 3)) (kk : ∀ (H : Heap) (locs : List Loc), Rn D cA ad S s.heap σ' H locs → W p l e R s m args below meth c H locs 0 0 Q (F0 m (pc + 3) ls rest)) : W p l e R s m args below meth c H locs 0 0 Q (F0 m pc ls (.int v :: .ref (ad i) :: rest)) := r_putI (K := 6) (k := 0) (C := RX6) (T := TX6) (N := 33) (ty := .int) X hW hk hi rfl hin tyX6 tyX6_ok nmX6 (by decide) hl rfl (by decide +kernel) rfl rfl (by simp [fl]) rfl he hdg kk
theorem get_6_1 (X : Cx own ws cc nL ret D cA ad S p s m args meth c) (hW : Rn D cA ad S s.heap σ H locs) (hk : S.2.1 i = 6) (hi : i < S.1) (hin : ∀ w ∈ wsX60, w ∈ ws) (hl : Cond.fieldLink own index "ThirdOfTheLastModel" "tastes" "[J" ∈ ws) (hdg : decode cc pc = .ok (.getfield index, 3)) (kk : W p l e R s m args below meth c H locs 0 0 Q (F0 m (pc + 3) ls (.ref (ad (i + 1)) :: rest))) : W p l e R s m args below meth c H locs 0 0 Q (F0 m pc ls (.ref (ad i) :: rest)) := r_get (K := 6) (k := 1) (C := RX6) (T := TX6) (N := 33) X hW hk hi rfl hin (by decide) hl rfl hdg kk
theorem get_6_2 (X : Cx own ws cc nL ret D cA ad S p s m args meth c) (hW : Rn D cA ad S s.heap σ H locs) (hk : S.2.1 i = 6) (hi : i < S.1) (hin : ∀ w ∈ wsX60, w ∈ ws) (hl : Cond.fieldLink own index "ThirdOfTheLastModel" "dishMany" "[I" ∈ ws) (hdg : decode cc pc = .ok (.getfield index, 3)) (kk : W p l e R s m args below meth c H locs 0 0 Q (F0 m (pc + 3) ls (.ref (ad (i + 2)) :: rest))) : W p l e R s m args below meth c H locs 0 0 Q (F0 m pc ls (.ref (ad i) :: rest)) := r_get (K := 6) (k := 2) (C := RX6) (T := TX6) (N := 33) X hW hk hi rfl hin (by decide) hl rfl hdg kk
theorem get_6_3 (X : Cx own ws cc nL ret D cA ad S p s m args meth c) (hW : Rn D cA ad S s.heap σ H locs) (hk : S.2.1 i = 6) (hi : i < S.1) (hin : ∀ w ∈ wsX60, w ∈ ws) (hl : Cond.fieldLink own index "ThirdOfTheLastModel" "kinds" "[I" ∈ ws) (hdg : decode cc pc = .ok (.getfield index, 3)) (kk : W p l e R s m args below meth c H locs 0 0 Q (F0 m (pc + 3) ls (.ref (ad (i + 3)) :: rest))) : W p l e R s m args below meth c H locs 0 0 Q (F0 m pc ls (.ref (ad i) :: rest)) := r_get (K := 6) (k := 3) (C := RX6) (T := TX6) (N := 33) X hW hk hi rfl hin (by decide) hl rfl hdg kk
theorem get_6_4 (X : Cx own ws cc nL ret D cA ad S p s m args meth c) (hW : Rn D cA ad S s.heap σ H locs) (hk : S.2.1 i = 6) (hi : i < S.1) (hin : ∀ w ∈ wsX60, w ∈ ws) (hl : Cond.fieldLink own index "ThirdOfTheLastModel" "figures" "[I" ∈ ws) (hdg : decode cc pc = .ok (.getfield index, 3)) (kk : W p l e R s m args below meth c H locs 0 0 Q (F0 m (pc + 3) ls (.ref (ad (i + 4)) :: rest))) : W p l e R s m args below meth c H locs 0 0 Q (F0 m pc ls (.ref (ad i) :: rest)) := r_get (K := 6) (k := 4) (C := RX6) (T := TX6) (N := 33) X hW hk hi rfl hin (by decide) hl rfl hdg kk
theorem get_6_5 (X : Cx own ws cc nL ret D cA ad S p s m args meth c) (hW : Rn D cA ad S s.heap σ H locs) (hk : S.2.1 i = 6) (hi : i < S.1) (hin : ∀ w ∈ wsX60, w ∈ ws) (hl : Cond.fieldLink own index "ThirdOfTheLastModel" "thrown" "I" ∈ ws) (hdg : decode cc pc = .ok (.getfield index, 3)) (kk : W p l e R s m args below meth c H locs 0 0 Q (F0 m (pc + 3) ls (.int (σ.1 i 5) :: rest))) : W p l e R s m args below meth c H locs 0 0 Q (F0 m pc ls (.ref (ad i) :: rest)) := r_get (K := 6) (k := 5) (C := RX6) (T := TX6) (N := 33) X hW hk hi rfl hin (by decide) hl rfl hdg kk
theorem put_6_5 (X : Cx own ws cc nL ret D cA ad S p s m args meth c) (hW : Rn D cA ad S s.heap σ H locs) {v : Int32} (hk : S.2.1 i = 6) (hi : i < S.1) (hin : ∀ w ∈ wsX60, w ∈ ws) (hl : Cond.fieldLink own index "ThirdOfTheLastModel" "thrown" "I" ∈ ws) (he : σ' = uI σ i 5 v) (hdg : decode cc pc = .ok (.putfield index, 3)) (kk : ∀ (H : Heap) (locs : List Loc), Rn D cA ad S s.heap σ' H locs → W p l e R s m args below meth c H locs 0 0 Q (F0 m (pc + 3) ls rest)) : W p l e R s m args below meth c H locs 0 0 Q (F0 m pc ls (.int v :: .ref (ad i) :: rest)) := r_putI (K := 6) (k := 5) (C := RX6) (T := TX6) (N := 33) (ty := .int) X hW hk hi rfl hin tyX6 tyX6_ok nmX6 (by decide) hl rfl (by decide +kernel) rfl rfl (by simp [fl]) rfl he hdg kk
theorem get_6_6 (X : Cx own ws cc nL ret D cA ad S p s m args meth c) (hW : Rn D cA ad S s.heap σ H locs) (hk : S.2.1 i = 6) (hi : i < S.1) (hin : ∀ w ∈ wsX60, w ∈ ws) (hl : Cond.fieldLink own index "ThirdOfTheLastModel" "imagedPots" "I" ∈ ws) (hdg : decode cc pc = .ok (.getfield index, 3)) (kk : W p l e R s m args below meth c H locs 0 0 Q (F0 m (pc + 3) ls (.int (σ.1 i 6) :: rest))) : W p l e R s m args below meth c H locs 0 0 Q (F0 m pc ls (.ref (ad i) :: rest)) := r_get (K := 6) (k := 6) (C := RX6) (T := TX6) (N := 33) X hW hk hi rfl hin (by decide) hl rfl hdg kk
theorem put_6_6 (X : Cx own ws cc nL ret D cA ad S p s m args meth c) (hW : Rn D cA ad S s.heap σ H locs) {v : Int32} (hk : S.2.1 i = 6) (hi : i < S.1) (hin : ∀ w ∈ wsX60, w ∈ ws) (hl : Cond.fieldLink own index "ThirdOfTheLastModel" "imagedPots" "I" ∈ ws) (he : σ' = uI σ i 6 v) (hdg : decode cc pc = .ok (.putfield index, 3)) (kk : ∀ (H : Heap) (locs : List Loc), Rn D cA ad S s.heap σ' H locs → W p l e R s m args below meth c H locs 0 0 Q (F0 m (pc + 3) ls rest)) : W p l e R s m args below meth c H locs 0 0 Q (F0 m pc ls (.int v :: .ref (ad i) :: rest)) := r_putI (K := 6) (k := 6) (C := RX6) (T := TX6) (N := 33) (ty := .int) X hW hk hi rfl hin tyX6 tyX6_ok nmX6 (by decide) hl rfl (by decide +kernel) rfl rfl (by simp [fl]) rfl he hdg kk
theorem get_6_7 (X : Cx own ws cc nL ret D cA ad S p s m args meth c) (hW : Rn D cA ad S s.heap σ H locs) (hk : S.2.1 i = 6) (hi : i < S.1) (hin : ∀ w ∈ wsX60, w ∈ ws) (hl : Cond.fieldLink own index "ThirdOfTheLastModel" "hasImage" "Z" ∈ ws) (hdg : decode cc pc = .ok (.getfield index, 3)) (kk : W p l e R s m args below meth c H locs 0 0 Q (F0 m (pc + 3) ls (.int (σ.1 i 7) :: rest))) : W p l e R s m args below meth c H locs 0 0 Q (F0 m pc ls (.ref (ad i) :: rest)) := r_get (K := 6) (k := 7) (C := RX6) (T := TX6) (N := 33) X hW hk hi rfl hin (by decide) hl rfl hdg kk
theorem put_6_7 (X : Cx own ws cc nL ret D cA ad S p s m args meth c) (hW : Rn D cA ad S s.heap σ H locs) {v : Int32} (hk : S.2.1 i = 6) (hi : i < S.1) (hin : ∀ w ∈ wsX60, w ∈ ws) (hl : Cond.fieldLink own index "ThirdOfTheLastModel" "hasImage" "Z" ∈ ws) (hv : b01 v = true) (he : σ' = uI σ i 7 v) (hdg : decode cc pc = .ok (.putfield index, 3)) (kk : ∀ (H : Heap) (locs : List Loc), Rn D cA ad S s.heap σ' H locs → W p l e R s m args below meth c H locs 0 0 Q (F0 m (pc + 3) ls rest)) : W p l e R s m args below meth c H locs 0 0 Q (F0 m pc ls (.int v :: .ref (ad i) :: rest)) := r_putI (K := 6) (k := 7) (C := RX6) (T := TX6) (N := 33) (ty := .boolean) X hW hk hi rfl hin tyX6 tyX6_ok nmX6 (by decide) hl rfl (by decide +kernel) (b01_e hv).1 (b01_e hv).2 (by simp [fl]) rfl he hdg kk
theorem get_6_8 (X : Cx own ws cc nL ret D cA ad S p s m args meth c) (hW : Rn D cA ad S s.heap σ H locs) (hk : S.2.1 i = 6) (hi : i < S.1) (hin : ∀ w ∈ wsX60, w ∈ ws) (hl : Cond.fieldLink own index "ThirdOfTheLastModel" "imagedTastes" "[J" ∈ ws) (hdg : decode cc pc = .ok (.getfield index, 3)) (kk : W p l e R s m args below meth c H locs 0 0 Q (F0 m (pc + 3) ls (.ref (ad (i + 5)) :: rest))) : W p l e R s m args below meth c H locs 0 0 Q (F0 m pc ls (.ref (ad i) :: rest)) := r_get (K := 6) (k := 8) (C := RX6) (T := TX6) (N := 33) X hW hk hi rfl hin (by decide) hl rfl hdg kk
theorem get_6_9 (X : Cx own ws cc nL ret D cA ad S p s m args meth c) (hW : Rn D cA ad S s.heap σ H locs) (hk : S.2.1 i = 6) (hi : i < S.1) (hin : ∀ w ∈ wsX60, w ∈ ws) (hl : Cond.fieldLink own index "ThirdOfTheLastModel" "imagedMany" "[I" ∈ ws) (hdg : decode cc pc = .ok (.getfield index, 3)) (kk : W p l e R s m args below meth c H locs 0 0 Q (F0 m (pc + 3) ls (.ref (ad (i + 6)) :: rest))) : W p l e R s m args below meth c H locs 0 0 Q (F0 m pc ls (.ref (ad i) :: rest)) := r_get (K := 6) (k := 9) (C := RX6) (T := TX6) (N := 33) X hW hk hi rfl hin (by decide) hl rfl hdg kk
theorem get_6_10 (X : Cx own ws cc nL ret D cA ad S p s m args meth c) (hW : Rn D cA ad S s.heap σ H locs) (hk : S.2.1 i = 6) (hi : i < S.1) (hin : ∀ w ∈ wsX60, w ∈ ws) (hl : Cond.fieldLink own index "ThirdOfTheLastModel" "imagedKinds" "[I" ∈ ws) (hdg : decode cc pc = .ok (.getfield index, 3)) (kk : W p l e R s m args below meth c H locs 0 0 Q (F0 m (pc + 3) ls (.ref (ad (i + 7)) :: rest))) : W p l e R s m args below meth c H locs 0 0 Q (F0 m pc ls (.ref (ad i) :: rest)) := r_get (K := 6) (k := 10) (C := RX6) (T := TX6) (N := 33) X hW hk hi rfl hin (by decide) hl rfl hdg kk
theorem get_6_11 (X : Cx own ws cc nL ret D cA ad S p s m args meth c) (hW : Rn D cA ad S s.heap σ H locs) (hk : S.2.1 i = 6) (hi : i < S.1) (hin : ∀ w ∈ wsX60, w ∈ ws) (hl : Cond.fieldLink own index "ThirdOfTheLastModel" "imagedFigures" "[I" ∈ ws) (hdg : decode cc pc = .ok (.getfield index, 3)) (kk : W p l e R s m args below meth c H locs 0 0 Q (F0 m (pc + 3) ls (.ref (ad (i + 8)) :: rest))) : W p l e R s m args below meth c H locs 0 0 Q (F0 m pc ls (.ref (ad i) :: rest)) := r_get (K := 6) (k := 11) (C := RX6) (T := TX6) (N := 33) X hW hk hi rfl hin (by decide) hl rfl hdg kk
theorem get_6_12 (X : Cx own ws cc nL ret D cA ad S p s m args meth c) (hW : Rn D cA ad S s.heap σ H locs) (hk : S.2.1 i = 6) (hi : i < S.1) (hin : ∀ w ∈ wsX60, w ∈ ws) (hl : Cond.fieldLink own index "ThirdOfTheLastModel" "keptPots" "I" ∈ ws) (hdg : decode cc pc = .ok (.getfield index, 3)) (kk : W p l e R s m args below meth c H locs 0 0 Q (F0 m (pc + 3) ls (.int (σ.1 i 12) :: rest))) : W p l e R s m args below meth c H locs 0 0 Q (F0 m pc ls (.ref (ad i) :: rest)) := r_get (K := 6) (k := 12) (C := RX6) (T := TX6) (N := 33) X hW hk hi rfl hin (by decide) hl rfl hdg kk
theorem put_6_12 (X : Cx own ws cc nL ret D cA ad S p s m args meth c) (hW : Rn D cA ad S s.heap σ H locs) {v : Int32} (hk : S.2.1 i = 6) (hi : i < S.1) (hin : ∀ w ∈ wsX60, w ∈ ws) (hl : Cond.fieldLink own index "ThirdOfTheLastModel" "keptPots" "I" ∈ ws) (he : σ' = uI σ i 12 v) (hdg : decode cc pc = .ok (.putfield index, 3)) (kk : ∀ (H : Heap) (locs : List Loc), Rn D cA ad S s.heap σ' H locs → W p l e R s m args below meth c H locs 0 0 Q (F0 m (pc + 3) ls rest)) : W p l e R s m args below meth c H locs 0 0 Q (F0 m pc ls (.int v :: .ref (ad i) :: rest)) := r_putI (K := 6) (k := 12) (C := RX6) (T := TX6) (N := 33) (ty := .int) X hW hk hi rfl hin tyX6 tyX6_ok nmX6 (by decide) hl rfl (by decide +kernel) rfl rfl (by simp [fl]) rfl he hdg kk
theorem get_6_13 (X : Cx own ws cc nL ret D cA ad S p s m args meth c) (hW : Rn D cA ad S s.heap σ H locs) (hk : S.2.1 i = 6) (hi : i < S.1) (hin : ∀ w ∈ wsX60, w ∈ ws) (hl : Cond.fieldLink own index "ThirdOfTheLastModel" "keptTastes" "[J" ∈ ws) (hdg : decode cc pc = .ok (.getfield index, 3)) (kk : W p l e R s m args below meth c H locs 0 0 Q (F0 m (pc + 3) ls (.ref (ad (i + 9)) :: rest))) : W p l e R s m args below meth c H locs 0 0 Q (F0 m pc ls (.ref (ad i) :: rest)) := r_get (K := 6) (k := 13) (C := RX6) (T := TX6) (N := 33) X hW hk hi rfl hin (by decide) hl rfl hdg kk
theorem get_6_14 (X : Cx own ws cc nL ret D cA ad S p s m args meth c) (hW : Rn D cA ad S s.heap σ H locs) (hk : S.2.1 i = 6) (hi : i < S.1) (hin : ∀ w ∈ wsX60, w ∈ ws) (hl : Cond.fieldLink own index "ThirdOfTheLastModel" "keptMany" "[I" ∈ ws) (hdg : decode cc pc = .ok (.getfield index, 3)) (kk : W p l e R s m args below meth c H locs 0 0 Q (F0 m (pc + 3) ls (.ref (ad (i + 10)) :: rest))) : W p l e R s m args below meth c H locs 0 0 Q (F0 m pc ls (.ref (ad i) :: rest)) := r_get (K := 6) (k := 14) (C := RX6) (T := TX6) (N := 33) X hW hk hi rfl hin (by decide) hl rfl hdg kk
theorem get_6_15 (X : Cx own ws cc nL ret D cA ad S p s m args meth c) (hW : Rn D cA ad S s.heap σ H locs) (hk : S.2.1 i = 6) (hi : i < S.1) (hin : ∀ w ∈ wsX60, w ∈ ws) (hl : Cond.fieldLink own index "ThirdOfTheLastModel" "keptKinds" "[I" ∈ ws) (hdg : decode cc pc = .ok (.getfield index, 3)) (kk : W p l e R s m args below meth c H locs 0 0 Q (F0 m (pc + 3) ls (.ref (ad (i + 11)) :: rest))) : W p l e R s m args below meth c H locs 0 0 Q (F0 m pc ls (.ref (ad i) :: rest)) := r_get (K := 6) (k := 15) (C := RX6) (T := TX6) (N := 33) X hW hk hi rfl hin (by decide) hl rfl hdg kk
theorem get_6_16 (X : Cx own ws cc nL ret D cA ad S p s m args meth c) (hW : Rn D cA ad S s.heap σ H locs) (hk : S.2.1 i = 6) (hi : i < S.1) (hin : ∀ w ∈ wsX60, w ∈ ws) (hl : Cond.fieldLink own index "ThirdOfTheLastModel" "keptFigures" "[I" ∈ ws) (hdg : decode cc pc = .ok (.getfield index, 3)) (kk : W p l e R s m args below meth c H locs 0 0 Q (F0 m (pc + 3) ls (.ref (ad (i + 12)) :: rest))) : W p l e R s m args below meth c H locs 0 0 Q (F0 m pc ls (.ref (ad i) :: rest)) := r_get (K := 6) (k := 16) (C := RX6) (T := TX6) (N := 33) X hW hk hi rfl hin (by decide) hl rfl hdg kk
theorem get_6_17 (X : Cx own ws cc nL ret D cA ad S p s m args meth c) (hW : Rn D cA ad S s.heap σ H locs) (hk : S.2.1 i = 6) (hi : i < S.1) (hin : ∀ w ∈ wsX60, w ∈ ws) (hl : Cond.fieldLink own index "ThirdOfTheLastModel" "base" "I" ∈ ws) (hdg : decode cc pc = .ok (.getfield index, 3)) (kk : W p l e R s m args below meth c H locs 0 0 Q (F0 m (pc + 3) ls (.int (σ.1 i 17) :: rest))) : W p l e R s m args below meth c H locs 0 0 Q (F0 m pc ls (.ref (ad i) :: rest)) := r_get (K := 6) (k := 17) (C := RX6) (T := TX6) (N := 33) X hW hk hi rfl hin (by decide) hl rfl hdg kk
theorem put_6_17 (X : Cx own ws cc nL ret D cA ad S p s m args meth c) (hW : Rn D cA ad S s.heap σ H locs) {v : Int32} (hk : S.2.1 i = 6) (hi : i < S.1) (hin : ∀ w ∈ wsX60, w ∈ ws) (hl : Cond.fieldLink own index "ThirdOfTheLastModel" "base" "I" ∈ ws) (he : σ' = uI σ i 17 v) (hdg : decode cc pc = .ok (.putfield index, 3)) (kk : ∀ (H : Heap) (locs : List Loc), Rn D cA ad S s.heap σ' H locs → W p l e R s m args below meth c H locs 0 0 Q (F0 m (pc + 3) ls rest)) : W p l e R s m args below meth c H locs 0 0 Q (F0 m pc ls (.int v :: .ref (ad i) :: rest)) := r_putI (K := 6) (k := 17) (C := RX6) (T := TX6) (N := 33) (ty := .int) X hW hk hi rfl hin tyX6 tyX6_ok nmX6 (by decide) hl rfl (by decide +kernel) rfl rfl (by simp [fl]) rfl he hdg kk
theorem get_6_18 (X : Cx own ws cc nL ret D cA ad S p s m args meth c) (hW : Rn D cA ad S s.heap σ H locs) (hk : S.2.1 i = 6) (hi : i < S.1) (hin : ∀ w ∈ wsX60, w ∈ ws) (hl : Cond.fieldLink own index "ThirdOfTheLastModel" "end" "I" ∈ ws) (hdg : decode cc pc = .ok (.getfield index, 3)) (kk : W p l e R s m args below meth c H locs 0 0 Q (F0 m (pc + 3) ls (.int (σ.1 i 18) :: rest))) : W p l e R s m args below meth c H locs 0 0 Q (F0 m pc ls (.ref (ad i) :: rest)) := r_get (K := 6) (k := 18) (C := RX6) (T := TX6) (N := 33) X hW hk hi rfl hin (by decide) hl rfl hdg kk
theorem put_6_18 (X : Cx own ws cc nL ret D cA ad S p s m args meth c) (hW : Rn D cA ad S s.heap σ H locs) {v : Int32} (hk : S.2.1 i = 6) (hi : i < S.1) (hin : ∀ w ∈ wsX60, w ∈ ws) (hl : Cond.fieldLink own index "ThirdOfTheLastModel" "end" "I" ∈ ws) (he : σ' = uI σ i 18 v) (hdg : decode cc pc = .ok (.putfield index, 3)) (kk : ∀ (H : Heap) (locs : List Loc), Rn D cA ad S s.heap σ' H locs → W p l e R s m args below meth c H locs 0 0 Q (F0 m (pc + 3) ls rest)) : W p l e R s m args below meth c H locs 0 0 Q (F0 m pc ls (.int v :: .ref (ad i) :: rest)) := r_putI (K := 6) (k := 18) (C := RX6) (T := TX6) (N := 33) (ty := .int) X hW hk hi rfl hin tyX6 tyX6_ok nmX6 (by decide) hl rfl (by decide +kernel) rfl rfl (by simp [fl]) rfl he hdg kk
theorem get_6_19 (X : Cx own ws cc nL ret D cA ad S p s m args meth c) (hW : Rn D cA ad S s.heap σ H locs) (hk : S.2.1 i = 6) (hi : i < S.1) (hin : ∀ w ∈ wsX60, w ∈ ws) (hl : Cond.fieldLink own index "ThirdOfTheLastModel" "at" "I" ∈ ws) (hdg : decode cc pc = .ok (.getfield index, 3)) (kk : W p l e R s m args below meth c H locs 0 0 Q (F0 m (pc + 3) ls (.int (σ.1 i 19) :: rest))) : W p l e R s m args below meth c H locs 0 0 Q (F0 m pc ls (.ref (ad i) :: rest)) := r_get (K := 6) (k := 19) (C := RX6) (T := TX6) (N := 33) X hW hk hi rfl hin (by decide) hl rfl hdg kk
theorem put_6_19 (X : Cx own ws cc nL ret D cA ad S p s m args meth c) (hW : Rn D cA ad S s.heap σ H locs) {v : Int32} (hk : S.2.1 i = 6) (hi : i < S.1) (hin : ∀ w ∈ wsX60, w ∈ ws) (hl : Cond.fieldLink own index "ThirdOfTheLastModel" "at" "I" ∈ ws) (he : σ' = uI σ i 19 v) (hdg : decode cc pc = .ok (.putfield index, 3)) (kk : ∀ (H : Heap) (locs : List Loc), Rn D cA ad S s.heap σ' H locs → W p l e R s m args below meth c H locs 0 0 Q (F0 m (pc + 3) ls rest)) : W p l e R s m args below meth c H locs 0 0 Q (F0 m pc ls (.int v :: .ref (ad i) :: rest)) := r_putI (K := 6) (k := 19) (C := RX6) (T := TX6) (N := 33) (ty := .int) X hW hk hi rfl hin tyX6 tyX6_ok nmX6 (by decide) hl rfl (by decide +kernel) rfl rfl (by simp [fl]) rfl he hdg kk
theorem get_6_20 (X : Cx own ws cc nL ret D cA ad S p s m args meth c) (hW : Rn D cA ad S s.heap σ H locs) (hk : S.2.1 i = 6) (hi : i < S.1) (hin : ∀ w ∈ wsX60, w ∈ ws) (hl : Cond.fieldLink own index "ThirdOfTheLastModel" "isBad" "Z" ∈ ws) (hdg : decode cc pc = .ok (.getfield index, 3)) (kk : W p l e R s m args below meth c H locs 0 0 Q (F0 m (pc + 3) ls (.int (σ.1 i 20) :: rest))) : W p l e R s m args below meth c H locs 0 0 Q (F0 m pc ls (.ref (ad i) :: rest)) := r_get (K := 6) (k := 20) (C := RX6) (T := TX6) (N := 33) X hW hk hi rfl hin (by decide) hl rfl hdg kk
theorem put_6_20 (X : Cx own ws cc nL ret D cA ad S p s m args meth c) (hW : Rn D cA ad S s.heap σ H locs) {v : Int32} (hk : S.2.1 i = 6) (hi : i < S.1) (hin : ∀ w ∈ wsX60, w ∈ ws) (hl : Cond.fieldLink own index "ThirdOfTheLastModel" "isBad" "Z" ∈ ws) (hv : b01 v = true) (he : σ' = uI σ i 20 v) (hdg : decode cc pc = .ok (.putfield index, 3)) (kk : ∀ (H : Heap) (locs : List Loc), Rn D cA ad S s.heap σ' H locs → W p l e R s m args below meth c H locs 0 0 Q (F0 m (pc + 3) ls rest)) : W p l e R s m args below meth c H locs 0 0 Q (F0 m pc ls (.int v :: .ref (ad i) :: rest)) := r_putI (K := 6) (k := 20) (C := RX6) (T := TX6) (N := 33) (ty := .boolean) X hW hk hi rfl hin tyX6 tyX6_ok nmX6 (by decide) hl rfl (by decide +kernel) (b01_e hv).1 (b01_e hv).2 (by simp [fl]) rfl he hdg kk
theorem get_6_21 (X : Cx own ws cc nL ret D cA ad S p s m args meth c) (hW : Rn D cA ad S s.heap σ H locs) (hk : S.2.1 i = 6) (hi : i < S.1) (hin : ∀ w ∈ wsX60, w ∈ ws) (hl : Cond.fieldLink own index "ThirdOfTheLastModel" "statements" "I" ∈ ws) (hdg : decode cc pc = .ok (.getfield index, 3)) (kk : W p l e R s m args below meth c H locs 0 0 Q (F0 m (pc + 3) ls (.int (σ.1 i 21) :: rest))) : W p l e R s m args below meth c H locs 0 0 Q (F0 m pc ls (.ref (ad i) :: rest)) := r_get (K := 6) (k := 21) (C := RX6) (T := TX6) (N := 33) X hW hk hi rfl hin (by decide) hl rfl hdg kk
theorem put_6_21 (X : Cx own ws cc nL ret D cA ad S p s m args meth c) (hW : Rn D cA ad S s.heap σ H locs) {v : Int32} (hk : S.2.1 i = 6) (hi : i < S.1) (hin : ∀ w ∈ wsX60, w ∈ ws) (hl : Cond.fieldLink own index "ThirdOfTheLastModel" "statements" "I" ∈ ws) (he : σ' = uI σ i 21 v) (hdg : decode cc pc = .ok (.putfield index, 3)) (kk : ∀ (H : Heap) (locs : List Loc), Rn D cA ad S s.heap σ' H locs → W p l e R s m args below meth c H locs 0 0 Q (F0 m (pc + 3) ls rest)) : W p l e R s m args below meth c H locs 0 0 Q (F0 m pc ls (.int v :: .ref (ad i) :: rest)) := r_putI (K := 6) (k := 21) (C := RX6) (T := TX6) (N := 33) (ty := .int) X hW hk hi rfl hin tyX6 tyX6_ok nmX6 (by decide) hl rfl (by decide +kernel) rfl rfl (by simp [fl]) rfl he hdg kk
theorem get_6_22 (X : Cx own ws cc nL ret D cA ad S p s m args meth c) (hW : Rn D cA ad S s.heap σ H locs) (hk : S.2.1 i = 6) (hi : i < S.1) (hin : ∀ w ∈ wsX60, w ∈ ws) (hl : Cond.fieldLink own index "ThirdOfTheLastModel" "placeOf" "[I" ∈ ws) (hdg : decode cc pc = .ok (.getfield index, 3)) (kk : W p l e R s m args below meth c H locs 0 0 Q (F0 m (pc + 3) ls (.ref (ad (i + 13)) :: rest))) : W p l e R s m args below meth c H locs 0 0 Q (F0 m pc ls (.ref (ad i) :: rest)) := r_get (K := 6) (k := 22) (C := RX6) (T := TX6) (N := 33) X hW hk hi rfl hin (by decide) hl rfl hdg kk
theorem get_6_23 (X : Cx own ws cc nL ret D cA ad S p s m args meth c) (hW : Rn D cA ad S s.heap σ H locs) (hk : S.2.1 i = 6) (hi : i < S.1) (hin : ∀ w ∈ wsX60, w ∈ ws) (hl : Cond.fieldLink own index "ThirdOfTheLastModel" "letterOf" "[I" ∈ ws) (hdg : decode cc pc = .ok (.getfield index, 3)) (kk : W p l e R s m args below meth c H locs 0 0 Q (F0 m (pc + 3) ls (.ref (ad (i + 14)) :: rest))) : W p l e R s m args below meth c H locs 0 0 Q (F0 m pc ls (.ref (ad i) :: rest)) := r_get (K := 6) (k := 23) (C := RX6) (T := TX6) (N := 33) X hW hk hi rfl hin (by decide) hl rfl hdg kk
theorem get_6_24 (X : Cx own ws cc nL ret D cA ad S p s m args meth c) (hW : Rn D cA ad S s.heap σ H locs) (hk : S.2.1 i = 6) (hi : i < S.1) (hin : ∀ w ∈ wsX60, w ∈ ws) (hl : Cond.fieldLink own index "ThirdOfTheLastModel" "told" "[I" ∈ ws) (hdg : decode cc pc = .ok (.getfield index, 3)) (kk : W p l e R s m args below meth c H locs 0 0 Q (F0 m (pc + 3) ls (.ref (ad (i + 15)) :: rest))) : W p l e R s m args below meth c H locs 0 0 Q (F0 m pc ls (.ref (ad i) :: rest)) := r_get (K := 6) (k := 24) (C := RX6) (T := TX6) (N := 33) X hW hk hi rfl hin (by decide) hl rfl hdg kk
theorem get_6_25 (X : Cx own ws cc nL ret D cA ad S p s m args meth c) (hW : Rn D cA ad S s.heap σ H locs) (hk : S.2.1 i = 6) (hi : i < S.1) (hin : ∀ w ∈ wsX60, w ∈ ws) (hl : Cond.fieldLink own index "ThirdOfTheLastModel" "seed" "I" ∈ ws) (hdg : decode cc pc = .ok (.getfield index, 3)) (kk : W p l e R s m args below meth c H locs 0 0 Q (F0 m (pc + 3) ls (.int (σ.1 i 25) :: rest))) : W p l e R s m args below meth c H locs 0 0 Q (F0 m pc ls (.ref (ad i) :: rest)) := r_get (K := 6) (k := 25) (C := RX6) (T := TX6) (N := 33) X hW hk hi rfl hin (by decide) hl rfl hdg kk
theorem put_6_25 (X : Cx own ws cc nL ret D cA ad S p s m args meth c) (hW : Rn D cA ad S s.heap σ H locs) {v : Int32} (hk : S.2.1 i = 6) (hi : i < S.1) (hin : ∀ w ∈ wsX60, w ∈ ws) (hl : Cond.fieldLink own index "ThirdOfTheLastModel" "seed" "I" ∈ ws) (he : σ' = uI σ i 25 v) (hdg : decode cc pc = .ok (.putfield index, 3)) (kk : ∀ (H : Heap) (locs : List Loc), Rn D cA ad S s.heap σ' H locs → W p l e R s m args below meth c H locs 0 0 Q (F0 m (pc + 3) ls rest)) : W p l e R s m args below meth c H locs 0 0 Q (F0 m pc ls (.int v :: .ref (ad i) :: rest)) := r_putI (K := 6) (k := 25) (C := RX6) (T := TX6) (N := 33) (ty := .int) X hW hk hi rfl hin tyX6 tyX6_ok nmX6 (by decide) hl rfl (by decide +kernel) rfl rfl (by simp [fl]) rfl he hdg kk
theorem get_6_26 (X : Cx own ws cc nL ret D cA ad S p s m args meth c) (hW : Rn D cA ad S s.heap σ H locs) (hk : S.2.1 i = 6) (hi : i < S.1) (hin : ∀ w ∈ wsX60, w ∈ ws) (hl : Cond.fieldLink own index "ThirdOfTheLastModel" "holdsWhat" "[I" ∈ ws) (hdg : decode cc pc = .ok (.getfield index, 3)) (kk : W p l e R s m args below meth c H locs 0 0 Q (F0 m (pc + 3) ls (.ref (ad (i + 16)) :: rest))) : W p l e R s m args below meth c H locs 0 0 Q (F0 m pc ls (.ref (ad i) :: rest)) := r_get (K := 6) (k := 26) (C := RX6) (T := TX6) (N := 33) X hW hk hi rfl hin (by decide) hl rfl hdg kk
theorem get_6_27 (X : Cx own ws cc nL ret D cA ad S p s m args meth c) (hW : Rn D cA ad S s.heap σ H locs) (hk : S.2.1 i = 6) (hi : i < S.1) (hin : ∀ w ∈ wsX60, w ∈ ws) (hl : Cond.fieldLink own index "ThirdOfTheLastModel" "dishKind" "[I" ∈ ws) (hdg : decode cc pc = .ok (.getfield index, 3)) (kk : W p l e R s m args below meth c H locs 0 0 Q (F0 m (pc + 3) ls (.ref (ad (i + 17)) :: rest))) : W p l e R s m args below meth c H locs 0 0 Q (F0 m pc ls (.ref (ad i) :: rest)) := r_get (K := 6) (k := 27) (C := RX6) (T := TX6) (N := 33) X hW hk hi rfl hin (by decide) hl rfl hdg kk
theorem get_6_28 (X : Cx own ws cc nL ret D cA ad S p s m args meth c) (hW : Rn D cA ad S s.heap σ H locs) (hk : S.2.1 i = 6) (hi : i < S.1) (hin : ∀ w ∈ wsX60, w ∈ ws) (hl : Cond.fieldLink own index "ThirdOfTheLastModel" "dishFigure" "[I" ∈ ws) (hdg : decode cc pc = .ok (.getfield index, 3)) (kk : W p l e R s m args below meth c H locs 0 0 Q (F0 m (pc + 3) ls (.ref (ad (i + 18)) :: rest))) : W p l e R s m args below meth c H locs 0 0 Q (F0 m pc ls (.ref (ad i) :: rest)) := r_get (K := 6) (k := 28) (C := RX6) (T := TX6) (N := 33) X hW hk hi rfl hin (by decide) hl rfl hdg kk
theorem get_6_29 (X : Cx own ws cc nL ret D cA ad S p s m args meth c) (hW : Rn D cA ad S s.heap σ H locs) (hk : S.2.1 i = 6) (hi : i < S.1) (hin : ∀ w ∈ wsX60, w ∈ ws) (hl : Cond.fieldLink own index "ThirdOfTheLastModel" "rowSort" "[I" ∈ ws) (hdg : decode cc pc = .ok (.getfield index, 3)) (kk : W p l e R s m args below meth c H locs 0 0 Q (F0 m (pc + 3) ls (.ref (ad (i + 19)) :: rest))) : W p l e R s m args below meth c H locs 0 0 Q (F0 m pc ls (.ref (ad i) :: rest)) := r_get (K := 6) (k := 29) (C := RX6) (T := TX6) (N := 33) X hW hk hi rfl hin (by decide) hl rfl hdg kk
theorem get_6_30 (X : Cx own ws cc nL ret D cA ad S p s m args meth c) (hW : Rn D cA ad S s.heap σ H locs) (hk : S.2.1 i = 6) (hi : i < S.1) (hin : ∀ w ∈ wsX60, w ∈ ws) (hl : Cond.fieldLink own index "ThirdOfTheLastModel" "rowMany" "[I" ∈ ws) (hdg : decode cc pc = .ok (.getfield index, 3)) (kk : W p l e R s m args below meth c H locs 0 0 Q (F0 m (pc + 3) ls (.ref (ad (i + 20)) :: rest))) : W p l e R s m args below meth c H locs 0 0 Q (F0 m pc ls (.ref (ad i) :: rest)) := r_get (K := 6) (k := 30) (C := RX6) (T := TX6) (N := 33) X hW hk hi rfl hin (by decide) hl rfl hdg kk
theorem get_6_31 (X : Cx own ws cc nL ret D cA ad S p s m args meth c) (hW : Rn D cA ad S s.heap σ H locs) (hk : S.2.1 i = 6) (hi : i < S.1) (hin : ∀ w ∈ wsX60, w ∈ ws) (hl : Cond.fieldLink own index "ThirdOfTheLastModel" "rows" "[J" ∈ ws) (hdg : decode cc pc = .ok (.getfield index, 3)) (kk : W p l e R s m args below meth c H locs 0 0 Q (F0 m (pc + 3) ls (.ref (ad (i + 21)) :: rest))) : W p l e R s m args below meth c H locs 0 0 Q (F0 m pc ls (.ref (ad i) :: rest)) := r_get (K := 6) (k := 31) (C := RX6) (T := TX6) (N := 33) X hW hk hi rfl hin (by decide) hl rfl hdg kk
theorem get_6_32 (X : Cx own ws cc nL ret D cA ad S p s m args meth c) (hW : Rn D cA ad S s.heap σ H locs) (hk : S.2.1 i = 6) (hi : i < S.1) (hin : ∀ w ∈ wsX60, w ∈ ws) (hl : Cond.fieldLink own index "ThirdOfTheLastModel" "between" "[J" ∈ ws) (hdg : decode cc pc = .ok (.getfield index, 3)) (kk : W p l e R s m args below meth c H locs 0 0 Q (F0 m (pc + 3) ls (.ref (ad (i + 22)) :: rest))) : W p l e R s m args below meth c H locs 0 0 Q (F0 m pc ls (.ref (ad i) :: rest)) := r_get (K := 6) (k := 32) (C := RX6) (T := TX6) (N := 33) X hW hk hi rfl hin (by decide) hl rfl hdg kk
end FROWS
theorem kC_0 : SC.2.1 0 = 5 := rfl
theorem iC_0 : 0 < SC.1 := by decide
theorem nC_0 : SC.2.2 0 = 0 := rfl
theorem kC_1 : SC.2.1 1 = 1 := rfl
theorem iC_1 : 1 < SC.1 := by decide
theorem nC_1 : SC.2.2 1 = 0 := rfl
theorem kC_2 : SC.2.1 2 = 22 := rfl
theorem iC_2 : 2 < SC.1 := by decide
theorem nC_2 : SC.2.2 2 = 6 := rfl
theorem kC_33 : SC.2.1 33 = 1 := rfl
theorem iC_33 : 33 < SC.1 := by decide
theorem nC_33 : SC.2.2 33 = 0 := rfl
theorem kC_34 : SC.2.1 34 = 22 := rfl
theorem iC_34 : 34 < SC.1 := by decide
theorem nC_34 : SC.2.2 34 = 6 := rfl
theorem kC_65 : SC.2.1 65 = 1 := rfl
theorem iC_65 : 65 < SC.1 := by decide
theorem nC_65 : SC.2.2 65 = 0 := rfl
theorem kC_66 : SC.2.1 66 = 22 := rfl
theorem iC_66 : 66 < SC.1 := by decide
theorem nC_66 : SC.2.2 66 = 6 := rfl
theorem kC_97 : SC.2.1 97 = 2 := rfl
theorem iC_97 : 97 < SC.1 := by decide
theorem nC_97 : SC.2.2 97 = 0 := rfl
theorem kC_98 : SC.2.1 98 = 23 := rfl
theorem iC_98 : 98 < SC.1 := by decide
theorem nC_98 : SC.2.2 98 = 6 := rfl
theorem kC_111 : SC.2.1 111 = 23 := rfl
theorem iC_111 : 111 < SC.1 := by decide
theorem nC_111 : SC.2.2 111 = 5 := rfl
theorem kC_122 : SC.2.1 122 = 0 := rfl
theorem iC_122 : 122 < SC.1 := by decide
theorem nC_122 : SC.2.2 122 = 0 := rfl
theorem kC_123 : SC.2.1 123 = 21 := rfl
theorem iC_123 : 123 < SC.1 := by decide
theorem nC_123 : SC.2.2 123 = 4 := rfl
theorem kC_124 : SC.2.1 124 = 20 := rfl
theorem iC_124 : 124 < SC.1 := by decide
theorem nC_124 : SC.2.2 124 = 6 := rfl
theorem kC_125 : SC.2.1 125 = 24 := rfl
theorem iC_125 : 125 < SC.1 := by decide
theorem nC_125 : SC.2.2 125 = 8 := rfl
theorem kM_0 : SM.2.1 0 = 6 := rfl
theorem iM_0 : 0 < SM.1 := by decide
theorem nM_0 : SM.2.2 0 = 0 := rfl
theorem kM_1 : SM.2.1 1 = 21 := rfl
theorem iM_1 : 1 < SM.1 := by decide
theorem nM_1 : SM.2.2 1 = 28 := rfl
theorem kM_2 : SM.2.1 2 = 20 := rfl
theorem iM_2 : 2 < SM.1 := by decide
theorem nM_2 : SM.2.2 2 = 7 := rfl
theorem kM_3 : SM.2.1 3 = 20 := rfl
theorem iM_3 : 3 < SM.1 := by decide
theorem nM_3 : SM.2.2 3 = 84 := rfl
theorem kM_4 : SM.2.1 4 = 20 := rfl
theorem iM_4 : 4 < SM.1 := by decide
theorem nM_4 : SM.2.2 4 = 84 := rfl
theorem kM_5 : SM.2.1 5 = 21 := rfl
theorem iM_5 : 5 < SM.1 := by decide
theorem nM_5 : SM.2.2 5 = 28 := rfl
theorem kM_6 : SM.2.1 6 = 20 := rfl
theorem iM_6 : 6 < SM.1 := by decide
theorem nM_6 : SM.2.2 6 = 7 := rfl
theorem kM_7 : SM.2.1 7 = 20 := rfl
theorem iM_7 : 7 < SM.1 := by decide
theorem nM_7 : SM.2.2 7 = 84 := rfl
theorem kM_8 : SM.2.1 8 = 20 := rfl
theorem iM_8 : 8 < SM.1 := by decide
theorem nM_8 : SM.2.2 8 = 84 := rfl
theorem kM_9 : SM.2.1 9 = 21 := rfl
theorem iM_9 : 9 < SM.1 := by decide
theorem nM_9 : SM.2.2 9 = 28 := rfl
theorem kM_10 : SM.2.1 10 = 20 := rfl
theorem iM_10 : 10 < SM.1 := by decide
theorem nM_10 : SM.2.2 10 = 7 := rfl
theorem kM_11 : SM.2.1 11 = 20 := rfl
theorem iM_11 : 11 < SM.1 := by decide
theorem nM_11 : SM.2.2 11 = 84 := rfl
theorem kM_12 : SM.2.1 12 = 20 := rfl
theorem iM_12 : 12 < SM.1 := by decide
theorem nM_12 : SM.2.2 12 = 84 := rfl
theorem kM_13 : SM.2.1 13 = 20 := rfl
theorem iM_13 : 13 < SM.1 := by decide
theorem nM_13 : SM.2.2 13 = 51 := rfl
theorem kM_14 : SM.2.1 14 = 20 := rfl
theorem iM_14 : 14 < SM.1 := by decide
theorem nM_14 : SM.2.2 14 = 51 := rfl
theorem kM_15 : SM.2.1 15 = 20 := rfl
theorem iM_15 : 15 < SM.1 := by decide
theorem nM_15 : SM.2.2 15 = 153 := rfl
theorem kM_16 : SM.2.1 16 = 20 := rfl
theorem iM_16 : 16 < SM.1 := by decide
theorem nM_16 : SM.2.2 16 = 8 := rfl
theorem kM_17 : SM.2.1 17 = 20 := rfl
theorem iM_17 : 17 < SM.1 := by decide
theorem nM_17 : SM.2.2 17 = 8 := rfl
theorem kM_18 : SM.2.1 18 = 20 := rfl
theorem iM_18 : 18 < SM.1 := by decide
theorem nM_18 : SM.2.2 18 = 8 := rfl
theorem kM_19 : SM.2.1 19 = 20 := rfl
theorem iM_19 : 19 < SM.1 := by decide
theorem nM_19 : SM.2.2 19 = 8 := rfl
theorem kM_20 : SM.2.1 20 = 20 := rfl
theorem iM_20 : 20 < SM.1 := by decide
theorem nM_20 : SM.2.2 20 = 8 := rfl
theorem kM_21 : SM.2.1 21 = 21 := rfl
theorem iM_21 : 21 < SM.1 := by decide
theorem nM_21 : SM.2.2 21 = 800 := rfl
theorem kM_22 : SM.2.1 22 = 21 := rfl
theorem iM_22 : 22 < SM.1 := by decide
theorem nM_22 : SM.2.2 22 = 100 := rfl
theorem fu_x : ∃ n : Nat, n = 10000 := ⟨_, rfl⟩
noncomputable def fu : Nat := Classical.choose fu_x
theorem fu_e : fu = 10000 := Classical.choose_spec fu_x
