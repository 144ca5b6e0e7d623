/-! many cells in a row: pots, flavours, shelves; references by steps -/
theorem Sq.app {b n : Nat} {ws w1 : va_W} (h : Sq b ws) (hn : ws.length = n) (h1 : Sq (b + n) w1) : Sq b (ws ++ w1) := by
  induction ws generalizing b n with
  | nil => subst hn; exact h1
  | cons x t ih =>
    subst hn
    exact ⟨h.1, ih h.2 rfl (by rw [show b + 1 + t.length = b + (x :: t).length by simp; omega]; exact h1)⟩
/-- n times the cells g, w apart, from o on -/
def cRow (g : Nat → va_W) (o w : Nat) : Nat → va_W
  | 0 => []
  | j + 1 => cRow g o w j ++ g (o + w * j)
theorem cRow_len {g : Nat → va_W} {o w : Nat} (hg : ∀ b, (g b).length = w) : ∀ j, (cRow g o w j).length = w * j
  | 0 => rfl
  | j + 1 => by rw [cRow, List.length_append, cRow_len hg j, hg, Nat.mul_succ]
theorem cRow_sq {g : Nat → va_W} {o w : Nat} (hg : ∀ b, (g b).length = w) (hq : ∀ b, Sq b (g b)) : ∀ j, Sq o (cRow g o w j)
  | 0 => trivial
  | j + 1 => (cRow_sq hg hq j).app (cRow_len hg j) (hq _)
def rfs (o w j : Nat) : Nat → Option Nat := fun k => if k < j then some (o + w * k) else none
theorem rfs_0 (o w : Nat) : rfs o w 0 = fun _ => none := by funext k; simp [rfs]
theorem rfs_up (o w j : Nat) : va_up (rfs o w j) j (some (o + w * j)) = rfs o w (j + 1) := by
  funext k
  unfold va_up rfs
  by_cases h : k = j
  · subst h; simp
  · rw [if_neg h]
    by_cases h1 : k < j
    · rw [if_pos h1, if_pos (by omega)]
    · rw [if_neg h1, if_neg (by omega)]
theorem cFl_len (cL : ClassId) (b : Nat) : (cFl cL b).length = 2 := rfl
theorem cFl_sq (cL : ClassId) (b : Nat) : Sq b (cFl cL b) := ⟨rfl, rfl, trivial⟩
theorem cPt_len (cK : Nat → ClassId) (b : Nat) : (cPt cK b).length = 5 := rfl
theorem cPt_sq (cK : Nat → ClassId) (b : Nat) : Sq b (cPt cK b) := ⟨rfl, rfl, rfl, rfl, rfl, trivial⟩
/-- the classes of the rows of references -/
def KQ (cK : Nat → ClassId) (U : State) : Prop := ∀ (k : Nat) (C : String), (k, C) ∈ [(22, "ThirdOfTheLast$Pot"), (23, "ThirdOfTheLast$Flavour"), (24, "ThirdOfTheLast$Shelf")] → U.vm.findClass ("[" ++ (FieldType.object C).toString) = some (cK k) ∧ va_AO C U
theorem KQ.moved {cK : Nat → ClassId} {u U : State} (hvm : u.vm.Alike U.vm) (h : KQ cK u) : KQ cK U := fun k C hk => ⟨by rw [hvm.findClass]; exact (h k C hk).1, va_AO.moved hvm (h k C hk).2⟩
