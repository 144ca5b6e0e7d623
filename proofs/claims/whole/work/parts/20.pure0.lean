/-! PURE ROWS: numbers, and the flavours on both sides -/
theorem chk_t {β : Type} {b : Bool} {k : Option β} (h : b = true) : chk b k = k := if_pos h
theorem bnd_s {α β : Type} {x : α} {k : α → Option β} : bnd (some x) k = k x := rfl
theorem nw_s {α β : Type} {a : α} {k : α → Option β} : nw a k = k a := rfl
theorem bnd_o {α β : Type} {o : Option α} {x : α} {k : α → Option β} (h : o = some x) : bnd o k = k x := by rw [h]; rfl
theorem inb_nI {i n : Nat} (h : i < n) (hn : i < 2 ^ 31) : inb (nI i) n = true := by
  simp [inb, nI_toInt hn]
  omega
theorem inb_not {x : Int32} {n : Nat} (h : inb x n = true) : ∃ j : Nat, j < n ∧ (n < 2 ^ 31 → x = nI j) := by
  have h2 := inb_e h
  rw [vp_in_iff] at h2
  refine ⟨x.toInt.toNat, by omega, fun hn => ?_⟩
  apply Int32.toInt_inj.mp
  rw [nI_toInt (by omega)]
  omega
/-- what is written in a row of places -/
def wL (σ : St) (i o j : Nat) (f : Nat → Int64) : St := (σ.1, fun a b => if a = i ∧ o ≤ b ∧ b < o + j then f (b - o) else σ.2 a b)
def wI (σ : St) (i o j : Nat) (f : Nat → Int32) : St := (fun a b => if a = i ∧ o ≤ b ∧ b < o + j then f (b - o) else σ.1 a b, σ.2)
theorem wL_0 {σ : St} {i o : Nat} {f : Nat → Int64} : wL σ i o 0 f = σ := by
  apply Prod.ext
  · rfl
  · funext a b
    simp only [wL]
    rw [if_neg (by omega)]
theorem wI_0 {σ : St} {i o : Nat} {f : Nat → Int32} : wI σ i o 0 f = σ := by
  apply Prod.ext
  · funext a b
    simp only [wI]
    rw [if_neg (by omega)]
  · rfl
theorem wL_s {σ : St} {i o j : Nat} {f : Nat → Int64} {v : Int64} (h : v = f j) : uL (wL σ i o j f) i (o + j) v = wL σ i o (j + 1) f := by
  subst h
  apply Prod.ext
  · rfl
  · funext a b
    simp only [uL, wL]
    by_cases h1 : a = i ∧ b = o + j
    · obtain ⟨rfl, rfl⟩ := h1
      rw [if_pos ⟨rfl, rfl⟩, if_pos ⟨rfl, by omega, by omega⟩, Nat.add_sub_cancel_left]
    · rw [if_neg h1]
      by_cases h2 : a = i ∧ o ≤ b ∧ b < o + j
      · rw [if_pos h2, if_pos ⟨h2.1, h2.2.1, by omega⟩]
      · rw [if_neg h2, if_neg (by omega)]
theorem wI_s {σ : St} {i o j : Nat} {f : Nat → Int32} {v : Int32} (h : v = f j) : uI (wI σ i o j f) i (o + j) v = wI σ i o (j + 1) f := by
  subst h
  apply Prod.ext
  · funext a b
    simp only [uI, wI]
    by_cases h1 : a = i ∧ b = o + j
    · obtain ⟨rfl, rfl⟩ := h1
      rw [if_pos ⟨rfl, rfl⟩, if_pos ⟨rfl, by omega, by omega⟩, Nat.add_sub_cancel_left]
    · rw [if_neg h1]
      by_cases h2 : a = i ∧ o ≤ b ∧ b < o + j
      · rw [if_pos h2, if_pos ⟨h2.1, h2.2.1, by omega⟩]
      · rw [if_neg h2, if_neg (by omega)]
  · rfl
theorem wL_i {σ : St} {i o j b : Nat} {f : Nat → Int64} (h : b < j) : (wL σ i o j f).2 i (o + b) = f b := by
  simp only [wL]
  rw [if_pos ⟨trivial, by omega, by omega⟩, Nat.add_sub_cancel_left]
theorem wL_n {σ : St} {i o j a b : Nat} {f : Nat → Int64} (h : a ≠ i ∨ b < o ∨ o + j ≤ b) : (wL σ i o j f).2 a b = σ.2 a b := by
  simp only [wL]
  rw [if_neg (by omega)]
theorem wI_i {σ : St} {i o j b : Nat} {f : Nat → Int32} (h : b < j) : (wI σ i o j f).1 i (o + b) = f b := by
  simp only [wI]
  rw [if_pos ⟨trivial, by omega, by omega⟩, Nat.add_sub_cancel_left]
theorem wI_n {σ : St} {i o j a b : Nat} {f : Nat → Int32} (h : a ≠ i ∨ b < o ∨ o + j ≤ b) : (wI σ i o j f).1 a b = σ.1 a b := by
  simp only [wI]
  rw [if_neg (by omega)]
theorem uI_i {σ : St} {i k : Nat} {v : Int32} : (uI σ i k v).1 i k = v := by simp [uI]
theorem uI_n {σ : St} {i k a b : Nat} {v : Int32} (h : a ≠ i ∨ b ≠ k) : (uI σ i k v).1 a b = σ.1 a b := by
  simp only [uI]
  rw [if_neg (by omega)]
theorem uI_2 {σ : St} {i k : Nat} {v : Int32} : (uI σ i k v).2 = σ.2 := rfl
theorem uL_i {σ : St} {i k : Nat} {v : Int64} : (uL σ i k v).2 i k = v := by simp [uL]
theorem uL_n {σ : St} {i k a b : Nat} {v : Int64} (h : a ≠ i ∨ b ≠ k) : (uL σ i k v).2 a b = σ.2 a b := by
  simp only [uL]
  rw [if_neg (by omega)]
theorem uL_1 {σ : St} {i k : Nat} {v : Int64} : (uL σ i k v).1 = σ.1 := rfl
theorem wL_1 {σ : St} {i o j : Nat} {f : Nat → Int64} : (wL σ i o j f).1 = σ.1 := rfl
theorem wI_2 {σ : St} {i o j : Nat} {f : Nat → Int32} : (wI σ i o j f).2 = σ.2 := rfl
/-- all cells but some are as they were -/
def Fr (P : Nat → Prop) (σ σ' : St) : Prop := ∀ a, ¬ P a → σ'.1 a = σ.1 a ∧ σ'.2 a = σ.2 a
theorem Fr.rf {P : Nat → Prop} {σ : St} : Fr P σ σ := fun _ _ => ⟨rfl, rfl⟩
theorem Fr.tr {P : Nat → Prop} {σ σ' σ'' : St} (h : Fr P σ σ') (g : Fr P σ' σ'') : Fr P σ σ'' := fun a ha => ⟨(g a ha).1.trans (h a ha).1, (g a ha).2.trans (h a ha).2⟩
theorem Fr.mono {P Q : Nat → Prop} {σ σ' : St} (h : Fr P σ σ') (hpq : ∀ a, P a → Q a) : Fr Q σ σ' := fun a ha => h a (fun q => ha (hpq a q))
theorem Fr.uI {σ : St} {i k : Nat} {v : Int32} {P : Nat → Prop} (h : P i) : Fr P σ (uI σ i k v) := fun a ha => by
  have hne : a ≠ i := fun q => ha (q ▸ h)
  exact ⟨funext fun b => uI_n (Or.inl hne), rfl⟩
theorem Fr.uL {σ : St} {i k : Nat} {v : Int64} {P : Nat → Prop} (h : P i) : Fr P σ (uL σ i k v) := fun a ha => by
  have hne : a ≠ i := fun q => ha (q ▸ h)
  exact ⟨rfl, funext fun b => uL_n (Or.inl hne)⟩
theorem Fr.wL {σ : St} {i o j : Nat} {f : Nat → Int64} {P : Nat → Prop} (h : P i) : Fr P σ (wL σ i o j f) := fun a ha => by
  have hne : a ≠ i := fun q => ha (q ▸ h)
  exact ⟨rfl, funext fun b => wL_n (Or.inl hne)⟩
theorem Fr.wI {σ : St} {i o j : Nat} {f : Nat → Int32} {P : Nat → Prop} (h : P i) : Fr P σ (wI σ i o j f) := fun a ha => by
  have hne : a ≠ i := fun q => ha (q ▸ h)
  exact ⟨funext fun b => wI_n (Or.inl hne), rfl⟩
/-! what the kinds are -/
def keepN (k : Nat) : Nat := if k = 2 ∨ k = 7 then 6 else if k = 3 ∨ k = 6 then 2 else if k = 4 then 0 else if k = 5 then 4 else 3
def ownN (k f t : Nat) : Nat :=
  if k = 0 then (if f % 4 = t then f + 1 else 0) else if k = 1 then (if f % 4 = t then f + 1 else 0) + 1 else if k = 2 then 2 * (if f % 4 = t then f + 1 else 0)
  else if k = 3 then (if f % 4 = t then f + 1 else 0) + (if t = 2 then 3 else 0) else if k = 4 then 0 else if k = 5 then (if f % 4 = t then f + 1 else 0) + (if t = 3 then 3 else 1)
  else if k = 6 then (if f % 4 = t then f + 1 else 0) + (if t = 2 then 3 else 0) + (if t = 0 then 5 else 0) else (if f % 4 = t then f + 1 else 0)
def priceN (k f : Nat) : Nat := if k = 0 then 3 else if k = 1 then 3 + f else if k = 2 then 6 else if k = 3 then 7 else if k = 4 then 1 else if k = 5 then 5 + f else if k = 6 then 7 * (f + 1) else 2 + f
