/-! the two stores, as the constructors leave them -/
theorem Wr.of {D : va_G} {cA : Nat → ClassId} {ad : Nat → Nat} {S : Sd} {σ : St} {H : Heap} (h : ∀ i, i < S.1 → va_at D vwCl (ad i, ent ad cA S σ i) H) : Wr D cA ad S σ H := by
  intro k q hk
  have hl : k < S.1 := by
    have := (List.getElem?_eq_some_iff.mp hk).1
    simpa [wd] using this
  rw [wd_at hl] at hk
  cases hk
  exact h k hl
def wX5 (cK : Nat → ClassId) (b : Nat) : va_W := (b, .inr (5, [.ref (b + 1), .ref (b + 33), .ref (b + 65), .int 0, .ref (b + 97), .ref (b + 122), .ref (b + 124), .ref (b + 125)])) :: rS (rT6 cK b) cK (b + 125) (b + 126) 8
theorem wrC {D : va_G} {cK : Nat → ClassId} {b : Nat} {H : Heap} (hP : va_P D vwCl (wX5 cK b) H) : Wr D (cAC cK) (adC b) SC st0C H := by
  have h0 := hP 0 _ rfl
  have hP7 : va_P D vwCl (rS (rT6 cK b) cK (b + 125) (b + 126) 8) H := fun k q hk => hP (k + 1) q hk
  have hP6 : va_P D vwCl (rT6 cK b) H := va_P.left hP7
  have hP5 : va_P D vwCl (rT5 cK b) H := va_P.left hP6
  have hP4 : va_P D vwCl (rT4 cK b) H := va_P.left hP5
  have hP3 : va_P D vwCl (rT3 cK b) H := va_P.left hP4
  have hP2 : va_P D vwCl (rT2 cK b) H := va_P.left hP3
  have hk1 : va_P D vwCl (kt0 cK (b + 1) 6) H := va_P.left hP2
  have hk2 : va_P D vwCl (kt0 cK (b + 33) 6) H := va_P.right hP2
  have hk3 : va_P D vwCl (kt0 cK (b + 65) 6) H := va_P.right hP3
  have hm : va_P D vwCl (mtB cK (b + 97) 5) H := va_P.right hP4
  have hf : va_P D vwCl (cFl (cK 21) (b + 122)) H := va_P.right hP5
  have hp : va_P D vwCl [(b + 124, .inl (cK 20, 6, .inl (fun _ => 0)))] H := va_P.right hP6
  have hs : va_P D vwCl ((b + 125, .inl (cK 24, 8, .inr (.inr (.inr (.inr (rfs (b + 126) 2 8)))))) :: cRow (cSh (cK 20)) (b + 126) 2 8) H := va_P.right hP7
  have hs2 : va_P D vwCl (cRow (cSh (cK 20)) (b + 126) 2 8) H := fun k q hk => hs (k + 1) q hk
  have hmA : va_P D vwCl (mtA cK (b + 97) 6 5) H := va_P.left hm
  have hmB : va_P D vwCl (cRow (cFl (cK 21)) (b + 97 + 15) 2 5) H := va_P.right hm
  have hm0 : va_P D vwCl [(b + 97, .inr (2, [.ref (b + 97 + 1), .ref (b + 97 + 2), .int 0, .int 0, .int 0, .int 0, .int 0])), (b + 97 + 1, .inl (cK 23, 6, .inr (.inr (.inr (.inr (rfs (b + 97 + 3) 2 6)))))), (b + 97 + 2, .inl (cK 23, 5, .inr (.inr (.inr (.inr (rfs (b + 97 + 15) 2 5))))))] H := va_P.left hmA
  have hmC : va_P D vwCl (cRow (cFl (cK 21)) (b + 97 + 3) 2 6) H := va_P.right hmA
  have kA : ∀ j, j < 6 → kdC (99 + 2 * j) = 0 ∧ kdC (99 + 2 * j + 1) = 21 ∧ lnC (99 + 2 * j + 1) = 4 := by decide +kernel
  have kB : ∀ j, j < 5 → kdC (112 + 2 * j) = 0 ∧ kdC (112 + 2 * j + 1) = 21 ∧ lnC (112 + 2 * j + 1) = 4 := by decide +kernel
  have kS : ∀ j, j < 8 → kdC (126 + 2 * j) = 4 ∧ kdC (126 + 2 * j + 1) = 20 ∧ lnC (126 + 2 * j + 1) = 100 := by decide +kernel
  have key : ∀ i, i < 142 → AtC D cK b H i := by
    intro i hi
    rcases (show i = 0 ∨ (1 ≤ i ∧ i ≤ 32) ∨ (33 ≤ i ∧ i ≤ 64) ∨ (65 ≤ i ∧ i ≤ 96) ∨ i = 97 ∨ i = 98 ∨ (99 ≤ i ∧ i ≤ 110) ∨ i = 111 ∨ (112 ≤ i ∧ i ≤ 121) ∨ (122 ≤ i ∧ i ≤ 123) ∨ i = 124 ∨ i = 125 ∨ 126 ≤ i by omega) with rfl | h | h | h | rfl | rfl | h | rfl | h | h | rfl | rfl | h
    · exact h0
    · rw [show i = 1 + (i - 1) by omega]
      exact w0_kit (Or.inl rfl) hk1 (i - 1) (by omega)
    · rw [show i = 33 + (i - 33) by omega]
      exact w0_kit (Or.inr (Or.inl rfl)) hk2 (i - 33) (by omega)
    · rw [show i = 65 + (i - 65) by omega]
      exact w0_kit (Or.inr (Or.inr rfl)) hk3 (i - 65) (by omega)
    · exact hm0 0 _ rfl
    · exact w0_ref (K := 23) (a := b + 97 + 1) (w := 2) (o := b + 97 + 3) rfl (by decide) rfl rfl rfl (fun j hj => by
        have hj : j < 6 := hj
        show adC b (98 + 1 + 2 * j) = _
        rw [adC_m (by omega)]
        omega) (hm0 1 _ rfl)
    · obtain ⟨j, t, hj, ht, rfl⟩ : ∃ j t, j < 6 ∧ t < 2 ∧ i = 99 + 2 * j + t := ⟨(i - 99) / 2, (i - 99) % 2, by omega, by omega, by omega⟩
      obtain ⟨q1, q2, q3⟩ := kA j hj
      have h2 := w0_flav (b := b) (a := b + 97 + 3 + 2 * j) q1 q2 q3 (by rw [adC_m (by omega)]; omega) (by rw [adC_m (by omega)]; omega) (cRow_at hmC j hj)
      rcases (show t = 0 ∨ t = 1 by omega) with rfl | rfl
      · exact h2.1
      · exact h2.2
    · exact w0_ref (K := 23) (a := b + 97 + 2) (w := 2) (o := b + 97 + 15) rfl (by decide) rfl rfl rfl (fun j hj => by
        have hj : j < 5 := hj
        show adC b (111 + 1 + 2 * j) = _
        rw [adC_e (by omega)]
        omega) (hm0 2 _ rfl)
    · obtain ⟨j, t, hj, ht, rfl⟩ : ∃ j t, j < 5 ∧ t < 2 ∧ i = 112 + 2 * j + t := ⟨(i - 112) / 2, (i - 112) % 2, by omega, by omega, by omega⟩
      obtain ⟨q1, q2, q3⟩ := kB j hj
      have h2 := w0_flav (b := b) (a := b + 97 + 15 + 2 * j) q1 q2 q3 (by rw [adC_e (by omega)]; omega) (by rw [adC_e (by omega)]; omega) (cRow_at hmB j hj)
      rcases (show t = 0 ∨ t = 1 by omega) with rfl | rfl
      · exact h2.1
      · exact h2.2
    · have h2 := w0_flav (b := b) (i := 122) (a := b + 122) rfl rfl rfl rfl rfl hf
      rcases (show i = 122 ∨ i = 123 by omega) with rfl | rfl
      · exact h2.1
      · exact h2.2
    · exact w0_int (i := 124) (a := b + 124) rfl rfl rfl (hp 0 _ rfl)
    · exact w0_ref (K := 24) (a := b + 125) (w := 2) (o := b + 126) rfl (by decide) rfl rfl rfl (fun j hj => by
        have hj : j < 8 := hj
        show adC b (125 + 1 + 2 * j) = _
        rw [adC_e (by omega)]
        omega) (hs 0 _ rfl)
    · obtain ⟨j, t, hj, ht, rfl⟩ : ∃ j t, j < 8 ∧ t < 2 ∧ i = 126 + 2 * j + t := ⟨(i - 126) / 2, (i - 126) % 2, by omega, by omega, by omega⟩
      obtain ⟨q1, q2, q3⟩ := kS j hj
      have h2 := w0_shelf (b := b) (a := b + 126 + 2 * j) q1 q2 q3 (by rw [adC_e (by omega)]; omega) (by rw [adC_e (by omega)]; omega) (cRow_at hs2 j hj)
      rcases (show t = 0 ∨ t = 1 by omega) with rfl | rfl
      · exact h2.1
      · exact h2.2
  exact Wr.of key
theorem wrM {D : va_G} {cK : Nat → ClassId} {b : Nat} {H : Heap} (hP : va_P D vwCl (cMd cK b) H) : Wr D (cAM cK) (adM b) SM st0M H := by
  refine Wr.of (fun i hi => ?_)
  have hi : i < 23 := hi
  rcases (show i = 0 ∨ i = 1 ∨ i = 2 ∨ i = 3 ∨ i = 4 ∨ i = 5 ∨ i = 6 ∨ i = 7 ∨ i = 8 ∨ i = 9 ∨ i = 10 ∨ i = 11 ∨ i = 12 ∨ i = 13 ∨ i = 14 ∨ i = 15 ∨ i = 16 ∨ i = 17 ∨ i = 18 ∨ i = 19 ∨ i = 20 ∨ i = 21 ∨ i = 22 by omega) with rfl | rfl | rfl | rfl | rfl | rfl | rfl | rfl | rfl | rfl | rfl | rfl | rfl | rfl | rfl | rfl | rfl | rfl | rfl | rfl | rfl | rfl | rfl
  · exact hP 0 _ rfl
  · exact hP 1 _ rfl
  · exact hP 2 _ rfl
  · exact hP 3 _ rfl
  · exact hP 4 _ rfl
  · exact hP 5 _ rfl
  · exact hP 6 _ rfl
  · exact hP 7 _ rfl
  · exact hP 8 _ rfl
  · exact hP 9 _ rfl
  · exact hP 10 _ rfl
  · exact hP 11 _ rfl
  · exact hP 12 _ rfl
  · exact hP 13 _ rfl
  · exact hP 14 _ rfl
  · exact hP 15 _ rfl
  · exact hP 16 _ rfl
  · exact hP 17 _ rfl
  · exact hP 18 _ rfl
  · exact hP 19 _ rfl
  · exact hP 20 _ rfl
  · exact hP 21 _ rfl
  · exact hP 22 _ rfl
theorem RR0 : RR st0C st0M := by
  refine ⟨(0, fun _ => 0, fun _ _ => 0, fun _ _ => 0, fun _ _ => 0), (0, fun _ => 0, fun _ _ => 0, fun _ _ => 0, fun _ _ => 0), ⟨Or.inl rfl, rfl, Nat.zero_le 6, fun j hj => absurd hj (Nat.not_lt_zero j)⟩, ⟨rfl, Nat.zero_le 6, fun j hj => absurd hj (Nat.not_lt_zero j)⟩, ⟨0, by omega, rfl, rfl, fun h => absurd h (by omega)⟩, fun d hd => ⟨0, by omega, rfl, rfl, fun h => absurd h (by omega), fun h => absurd h (by omega)⟩⟩
