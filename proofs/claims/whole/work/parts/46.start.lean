/-! from the constructors' cells to the store -/
def piC (i : Nat) : Nat := if i = 111 then 99 else if 99 ≤ i ∧ i ≤ 110 then i + 1 else i
def adC (b i : Nat) : Nat := b + piC i
def adM (b i : Nat) : Nat := b + i
def st0C : St := (fun _ _ => 0, fun i k => if kdC i = 0 ∧ k = 1 then 1 else 0)
def st0M : St := (fun _ _ => 0, fun _ _ => 0)
theorem piC_e {i : Nat} (h : i < 99 ∨ 111 < i) : piC i = i := by
  unfold piC
  rw [if_neg (by omega), if_neg (by omega)]
theorem piC_m {i : Nat} (h : 99 ≤ i ∧ i ≤ 110) : piC i = i + 1 := by
  unfold piC
  rw [if_neg (by omega), if_pos h]
theorem adC_e {b i : Nat} (h : i < 99 ∨ 111 < i) : adC b i = b + i := by rw [adC, piC_e h]
theorem adC_m {b i : Nat} (h : 99 ≤ i ∧ i ≤ 110) : adC b i = b + (i + 1) := by rw [adC, piC_m h]
theorem adC_111 {b : Nat} : adC b 111 = b + 99 := rfl
theorem adC_lt {b i : Nat} (h : i < 142) : b ≤ adC b i ∧ adC b i < b + 142 := by
  unfold adC piC
  split
  · omega
  · split <;> omega
theorem adC_ij {b : Nat} : Ij (adC b) SC := by
  intro i j hi hj h
  have e : piC i = piC j := by unfold adC at h; omega
  unfold piC at e
  (repeat' split at e) <;> omega
theorem adM_ij {b : Nat} : Ij (adM b) SM := by
  intro i j hi hj h
  unfold adM at h
  omega
abbrev cAC (cK : Nat → ClassId) : Nat → ClassId := fun i => cK (kdC i)
abbrev cAM (cK : Nat → ClassId) : Nat → ClassId := fun i => cK (kdM i)
def AtC (D : va_G) (cK : Nat → ClassId) (b : Nat) (H : Heap) (i : Nat) : Prop := va_at D vwCl (adC b i, ent (adC b) (cAC cK) SC st0C i) H
theorem arrV_cg {cA : ClassId} {N : Nat} {f g : Nat → Value} (h : ∀ j, j < N → f j = g j) : arrV cA N f = arrV cA N g := by
  have e : (fun j : Fin N => f j.val) = (fun j : Fin N => g j.val) := funext fun j => h j.1 j.2
  unfold arrV
  rw [e]
section W0
variable {D : va_G} {cK : Nat → ClassId} {b a i : Nat} {H : Heap}
theorem w0_ref {K n w o : Nat} {cA : ClassId} (hk : kdC i = K) (hK : 22 ≤ K) (hn : lnC i = n) (hc : cK K = cA) (ha : adC b i = a) (hs : ∀ j, j < n → adC b (i + 1 + stR K * j) = o + w * j) (hP : va_at D vwCl (a, .inl (cA, n, .inr (.inr (.inr (.inr (rfs o w n)))))) H) : AtC D cK b H i := by
  subst hc
  unfold AtC
  rw [ent_ref (S := SC) hk hK hn, ha]
  show H[a]? = some (vp_cell _ _)
  have h2 : H[a]? = some (vp_cell _ _) := hP
  rw [h2, vp_cell_q, vp_cell_q]
  rw [show cAC cK i = cK K by rw [← hk]]
  congr 1
  refine arrV_cg (fun j hj => ?_)
  rw [hs j hj]
  show va_rf (rfs o w n j) = _
  rw [rfs, if_pos hj]
theorem w0_int {n : Nat} (hk : kdC i = 20) (hn : lnC i = n) (ha : adC b i = a) (hP : va_at D vwCl (a, .inl (cK 20, n, .inl (fun _ => 0))) H) : AtC D cK b H i := by
  unfold AtC
  rw [ent_int (S := SC) hk hn, ha, show cAC cK i = cK 20 by rw [← hk]]
  exact hP
theorem w0_long {n : Nat} (hk : kdC i = 21) (hn : lnC i = n) (ha : adC b i = a) (hP : va_at D vwCl (a, .inl (cK 21, n, .inr (.inl (fun _ => 0)))) H) : AtC D cK b H i := by
  unfold AtC
  rw [ent_long (S := SC) hk hn, ha, show cAC cK i = cK 21 by rw [← hk]]
  have e : st0C.2 i = fun _ => 0 := by
    funext k
    exact if_neg (fun h => absurd h.1 (by rw [hk]; decide))
  rw [e]
  exact hP
theorem w0_flav (k0 : kdC i = 0) (k1 : kdC (i + 1) = 21) (n1 : lnC (i + 1) = 4) (a0 : adC b i = a) (a1 : adC b (i + 1) = a + 1) (hP : va_P D vwCl (cFl (cK 21) a) H) : AtC D cK b H i ∧ AtC D cK b H (i + 1) := by
  refine ⟨?_, w0_long k1 n1 a1 (hP 1 _ rfl)⟩
  have h2 := hP 0 _ rfl
  unfold AtC
  rw [ent_obj (S := SC) k0 (by decide), a0]
  show va_at D vwCl (a, .inr (0, [.ref (adC b (i + 1)), .long (st0C.2 i 1), .int 0])) H
  rw [a1, show st0C.2 i 1 = 1 from if_pos ⟨k0, rfl⟩]
  exact h2
theorem w0_shelf (k0 : kdC i = 4) (k1 : kdC (i + 1) = 20) (n1 : lnC (i + 1) = 100) (a0 : adC b i = a) (a1 : adC b (i + 1) = a + 1) (hP : va_P D vwCl (cSh (cK 20) a) H) : AtC D cK b H i ∧ AtC D cK b H (i + 1) := by
  refine ⟨?_, w0_int k1 n1 a1 (hP 1 _ rfl)⟩
  have h2 := hP 0 _ rfl
  unfold AtC
  rw [ent_obj (S := SC) k0 (by decide), a0]
  show va_at D vwCl (a, .inr (4, [.int 0, .int 0, .int 0, .int 0, .int 0, .ref (adC b (i + 1))])) H
  rw [a1]
  exact h2
theorem w0_pot (k0 : kdC i = 3) (k1 : kdC (i + 1) = 0) (k2 : kdC (i + 1 + 1) = 21) (k3 : kdC (i + 3) = 20) (k4 : kdC (i + 4) = 20) (n2 : lnC (i + 1 + 1) = 4) (n3 : lnC (i + 3) = 12) (n4 : lnC (i + 4) = 12) (ha : ∀ t, t < 5 → adC b (i + t) = a + t) (hP : va_P D vwCl (cPt cK a) H) : ∀ t, t < 5 → AtC D cK b H (i + t) := by
  have hP1 : va_P D vwCl (cFl (cK 21) (a + 1)) H := fun k q hk => hP (k + 1) q (by
    have hl : k < 2 := (List.getElem?_eq_some_iff.mp hk).1
    show (cFl (cK 21) (a + 1) ++ _)[k]? = some q
    rw [List.getElem?_append_left hl]
    exact hk)
  obtain ⟨f1, f2⟩ := w0_flav (b := b) (i := i + 1) k1 k2 n2 (ha 1 (by omega)) (ha 2 (by omega)) hP1
  have f3 := w0_int k3 n3 (ha 3 (by omega)) (hP 3 _ rfl)
  have f4 := w0_int k4 n4 (ha 4 (by omega)) (hP 4 _ rfl)
  have f0 : AtC D cK b H i := by
    have h2 := hP 0 _ rfl
    have a0 := ha 0 (by omega)
    rw [Nat.add_zero, Nat.add_zero] at a0
    unfold AtC
    rw [ent_obj (S := SC) k0 (by decide), a0]
    show va_at D vwCl (a, .inr (3, [.ref (adC b (i + 1)), .ref (adC b (i + 3)), .ref (adC b (i + 4))])) H
    rw [ha 1 (by omega), ha 3 (by omega), ha 4 (by omega)]
    exact h2
  intro t ht
  rcases (show t = 0 ∨ t = 1 ∨ t = 2 ∨ t = 3 ∨ t = 4 by omega) with rfl | rfl | rfl | rfl | rfl
  · exact f0
  · exact f1
  · exact f2
  · exact f3
  · exact f4
theorem cRow_at {g : Nat → va_W} {o w : Nat} : ∀ {n : Nat}, va_P D vwCl (cRow g o w n) H → ∀ j, j < n → va_P D vwCl (g (o + w * j)) H
  | 0, _, j, hj => absurd hj (by omega)
  | n + 1, hP, j, hj => by
    rcases Nat.lt_or_ge j n with h | h
    · exact cRow_at (n := n) (va_P.left hP) j h
    · rw [show j = n by omega]
      exact va_P.right hP
theorem w0_kit {β : Nat} (hβ : β = 1 ∨ β = 33 ∨ β = 65) (hP : va_P D vwCl (kt0 cK (b + β) 6) H) : ∀ r, r < 32 → AtC D cK b H (β + r) := by
  have ha : ∀ t, t < 32 → adC b (β + t) = b + β + t := fun t ht => by rw [adC_e (by omega), Nat.add_assoc]
  have hk : kdC β = 1 ∧ kdC (β + 1) = 22 ∧ lnC (β + 1) = 6 ∧ ∀ j, j < 6 → kdC (β + 2 + 5 * j) = 3 ∧ kdC (β + 2 + 5 * j + 1) = 0 ∧ kdC (β + 2 + 5 * j + 1 + 1) = 21 ∧ kdC (β + 2 + 5 * j + 3) = 20 ∧ kdC (β + 2 + 5 * j + 4) = 20 ∧ lnC (β + 2 + 5 * j + 1 + 1) = 4 ∧ lnC (β + 2 + 5 * j + 3) = 12 ∧ lnC (β + 2 + 5 * j + 4) = 12 := by
    rcases hβ with rfl | rfl | rfl <;> decide +kernel
  obtain ⟨g0, g1, g2, g3⟩ := hk
  have hL : va_P D vwCl [(b + β, .inr (1, [.ref (b + β + 1), .int 0])), (b + β + 1, .inl (cK 22, 6, .inr (.inr (.inr (.inr (rfs (b + β + 2) 5 6))))))] H := va_P.left hP
  have hR : va_P D vwCl (cRow (cPt cK) (b + β + 2) 5 6) H := va_P.right hP
  intro r hr
  rcases (show r = 0 ∨ r = 1 ∨ 2 ≤ r by omega) with rfl | rfl | h2
  · have h2 := hL 0 _ rfl
    unfold AtC
    rw [Nat.add_zero, ent_obj (S := SC) g0 (by decide), show adC b β = b + β from ha 0 (by omega)]
    show va_at D vwCl (b + β, .inr (1, [.ref (adC b (β + 1)), .int 0])) H
    rw [ha 1 (by omega)]
    exact h2
  · refine w0_ref (a := b + β + 1) (w := 5) (o := b + β + 2) g1 (by decide) g2 rfl (ha 1 (by omega)) (fun j hj => ?_) (hL 1 _ rfl)
    show adC b (β + 1 + 1 + 5 * j) = _
    rw [show β + 1 + 1 + 5 * j = β + (2 + 5 * j) by omega, ha _ (by omega)]
    omega
  · obtain ⟨j, t, hj, ht, e⟩ : ∃ j t, j < 6 ∧ t < 5 ∧ r = 2 + 5 * j + t := ⟨(r - 2) / 5, (r - 2) % 5, by omega, by omega, by omega⟩
    subst e
    obtain ⟨p0, p1, p2, p3, p4, p5, p6, p7⟩ := g3 j hj
    have h3 := w0_pot (b := b) (a := b + β + 2 + 5 * j) p0 p1 p2 p3 p4 p5 p6 p7 (fun t ht => by rw [show β + 2 + 5 * j + t = β + (2 + 5 * j + t) by omega, ha _ (by omega)]; omega) (cRow_at hR j hj) t ht
    rw [show β + (2 + 5 * j + t) = β + 2 + 5 * j + t by omega]
    exact h3
end W0
