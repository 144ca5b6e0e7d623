/-! WHAT IS READ OFF A FLAVOUR, in numbers, and how the class reads it -/
def porN (x : Nat → Nat) (t : Nat) : Nat := if sumTo x 4 = 0 then 0 else 100 * x t / sumTo x 4
def ovN (x : Nat → Nat) (t p : Nat) : Nat := if 100 * x t ≤ p * sumTo x 4 then 0 else 1
def bit (b j : Nat) : Bool := b / 2 ^ j % 2 == 1
theorem bit_e : ∀ b, b < 16 → ∀ j, j < 4 → decide ((nI b >>> (nI j &&& 31)) &&& 1 = 1) = bit b j := by decide +kernel
def hb (x : Nat → Nat) (b p : Nat) : Nat → Bool
  | 0 => false
  | j + 1 => hb x b p j || (bit b j && decide (p * sumTo x 4 < 100 * x j))
theorem hb_up {x : Nat → Nat} {b p i : Nat} (h : hb x b p i = true) : ∀ j, i ≤ j → hb x b p j = true := by
  intro j hj
  induction j with
  | zero => rw [show i = 0 by omega] at h; exact h
  | succ j ih =>
    by_cases e : i = j + 1
    · rw [← e]; exact h
    · rw [hb, ih (by omega), Bool.true_or]
def hrN (x : Nat → Nat) (b p : Nat) : Nat := if hb x b p 4 = true then 1 else 0
theorem lN0 : (0 : Int64) = lN 0 := rfl
theorem porC {σ : St} {i n t : Nat} {x : Nat → Nat} (h : flv σ i x n) (hb : bd x n) (hn : n ≤ 13) (ht : t < 4) : f_X0_portionOf σ i (nI t) = some (nI (porN x t)) := by
  obtain ⟨q1, q2⟩ := bd_sum hb hn
  have q3 := q2 t ht
  rw [f_X0_portionOf, chk_t h.1.1, bnd_o (totC h), porN]
  by_cases e : sumTo x 4 = 0
  · rw [if_pos e, if_pos (by rw [lg_cmp_eq, e]; rfl)]
    rfl
  · have e2 : ¬ lN (sumTo x 4) = 0 := by
      rw [lN0, pk_lEQ (by omega) (by omega)]; exact e
    rw [if_neg e, if_neg (by rw [lg_cmp_eq]; exact e2), chk_t h.1.2, chk_t (inb_nI ht (by omega)), chk_t (by simpa [nzl] using e2), nI_clamp (by omega), h.2.1 t ht, show (100 : Int64) = lN 100 from rfl, lN_mul, pk_lDiv (by omega) (by omega) (by omega), lN_i]
theorem ovr_e {x : Nat → Nat} {n t p : Nat} (hb : bd x n) (hn : n ≤ 13) (ht : t < 4) (hp : p ≤ 100) : (lg_cmp (100 * lN (x t)) ((nI p).toInt64 * lN (sumTo x 4)) ≤ 0) ↔ 100 * x t ≤ p * sumTo x 4 := by
  obtain ⟨q1, q2⟩ := bd_sum hb hn
  have q3 := q2 t ht
  have q4 : p * sumTo x 4 ≤ 100 * 2 ^ 50 := Nat.mul_le_mul hp (by omega)
  rw [lg_cmp_le, nI_l (by omega), show (100 : Int64) = lN 100 from rfl, lN_mul, lN_mul, pk_lLE (by omega) (by omega)]
theorem ovC {σ : St} {i n t p : Nat} {x : Nat → Nat} (h : flv σ i x n) (hb : bd x n) (hn : n ≤ 13) (ht : t < 4) (hp : p ≤ 100) : f_X0_isOver σ i (nI t) (nI p) = some (nI (ovN x t p)) := by
  rw [f_X0_isOver, chk_t h.1.1, chk_t h.1.2, chk_t (inb_nI ht (by omega)), bnd_o (totC h), nI_clamp (by omega), h.2.1 t ht, ovN]
  by_cases e : 100 * x t ≤ p * sumTo x 4
  · rw [if_pos e, if_pos ((ovr_e hb hn ht hp).mpr e)]; rfl
  · rw [if_neg e, if_neg (fun q => e ((ovr_e hb hn ht hp).mp q))]; rfl
theorem hrC_l {σ : St} {i n b p : Nat} {x : Nat → Nat} {k1 k0 : Option Int32} (h : flv σ i x n) (hbd : bd x n) (hn : n ≤ 13) (hbn : b < 16) (hp : p ≤ 100) : ∀ (m j : Nat), j ≤ 4 → 4 < m + j → hb x b p j = false → f_X0_isHarmful_11 σ k1 k0 m i (nI b) ((nI p).toInt64 * lN (sumTo x 4)) (nI j) = if hb x b p 4 = true then k1 else k0 := by
  intro m
  induction m with
  | zero => intro j h1 h2; omega
  | succ m ih =>
    intro j h1 h2 h3
    rw [f_X0_isHarmful_11]
    by_cases hj : j = 4
    · subst hj
      rw [h3, if_pos (by decide)]
      rfl
    · have hlt : j < 4 := by omega
      have e := bit_e b hbn j hlt
      rw [if_neg (show ¬ (4 : Int32) ≤ nI j from nI_ge (b := 4) hlt (by omega))]
      by_cases hbit : bit b j = true
      · rw [hbit, decide_eq_true_eq] at e
        rw [if_pos e, chk_t h.1.1, chk_t h.1.2, chk_t (inb_nI hlt (by omega)), nI_clamp (by omega), h.2.1 j hlt]
        by_cases e2 : 100 * x j ≤ p * sumTo x 4
        · rw [if_pos ((ovr_e hbd hn hlt hp).mpr e2), f_X0_isHarmful_45, nw_s, nI_1]
          refine ih (j + 1) (by omega) (by omega) ?_
          rw [hb, h3, hbit]
          simp
          exact e2
        · rw [if_neg (fun q => e2 ((ovr_e hbd hn hlt hp).mp q))]
          have e3 : hb x b p (j + 1) = true := by
            rw [hb, hbit]
            simp
            exact Or.inr (by omega)
          rw [hb_up e3 4 (by omega)]
          rfl
      · have hbf : bit b j = false := by simpa using hbit
        rw [hbf, decide_eq_false_iff_not] at e
        rw [if_neg e, f_X0_isHarmful_45, nw_s, nI_1]
        refine ih (j + 1) (by omega) (by omega) ?_
        rw [hb, h3, hbf]
        rfl
theorem hrC {σ : St} {i n b p : Nat} {x : Nat → Nat} (h : flv σ i x n) (hbd : bd x n) (hn : n ≤ 13) (hbn : b < 16) (hp : p ≤ 100) : f_X0_isHarmful σ i (nI b) (nI p) = some (nI (hrN x b p)) := by
  have e9 := hrC_l (k1 := some 1) (k0 := some 0) h hbd hn hbn hp fu 0 (by omega) (by rw [fu_e]; omega) rfl
  rw [show nI 0 = 0 from rfl] at e9
  rw [f_X0_isHarmful, chk_t h.1.1, bnd_o (totC h), nw_s, e9, hrN]
  by_cases e : hb x b p 4 = true
  · rw [if_pos e, if_pos e]; rfl
  · rw [if_neg e, if_neg e]; rfl
/-- the taste that is most -/
def best (x : Nat → Nat) : Nat → Nat
  | 0 => 0
  | j + 1 => if x j ≤ x (best x j) then best x j else j
theorem best_lt (x : Nat → Nat) : ∀ j, 0 < j → best x j < j := by
  intro j
  induction j with
  | zero => intro h; omega
  | succ j ih =>
    intro _
    rw [best]
    by_cases e : x j ≤ x (best x j)
    · rw [if_pos e]
      by_cases hj : j = 0
      · subst hj; exact Nat.lt_succ_self 0
      · have := ih (by omega); omega
    · rw [if_neg e]; omega
theorem best_max (x : Nat → Nat) : ∀ j t, t < j → x t ≤ x (best x j) := by
  intro j
  induction j with
  | zero => intro t h; omega
  | succ j ih =>
    intro t ht
    rw [best]
    by_cases e : x j ≤ x (best x j)
    · rw [if_pos e]
      by_cases h : t = j
      · subst h; exact e
      · exact ih t (by omega)
    · rw [if_neg e]
      by_cases h : t = j
      · subst h; exact Nat.le_refl _
      · exact Nat.le_trans (ih t (by omega)) (by omega)
theorem best_sum (x : Nat → Nat) : x (best x 4) = 0 ↔ sumTo x 4 = 0 := by
  have h0 := best_max x 4 0 (by omega)
  have h1 := best_max x 4 1 (by omega)
  have h2 := best_max x 4 2 (by omega)
  have h3 := best_max x 4 3 (by omega)
  have hl := best_lt x 4 (by omega)
  simp only [sumTo]
  constructor
  · intro h; omega
  · intro h
    have hz : ∀ t, t < 4 → x t = 0 := by
      intro t ht
      have : t = 0 ∨ t = 1 ∨ t = 2 ∨ t = 3 := by omega
      rcases this with rfl | rfl | rfl | rfl <;> omega
    exact hz _ hl
theorem cmpN {a b : Nat} (ha : a < 2 ^ 63) (hb : b < 2 ^ 63) : (lg_cmp (lN a) (lN b) ≤ 0) ↔ a ≤ b := by rw [lg_cmp_le, pk_lLE ha hb]
theorem stC_l {σ : St} {i n : Nat} {x : Nat → Nat} {k : Nat → Int32 → Option Int32} (h : flv σ i x n) (hb : bd x n) (hn : n ≤ 13) : ∀ (m j : Nat), 1 ≤ j → j ≤ 4 → 4 < m + j → f_X0_mostTaste_4 σ k m i (nI (best x j)) (nI j) = k i (nI (best x 4)) := by
  have hs := (bd_sum hb hn).2
  intro m
  induction m with
  | zero => intro j h1 h2; omega
  | succ m ih =>
    intro j h0 h1 h2
    rw [f_X0_mostTaste_4]
    by_cases hj : j = 4
    · subst hj
      exact if_pos (by decide)
    · have hlt : j < 4 := by omega
      have hbl := best_lt x j (by omega)
      have s1 := hs j hlt
      have s2 := hs (best x j) (by omega)
      rw [if_neg (show ¬ (4 : Int32) ≤ nI j from nI_ge (b := 4) hlt (by omega)), chk_t h.1.1, chk_t h.1.2, chk_t (inb_nI hlt (by omega)), chk_t (inb_nI (by omega) (by omega)), nI_clamp (by omega), nI_clamp (by omega), h.2.1 j hlt, h.2.1 _ (by omega)]
      by_cases e : x j ≤ x (best x j)
      · rw [if_pos ((cmpN (by omega) (by omega)).mpr e), f_X0_mostTaste_30, nw_s, nI_1]
        have q := ih (j + 1) (by omega) (by omega) (by omega)
        rw [best, if_pos e] at q
        exact q
      · rw [if_neg (fun q => e ((cmpN (by omega) (by omega)).mp q)), f_X0_mostTaste_30, nw_s, nI_1]
        have q := ih (j + 1) (by omega) (by omega) (by omega)
        rw [best, if_neg e] at q
        exact q
theorem stC {σ : St} {i n : Nat} {x : Nat → Nat} (h : flv σ i x n) (hb : bd x n) (hn : n ≤ 13) : f_X0_mostTaste σ i = some (if sumTo x 4 = 0 then -4 else nI (best x 4)) := by
  have hs := (bd_sum hb hn).2
  have hbl := best_lt x 4 (by omega)
  have s2 := hs (best x 4) (by omega)
  rw [f_X0_mostTaste]
  have e := stC_l (k := fun (w14_0 : Nat) (w15_1 : Int32) => chk (kOK SC w14_0 0) <| chk (aOK SC (w14_0 + 1) 21 4) <| chk (inb w15_1 4) <| (if (lg_cmp (σ.2 (w14_0 + 1) w15_1.toNatClampNeg) 0) = 0 then some ((-4)) else some w15_1)) h hb hn fu 1 (by omega) (by omega) (by rw [fu_e]; omega)
  rw [show nI (best x 1) = 0 by rw [best, best, if_pos (Nat.le_refl _)]; rfl, show nI 1 = 1 from rfl] at e
  rw [e]
  rw [chk_t h.1.1, chk_t h.1.2, chk_t (inb_nI hbl (by omega)), nI_clamp (by omega), h.2.1 _ hbl]
  by_cases q : sumTo x 4 = 0
  · rw [if_pos q, if_pos (by rw [lg_cmp_eq, (best_sum x).mpr q]; rfl)]
  · rw [if_neg q, if_neg (by rw [lg_cmp_eq, lN0, pk_lEQ (by omega) (by omega)]; exact fun z => q ((best_sum x).mp z))]
