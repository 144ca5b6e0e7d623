/-! LEAST TERMS -/
theorem mod_half {y x : Nat} (h0 : 0 < x) (h : x ≤ y) : y % x + x ≤ y := by
  have h1 := Nat.div_add_mod y x
  have h2 : 1 ≤ y / x := Nat.div_pos h h0
  have h3 : x * 1 ≤ x * (y / x) := Nat.mul_le_mul_left x h2
  omega
theorem gcd_step (x y : Nat) : Nat.gcd x y = Nat.gcd y (x % y) := by
  rw [Nat.gcd_comm x y, Nat.gcd_rec y x, Nat.gcd_comm]
theorem leastM_1 {k : Int64 → Int64 → Int32 → Int64 → Option Int64} {v0 v2 : Int64} {v4 : Int32} {m x y : Nat} (hx : x < 2 ^ 63) (hy : y < 2 ^ 63) (h0 : 0 < y) : f_X6_least_6 k (m + 1) v0 v2 v4 (lN x) (lN y) = f_X6_least_6 k m v0 v2 v4 (lN y) (lN (x % y)) := by
  have e : ¬ lN y = 0 := by rw [lN0, pk_lEQ hy (by omega)]; omega
  rw [f_X6_least_6, if_neg (by rw [lg_cmp_eq]; exact e), chk_t (by simpa [nzl] using e), nw_s, pk_lRem hx h0 hy]
theorem leastM_0 {k : Int64 → Int64 → Int32 → Int64 → Option Int64} {v0 v2 : Int64} {v4 : Int32} {m x : Nat} : f_X6_least_6 k (m + 1) v0 v2 v4 (lN x) (lN 0) = k v0 v2 v4 (lN x) := by
  rw [f_X6_least_6, if_pos (by rw [lg_cmp_eq]; rfl)]
theorem leastM_l {k : Int64 → Int64 → Int32 → Int64 → Option Int64} {v0 v2 : Int64} {v4 : Int32} : ∀ (e m x y : Nat), y < 2 ^ e → 2 * e + 1 ≤ m → x < 2 ^ 63 → y < 2 ^ 63 → f_X6_least_6 k m v0 v2 v4 (lN x) (lN y) = k v0 v2 v4 (lN (Nat.gcd x y)) := by
  intro e
  induction e with
  | zero =>
    intro m x y h1 h2 hx hy
    have : y = 0 := by simpa using h1
    subst this
    obtain ⟨m', rfl⟩ : ∃ m', m = m' + 1 := ⟨m - 1, by omega⟩
    rw [leastM_0, Nat.gcd_zero_right]
  | succ e ih =>
    intro m x y h1 h2 hx hy
    obtain ⟨m', rfl⟩ : ∃ m', m = m' + 1 := ⟨m - 1, by omega⟩
    by_cases h0 : y = 0
    · subst h0
      rw [leastM_0, Nat.gcd_zero_right]
    · have hr := Nat.mod_lt x (show 0 < y by omega)
      rw [leastM_1 hx hy (by omega), gcd_step x y]
      obtain ⟨m2, rfl⟩ : ∃ m2, m' = m2 + 1 := ⟨m' - 1, by omega⟩
      by_cases hz : x % y = 0
      · rw [hz, leastM_0, Nat.gcd_zero_right]
      · rw [leastM_1 hy (by omega) (by omega), gcd_step y (x % y)]
        have hh := mod_half (show 0 < x % y by omega) (Nat.le_of_lt hr)
        have h5 := Nat.mod_lt y (show 0 < x % y by omega)
        have h6 : 2 ^ (e + 1) = 2 * 2 ^ e := by rw [Nat.pow_succ, Nat.mul_comm]
        exact ih m2 (x % y) (y % (x % y)) (by omega) (by omega) (by omega) (by omega)
def lsN (a b q : Nat) : Nat := if q = 0 then a / Nat.gcd a b else b / Nat.gcd a b
theorem leastM {a b q : Nat} (ha : a < 2 ^ 63) (hb : b < 2 ^ 63) (h0 : 0 < b) (hq : q < 2) : f_X6_least (lN a) (lN b) (nI q) = some (lN (lsN a b q)) := by
  have hg : 0 < Nat.gcd a b := Nat.gcd_pos_of_pos_right a h0
  have hg2 : Nat.gcd a b ≤ b := Nat.le_of_dvd h0 (Nat.gcd_dvd_right a b)
  have hz : nzl (lN (Nat.gcd a b)) = true := by
    have e : ¬ lN (Nat.gcd a b) = 0 := by rw [lN0, pk_lEQ (by omega) (by omega)]; omega
    simpa [nzl] using e
  rw [f_X6_least, leastM_l 63 fu a b hb (by rw [fu_e]; omega) ha hb, lsN]
  by_cases e : q = 0
  · subst e
    rw [if_pos (show nI 0 = 0 from rfl), if_pos rfl, chk_t hz, pk_lDiv ha hg (by omega)]
  · rw [if_neg (nI_ne0 (by omega) (by omega)), if_neg e, chk_t hz, pk_lDiv hb hg (by omega)]
theorem cop3 {a : Nat} (h : ¬ a % 3 = 0) (e : Nat) : Nat.gcd a (3 ^ e) = 1 := by
  have h1 : Nat.gcd a 3 = 1 := by
    rw [Nat.gcd_comm, Nat.gcd_rec]
    have : a % 3 = 1 ∨ a % 3 = 2 := by omega
    rcases this with q | q <;> rw [q] <;> decide
  exact Nat.Coprime.pow_right e h1
theorem rem3 {a : Nat} (ha : a < 2 ^ 63) : (lg_cmp (lN a - lN a / 3 * 3) 0 = 0) ↔ a % 3 = 0 := by
  rw [lg_cmp_eq, show (3 : Int64) = lN 3 from rfl, pk_lRem ha (by omega) (by omega), lN0, pk_lEQ (by omega) (by omega)]
theorem leastC_l {k : Int32 → Int64 → Int64 → Option Int64} {q : Int32} : ∀ (m i a e : Nat), i + e ≤ 24 → 24 < m + i → a < 2 ^ 63 → f_X5_inLeastTerms_9 k m q (lN a) (lN (3 ^ e)) (nI i) = k q (lN (a / Nat.gcd a (3 ^ e))) (lN (3 ^ e / Nat.gcd a (3 ^ e))) := by
  intro m
  induction m with
  | zero => intro i a e h1 h2; omega
  | succ m ih =>
    intro i a e h1 h2 ha
    have hp : 3 ^ e ≤ 3 ^ 24 := Nat.pow_le_pow_right (by omega) (by omega)
    have hp2 : (3 : Nat) ^ 24 < 2 ^ 63 := by decide
    rw [f_X5_inLeastTerms_9]
    by_cases hi : 24 ≤ i
    · have : e = 0 := by omega
      subst this
      rw [if_pos (show (24 : Int32) ≤ nI i from nI_le (a := 24) hi (by omega)), Nat.pow_zero, Nat.gcd_one_right, Nat.div_one, Nat.div_one]
    · rw [if_neg (show ¬ (24 : Int32) ≤ nI i from nI_ge (b := 24) (by omega) (by omega))]
      by_cases h3 : a % 3 = 0
      · rw [if_pos ((rem3 ha).mpr h3)]
        by_cases he : e = 0
        · subst he
          rw [if_neg (fun z => by have := (rem3 (by omega)).mp z; simp at this), Nat.pow_zero, Nat.gcd_one_right, Nat.div_one, Nat.div_one]
        · obtain ⟨e', rfl⟩ : ∃ e', e = e' + 1 := ⟨e - 1, by omega⟩
          have hs : 3 ^ (e' + 1) = 3 * 3 ^ e' := by rw [Nat.pow_succ, Nat.mul_comm]
          obtain ⟨c, rfl⟩ : ∃ c, a = 3 * c := ⟨a / 3, by omega⟩
          rw [if_pos ((rem3 (by omega)).mpr (by omega)), nw_s, nw_s, nw_s, show (3 : Int64) = lN 3 from rfl, pk_lDiv ha (by omega) (by omega), pk_lDiv (by omega) (by omega) (by omega), nI_1, hs, Nat.mul_div_cancel_left _ (by omega), Nat.mul_div_cancel_left _ (by omega), ih (i + 1) c e' (by omega) (by omega) (by omega), Nat.gcd_mul_left, Nat.mul_div_mul_left _ _ (by omega), Nat.mul_div_mul_left _ _ (by omega)]
      · rw [if_neg (fun z => h3 ((rem3 ha).mp z)), cop3 h3, Nat.div_one, Nat.div_one]
theorem leastC {a n q : Nat} (ha : a < 2 ^ 63) (hn : n ≤ 12) (hq : q < 2) : f_X5_inLeastTerms (lN a) (lN (9 ^ n)) (nI q) = some (lN (lsN a (9 ^ n) q)) := by
  have e : (9 : Nat) ^ n = 3 ^ (2 * n) := by rw [Nat.pow_mul]
  rw [f_X5_inLeastTerms, e, show (0 : Int32) = nI 0 from rfl, leastC_l fu 0 a (2 * n) (by omega) (by rw [fu_e]; omega) ha, f_X5_inLeastTerms_60, lsN]
  by_cases h : q = 0
  · subst h
    rw [if_pos (show nI 0 = 0 from rfl), if_pos rfl]
  · rw [if_neg (nI_ne0 (by omega) (by omega)), if_neg h]
theorem p9_pos (n : Nat) : 0 < 9 ^ n := Nat.pow_pos (by omega)
theorem sim_taste {σc σm : St} (h : RR σc σm) (x y z : Int32) : ∃ (r : Int64) (σm' : St), f_X5_taste σc x y z = some r ∧ f_X6_taste σm x y z = some (r, σm') ∧ RR σc σm' := by
  have h5 := h.u5 (v := 0)
  obtain ⟨K, K2, hC, hM, -⟩ := id h
  have hM5 := hM.u5 (v := 0)
  have h6 := hC.2.2.1
  rw [f_X6_taste, nw_s, f_X5_taste]
  rcases inb_or x (show K.1 < 2 ^ 31 by omega) with ⟨j, hj, rfl⟩ | hn
  · obtain ⟨p1, p2, p3, p4, p5⟩ := hC.2.2.2 j hj
    have hf := hM5.flm hj
    rw [bnd_o (hasC_y hC hj), bnd_o (isPotM_y hM5 hj), if_neg p0, if_neg p0]
    rcases inb_or y (show 4 < 2 ^ 31 by omega) with ⟨t, ht, rfl⟩ | hn
    · rw [bnd_o (noTaste_y ht), bnd_o (inM_y ht (by omega)), if_pos rfl, if_neg p0]
      rcases inb_or z (show 2 < 2 ^ 31 by omega) with ⟨q, hq, rfl⟩ | hn
      · have b1 := (bd_sum p4 (by omega)).2 t ht
        have b2 := p9_le (n := K.2.1 j) (by omega)
        rw [bnd_o (noHalf_y hq), bnd_o (inM_y hq (by omega)), if_pos rfl, if_neg p0, chk_t (inb_nI (by omega) (by omega)), nI_clamp (by omega), pt1, chk_t p1.1, nw_s, chk_t p1.2.1.1, chk_t p1.2.1.2, chk_t (inb_nI ht (by omega)), nI_clamp (by omega), p2.2.1 t ht, p2.2.2.1, bnd_o (leastC (by omega) p3 hq)]
        rw [n4, chk_t (inb_nI (by omega) (by omega)), chk_t (inb_nI (by omega) (by omega)), hf.2.2, bnd_o (nineM (by omega)), nI_clamp (by omega), hf.2.1 t ht, bnd_o (leastM (by omega) (by omega) (p9_pos _) hq)]
        exact ⟨_, _, rfl, rfl, h5⟩
      · rw [bnd_o (noHalf_n hn), bnd_o (inM_n (n := 2) hn), if_neg p0, if_pos rfl]
        exact ⟨_, _, rfl, rfl, h5⟩
    · rw [bnd_o (noTaste_n hn), bnd_o (inM_n (n := 4) hn), if_neg p0, if_pos rfl]
      exact ⟨_, _, rfl, rfl, h5⟩
  · rw [bnd_o (hasC_n hC hn), bnd_o (isPotM_n hM5 hn), if_pos rfl, if_pos rfl]
    exact ⟨_, _, rfl, rfl, h5⟩
theorem sim_all {σc σm : St} (h : RR σc σm) (x z : Int32) : ∃ (r : Int64) (σm' : St), f_X5_all σc x z = some r ∧ f_X6_all σm x z = some (r, σm') ∧ RR σc σm' := by
  have h5 := h.u5 (v := 0)
  obtain ⟨K, K2, hC, hM, -⟩ := id h
  have hM5 := hM.u5 (v := 0)
  have h6 := hC.2.2.1
  rw [f_X6_all, nw_s, f_X5_all]
  rcases inb_or x (show K.1 < 2 ^ 31 by omega) with ⟨j, hj, rfl⟩ | hn
  · obtain ⟨p1, p2, p3, p4, p5⟩ := hC.2.2.2 j hj
    have hf := hM5.flm hj
    rw [bnd_o (hasC_y hC hj), bnd_o (isPotM_y hM5 hj), if_neg p0, if_neg p0]
    rcases inb_or z (show 2 < 2 ^ 31 by omega) with ⟨q, hq, rfl⟩ | hn
    · have b1 := (bd_sum p4 (by omega)).1
      have b2 := p9_le (n := K.2.1 j) (by omega)
      rw [bnd_o (noHalf_y hq), bnd_o (inM_y hq (by omega)), if_pos rfl, if_neg p0, chk_t (inb_nI (by omega) (by omega)), nI_clamp (by omega), pt1, chk_t p1.1, nw_s, chk_t p1.2.1.1, bnd_o (totC p2), p2.2.2.1, bnd_o (leastC (by omega) p3 hq)]
      rw [bnd_o (totM hf), chk_t (inb_nI (by omega) (by omega)), hf.2.2, bnd_o (nineM (by omega)), bnd_o (leastM (by omega) (by omega) (p9_pos _) hq)]
      exact ⟨_, _, rfl, rfl, h5⟩
    · rw [bnd_o (noHalf_n hn), bnd_o (inM_n (n := 2) hn), if_neg p0, if_pos rfl]
      exact ⟨_, _, rfl, rfl, h5⟩
  · rw [bnd_o (hasC_n hC hn), bnd_o (isPotM_n hM5 hn), if_pos rfl, if_pos rfl]
    exact ⟨_, _, rfl, rfl, h5⟩
/-- the product of what the i latest dishes keep -/
def prN (kd : Nat → Nat) (n : Nat) : Nat → Nat
  | 0 => 1
  | i + 1 => prN kd n i * keepN (kd (n - 1 - i))
theorem prN_le {kd : Nat → Nat} {n : Nat} (hk : ∀ d, d < n → kd d < 8) : ∀ i, i ≤ n → prN kd n i ≤ 6 ^ i := by
  intro i
  induction i with
  | zero => intro _; exact Nat.le_refl _
  | succ i ih =>
    intro hi
    have h1 := ih (by omega)
    have h2 := keepLe (kd (n - 1 - i)) (hk _ (by omega))
    rw [prN, Nat.pow_succ]
    exact Nat.mul_le_mul h1 h2
theorem kindC {σ : St} {i n d : Nat} {x kd fg : Nat → Nat} (h : potC σ i n x kd fg) (hd : d < n) : f_X3_kindOf σ i (nI d) = some (nI (kd (n - 1 - d))) := by
  obtain ⟨⟨p1, p2, p3, p4⟩, b, c, e, g⟩ := h
  rw [f_X3_kindOf, chk_t p1, chk_t p2.1, chk_t p3, b.2.2.2, show (1 : Int32) = nI 1 from rfl, pk_sub (by omega), pk_sub (by omega), chk_t (inb_nI (by omega) (by omega)), nI_clamp (by omega), (g _ (by omega)).2.2.1]
theorem figureC {σ : St} {i n d : Nat} {x kd fg : Nat → Nat} (h : potC σ i n x kd fg) (hd : d < n) : f_X3_figureOf σ i (nI d) = some (nI (fg (n - 1 - d))) := by
  obtain ⟨⟨p1, p2, p3, p4⟩, b, c, e, g⟩ := h
  rw [f_X3_figureOf, chk_t p1, chk_t p2.1, chk_t p4, b.2.2.2, show (1 : Int32) = nI 1 from rfl, pk_sub (by omega), pk_sub (by omega), chk_t (inb_nI (by omega) (by omega)), nI_clamp (by omega), (g _ (by omega)).2.2.2]
theorem leftC_l {σ : St} {i n u : Nat} {x kd fg : Nat → Nat} {k : Int64 → Option Int64} (h : potC σ i n x kd fg) (hu : u ≤ n) : ∀ (m j : Nat), j ≤ u → u < m + j → f_X3_leftAbove_5 σ k m i (nI u) (lN (prN kd n j)) (nI j) = k (lN (prN kd n u)) := by
  have hn := h.2.2.1
  intro m
  induction m with
  | zero => intro j h1 h2; omega
  | succ m ih =>
    intro j h1 h2
    rw [f_X3_leftAbove_5]
    by_cases hj : j = u
    · subst hj
      exact if_pos (nI_le (Nat.le_refl _) (by omega))
    · have hkd := (h.2.2.2.2 (n - 1 - j) (by omega)).1
      have hkl := keepLe _ hkd
      rw [if_neg (nI_ge (by omega) (by omega)), chk_t h.1.1, bnd_o (kindC h (by omega)), bnd_o (keepC _ hkd), nw_s, nw_s, nI_1, nI_l (by omega), lN_mul]
      exact ih (j + 1) (by omega) (by omega)
theorem leftC {σ : St} {i n u : Nat} {x kd fg : Nat → Nat} (h : potC σ i n x kd fg) (hu : u ≤ n) : f_X3_leftAbove σ i (nI u) = some (lN (prN kd n u)) := by
  have hn := h.2.2.1
  rw [f_X3_leftAbove]
  exact leftC_l (k := fun (w7_0 : Int64) => some w7_0) h hu fu 0 (by omega) (by rw [fu_e]; omega)
theorem n12s {j n d : Nat} (hd : d < n) : (12 * nI j + nI n) - 1 - nI d = nI (12 * j + (n - 1 - d)) := by
  rw [n12, show (1 : Int32) = nI 1 from rfl, pk_sub (by omega), pk_sub (by omega)]
  congr 1
  omega
theorem partM_l {σ : St} {j n u : Nat} {x kd fg : Nat → Nat} {k : Int64 → Option Int64} (hj : j < 6) (h : pm 1 2 3 4 σ j n x kd fg) (hk : ∀ d, d < n → kd d < 8) (hu : u ≤ n) : ∀ (m i : Nat), i ≤ u → u < m + i → f_X6_partOf_5 σ k m (nI j) (nI u) (lN (prN kd n i)) (nI i) = k (lN (prN kd n u)) := by
  obtain ⟨h1, h2, h3, h4⟩ := h
  intro m
  induction m with
  | zero => intro i g1 g2; omega
  | succ m ih =>
    intro i g1 g2
    rw [f_X6_partOf_5]
    by_cases hi : i = u
    · subst hi
      exact if_pos (nI_le (Nat.le_refl _) (by omega))
    · have hkd := hk (n - 1 - i) (by omega)
      have hkl := keepLe _ hkd
      rw [if_neg (nI_ge (by omega) (by omega)), chk_t (inb_nI (by omega) (by omega)), nI_clamp (show j < 2 ^ 31 by omega), h2, n12s (by omega), chk_t (inb_nI (by omega) (by omega)), nI_clamp (by omega), (h4 _ (by omega)).1, bnd_o (keepM _ hkd), nw_s, nw_s, nI_1, nI_l (by omega), lN_mul]
      exact ih (i + 1) (by omega) (by omega)
theorem partM {σ : St} {j n u : Nat} {x kd fg : Nat → Nat} (hj : j < 6) (h : pm 1 2 3 4 σ j n x kd fg) (hk : ∀ d, d < n → kd d < 8) (hu : u ≤ n) : f_X6_partOf σ (nI j) (nI u) = some (lN (prN kd n u)) := by
  have h3 := h.2.2.1
  rw [f_X6_partOf]
  exact partM_l (k := fun (w7_0 : Int64) => some w7_0) hj h hk hu fu 0 (by omega) (by rw [fu_e]; omega)
