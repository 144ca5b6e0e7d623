theorem keepC : ∀ k, k < 8 → f_X5_keepsOf (nI k) = some (nI (keepN k)) := by decide +kernel
theorem keepM : ∀ k, k < 8 → f_X6_keepsOf (nI k) = some (nI (keepN k)) := by decide +kernel
theorem keepLe : ∀ k, k < 8 → keepN k ≤ 6 := by decide +kernel
theorem ownC : ∀ k, k < 8 → ∀ f, f < 10 → ∀ t, t < 4 → f_X5_ownOf (nI k) (nI f) (nI t) = some (nI (ownN k f t)) := by decide +kernel
theorem ownM : ∀ k, k < 8 → ∀ f, f < 10 → ∀ t, t < 4 → f_X6_ownOf (nI k) (nI f) (nI t) = some (nI (ownN k f t)) := by decide +kernel
theorem ownLe : ∀ k, k < 8 → ∀ f, f < 10 → ∀ t, t < 4 → ownN k f t ≤ 20 := by decide +kernel
theorem priceC : ∀ k, k < 8 → ∀ f, f < 10 → f_X5_priceOf (nI k) (nI f) = some (nI (priceN k f)) := by decide +kernel
theorem priceM : ∀ k, k < 8 → ∀ f, f < 10 → f_X6_priceOf (nI k) (nI f) = some (nI (priceN k f)) := by decide +kernel
theorem nineM_l {k : Int64 → Option Int64} {n : Nat} (hn : n < 2 ^ 31) : ∀ (m j : Nat), j ≤ n → n < m + j → f_X6_nine_4 k m (nI n) (lN (9 ^ j)) (nI j) = k (lN (9 ^ n)) := by
  intro m
  induction m with
  | zero => intro j h1 h2; omega
  | succ m ih =>
    intro j h1 h2
    rw [f_X6_nine_4]
    by_cases hj : j = n
    · subst hj
      exact if_pos (nI_le (Nat.le_refl _) hn)
    · have hlt : j < n := by omega
      rw [if_neg (nI_ge hlt hn), nw_s, nw_s, show (9 : Int64) = lN 9 from rfl, lN_mul, nI_1, ← Nat.pow_succ]
      exact ih (j + 1) (by omega) (by omega)
theorem nineM {n : Nat} (hn : n < 10000) : f_X6_nine (nI n) = some (lN (9 ^ n)) := by
  rw [f_X6_nine]
  exact nineM_l (by omega) fu 0 (Nat.zero_le _) (by rw [fu_e]; omega)
theorem nineC_l {k : Int64 → Option Int64} {n : Nat} (hn : n < 2 ^ 31) : ∀ (m j : Nat), j ≤ n → n < m + j → f_X5_powerOfNine_4 k m (nI n) (lN (9 ^ j)) (nI j) = k (lN (9 ^ n)) := by
  intro m
  induction m with
  | zero => intro j h1 h2; omega
  | succ m ih =>
    intro j h1 h2
    rw [f_X5_powerOfNine_4]
    by_cases hj : j = n
    · subst hj
      exact if_pos (nI_le (Nat.le_refl _) hn)
    · have hlt : j < n := by omega
      rw [if_neg (nI_ge hlt hn), nw_s, nw_s, show (9 : Int64) = lN 9 from rfl, lN_mul, nI_1, ← Nat.pow_succ]
      exact ih (j + 1) (by omega) (by omega)
theorem nineC {n : Nat} (hn : n < 10000) : f_X5_powerOfNine (nI n) = some (lN (9 ^ n)) := by
  rw [f_X5_powerOfNine]
  exact nineC_l (by omega) fu 0 (Nat.zero_le _) (by rw [fu_e]; omega)
