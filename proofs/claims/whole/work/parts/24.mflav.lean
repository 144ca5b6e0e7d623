/-! THE FLAVOURS OF THE REFERENCE -/
def flm (σ : St) (j : Nat) (x : Nat → Nat) (n : Nat) : Prop := j < 7 ∧ (∀ t, t < 4 → σ.2 1 (4 * j + t) = lN (x t)) ∧ σ.1 2 j = nI n
theorem n4 (j t : Nat) : (4 * nI j) + nI t = nI (4 * j + t) := by rw [show (4 : Int32) = nI 4 from rfl, pk_mul, nI_add]
theorem n12 (j t : Nat) : (12 * nI j) + nI t = nI (12 * j + t) := by rw [show (12 : Int32) = nI 12 from rfl, pk_mul, nI_add]
theorem n100 (j t : Nat) : (100 * nI j) + nI t = nI (100 * j + t) := by rw [show (100 : Int32) = nI 100 from rfl, pk_mul, nI_add]
theorem emptyM_l {σ : St} {i : Nat} {k : St → Option St} (h : i < 7) : ∀ (m j : Nat), j ≤ 4 → 4 < m + j → f_X6_empty_9 k m (nI i) (nI j) (wL σ 1 (4 * i) j (fun _ => 0)) = k (wL σ 1 (4 * i) 4 (fun _ => 0)) := by
  intro m
  induction m with
  | zero => intro j h1 h2; omega
  | succ m ih =>
    intro j h1 h2
    rw [f_X6_empty_9]
    by_cases hj : j = 4
    · subst hj
      exact if_pos (by decide)
    · have hlt : j < 4 := by omega
      rw [if_neg (show ¬ (4 : Int32) ≤ nI j from nI_ge (b := 4) hlt (by omega)), n4, chk_t (inb_nI (by omega) (by omega)), nw_s, nw_s, nI_clamp (by omega), nI_1, wL_s rfl]
      exact ih (j + 1) (by omega) (by omega)
theorem emptyM {σ : St} {i : Nat} (h : i < 7) : f_X6_empty σ (nI i) = some (wL (uI σ 2 i 0) 1 (4 * i) 4 (fun _ => 0)) := by
  rw [f_X6_empty, chk_t (inb_nI (by omega) (by omega)), nw_s, nI_clamp (by omega)]
  have e := emptyM_l (σ := uI σ 2 i 0) (k := fun (σ7 : St) => some σ7) h fu 0 (by omega) (by rw [fu_e]; omega)
  rw [wL_0] at e
  exact e
theorem takeM_l {σ : St} {i kd fg n : Nat} {x : Nat → Nat} {k : Int32 → Int32 → Int32 → Int32 → St → Option St} (h : i < 7) (hk : kd < 8) (hf : fg < 10) (hx : ∀ t, t < 4 → σ.2 1 (4 * i + t) = lN (x t)) : ∀ (m j : Nat), j ≤ 4 → 4 < m + j → f_X6_becomes_20 k m (nI i) (nI kd) (nI fg) (nI n) (lN (9 ^ (n + 1))) (nI j) (wL σ 1 (4 * i) j (fun t => lN (takeN kd fg n x t))) = k (nI i) (nI kd) (nI fg) (nI n) (wL σ 1 (4 * i) 4 (fun t => lN (takeN kd fg n x t))) := by
  intro m
  induction m with
  | zero => intro j h1 h2; omega
  | succ m ih =>
    intro j h1 h2
    rw [f_X6_becomes_20]
    by_cases hj : j = 4
    · subst hj
      exact if_pos (by decide)
    · have hlt : j < 4 := by omega
      have hkp := keepLe kd hk
      have how := ownLe kd hk fg hf j hlt
      rw [if_neg (show ¬ (4 : Int32) ≤ nI j from nI_ge (b := 4) hlt (by omega)), bnd_o (ownM kd hk fg hf j hlt), bnd_o (keepM kd hk), n4, chk_t (inb_nI (by omega) (by omega)), nw_s, nw_s, nI_clamp (by omega), nI_1, nI_l (by omega), nI_l (by omega)]
      rw [wL_n (Or.inr (Or.inr (by omega))), hx j hlt, lN_mul, lN_mul, lN_add]
      rw [wL_s (f := fun t => lN (takeN kd fg n x t)) (v := lN (ownN kd fg j * 9 ^ (n + 1) + keepN kd * x j)) rfl]
      exact ih (j + 1) (by omega) (by omega)
/-- what a dish leaves in a pot of the reference: its row of tastes, its count, and (with room) the dish itself -/
theorem takeM {σ : St} {i kd fg n : Nat} {x : Nat → Nat} (h : flm σ i x n) (hk : kd < 8) (hf : fg < 10) (hn : n < 5000) : ∃ σ', f_X6_becomes σ (nI i) (nI kd) (nI fg) = some σ' ∧ flm σ' i (takeN kd fg n x) (n + 1) ∧
    (∀ b, (b < 4 * i ∨ 4 * i + 4 ≤ b) → σ'.2 1 b = σ.2 1 b) ∧ (∀ b, b ≠ i → σ'.1 2 b = σ.1 2 b) ∧ (∀ b, b ≠ 12 * i + n → σ'.1 3 b = σ.1 3 b ∧ σ'.1 4 b = σ.1 4 b) ∧ (n < 12 → σ'.1 3 (12 * i + n) = nI kd ∧ σ'.1 4 (12 * i + n) = nI fg) ∧ Fr (fun a => a = 1 ∨ a = 2 ∨ a = 3 ∨ a = 4) σ σ' := by
  obtain ⟨hi, hx, hc⟩ := h
  rw [f_X6_becomes, chk_t (inb_nI hi (by omega)), nI_clamp (by omega), hc, nw_s, nI_1, bnd_o (nineM (by omega))]
  have e := takeM_l (σ := σ) (n := n) (k := fun (w10_0 : Int32) (w11_1 : Int32) (w12_2 : Int32) (w13_3 : Int32) (σ14 : St) => (if 12 ≤ w13_3 then f_X6_becomes_105 w10_0 w13_3 σ14 else chk (inb ((12 * w10_0) + w13_3) 84) <| nw (uI σ14 3 ((12 * w10_0) + w13_3).toNatClampNeg w11_1) fun σ19 => nw (uI σ19 4 ((12 * w10_0) + w13_3).toNatClampNeg w12_2) fun σ20 => f_X6_becomes_105 w10_0 w13_3 σ20)) hi hk hf hx fu 0 (by omega) (by rw [fu_e]; omega)
  rw [wL_0] at e
  rw [show nI 0 = 0 from rfl] at e
  rw [e]
  by_cases h12 : n < 12
  · rw [if_neg (show ¬ (12 : Int32) ≤ nI n from nI_ge (b := 12) h12 (by omega)), n12, chk_t (inb_nI (by omega) (by omega)), nw_s, nw_s, nI_clamp (by omega), f_X6_becomes_105, chk_t (inb_nI hi (by omega)), nw_s, nI_clamp (by omega), nI_1]
    refine ⟨_, rfl, ⟨hi, fun t ht => ?_, ?_⟩, fun b hb => ?_, fun b hb => ?_, fun b hb => ⟨?_, ?_⟩, fun _ => ⟨?_, ?_⟩, ?_⟩
    · simp only [uI_2]
      rw [wL_i ht]
    · rw [uI_i]
    · simp only [uI_2]
      rw [wL_n (Or.inr hb)]
    · rw [uI_n (Or.inr hb), uI_n (Or.inl (by omega)), uI_n (Or.inl (by omega))]; rfl
    · rw [uI_n (Or.inl (by omega)), uI_n (Or.inl (by omega)), uI_n (Or.inr hb)]; rfl
    · rw [uI_n (Or.inl (by omega)), uI_n (Or.inr hb), uI_n (Or.inl (by omega))]; rfl
    · rw [uI_n (Or.inl (by omega)), uI_n (Or.inl (by omega)), uI_i]
    · rw [uI_n (Or.inl (by omega)), uI_i]
    · exact Fr.tr (Fr.tr (Fr.tr (Fr.wL (Or.inl rfl)) (Fr.uI (Or.inr (Or.inr (Or.inl rfl))))) (Fr.uI (Or.inr (Or.inr (Or.inr rfl))))) (Fr.uI (Or.inr (Or.inl rfl)))
  · rw [if_pos (show (12 : Int32) ≤ nI n from nI_le (a := 12) (by omega) (by omega)), f_X6_becomes_105, chk_t (inb_nI hi (by omega)), nw_s, nI_clamp (by omega), nI_1]
    refine ⟨_, rfl, ⟨hi, fun t ht => ?_, ?_⟩, fun b hb => ?_, fun b hb => ?_, fun b hb => ⟨?_, ?_⟩, fun q => absurd q h12, ?_⟩
    · simp only [uI_2]
      rw [wL_i ht]
    · rw [uI_i]
    · simp only [uI_2]
      rw [wL_n (Or.inr hb)]
    · rw [uI_n (Or.inr hb)]; rfl
    · rw [uI_n (Or.inl (by omega))]; rfl
    · rw [uI_n (Or.inl (by omega))]; rfl
    · exact Fr.tr (Fr.wL (Or.inl rfl)) (Fr.uI (Or.inr (Or.inl rfl)))
theorem totM_l {σ : St} {i n : Nat} {x : Nat → Nat} {k : Int64 → Option Int64} (h : flm σ i x n) : ∀ (m j : Nat), j ≤ 4 → 4 < m + j → f_X6_allOf_5 σ k m (nI i) (lN (sumTo x j)) (nI j) = k (lN (sumTo x 4)) := by
  have hi := h.1
  intro m
  induction m with
  | zero => intro j h1 h2; omega
  | succ m ih =>
    intro j h1 h2
    rw [f_X6_allOf_5]
    by_cases hj : j = 4
    · subst hj
      exact if_pos (by decide)
    · have hlt : j < 4 := by omega
      rw [if_neg (show ¬ (4 : Int32) ≤ nI j from nI_ge (b := 4) hlt (by omega)), n4, chk_t (inb_nI (by omega) (by omega)), nw_s, nw_s, nI_clamp (by omega), nI_1, h.2.1 j hlt, lN_add]
      exact ih (j + 1) (by omega) (by omega)
theorem totM {σ : St} {i n : Nat} {x : Nat → Nat} (h : flm σ i x n) : f_X6_allOf σ (nI i) = some (lN (sumTo x 4)) := by
  rw [f_X6_allOf]
  exact totM_l (k := fun (w5_0 : Int64) => some w5_0) h fu 0 (by omega) (by rw [fu_e]; omega)
theorem porM {σ : St} {i n nb t : Nat} {x : Nat → Nat} (h : flm σ i x n) (hb : bd x nb) (hn : nb ≤ 13) (ht : t < 4) : f_X6_portionOf σ (nI i) (nI t) = some (nI (porN x t)) := by
  have hi := h.1
  obtain ⟨q1, q2⟩ := bd_sum hb hn
  have q3 := q2 t ht
  rw [f_X6_portionOf, bnd_o (totM h), porN]
  by_cases e : sumTo x 4 = 0
  · rw [if_pos e, if_pos (by rw [lg_cmp_eq, e]; rfl)]
    rfl
  · have e2 : ¬ lN (sumTo x 4) = 0 := by
      rw [lN0, pk_lEQ (by omega) (by omega)]; exact e
    rw [if_neg e, if_neg (by rw [lg_cmp_eq]; exact e2), n4, chk_t (inb_nI (by omega) (by omega)), chk_t (by simpa [nzl] using e2), nI_clamp (by omega), h.2.1 t ht, show (100 : Int64) = lN 100 from rfl, lN_mul, pk_lDiv (by omega) (by omega) (by omega), lN_i]
theorem ovM {σ : St} {i n nb t p : Nat} {x : Nat → Nat} (h : flm σ i x n) (hb : bd x nb) (hn : nb ≤ 13) (ht : t < 4) (hp : p ≤ 100) : f_X6_isOver σ (nI i) (nI t) (nI p) = some (nI (ovN x t p)) := by
  have hi := h.1
  rw [f_X6_isOver, n4, chk_t (inb_nI (by omega) (by omega)), bnd_o (totM h), nI_clamp (by omega), h.2.1 t ht, ovN]
  by_cases e : 100 * x t ≤ p * sumTo x 4
  · rw [if_pos e, if_pos ((ovr_e hb hn ht hp).mpr e)]; rfl
  · rw [if_neg e, if_neg (fun q => e ((ovr_e hb hn ht hp).mp q))]; rfl
theorem p01 : ¬ (1 : Int32) = 0 := by decide
def hbI (x : Nat → Nat) (b p j : Nat) : Int32 := if hb x b p j = true then 1 else 0
theorem hbI_t {x : Nat → Nat} {b p j : Nat} (h : hb x b p j = true) : hbI x b p j = 1 := if_pos h
theorem hbI_f {x : Nat → Nat} {b p j : Nat} (h : hb x b p j = false) : hbI x b p j = 0 := if_neg (by rw [h]; decide)
theorem hrM_l {σ : St} {i n nb b p : Nat} {x : Nat → Nat} {k : Int32 → Option Int32} (h : flm σ i x n) (hbd : bd x nb) (hn : nb ≤ 13) (hbn : b < 16) (hp : p ≤ 100) : ∀ (m j : Nat), j ≤ 4 → 4 < m + j → f_X6_doesHarm_6 σ k m (nI i) (nI b) (nI p) (hbI x b p j) (nI j) = k (hbI x b p 4) := by
  intro m
  induction m with
  | zero => intro j h1 h2; omega
  | succ m ih =>
    intro j h1 h2
    rw [f_X6_doesHarm_6]
    by_cases hj : j = 4
    · subst hj
      exact if_pos (by decide)
    · have hlt : j < 4 := by omega
      have e := bit_e b hbn j hlt
      have nx := ih (j + 1) (by omega) (by omega)
      rw [if_neg (show ¬ (4 : Int32) ≤ nI j from nI_ge (b := 4) hlt (by omega))]
      by_cases hprev : hb x b p j = true
      · rw [hbI_t (hb_up hprev (j + 1) (by omega))] at nx
        rw [hbI_t hprev, if_neg p01, f_X6_doesHarm_38, f_X6_doesHarm_43, nw_s, nI_1]
        exact nx
      · have hpf : hb x b p j = false := by simpa using hprev
        rw [hbI_f hpf, if_pos (show (0 : Int32) = 0 from rfl)]
        by_cases hbit : bit b j = true
        · rw [hbit, decide_eq_true_eq] at e
          rw [if_pos e, bnd_o (ovM h hbd hn hlt hp), ovN]
          by_cases e2 : 100 * x j ≤ p * sumTo x 4
          · have e3 : hb x b p (j + 1) = false := by
              rw [hb, hpf, hbit]
              simp
              exact e2
            rw [hbI_f e3] at nx
            rw [if_pos e2, if_pos (show nI 0 = 0 from rfl), f_X6_doesHarm_42, f_X6_doesHarm_43, nw_s, nI_1]
            exact nx
          · have e3 : hb x b p (j + 1) = true := by
              rw [hb, hbit]
              simp
              exact Or.inr (by omega)
            rw [hbI_t e3] at nx
            rw [if_neg e2, if_neg (show ¬ nI 1 = 0 from p01), f_X6_doesHarm_38, f_X6_doesHarm_43, nw_s, nI_1]
            exact nx
        · have hbf : bit b j = false := by simpa using hbit
          have e3 : hb x b p (j + 1) = false := by
            rw [hb, hpf, hbf]; rfl
          rw [hbf, decide_eq_false_iff_not] at e
          rw [hbI_f e3] at nx
          rw [if_neg e, f_X6_doesHarm_42, f_X6_doesHarm_43, nw_s, nI_1]
          exact nx
theorem hrM {σ : St} {i n nb b p : Nat} {x : Nat → Nat} (h : flm σ i x n) (hbd : bd x nb) (hn : nb ≤ 13) (hbn : b < 16) (hp : p ≤ 100) : f_X6_doesHarm σ (nI i) (nI b) (nI p) = some (nI (hrN x b p)) := by
  rw [f_X6_doesHarm]
  have e := hrM_l (k := fun (w27_0 : Int32) => chk (b01 w27_0) <| some w27_0) h hbd hn hbn hp fu 0 (by omega) (by rw [fu_e]; omega)
  rw [hbI_f (show hb x b p 0 = false from rfl), show nI 0 = 0 from rfl] at e
  rw [e, hrN]
  by_cases q : hb x b p 4 = true
  · rw [if_pos q, hbI_t q]; rfl
  · rw [if_neg q, hbI_f (by simpa using q)]; rfl
theorem stM_l {σ : St} {i n nb : Nat} {x : Nat → Nat} {k : Int32 → Int32 → St → Option (Int32 × St)} (h : flm σ i x n) (hb : bd x nb) (hn : nb ≤ 13) : ∀ (m j : Nat), 1 ≤ j → j ≤ 4 → 4 < m + j → f_X6_strongest_19 k m (nI i) (nI (best x j)) (nI j) σ = k (nI i) (nI (best x 4)) σ := by
  have hs := (bd_sum hb hn).2
  have hi := h.1
  intro m
  induction m with
  | zero => intro j h1 h2; omega
  | succ m ih =>
    intro j h0 h1 h2
    rw [f_X6_strongest_19]
    by_cases hj : j = 4
    · subst hj
      exact if_pos (by decide)
    · have hlt : j < 4 := by omega
      have hbl := best_lt x j (by omega)
      have s1 := hs j hlt
      have s2 := hs (best x j) (by omega)
      rw [if_neg (show ¬ (4 : Int32) ≤ nI j from nI_ge (b := 4) hlt (by omega)), n4, n4, chk_t (inb_nI (by omega) (by omega)), chk_t (inb_nI (by omega) (by omega)), nI_clamp (by omega), nI_clamp (by omega), h.2.1 j hlt, h.2.1 _ (by omega)]
      by_cases e : x j ≤ x (best x j)
      · rw [if_pos ((cmpN (by omega) (by omega)).mpr e), f_X6_strongest_53, nw_s, nI_1]
        have q := ih (j + 1) (by omega) (by omega) (by omega)
        rw [best, if_pos e] at q
        exact q
      · rw [if_neg (fun q => e ((cmpN (by omega) (by omega)).mp q)), f_X6_strongest_53, nw_s, nI_1]
        have q := ih (j + 1) (by omega) (by omega) (by omega)
        rw [best, if_neg e] at q
        exact q
