/-! THE POT FOR MIND on both sides: gone, lent, tells, seeded -/
theorem cmpLt {a b : Nat} (ha : a < 2 ^ 63) (hb : b < 2 ^ 63) : (lg_cmp (lN a) (lN b) < 0) ↔ a < b := by rw [lg_cmp_lt, pk_lLT ha hb]
theorem lt_no {a b : Nat} (ha : a < 2 ^ 63) (hb : b < 2 ^ 63) (h : ¬ a < b) : ¬ lg_cmp (lN a) (lN b) < 0 := fun q => h ((cmpLt ha hb).mp q)
theorem lt_yes {a b : Nat} (ha : a < 2 ^ 63) (hb : b < 2 ^ 63) (h : a < b) : lg_cmp (lN a) (lN b) < 0 := (cmpLt ha hb).mpr h
theorem l100 : (100 : Int64) = lN 100 := rfl
theorem gone_l {σ : St} {kd p : Nat} (hk : kd < 8) (hp : 1 ≤ p ∧ p ≤ 100) : ∀ (m j : Nat), j ≤ 12 → 12 < m + j → ∃ r : Int32, f_X5_gone_32 (fun (w13_0 : Int32) => some w13_0) m (nI kd) (nI p) (lN (keepN kd ^ j)) (lN (9 ^ j)) (nI j) = some r ∧ f_X6_gone_55 (fun (w14_0 : Int32) (σ15 : St) => some (w14_0, σ15)) m (nI kd) (lN (100 * keepN kd ^ j)) (lN (p * 9 ^ j)) (nI j) σ = some (r, σ) := by
  have hkp := keepLe kd hk
  intro m
  induction m with
  | zero => intro j h1 h2; omega
  | succ m ih =>
    intro j h1 h2
    have b1 : keepN kd ^ j ≤ 6 ^ 12 := Nat.le_trans (Nat.pow_le_pow_left hkp j) (Nat.pow_le_pow_right (by omega) h1)
    have b2 : (6 : Nat) ^ 12 = 2176782336 := by decide
    have b3 := p9_le (n := j) (by omega)
    have b4 : p * 9 ^ j ≤ 100 * 2541865828329 := Nat.mul_le_mul hp.2 b3
    rw [f_X5_gone_32, f_X6_gone_55]
    by_cases hj : j = 12
    · have hb : 100 * keepN kd ^ j < p * 9 ^ j := by
        subst hj
        have q1 : 1 * 9 ^ 12 ≤ p * 9 ^ 12 := Nat.mul_le_mul_right _ hp.1
        have q2 : (9 : Nat) ^ 12 = 282429536481 := by decide
        omega
      rw [if_pos (lt_yes (by omega) (by omega) hb), if_pos (show (12 : Int32) ≤ nI j from nI_le (a := 12) (by omega) (by omega))]
      exact ⟨_, rfl, rfl⟩
    · have hlt : j < 12 := by omega
      rw [if_neg (show ¬ (12 : Int32) ≤ nI j from nI_ge (b := 12) hlt (by omega)), l100, nI_l (by omega), lN_mul, lN_mul]
      by_cases e : 100 * keepN kd ^ j < p * 9 ^ j
      · rw [if_pos (lt_yes (by omega) (by omega) e), if_pos (lt_yes (by omega) (by omega) e)]
        exact ⟨_, rfl, rfl⟩
      · rw [if_neg (lt_no (by omega) (by omega) e), if_neg (lt_no (by omega) (by omega) e), bnd_o (keepC kd hk), bnd_o (keepM kd hk), nw_s, nw_s, nw_s, nw_s, nw_s, nw_s, nI_l (by omega), show (9 : Int64) = lN 9 from rfl, lN_mul, lN_mul, lN_mul, lN_mul, nI_1, Nat.mul_assoc, ← Nat.pow_succ, ← Nat.pow_succ, Nat.mul_assoc, ← Nat.pow_succ]
        exact ih (j + 1) (by omega) (by omega)
theorem sim_gone {σc σm : St} (h : RR σc σm) (x y z : Int32) : ∃ (r : Int32) (σm' : St), f_X5_gone x y z = some r ∧ f_X6_gone σm x y z = some (r, σm') ∧ RR σc σm' := by
  have h5 := h.u5 (v := 0)
  rw [f_X6_gone, nw_s, f_X5_gone]
  rcases inb_or x (show 8 < 2 ^ 31 by omega) with ⟨kd, hk, rfl⟩ | hn
  · rw [bnd_o (noKind_y hk), bnd_o (inM_y hk (by omega)), if_pos rfl, if_neg p0]
    rcases inb_or y (show 10 < 2 ^ 31 by omega) with ⟨f, hf, rfl⟩ | hn
    · rw [bnd_o (noFigure_y hf), bnd_o (inM_y hf (by omega)), if_pos rfl, if_neg p0, noHundredth, bnd_o (inM1 (n := 101) (by decide) (by decide))]
      by_cases e : inb z 101 = true ∧ ¬ z = 0
      · rw [if_pos e, if_pos e, bnd_s, if_pos rfl, if_neg p0]
        rcases inb_or z (show 101 < 2 ^ 31 by omega) with ⟨p, hp, rfl⟩ | hn
        · have hp1 : 1 ≤ p := by
            rcases Nat.eq_zero_or_pos p with q | q
            · subst q; exact absurd rfl e.2
            · exact q
          obtain ⟨r, e1, e2⟩ := gone_l (σ := uI σm 0 5 0) hk ⟨hp1, by omega⟩ fu 0 (by omega) (by rw [fu_e]; omega)
          rw [Nat.pow_zero, Nat.pow_zero, Nat.mul_one, Nat.mul_one, show nI 0 = 0 from rfl, show lN 100 = 100 from rfl] at e2
          rw [Nat.pow_zero, Nat.pow_zero, show nI 0 = 0 from rfl, show lN 1 = 1 from rfl] at e1
          rw [nw_s, nI_l (by omega), e1, e2]
          exact ⟨_, _, rfl, rfl, h5⟩
        · exact absurd e.1 hn
      · rw [if_neg e, if_neg e, bnd_s, if_neg p0, if_pos rfl]
        exact ⟨_, _, rfl, rfl, h5⟩
    · rw [bnd_o (noFigure_n hn), bnd_o (inM_n (n := 10) hn), if_neg p0, if_pos rfl]
      exact ⟨_, _, rfl, rfl, h5⟩
  · rw [bnd_o (noKind_n hn), bnd_o (inM_n (n := 8) hn), if_neg p0, if_pos rfl]
    exact ⟨_, _, rfl, rfl, h5⟩
theorem MK.of {σ σ' : St} (f : Fr (fun a => 1 ≤ a ∧ a ≤ 4) σ σ') (h1 : ∀ b, b < 24 → σ'.2 1 b = σ.2 1 b) (h2 : ∀ b, b < 6 → σ'.1 2 b = σ.1 2 b) (h3 : ∀ b, b < 72 → σ'.1 3 b = σ.1 3 b ∧ σ'.1 4 b = σ.1 4 b) : MK σ σ' :=
  ⟨h1, h2, h3, fun a ha => f a (by omega), congrFun (f 0 (by omega)).1 0, congrFun (f 0 (by omega)).1 6, congrFun (f 0 (by omega)).1 7⟩
theorem uI_wI {σ : St} {i i' o j k : Nat} {f : Nat → Int32} {v : Int32} (h : i ≠ i') : uI (wI σ i' o j f) i k v = wI (uI σ i k v) i' o j f := by
  apply Prod.ext
  · funext a b
    simp only [uI, wI]
    by_cases h1 : a = i ∧ b = k
    · rw [if_pos h1, if_pos h1, if_neg (by omega)]
    · rw [if_neg h1, if_neg h1]
  · rfl
/-- one pot of the reference as another -/
def smM (σ : St) (a b : Nat) : St := wI (wI (wL (uI σ 2 b (σ.1 2 a)) 1 (4 * b) 4 (fun t => σ.2 1 (4 * a + t))) 3 (12 * b) 12 (fun t => σ.1 3 (12 * a + t))) 4 (12 * b) 12 (fun t => σ.1 4 (12 * a + t))
theorem same_1 {σ : St} {a b : Nat} {k : Int32 → Int32 → St → Option St} (ha : a < 7) (hb : b < 7) (hab : a ≠ b) : ∀ (m j : Nat), j ≤ 4 → 4 < m + j → f_X6_same_14 k m (nI a) (nI b) (nI j) (wL σ 1 (4 * b) j (fun t => σ.2 1 (4 * a + t))) = k (nI a) (nI b) (wL σ 1 (4 * b) 4 (fun t => σ.2 1 (4 * a + t))) := by
  intro m
  induction m with
  | zero => intro j h1 h2; omega
  | succ m ih =>
    intro j h1 h2
    rw [f_X6_same_14]
    by_cases hj : j = 4
    · subst hj
      exact if_pos (by decide)
    · have hlt : j < 4 := by omega
      rw [if_neg (show ¬ (4 : Int32) ≤ nI j from nI_ge (b := 4) hlt (by omega)), n4, n4, chk_t (inb_nI (by omega) (by omega)), chk_t (inb_nI (by omega) (by omega)), nw_s, nw_s, nI_clamp (by omega), nI_clamp (by omega), nI_1, wL_n (Or.inr (by omega)), wL_s rfl]
      exact ih (j + 1) (by omega) (by omega)
theorem same_2 {σ : St} {a b : Nat} {k : St → Option St} (ha : a < 7) (hb : b < 7) (hab : a ≠ b) : ∀ (m j : Nat), j ≤ 12 → 12 < m + j → f_X6_same_47 k m (nI a) (nI b) (nI j) (wI (wI σ 3 (12 * b) j (fun t => σ.1 3 (12 * a + t))) 4 (12 * b) j (fun t => σ.1 4 (12 * a + t))) = k (wI (wI σ 3 (12 * b) 12 (fun t => σ.1 3 (12 * a + t))) 4 (12 * b) 12 (fun t => σ.1 4 (12 * a + t))) := by
  intro m
  induction m with
  | zero => intro j h1 h2; omega
  | succ m ih =>
    intro j h1 h2
    rw [f_X6_same_47]
    by_cases hj : j = 12
    · subst hj
      exact if_pos (by decide)
    · have hlt : j < 12 := by omega
      rw [if_neg (show ¬ (12 : Int32) ≤ nI j from nI_ge (b := 12) hlt (by omega)), n12, n12, chk_t (inb_nI (by omega) (by omega)), chk_t (inb_nI (by omega) (by omega)), nw_s, nw_s, nw_s, nI_clamp (by omega), nI_clamp (by omega), nI_1]
      rw [wI_n (σ := wI σ 3 (12 * b) j _) (a := 3) (Or.inl (by omega)), wI_n (σ := σ) (a := 3) (Or.inr (by omega)), uI_n (a := 4) (Or.inl (by omega)), wI_n (σ := wI σ 3 (12 * b) j _) (a := 4) (Or.inr (by omega)), wI_n (σ := σ) (a := 4) (Or.inl (by omega)), uI_wI (by omega), wI_s rfl, wI_s rfl]
      exact ih (j + 1) (by omega) (by omega)
theorem sameM {σ : St} {a b : Nat} (ha : a < 7) (hb : b < 7) (hab : a ≠ b) : f_X6_same σ (nI a) (nI b) = some (smM σ a b) := by
  have e1 := same_1 (σ := uI σ 2 b (σ.1 2 a)) (k := fun (w9_0 : Int32) (w10_1 : Int32) (σ11 : St) => f_X6_same_47 (fun  (σ18 : St) => some σ18) fu w9_0 w10_1 0 σ11) ha hb hab fu 0 (by omega) (by rw [fu_e]; omega)
  rw [wL_0, show nI 0 = 0 from rfl] at e1
  have e2 := same_2 (σ := wL (uI σ 2 b (σ.1 2 a)) 1 (4 * b) 4 (fun t => (uI σ 2 b (σ.1 2 a)).2 1 (4 * a + t))) (k := fun  (σ18 : St) => some σ18) ha hb hab fu 0 (by omega) (by rw [fu_e]; omega)
  rw [wI_0, wI_0, show nI 0 = 0 from rfl] at e2
  rw [f_X6_same, chk_t (inb_nI ha (by omega)), chk_t (inb_nI hb (by omega)), nw_s, nI_clamp (by omega), nI_clamp (by omega), e1, e2]
  have g3 : (wL (uI σ 2 b (σ.1 2 a)) 1 (4 * b) 4 (fun t => (uI σ 2 b (σ.1 2 a)).2 1 (4 * a + t))).1 3 = σ.1 3 := by
    rw [wL_1]; funext q; exact uI_n (Or.inl (by omega))
  have g4 : (wL (uI σ 2 b (σ.1 2 a)) 1 (4 * b) 4 (fun t => (uI σ 2 b (σ.1 2 a)).2 1 (4 * a + t))).1 4 = σ.1 4 := by
    rw [wL_1]; funext q; exact uI_n (Or.inl (by omega))
  rw [g3, g4]
  rfl
theorem smM_fr {σ : St} {a b : Nat} : Fr (fun a => 1 ≤ a ∧ a ≤ 4) σ (smM σ a b) :=
  Fr.tr (Fr.tr (Fr.tr (Fr.uI ⟨by omega, by omega⟩) (Fr.wL ⟨by omega, by omega⟩)) (Fr.wI ⟨by omega, by omega⟩)) (Fr.wI ⟨by omega, by omega⟩)
theorem smM_1i {σ : St} {a b t : Nat} (ht : t < 4) : (smM σ a b).2 1 (4 * b + t) = σ.2 1 (4 * a + t) := by
  unfold smM
  rw [wI_2, wI_2, wL_i ht]
theorem smM_1n {σ : St} {a b c : Nat} (h : c < 4 * b ∨ 4 * b + 4 ≤ c) : (smM σ a b).2 1 c = σ.2 1 c := by
  unfold smM
  rw [wI_2, wI_2, wL_n (Or.inr h), uI_2]
theorem smM_2i {σ : St} {a b : Nat} : (smM σ a b).1 2 b = σ.1 2 a := by
  unfold smM
  rw [wI_n (Or.inl (by omega)), wI_n (Or.inl (by omega)), wL_1, uI_i]
theorem smM_2n {σ : St} {a b c : Nat} (h : c ≠ b) : (smM σ a b).1 2 c = σ.1 2 c := by
  unfold smM
  rw [wI_n (Or.inl (by omega)), wI_n (Or.inl (by omega)), wL_1, uI_n (Or.inr h)]
theorem smM_3i {σ : St} {a b t : Nat} (ht : t < 12) : (smM σ a b).1 3 (12 * b + t) = σ.1 3 (12 * a + t) ∧ (smM σ a b).1 4 (12 * b + t) = σ.1 4 (12 * a + t) := by
  unfold smM
  constructor
  · rw [wI_n (Or.inl (by omega)), wI_i ht]
  · rw [wI_i ht]
theorem smM_3n {σ : St} {a b c : Nat} (h : c < 12 * b ∨ 12 * b + 12 ≤ c) : (smM σ a b).1 3 c = σ.1 3 c ∧ (smM σ a b).1 4 c = σ.1 4 c := by
  unfold smM
  constructor
  · rw [wI_n (Or.inl (by omega)), wI_n (Or.inr h), wL_1, uI_n (Or.inl (by omega))]
  · rw [wI_n (Or.inr h), wI_n (Or.inl (by omega)), wL_1, uI_n (Or.inl (by omega))]
theorem smM6 {σ : St} {a n : Nat} {x : Nat → Nat} (h : flm σ a x n) : flm (smM σ a 6) 6 x n ∧ MK σ (smM σ a 6) := by
  obtain ⟨h1, h2, h3⟩ := h
  refine ⟨⟨by omega, fun t ht => ?_, ?_⟩, MK.of smM_fr (fun b hb => smM_1n (Or.inl (by omega))) (fun b hb => smM_2n (by omega)) (fun b hb => smM_3n (Or.inl (by omega)))⟩
  · rw [smM_1i ht]; exact h2 t ht
  · rw [smM_2i]; exact h3
theorem empM6 {σ : St} : ∃ σ', f_X6_empty σ 6 = some σ' ∧ flm σ' 6 (fun _ => 0) 0 ∧ MK σ σ' ∧ Fr (fun a => 1 ≤ a ∧ a ≤ 4) σ σ' := by
  have f : Fr (fun a => 1 ≤ a ∧ a ≤ 4) σ (wL (uI σ 2 6 0) 1 (4 * 6) 4 (fun _ => 0)) := Fr.tr (Fr.uI ⟨by omega, by omega⟩) (Fr.wL ⟨by omega, by omega⟩)
  refine ⟨_, emptyM (i := 6) (by omega), ⟨by omega, fun t ht => ?_, ?_⟩, MK.of f (fun b hb => ?_) (fun b hb => ?_) (fun b hb => ⟨?_, ?_⟩), f⟩
  · rw [wL_i ht]; rfl
  · rw [wL_1, uI_i]; rfl
  · rw [wL_n (Or.inr (by omega)), uI_2]
  · rw [wL_1, uI_n (Or.inr (by omega))]
  · rw [wL_1, uI_n (Or.inl (by omega))]
  · rw [wL_1, uI_n (Or.inl (by omega))]
theorem takM6 {σ : St} {k f n : Nat} {x : Nat → Nat} (h : flm σ 6 x n) (hk : k < 8) (hf : f < 10) (hn : n < 5000) : ∃ σ', f_X6_becomes σ 6 (nI k) (nI f) = some σ' ∧ flm σ' 6 (takeN k f n x) (n + 1) ∧ MK σ σ' ∧ Fr (fun a => 1 ≤ a ∧ a ≤ 4) σ σ' := by
  obtain ⟨σ', e1, q1, q2, q3, q4, q5, q6⟩ := takeM h hk hf hn
  have f6 : Fr (fun a => 1 ≤ a ∧ a ≤ 4) σ σ' := q6.mono (fun a ha => by omega)
  exact ⟨σ', e1, q1, MK.of f6 (fun b hb => q2 b (by omega)) (fun b hb => q3 b (by omega)) (fun b hb => q4 b (by omega)), f6⟩
theorem cooM6 {σ : St} {k f n : Nat} {x : Nat → Nat} (h : flm σ 6 x n) (hk : k < 8) (hf : f < 10) (hn : n < 12) : ∃ σ', f_X6_cooks σ 6 (nI k) (nI f) = some (1, σ') ∧ flm σ' 6 (takeN k f n x) (n + 1) ∧ MK σ σ' ∧ Fr (fun a => 1 ≤ a ∧ a ≤ 4) σ σ' := by
  obtain ⟨σ', e1, q1, q2, q3⟩ := takM6 h hk hf (by omega)
  refine ⟨σ', ?_, q1, q2, q3⟩
  rw [f_X6_cooks, chk_t (by decide), show (6 : Int32).toNatClampNeg = 6 from rfl, h.2.2, if_neg (show ¬ (12 : Int32) ≤ nI n from nI_ge (b := 12) hn (by omega)), f_X6_cooks_16, if_neg p0, bnd_o e1, chk_t (by decide)]
theorem cooM6_no {σ : St} {k f : Int32} {n : Nat} {x : Nat → Nat} (h : flm σ 6 x n) (hn : ¬ n < 12) (hn2 : n < 2 ^ 31) : f_X6_cooks σ 6 k f = some (0, σ) := by
  rw [f_X6_cooks, chk_t (by decide), show (6 : Int32).toNatClampNeg = 6 from rfl, h.2.2, if_pos (show (12 : Int32) ≤ nI n from nI_le (a := 12) (by omega) hn2), f_X6_cooks_16, if_pos rfl, chk_t (by decide)]
theorem sameM6 {σ : St} {a : Nat} (ha : a < 6) : f_X6_same σ (nI a) 6 = some (smM σ a 6) := sameM (b := 6) (by omega) (by omega) (by omega)
theorem porM6 {σ : St} {n nb t : Nat} {x : Nat → Nat} (h : flm σ 6 x n) (hb : bd x nb) (hn : nb ≤ 13) (ht : t < 4) : f_X6_portionOf σ 6 (nI t) = some (nI (porN x t)) := porM h hb hn ht
theorem fl122 : isFl 122 := ⟨by decide +kernel, by decide +kernel⟩
theorem scr_fl {a : Nat} (h : a = 122 ∨ a = 122 + 1) : scr a := Or.inr (by omega)
theorem sim_lent {σc σm : St} (h : RR σc σm) (x y : Int32) : ∃ (r : Int32) (σc' σm' : St), f_X5_lent σc x y = some (r, σc') ∧ f_X6_lent σm x y = some (r, σm') ∧ RR σc' σm' := by
  have h5 := h.u5 (v := 0)
  obtain ⟨K, K2, hC, hM, -⟩ := id h
  have hM5 := hM.u5 (v := 0)
  have h6 := hC.2.2.1
  rw [f_X6_lent, nw_s, f_X5_lent]
  rcases inb_or y (show K.1 < 2 ^ 31 by omega) with ⟨j, hj, rfl⟩ | hn
  · have hp := hC.2.2.2 j hj
    have hf := hM5.flm hj
    rw [bnd_o (hasC_y hC hj), bnd_o (isPotM_y hM5 hj), if_neg p0, if_neg p0]
    rcases inb_or x (show 8 < 2 ^ 31 by omega) with ⟨d, hd, rfl⟩ | hn
    · rcases dishRef hd (h5.shelf hd) with ⟨r, hr, e1, e2⟩ | ⟨e1, e2, k, f, hk, hfg, q1, q2, q3, q4⟩
      · rw [bnd_o e1, bnd_o e2, f_X6_lent_22]
        rcases hr with rfl | rfl
        · exact ⟨_, _, _, rfl, rfl, h5⟩
        · exact ⟨_, _, _, rfl, rfl, h5⟩
      · obtain ⟨p1, p2, p3, p4, p5⟩ := id hp
        have ht : f % 4 < 4 := Nat.mod_lt _ (by omega)
        obtain ⟨σ1, c1, c2, c3⟩ := takeC (setF_flv (σ := σc) fl122 (fun t ht => p2.2.1 t ht) p2.2.2.1 p2.2.2.2) hk hfg
        have b1 := bd_take p4 hk hfg
        have b0 := bd_take (bd_0 (n := 0)) hk hfg
        obtain ⟨σ2, c4, c5, c6⟩ := takeC (setF_flv (σ := σ1) (n := 0) (x := fun _ => 0) (g := fun _ => 0) (b := 1) (c := 0) fl122 (fun _ _ => rfl) rfl rfl) hk hfg
        obtain ⟨s1, s2⟩ := smM6 hf
        obtain ⟨σ3, m1, m2, m3, m4⟩ := takM6 s1 hk hfg (by omega)
        obtain ⟨σ4, m5, m6, m7, m8⟩ := empM6 (σ := σ3)
        obtain ⟨σ5, m9, m10, m11, m12⟩ := takM6 m6 hk hfg (by omega)
        have g1 : (smM (uI σm 0 5 0) j 6).1 17 d = nI k := by rw [(smM_fr 17 (by omega)).1]; exact q3
        have g2 : (smM (uI σm 0 5 0) j 6).1 18 d = nI f := by rw [(smM_fr 18 (by omega)).1]; exact q4
        have g3 : σ4.1 17 d = nI k := by rw [(m8 17 (by omega)).1, (m4 17 (by omega)).1]; exact g1
        have g4 : σ4.1 18 d = nI f := by rw [(m8 18 (by omega)).1, (m4 18 (by omega)).1]; exact g2
        rw [bnd_o e1, bnd_o e2, if_pos rfl, f_X6_lent_22, if_pos (by decide), chk_t (inb_nI hd (by omega)), chk_t (inb_nI hd (by omega)), nI_clamp (show d < 2 ^ 31 by omega), chk_t (sh_ok d hd).1, nw_s, nw_s, nw_s, nw_s, q1, q2, q4, n4d (by omega), n4r (by omega), chk_t (inb_nI (by omega) (by omega)), nI_clamp (show j < 2 ^ 31 by omega), pt1, chk_t p1.1, bnd_o (becomeC fl122 p1.2.1), bnd_o c1, bnd_o (porC c2 b1 (by omega) ht), bnd_o (clearC fl122), bnd_o c4, bnd_o (porC c5 b0 (by omega) ht)]
        rw [bnd_o (sameM6 (a := j) (by omega)), g1, g2, bnd_o m1, bnd_o (porM6 m2 b1 (by omega) ht), bnd_o m5, g3, g4, bnd_o m9, bnd_o (porM6 m10 b0 (by omega) ht)]
        refine ⟨_, _, _, rfl, rfl, h5.keep ?_ (((s2.tr m3).tr m7).tr m11)⟩
        exact Fr.tr (Fr.tr (Fr.tr (setF_fr.mono (fun a ha => scr_fl ha)) (c3.mono (fun a ha => scr_fl ha))) (setF_fr.mono (fun a ha => scr_fl ha))) (c6.mono (fun a ha => scr_fl ha))
    · rw [bnd_o (dishRef_n (σm := σm) hn).1, bnd_o (dishRef_n (σc := σc) hn).2, if_neg (by decide), f_X6_lent_22, if_neg (by decide)]
      exact ⟨_, _, _, rfl, rfl, h5⟩
  · rw [bnd_o (hasC_n hC hn), bnd_o (isPotM_n hM5 hn), if_pos rfl, if_pos rfl, f_X6_lent_22, if_neg (by decide)]
    exact ⟨_, _, _, rfl, rfl, h5⟩
/-- which taste tells the pots apart -/
def porK (K : Kv) (t i : Nat) : Nat := porN (K.2.2.1 i) t
theorem porN_le {x : Nat → Nat} {t : Nat} (ht : t < 4) : porN x t ≤ 100 := by
  unfold porN
  split
  · omega
  · have h1 : x t ≤ sumTo x 4 := by
      have : t = 0 ∨ t = 1 ∨ t = 2 ∨ t = 3 := by omega
      simp only [sumTo]
      rcases this with rfl | rfl | rfl | rfl <;> omega
    have h2 : 100 * x t ≤ 100 * sumTo x 4 := Nat.mul_le_mul_left _ h1
    exact Nat.le_trans (Nat.div_le_div_right h2) (by rw [Nat.mul_div_cancel _ (by omega)]; exact Nat.le_refl _)
def sameK (K : Kv) (t i j : Nat) : Nat := if porK K t j = porK K t i then 1 else 0
def mostN (K : Kv) (t : Nat) : Nat → Nat
  | 0 => 0
  | i + 1 => if mostN K t i < accN (sameK K t i) K.1 then accN (sameK K t i) K.1 else mostN K t i
theorem same_le {K : Kv} {t i : Nat} (j : Nat) : sameK K t i j ≤ 1 := by unfold sameK; split <;> omega
theorem most_le {K : Kv} {t : Nat} : ∀ i, mostN K t i ≤ K.1 := by
  intro i
  induction i with
  | zero => exact Nat.zero_le _
  | succ i ih =>
    have := accN_le (f := sameK K t i) (b := 1) (fun j => same_le j) K.1
    rw [mostN]
    split <;> omega
theorem mostC_1 {σ : St} {t : Nat} {K : Kv} {k : St → Option (Int32 × St)} (h : KC 1 σ K) (ht : t < 4) : ∀ (m j : Nat), j ≤ K.1 → K.1 < m + j → f_X5_mostAlike_2 k m (nI t) (nI j) (wI σ 124 0 j (fun i => nI (porK K t i))) = k (wI σ 124 0 K.1 (fun i => nI (porK K t i))) := by
  have h6 := h.2.2.1
  intro m
  induction m with
  | zero => intro j h1 h2; omega
  | succ m ih =>
    intro j h1 h2
    have hw : (wI σ 124 0 j (fun i => nI (porK K t i))).1 1 1 = nI K.1 := by rw [wI_n (Or.inl (by omega))]; exact h.2.1
    rw [f_X5_mostAlike_2, hw]
    by_cases hj : j = K.1
    · rw [hj]
      exact if_pos (nI_le (Nat.le_refl _) (by omega))
    · have hlt : j < K.1 := by omega
      obtain ⟨p1, p2, p3, p4, p5⟩ := h.2.2.2 j hlt
      have p2' := p2.fr (P := fun a => a = 124) (Fr.wI (o := 0) (j := j) (f := fun i => nI (porK K t i)) rfl) (by unfold pt; omega) (by unfold pt; omega)
      have e := wI_s (σ := σ) (i := 124) (o := 0) (j := j) (f := fun i => nI (porK K t i)) (v := nI (porN (K.2.2.1 j) t)) rfl
      rw [Nat.zero_add] at e
      rw [if_neg (nI_ge hlt (by omega)), chk_t (inb_nI (by omega) (by omega)), nI_clamp (show j < 2 ^ 31 by omega), pt1, chk_t p1.1, chk_t p1.2.1.1, bnd_o (porC p2' p4 (by omega) ht), nw_s, nw_s, nI_1, e]
      exact ih (j + 1) (by omega) (by omega)
theorem mostC_3 {σ : St} {t i : Nat} {v : Int32} {K : Kv} {k : Int32 → Int32 → Int32 → St → Option (Int32 × St)} (hs : σ.1 1 1 = nI K.1) (h6 : K.1 ≤ 6) (hq : ∀ j, j < K.1 → σ.1 124 j = nI (porK K t j)) (ht : t < 4) (hi : i < K.1) : ∀ (m j : Nat), j ≤ K.1 → K.1 < m + j → f_X5_mostAlike_62 k m v (nI i) (nI (accN (sameK K t i) j)) (nI j) σ = k v (nI i) (nI (accN (sameK K t i) K.1)) σ := by
  intro m
  induction m with
  | zero => intro j h1 h2; omega
  | succ m ih =>
    intro j h1 h2
    rw [f_X5_mostAlike_62, hs]
    by_cases hj : j = K.1
    · rw [hj]
      exact if_pos (nI_le (Nat.le_refl _) (by omega))
    · have hlt : j < K.1 := by omega
      have q := ih (j + 1) (by omega) (by omega)
      have b1 := porN_le (x := K.2.2.1 j) ht
      have b2 := porN_le (x := K.2.2.1 i) ht
      rw [if_neg (nI_ge hlt (by omega)), chk_t (inb_nI (by omega) (by omega)), chk_t (inb_nI (by omega) (by omega)), nI_clamp (show j < 2 ^ 31 by omega), nI_clamp (show i < 2 ^ 31 by omega), hq j hlt, hq i hi]
      by_cases e : porK K t j = porK K t i
      · have e2 : sameK K t i j = 1 := if_pos e
        rw [accN, e2] at q
        rw [if_pos (by rw [e]), f_X5_mostAlike_97, nw_s, nw_s, nI_1, nI_1]
        exact q
      · have e2 : sameK K t i j = 0 := if_neg e
        rw [accN, e2] at q
        rw [if_neg (fun z => e ((nI_eq (show porK K t j < 2 ^ 31 by unfold porK; omega) (show porK K t i < 2 ^ 31 by unfold porK; omega)).mp z)), f_X5_mostAlike_97, nw_s, nw_s, nI_1, show (0 : Int32) = nI 0 from rfl, nI_add]
        exact q
theorem mostC_2 {σ : St} {t : Nat} {K : Kv} {k : Int32 → St → Option (Int32 × St)} (hs : σ.1 1 1 = nI K.1) (h6 : K.1 ≤ 6) (hq : ∀ j, j < K.1 → σ.1 124 j = nI (porK K t j)) (ht : t < 4) : ∀ (m j : Nat), j ≤ K.1 → K.1 < m + j → f_X5_mostAlike_45 k m (nI (mostN K t j)) (nI j) σ = k (nI (mostN K t K.1)) σ := by
  intro m
  induction m with
  | zero => intro j h1 h2; omega
  | succ m ih =>
    intro j h1 h2
    rw [f_X5_mostAlike_45, hs]
    by_cases hj : j = K.1
    · rw [hj]
      exact if_pos (nI_le (Nat.le_refl _) (by omega))
    · have hlt : j < K.1 := by omega
      have q := ih (j + 1) (by omega) (by omega)
      have e3 := mostC_3 (v := nI (mostN K t j)) (k := fun (w26_0 : Int32) (w27_1 : Int32) (w28_2 : Int32) (σ29 : St) => nw (if w26_0 < w28_2 then w28_2 else w26_0 : Int32) fun v130 => nw (w27_1 + 1 : Int32) fun v131 => f_X5_mostAlike_45 k m v130 v131 σ29) hs h6 hq ht hlt fu 0 (by omega) (by rw [fu_e]; omega)
      rw [show nI (accN (sameK K t j) 0) = 0 from rfl, show nI 0 = 0 from rfl] at e3
      have b1 := accN_le (f := sameK K t j) (b := 1) (fun j => same_le j) K.1
      have b2 := most_le (K := K) (t := t) j
      rw [if_neg (nI_ge hlt (by omega)), e3, nw_s, nw_s, nI_1]
      rw [mostN] at q
      by_cases e : mostN K t j < accN (sameK K t j) K.1
      · rw [if_pos e] at q
        rw [if_pos (nI_lt e (by omega))]
        exact q
      · rw [if_neg e] at q
        rw [if_neg (nI_nlt (by omega) (by omega))]
        exact q
theorem mostC {σ : St} {t : Nat} {K : Kv} (h : KC 1 σ K) (ht : t < 4) : ∃ σ', f_X5_mostAlike σ (nI t) = some (nI (mostN K t K.1), σ') ∧ Fr (fun a => a = 124) σ σ' := by
  have h6 := h.2.2.1
  have e1 := mostC_1 (k := fun  (σ8 : St) => f_X5_mostAlike_45 (fun (w32_0 : Int32) (σ33 : St) => some (w32_0, σ33)) fu 0 0 σ8) h ht fu 0 (by omega) (by rw [fu_e]; omega)
  rw [wI_0, show nI 0 = 0 from rfl] at e1
  have hs : (wI σ 124 0 K.1 (fun i => nI (porK K t i))).1 1 1 = nI K.1 := by rw [wI_n (Or.inl (by omega))]; exact h.2.1
  have e2 := mostC_2 (t := t) (k := fun (w32_0 : Int32) (σ33 : St) => some (w32_0, σ33)) hs h6 (fun j hj => by
    have := wI_i (σ := σ) (i := 124) (o := 0) (j := K.1) (b := j) (f := fun i => nI (porK K t i)) hj
    rw [Nat.zero_add] at this
    exact this) ht fu 0 (by omega) (by rw [fu_e]; omega)
  rw [show nI (mostN K t 0) = 0 from rfl, show nI 0 = 0 from rfl] at e2
  rw [f_X5_mostAlike, e1, e2]
  exact ⟨_, rfl, Fr.wI rfl⟩
theorem porMK {σ : St} {t i : Nat} {K : Kv} (h : KM 0 1 2 3 4 σ K) (hb : ∀ i, i < K.1 → bd (K.2.2.1 i) (K.2.1 i)) (ht : t < 4) (hi : i < K.1) : f_X6_portionOf σ (nI i) (nI t) = some (nI (porK K t i)) := porM (h.flm hi) (hb i hi) (by have := (h.2.2 i hi).2.2.1; omega) ht
theorem mostM_3 {σ : St} {t i : Nat} {v : Int32} {K : Kv} {k : Int32 → Int32 → Int32 → Int32 → Option Int32} (h : KM 0 1 2 3 4 σ K) (hb : ∀ i, i < K.1 → bd (K.2.2.1 i) (K.2.1 i)) (ht : t < 4) (hi : i < K.1) : ∀ (m j : Nat), j ≤ K.1 → K.1 < m + j → f_X6_alikeIn_18 σ k m (nI t) v (nI i) (nI (accN (sameK K t i) j)) (nI j) = k (nI t) v (nI i) (nI (accN (sameK K t i) K.1)) := by
  have h6 := h.2.1
  intro m
  induction m with
  | zero => intro j h1 h2; omega
  | succ m ih =>
    intro j h1 h2
    rw [f_X6_alikeIn_18, h.1]
    by_cases hj : j = K.1
    · rw [hj]
      exact if_pos (nI_le (Nat.le_refl _) (by omega))
    · have hlt : j < K.1 := by omega
      have q := ih (j + 1) (by omega) (by omega)
      have b1 := porN_le (x := K.2.2.1 j) ht
      have b2 := porN_le (x := K.2.2.1 i) ht
      rw [if_neg (nI_ge hlt (by omega)), bnd_o (porMK h hb ht hi), bnd_o (porMK h hb ht hlt)]
      by_cases e : porK K t j = porK K t i
      · have e2 : sameK K t i j = 1 := if_pos e
        rw [accN, e2] at q
        rw [if_pos (by rw [e]), f_X6_alikeIn_50, nw_s, nw_s, nI_1, nI_1]
        exact q
      · have e2 : sameK K t i j = 0 := if_neg e
        rw [accN, e2] at q
        rw [if_neg (fun z => e ((nI_eq (show porK K t i < 2 ^ 31 by unfold porK; omega) (show porK K t j < 2 ^ 31 by unfold porK; omega)).mp z).symm), f_X6_alikeIn_50, nw_s, nw_s, nI_1, show (0 : Int32) = nI 0 from rfl, nI_add]
        exact q
theorem mostM_2 {σ : St} {t : Nat} {K : Kv} {k : Int32 → Option Int32} (h : KM 0 1 2 3 4 σ K) (hb : ∀ i, i < K.1 → bd (K.2.2.1 i) (K.2.1 i)) (ht : t < 4) : ∀ (m j : Nat), j ≤ K.1 → K.1 < m + j → f_X6_alikeIn_4 σ k m (nI t) (nI (mostN K t j)) (nI j) = k (nI (mostN K t K.1)) := by
  have h6 := h.2.1
  intro m
  induction m with
  | zero => intro j h1 h2; omega
  | succ m ih =>
    intro j h1 h2
    rw [f_X6_alikeIn_4, h.1]
    by_cases hj : j = K.1
    · rw [hj]
      exact if_pos (nI_le (Nat.le_refl _) (by omega))
    · have hlt : j < K.1 := by omega
      have q := ih (j + 1) (by omega) (by omega)
      have e3 := mostM_3 (v := nI (mostN K t j)) (k := fun (w18_0 : Int32) (w19_1 : Int32) (w20_2 : Int32) (w21_3 : Int32) => (if w21_3 ≤ w19_1 then f_X6_alikeIn_71 σ (fun (w24_0 : Int32) (w25_1 : Int32) (w26_2 : Int32) => f_X6_alikeIn_4 σ k m w24_0 w25_1 w26_2) w18_0 w20_2 w19_1 else f_X6_alikeIn_71 σ (fun (w27_0 : Int32) (w28_1 : Int32) (w29_2 : Int32) => f_X6_alikeIn_4 σ k m w27_0 w28_1 w29_2) w18_0 w20_2 w21_3)) h hb ht hlt fu 0 (by omega) (by rw [fu_e]; omega)
      rw [show nI (accN (sameK K t j) 0) = 0 from rfl, show nI 0 = 0 from rfl] at e3
      have b1 := accN_le (f := sameK K t j) (b := 1) (fun j => same_le j) K.1
      have b2 := most_le (K := K) (t := t) j
      rw [if_neg (nI_ge hlt (by omega)), e3]
      rw [mostN] at q
      by_cases e : mostN K t j < accN (sameK K t j) K.1
      · rw [if_pos e] at q
        rw [if_neg (nI_ge e (by omega)), f_X6_alikeIn_71, nw_s, nI_1]
        exact q
      · rw [if_neg e] at q
        rw [if_pos (nI_le (by omega) (by omega)), f_X6_alikeIn_71, nw_s, nI_1]
        exact q
theorem mostM {σ : St} {t : Nat} {K : Kv} (h : KM 0 1 2 3 4 σ K) (hb : ∀ i, i < K.1 → bd (K.2.2.1 i) (K.2.1 i)) (ht : t < 4) : f_X6_alikeIn σ (nI t) = some (nI (mostN K t K.1)) := by
  have h6 := h.2.1
  have e := mostM_2 (k := fun (w30_0 : Int32) => some w30_0) h hb ht fu 0 (by omega) (by rw [fu_e]; omega)
  rw [show nI (mostN K t 0) = 0 from rfl, show nI 0 = 0 from rfl] at e
  rw [f_X6_alikeIn, e]
def bestT (K : Kv) : Nat → Nat
  | 0 => 0
  | t + 1 => if t = 0 then 0 else if mostN K t K.1 < mostN K (bestT K t) K.1 then t else bestT K t
theorem bestT_lt {K : Kv} : ∀ t, bestT K t ≤ t - 1 := by
  intro t
  induction t with
  | zero => exact Nat.le_refl _
  | succ t ih =>
    rw [bestT]
    split
    · omega
    · split <;> omega
theorem tells_l {σm : St} {K : Kv} {w : Int32} {kc : Int32 → Int32 → Int32 → St → Option (Int32 × St)} {km : Int32 → Int32 → St → Option (Int32 × St)} (hM : KM 0 1 2 3 4 σm K) (hb : ∀ i, i < K.1 → bd (K.2.2.1 i) (K.2.1 i)) : ∀ (m t : Nat) (σc : St), KC 1 σc K → 1 ≤ t → t ≤ 4 → 4 < m + t → ∃ σc' : St, f_X5_tells_33 kc m w (nI (bestT K t)) (nI (mostN K (bestT K t) K.1)) (nI t) σc = kc w (nI (bestT K 4)) (nI (mostN K (bestT K 4) K.1)) σc' ∧ f_X6_tells_31 km m w (nI (bestT K t)) (nI t) σm = km w (nI (bestT K 4)) σm ∧ Fr (fun a => a = 124) σc σc' := by
  have h6 := hM.2.1
  intro m
  induction m with
  | zero => intro t σc hC h0 h1 h2; omega
  | succ m ih =>
    intro t σc hC h0 h1 h2
    rw [f_X5_tells_33, f_X6_tells_31]
    by_cases hj : t = 4
    · subst hj
      rw [if_pos (by decide), if_pos (by decide)]
      exact ⟨σc, rfl, rfl, Fr.rf⟩
    · have hlt : t < 4 := by omega
      obtain ⟨σ1, e1, f1⟩ := mostC hC hlt
      have hC1 := hC.fr f1 (fun a _ _ q => by omega)
      have bl := bestT_lt (K := K) t
      have m1 := most_le (K := K) (t := t) K.1
      have m2 := most_le (K := K) (t := bestT K t) K.1
      obtain ⟨σ2, g1, g2, g3⟩ := ih (t + 1) σ1 hC1 (by omega) (by omega) (by omega)
      refine ⟨σ2, ?_, ?_, Fr.tr f1 g3⟩
      · rw [if_neg (show ¬ (4 : Int32) ≤ nI t from nI_ge (b := 4) hlt (by omega)), bnd_o e1, nw_s]
        show (if nI (mostN K (bestT K t) K.1) ≤ nI (mostN K t K.1) then _ else _) = _
        by_cases e : mostN K t K.1 < mostN K (bestT K t) K.1
        · rw [bestT, if_neg (by omega), if_pos e] at g1
          rw [if_neg (nI_ge e (by omega)), f_X5_tells_59, nw_s, nI_1]
          exact g1
        · rw [bestT, if_neg (by omega), if_neg e] at g1
          rw [if_pos (nI_le (by omega) (by omega)), f_X5_tells_59, nw_s, nI_1]
          exact g1
      · rw [if_neg (show ¬ (4 : Int32) ≤ nI t from nI_ge (b := 4) hlt (by omega)), bnd_o (mostM hM hb hlt), bnd_o (mostM hM hb (by omega))]
        by_cases e : mostN K t K.1 < mostN K (bestT K t) K.1
        · rw [bestT, if_neg (by omega), if_pos e] at g2
          rw [if_neg (nI_ge e (by omega)), f_X6_tells_54, nw_s, nI_1]
          exact g2
        · rw [bestT, if_neg (by omega), if_neg e] at g2
          rw [if_pos (nI_le (by omega) (by omega)), f_X6_tells_54, nw_s, nI_1]
          exact g2
theorem sim_tells {σc σm : St} (h : RR σc σm) (x : Int32) : ∃ (r : Int32) (σc' σm' : St), f_X5_tells σc x = some (r, σc') ∧ f_X6_tells σm x = some (r, σm') ∧ RR σc' σm' := by
  have h5 := h.u5 (v := 0)
  obtain ⟨K, K2, hC, hM, -⟩ := id h
  have hM5 := hM.u5 (v := 0)
  have h6 := hC.2.2.1
  have hb : ∀ i, i < K.1 → bd (K.2.2.1 i) (K.2.1 i) := fun i hi => (hC.2.2.2 i hi).2.2.2.1
  rw [f_X6_tells, nw_s, f_X5_tells]
  rcases inb_or x (show 2 < 2 ^ 31 by omega) with ⟨q, hq, rfl⟩ | hn
  · rw [bnd_o (noHalf_y hq), bnd_o (inM_y hq (by omega)), if_pos rfl, if_neg p0, hC.2.1, hM5.1]
    by_cases e : K.1 = 0
    · rw [e]
      exact ⟨_, _, _, rfl, rfl, h5⟩
    · obtain ⟨σ1, e1, f1⟩ := mostC hC (t := 0) (by omega)
      have hC1 := hC.fr f1 (fun a _ _ q => by omega)
      obtain ⟨σ2, g1, g2, g3⟩ := tells_l (w := nI q) (kc := fun (w21_0 : Int32) (w22_1 : Int32) (w23_2 : Int32) (σ24 : St) => (if w21_0 = 0 then some (w22_1, σ24) else some (w23_2, σ24))) (km := fun (w18_0 : Int32) (w19_1 : Int32) (σ20 : St) => (if w18_0 = 0 then some (w19_1, σ20) else bnd (f_X6_alikeIn σ20 w19_1) fun r22 => some (r22, σ20))) hM5 hb fu 1 σ1 hC1 (by omega) (by omega) (by rw [fu_e]; omega)
      rw [show bestT K 1 = 0 from rfl, show nI 1 = 1 from rfl, show nI 0 = 0 from rfl] at g1 g2
      rw [show nI 0 = 0 from rfl] at e1
      rw [if_neg (nI_ne0 (by omega) (by omega)), if_neg (nI_ne0 (by omega) (by omega)), bnd_o e1, nw_s, g1, g2]
      have bl := bestT_lt (K := K) 4
      have hfr : Fr scr σc σ2 := (Fr.tr f1 g3).mono (fun a ha => Or.inr (by omega))
      by_cases e0 : q = 0
      · subst e0
        rw [if_pos (show nI 0 = 0 from rfl), if_pos (show nI 0 = 0 from rfl)]
        exact ⟨_, _, _, rfl, rfl, h5.keep hfr MK.rf⟩
      · rw [if_neg (nI_ne0 (by omega) (by omega)), if_neg (nI_ne0 (by omega) (by omega)), bnd_o (mostM hM5 hb (by omega))]
        exact ⟨_, _, _, rfl, rfl, h5.keep hfr MK.rf⟩
  · rw [bnd_o (noHalf_n hn), bnd_o (inM_n (n := 2) hn), if_neg p0, if_pos rfl]
    exact ⟨_, _, _, rfl, rfl, h5⟩
/-- seeds -/
theorem drawN (z : Int32) : ∃ j : Nat, j < 2 ^ 31 ∧ (z &&& 2147483647) / 65536 = nI j := by
  obtain ⟨j, hj, e⟩ := pk_andE z (m := 2147483647) 31 (by decide)
  refine ⟨j / 65536, ?_, ?_⟩
  · exact Nat.lt_of_le_of_lt (Nat.div_le_self _ _) hj
  · rw [e, show (65536 : Int32) = nI 65536 from rfl, pk_div hj (by omega) (by omega)]
theorem seed_l {n t : Nat} (hn : n ≤ 12) (ht : t < 4) : ∀ (m j : Nat) (x : Nat → Nat) (σc σm : St), j ≤ n → n < m + j → flv σc 122 x j → flm σm 6 x j → bd x j → RR σc σm → ∃ (r : Int32) (σc' σm' : St), f_X5_seeded_33 (fun (w14_0 : Int32) (σ15 : St) => bnd (f_X0_portionOf σ15 122 w14_0) fun r16 => some (r16, σ15)) m (nI n) (nI t) (σm.1 0 25) (nI j) σc = some (r, σc') ∧ f_X6_seeded_45 (fun (w14_0 : Int32) (σ15 : St) => bnd (f_X6_portionOf σ15 6 w14_0) fun r16 => some (r16, σ15)) m (nI n) (nI t) (nI j) σm = some (r, σm') ∧ RR σc' σm' := by
  intro m
  induction m with
  | zero => intro j x σc σm h1 h2; omega
  | succ m ih =>
    intro j x σc σm h1 h2 hc hm hb hR
    rw [f_X5_seeded_33, f_X6_seeded_45]
    by_cases hj : j = n
    · subst hj
      rw [if_pos (nI_le (Nat.le_refl _) (by omega)), if_pos (nI_le (Nat.le_refl _) (by omega)), bnd_o (porC hc hb (by omega) ht), show (6 : Int32) = nI 6 from rfl, bnd_o (porM hm hb (by omega) ht)]
      exact ⟨_, _, _, rfl, rfl, hR⟩
    · have hlt : j < n := by omega
      obtain ⟨u1, hu1, d1⟩ := drawN ((σm.1 0 25 * 1103515245) + 12345)
      obtain ⟨u2, hu2, d2⟩ := drawN (((σm.1 0 25 * 1103515245 + 12345) * 1103515245) + 12345)
      have r1 : nI u1 - nI u1 / 8 * 8 = nI (u1 % 8) := pk_rem (d := 8) hu1 (by omega) (by omega)
      have r2 : nI u2 - nI u2 / 10 * 10 = nI (u2 % 10) := pk_rem (d := 10) hu2 (by omega) (by omega)
      have k1 : u1 % 8 < 8 := Nat.mod_lt _ (by omega)
      have k2 : u2 % 10 < 10 := Nat.mod_lt _ (by omega)
      have mm : ∀ (z : St), f_X6_draw z 8 = some ((((z.1 0 25 * 1103515245 + 12345) &&& 2147483647) / 65536) - (((z.1 0 25 * 1103515245 + 12345) &&& 2147483647) / 65536) / 8 * 8, uI z 0 25 (z.1 0 25 * 1103515245 + 12345)) := fun z => by
        rw [f_X6_draw, nw_s, chk_t (by decide), uI_i]
      have mm2 : ∀ (z : St), f_X6_draw z 10 = some ((((z.1 0 25 * 1103515245 + 12345) &&& 2147483647) / 65536) - (((z.1 0 25 * 1103515245 + 12345) &&& 2147483647) / 65536) / 10 * 10, uI z 0 25 (z.1 0 25 * 1103515245 + 12345)) := fun z => by
        rw [f_X6_draw, nw_s, chk_t (by decide), uI_i]
      obtain ⟨σ1, c1, c2, c3⟩ := takeC hc k1 k2
      have hm2 : flm (uI (uI σm 0 25 (σm.1 0 25 * 1103515245 + 12345)) 0 25 ((σm.1 0 25 * 1103515245 + 12345) * 1103515245 + 12345)) 6 x j := by
        obtain ⟨g1, g2, g3⟩ := hm
        refine ⟨g1, g2, ?_⟩
        rw [uI_n (Or.inl (by omega)), uI_n (Or.inl (by omega))]
        exact g3
      obtain ⟨σ2, e1, e2, e3, e4⟩ := cooM6 hm2 k1 k2 (by omega)
      have hz : σ2.1 0 25 = (σm.1 0 25 * 1103515245 + 12345) * 1103515245 + 12345 := by rw [(e4 0 (by omega)).1, uI_i]
      have hR2 : RR σ1 σ2 := hR.keep (c3.mono (fun a ha => scr_fl ha)) (((MK.u0 (s := 25) (by omega)).tr (MK.u0 (s := 25) (by omega))).tr e3)
      obtain ⟨r, σc', σm', g1, g2, g3⟩ := ih (j + 1) _ σ1 σ2 (by omega) (by omega) c2 e2 (bd_take hb k1 k2) hR2
      rw [hz] at g1
      refine ⟨r, σc', σm', ?_, ?_, g3⟩
      · rw [if_neg (nI_ge hlt (by omega)), f_X5_nextSeed, bnd_s, f_X5_drawOf, bnd_s, nw_s, f_X5_nextSeed, bnd_s, f_X5_drawOf, bnd_s, d1, d2, r1, r2, bnd_o c1, nw_s, nI_1]
        exact g1
      · rw [if_neg (nI_ge hlt (by omega)), bnd_o (mm σm), nw_s]
        show bnd (f_X6_draw (uI σm 0 25 (σm.1 0 25 * 1103515245 + 12345)) 10) _ = _
        rw [bnd_o (mm2 _), uI_i]
        show bnd (f_X6_cooks (uI (uI σm 0 25 (σm.1 0 25 * 1103515245 + 12345)) 0 25 ((σm.1 0 25 * 1103515245 + 12345) * 1103515245 + 12345)) 6 (((σm.1 0 25 * 1103515245 + 12345) &&& 2147483647) / 65536 - ((σm.1 0 25 * 1103515245 + 12345) &&& 2147483647) / 65536 / 8 * 8) ((((σm.1 0 25 * 1103515245 + 12345) * 1103515245 + 12345) &&& 2147483647) / 65536 - (((σm.1 0 25 * 1103515245 + 12345) * 1103515245 + 12345) &&& 2147483647) / 65536 / 10 * 10)) _ = _
        rw [d1, d2, r1, r2, bnd_o e1, nw_s, nI_1]
        exact g2
theorem inM1b {x : Int32} {b c : Int64} {n : Nat} (hb : b.toInt = 1) (hc : c.toInt = (n : Int) - 1) : f_X6_in x.toInt64 b c = some (if inb x n = true ∧ ¬ x = 0 then 1 else 0) := inM1 hb hc
theorem oneN {x : Int32} {A : Type} {u v : A} : (if x < 1 then u else if 12 < x then u else v) = if inb x 13 = true ∧ ¬ x = 0 then v else u := by
  rcases inb_or x (show 13 < 2 ^ 31 by omega) with ⟨j, hj, rfl⟩ | h
  · by_cases h0 : j = 0
    · subst h0
      rw [if_pos (by decide), if_neg (fun q => q.2 rfl)]
    · rw [if_neg (show ¬ nI j < 1 from nI_nlt (b := 1) (by omega) (by omega)), if_neg (show ¬ (12 : Int32) < nI j from nI_nlt (a := 12) (by omega) (by omega)), if_pos ⟨inb_nI hj (by omega), nI_ne0 (by omega) (by omega)⟩]
  · rw [if_neg (c := inb x 13 = true ∧ ¬ x = 0) (fun q => h q.1)]
    by_cases h1 : x < 1
    · rw [if_pos h1]
    · rw [if_neg h1, if_pos]
      have h0 : ¬ x < 0 := by
        intro z
        rw [Int32.lt_iff_toInt_lt] at z h1
        have e0 : (0 : Int32).toInt = 0 := rfl
        have e1 : (1 : Int32).toInt = 1 := rfl
        omega
      obtain ⟨j, hj, rfl⟩ := nI_of h0
      refine nI_lt (a := 12) ?_ hj
      rcases Nat.lt_or_ge 12 j with q | q
      · exact q
      · exact absurd (inb_nI (n := 13) (by omega) hj) h
theorem sim_seeded {σc σm : St} (h : RR σc σm) (x y z : Int32) : ∃ (r : Int32) (σc' σm' : St), f_X5_seeded σc x y z = some (r, σc') ∧ f_X6_seeded σm x y z = some (r, σm') ∧ RR σc' σm' := by
  have h5 := h.u5 (v := 0)
  rw [f_X6_seeded, nw_s, f_X5_seeded, oneN, bnd_o (inM1 (n := 13) (by decide) (by decide))]
  by_cases e : inb x 13 = true ∧ ¬ x = 0
  · rw [if_pos e, if_pos e, if_neg p0]
    rcases inb_or x (show 13 < 2 ^ 31 by omega) with ⟨n, hn, rfl⟩ | hn
    · rcases inb_or z (show 4 < 2 ^ 31 by omega) with ⟨t, ht, rfl⟩ | hn
      · obtain ⟨σ1, m1, m2, m3, m4⟩ := empM6 (σ := uI (uI σm 0 5 0) 0 25 y)
        have hz : σ1.1 0 25 = y := by rw [(m4 0 (by omega)).1, uI_i]
        have hR : RR (setF σc 122 (fun _ => 0) 1 0) σ1 := h5.keep (setF_fr.mono (fun a ha => scr_fl ha)) ((MK.u0 (s := 25) (by omega)).tr m3)
        obtain ⟨r, σc', σm', g1, g2, g3⟩ := seed_l (n := n) (by omega) ht fu 0 (fun _ => 0) _ σ1 (by omega) (by rw [fu_e]; omega) (setF_flv (σ := σc) (n := 0) (g := fun _ => 0) (b := 1) (c := 0) fl122 (fun _ _ => rfl) rfl rfl) m2 bd_0 hR
        rw [hz, show nI 0 = 0 from rfl] at g1
        rw [show nI 0 = 0 from rfl] at g2
        rw [bnd_o (noTaste_y ht), bnd_o (inM_y ht (by omega)), if_pos rfl, if_neg p0, bnd_o (clearC fl122), nw_s, bnd_o m1, g1, g2]
        exact ⟨_, _, _, rfl, rfl, g3⟩
      · rw [bnd_o (noTaste_n hn), bnd_o (inM_n (n := 4) hn), if_neg p0, if_pos rfl]
        exact ⟨_, _, _, rfl, rfl, h5⟩
    · exact absurd e.1 hn
  · rw [if_neg e, if_neg e, if_pos rfl]
    exact ⟨_, _, _, rfl, rfl, h5⟩
