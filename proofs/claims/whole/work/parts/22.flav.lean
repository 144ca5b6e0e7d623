/-! THE FLAVOURS OF THE CLASS: what its methods do, in numbers -/
def isFl (i : Nat) : Prop := kOK SC i 0 = true ∧ aOK SC (i + 1) 21 4 = true
def flv (σ : St) (i : Nat) (x : Nat → Nat) (n : Nat) : Prop := isFl i ∧ (∀ t, t < 4 → σ.2 (i + 1) t = lN (x t)) ∧ σ.2 i 1 = lN (9 ^ n) ∧ σ.1 i 2 = nI n
theorem isFl.ne {i j : Nat} (h : isFl i) (g : isFl j) : i ≠ j + 1 := by
  intro e
  have h1 := (kOK_e h.1).2
  have h2 := (aOK_e g.2).2.1
  rw [e, h2] at h1
  exact absurd h1 (by decide)
theorem flv.fr {σ σ' : St} {i n : Nat} {x : Nat → Nat} {P : Nat → Prop} (h : flv σ i x n) (f : Fr P σ σ') (h1 : ¬ P i) (h2 : ¬ P (i + 1)) : flv σ' i x n := by
  obtain ⟨a, b, c, d⟩ := h
  refine ⟨a, fun t ht => ?_, ?_, ?_⟩
  · rw [(f _ h2).2]; exact b t ht
  · rw [(f _ h1).2]; exact c
  · rw [(f _ h1).1]; exact d
/-- a flavour written anew -/
def setF (σ : St) (i : Nat) (g : Nat → Int64) (b : Int64) (c : Int32) : St := uI (uL (wL σ (i + 1) 0 4 g) i 1 b) i 2 c
theorem setF_fr {σ : St} {i : Nat} {g : Nat → Int64} {b : Int64} {c : Int32} : Fr (fun a => a = i ∨ a = i + 1) σ (setF σ i g b c) :=
  Fr.tr (Fr.tr (Fr.wL (Or.inr rfl)) (Fr.uL (Or.inl rfl))) (Fr.uI (Or.inl rfl))
theorem setF_flv {σ : St} {i n : Nat} {g : Nat → Int64} {b : Int64} {c : Int32} {x : Nat → Nat} (h : isFl i) (hg : ∀ t, t < 4 → g t = lN (x t)) (hb : b = lN (9 ^ n)) (hc : c = nI n) : flv (setF σ i g b c) i x n := by
  refine ⟨h, fun t ht => ?_, ?_, ?_⟩
  · show (uL (wL σ (i + 1) 0 4 g) i 1 b).2 (i + 1) t = _
    rw [uL_n (Or.inl (by omega)), show t = 0 + t by omega, wL_i ht, hg t ht, Nat.zero_add]
  · show (uL (wL σ (i + 1) 0 4 g) i 1 b).2 i 1 = _
    rw [uL_i, hb]
  · show (uI _ i 2 c).1 i 2 = _
    rw [uI_i, hc]
theorem clearC_l {σ : St} {i : Nat} {k : Nat → St → Option St} (h : isFl i) : ∀ (m j : Nat), j ≤ 4 → 4 < m + j → f_X0_clear_2 k m i (nI j) (wL σ (i + 1) 0 j (fun _ => 0)) = k i (wL σ (i + 1) 0 4 (fun _ => 0)) := by
  intro m
  induction m with
  | zero => intro j h1 h2; omega
  | succ m ih =>
    intro j h1 h2
    rw [f_X0_clear_2]
    by_cases hj : j = 4
    · subst hj
      exact if_pos (by decide)
    · have hlt : j < 4 := by omega
      rw [if_neg (show ¬ (4 : Int32) ≤ nI j from nI_ge (b := 4) hlt (by omega)), chk_t h.1, chk_t h.2, chk_t (inb_nI hlt (by omega)), nw_s, nw_s, nI_clamp (by omega), nI_1]
      have e := wL_s (σ := σ) (i := i + 1) (o := 0) (j := j) (f := fun _ => (0 : Int64)) rfl
      rw [Nat.zero_add] at e
      rw [e]
      exact ih (j + 1) (by omega) (by omega)
theorem clearC {σ : St} {i : Nat} (h : isFl i) : f_X0_clear σ i = some (setF σ i (fun _ => 0) 1 0) := by
  rw [f_X0_clear]
  have e := clearC_l (σ := σ) (k := fun (w7_0 : Nat) (σ8 : St) => chk (kOK SC w7_0 0) <| nw (uL σ8 w7_0 1 1) fun σ10 => nw (uI σ10 w7_0 2 0) fun σ11 => some σ11) h fu 0 (by omega) (by rw [fu_e]; omega)
  rw [wL_0] at e
  rw [show nI 0 = 0 from rfl] at e
  rw [e]
  rw [chk_t h.1, nw_s, nw_s]
  rfl
theorem becomeC_l {σ : St} {i o : Nat} {k : Nat → Nat → St → Option St} (h : isFl i) (g : isFl o) : ∀ (m j : Nat), j ≤ 4 → 4 < m + j → f_X0_become_2 k m i o (nI j) (wL σ (i + 1) 0 j (σ.2 (o + 1))) = k i o (wL σ (i + 1) 0 4 (σ.2 (o + 1))) := by
  intro m
  induction m with
  | zero => intro j h1 h2; omega
  | succ m ih =>
    intro j h1 h2
    rw [f_X0_become_2]
    by_cases hj : j = 4
    · subst hj
      exact if_pos (by decide)
    · have hlt : j < 4 := by omega
      rw [if_neg (show ¬ (4 : Int32) ≤ nI j from nI_ge (b := 4) hlt (by omega)), chk_t h.1, chk_t g.1, chk_t g.2, chk_t (inb_nI hlt (by omega)), chk_t h.2, nw_s, nw_s, nI_clamp (by omega), nI_1]
      have e := wL_s (σ := σ) (i := i + 1) (o := 0) (j := j) (f := σ.2 (o + 1)) rfl
      rw [Nat.zero_add] at e
      rw [wL_n (Or.inr (Or.inr (by omega))), e]
      exact ih (j + 1) (by omega) (by omega)
theorem becomeC {σ : St} {i o : Nat} (h : isFl i) (g : isFl o) : f_X0_become σ i o = some (setF σ i (σ.2 (o + 1)) (σ.2 o 1) (σ.1 o 2)) := by
  rw [f_X0_become]
  have e := becomeC_l (σ := σ) (k := fun (w9_0 : Nat) (w10_1 : Nat) (σ11 : St) => chk (kOK SC w10_1 0) <| chk (kOK SC w9_0 0) <| nw (uL σ11 w9_0 1 (σ11.2 w10_1 1)) fun σ14 => nw (uI σ14 w9_0 2 (σ14.1 w10_1 2)) fun σ15 => some σ15) h g fu 0 (by omega) (by rw [fu_e]; omega)
  rw [wL_0] at e
  rw [show nI 0 = 0 from rfl] at e
  rw [e]
  rw [chk_t g.1, chk_t h.1, nw_s, nw_s, wL_n (Or.inl (g.ne h)), uL_1, wL_1]
  rfl
/-- the tastes behind a dish -/
def takeN (k f n : Nat) (x : Nat → Nat) : Nat → Nat := fun t => ownN k f t * 9 ^ (n + 1) + keepN k * x t
theorem takeC_l {σ : St} {i kd fg n : Nat} {x : Nat → Nat} {k : Nat → St → Option St} (h : isFl i) (hk : kd < 8) (hf : fg < 10) (hb : σ.2 i 1 = lN (9 ^ (n + 1))) (hx : ∀ t, t < 4 → σ.2 (i + 1) t = lN (x t)) : ∀ (m j : Nat), j ≤ 4 → 4 < m + j → f_X0_takeIn_20 k m i (nI kd) (nI fg) (nI (keepN kd)) (nI j) (wL σ (i + 1) 0 j (fun t => lN (takeN kd fg n x t))) = k i (wL σ (i + 1) 0 4 (fun t => lN (takeN kd fg n x t))) := by
  intro m
  induction m with
  | zero => intro j h1 h2; omega
  | succ m ih =>
    intro j h1 h2
    rw [f_X0_takeIn_20]
    by_cases hj : j = 4
    · subst hj
      exact if_pos (by decide)
    · have hlt : j < 4 := by omega
      have hkp := keepLe kd hk
      have how := ownLe kd hk fg hf j hlt
      rw [if_neg (show ¬ (4 : Int32) ≤ nI j from nI_ge (b := 4) hlt (by omega)), chk_t h.1, bnd_o (ownC kd hk fg hf j hlt), chk_t h.2, chk_t (inb_nI hlt (by omega)), nw_s, nw_s, nI_clamp (by omega), nI_1, nI_l (by omega), nI_l (by omega)]
      rw [wL_n (Or.inl (h.ne h)), hb, wL_n (Or.inr (Or.inr (by omega))), hx j hlt, lN_mul, lN_mul, lN_add]
      have e := wL_s (σ := σ) (i := i + 1) (o := 0) (j := j) (f := fun t => lN (takeN kd fg n x t)) (v := lN (ownN kd fg j * 9 ^ (n + 1) + keepN kd * x j)) rfl
      rw [Nat.zero_add] at e
      rw [e]
      exact ih (j + 1) (by omega) (by omega)
theorem takeC {σ : St} {i kd fg n : Nat} {x : Nat → Nat} (h : flv σ i x n) (hk : kd < 8) (hf : fg < 10) : ∃ σ', f_X0_takeIn σ i (nI kd) (nI fg) = some σ' ∧ flv σ' i (takeN kd fg n x) (n + 1) ∧ Fr (fun a => a = i ∨ a = i + 1) σ σ' := by
  obtain ⟨hi, hx, hb, hn⟩ := h
  rw [f_X0_takeIn, bnd_o (keepC kd hk), chk_t hi.1, nw_s]
  have hb2 : (uL σ i 1 (σ.2 i 1 * 9)).2 i 1 = lN (9 ^ (n + 1)) := by
    rw [uL_i, hb, show (9 : Int64) = lN 9 from rfl, lN_mul, ← Nat.pow_succ]
  have hx2 : ∀ t, t < 4 → (uL σ i 1 (σ.2 i 1 * 9)).2 (i + 1) t = lN (x t) := fun t ht => by
    rw [uL_n (Or.inl (by omega))]; exact hx t ht
  have e := takeC_l (σ := uL σ i 1 (σ.2 i 1 * 9)) (k := fun (w11_0 : Nat) (σ12 : St) => chk (kOK SC w11_0 0) <| nw (uI σ12 w11_0 2 ((σ12.1 w11_0 2) + 1)) fun σ14 => some σ14) hi hk hf hb2 hx2 fu 0 (by omega) (by rw [fu_e]; omega)
  rw [wL_0] at e
  rw [show nI 0 = 0 from rfl] at e
  refine ⟨_, by rw [e, chk_t hi.1, nw_s], ⟨hi, fun t ht => ?_, ?_, ?_⟩, ?_⟩
  · rw [uI_2, show t = 0 + t by omega, wL_i ht, Nat.zero_add]
  · rw [uI_2, wL_n (Or.inl (hi.ne hi)), hb2]
  · rw [uI_i]
    show σ.1 i 2 + 1 = _
    rw [hn, nI_1]
  · exact Fr.tr (Fr.tr (Fr.uL (Or.inl rfl)) (Fr.wL (Or.inr rfl))) (Fr.uI (Or.inl rfl))
/-- all tastes together -/
def sumTo (x : Nat → Nat) : Nat → Nat
  | 0 => 0
  | j + 1 => sumTo x j + x j
theorem totC_l {σ : St} {i n : Nat} {x : Nat → Nat} {k : Int64 → Option Int64} (h : flv σ i x n) : ∀ (m j : Nat), j ≤ 4 → 4 < m + j → f_X0_totalAbove_4 σ k m i (lN (sumTo x j)) (nI j) = k (lN (sumTo x 4)) := by
  intro m
  induction m with
  | zero => intro j h1 h2; omega
  | succ m ih =>
    intro j h1 h2
    rw [f_X0_totalAbove_4]
    by_cases hj : j = 4
    · subst hj
      exact if_pos (by decide)
    · have hlt : j < 4 := by omega
      rw [if_neg (show ¬ (4 : Int32) ≤ nI j from nI_ge (b := 4) hlt (by omega)), chk_t h.1.1, chk_t h.1.2, chk_t (inb_nI hlt (by omega)), nw_s, nw_s, nI_clamp (by omega), nI_1, h.2.1 j hlt, lN_add]
      exact ih (j + 1) (by omega) (by omega)
theorem totC {σ : St} {i n : Nat} {x : Nat → Nat} (h : flv σ i x n) : f_X0_totalAbove σ i = some (lN (sumTo x 4)) := by
  rw [f_X0_totalAbove]
  exact totC_l (k := fun (w7_0 : Int64) => some w7_0) h fu 0 (by omega) (by rw [fu_e]; omega)
/-- what no taste passes -/
def bd (x : Nat → Nat) (n : Nat) : Prop := ∀ t, t < 4 → x t ≤ 60 * 9 ^ n
theorem bd_0 {n : Nat} : bd (fun _ => 0) n := fun _ _ => Nat.zero_le _
theorem bd_take {k f n : Nat} {x : Nat → Nat} (h : bd x n) (hk : k < 8) (hf : f < 10) : bd (takeN k f n x) (n + 1) := by
  intro t ht
  have h1 := ownLe k hk f hf t ht
  have h2 := keepLe k hk
  have h3 := h t ht
  show ownN k f t * 9 ^ (n + 1) + keepN k * x t ≤ 60 * 9 ^ (n + 1)
  have e : 9 ^ (n + 1) = 9 * 9 ^ n := by rw [Nat.pow_succ, Nat.mul_comm]
  have h4 : ownN k f t * 9 ^ (n + 1) ≤ 20 * 9 ^ (n + 1) := Nat.mul_le_mul_right _ h1
  have h5 : keepN k * x t ≤ 6 * (60 * 9 ^ n) := Nat.mul_le_mul h2 h3
  rw [e] at h4 ⊢
  omega
theorem p9_le {n : Nat} (h : n ≤ 13) : 9 ^ n ≤ 2541865828329 := by
  have := Nat.pow_le_pow_right (n := 9) (by omega) h
  exact Nat.le_trans this (by decide)
theorem bd_sum {x : Nat → Nat} {n : Nat} (h : bd x n) (hn : n ≤ 13) : sumTo x 4 < 2 ^ 50 ∧ ∀ t, t < 4 → x t < 2 ^ 48 := by
  have q := p9_le hn
  have h0 := h 0 (by omega)
  have h1 := h 1 (by omega)
  have h2 := h 2 (by omega)
  have h3 := h 3 (by omega)
  refine ⟨?_, fun t ht => ?_⟩
  · simp only [sumTo]
    omega
  · have h4 := h t ht
    omega
