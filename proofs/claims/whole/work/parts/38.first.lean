/-! PLANS: rows of dishes, the pots in mind, first -/
def rowAt (σ : St) (d z : Nat) (el : Nat → Int32) : Prop := z ≤ 100 ∧ σ.1 (126 + 2 * d) 4 = nI z ∧ ∀ q, q < z → σ.1 (126 + 2 * d + 1) q = el q
theorem rowAt.fr {σ σ' : St} {d z : Nat} {el : Nat → Int32} {P : Nat → Prop} (h : rowAt σ d z el) (f : Fr P σ σ') (h1 : ¬ P (126 + 2 * d)) (h2 : ¬ P (126 + 2 * d + 1)) : rowAt σ' d z el := by
  obtain ⟨a, b, c⟩ := h
  refine ⟨a, ?_, fun q hq => ?_⟩
  · rw [(f _ h1).1]; exact b
  · rw [(f _ h2).1]; exact c q hq
theorem elOr {σ : St} {d z q : Nat} {el : Nat → Int32} {o : Int32} (h : rowAt σ d z el) (hd : d < 8) (hq : q < z) : f_X4_elementOr σ (126 + 2 * d) (nI q) o = some (el q) := by
  obtain ⟨a, b, c⟩ := h
  rw [f_X4_elementOr, chk_t (sh_ok d hd).1, bnd_o (hasElC hd a b), if_pos (inb_nI hq (by omega)), if_neg p0, chk_t (sh_ok d hd).2, chk_t (inb_nI (by omega) (by omega)), nI_clamp (by omega), c q hq]
theorem elOr_n {σ : St} {d z : Nat} {x : Int32} {el : Nat → Int32} {o : Int32} (h : rowAt σ d z el) (hd : d < 8) (hq : ¬ inb x z = true) : f_X4_elementOr σ (126 + 2 * d) x o = some o := by
  obtain ⟨a, b, c⟩ := h
  rw [f_X4_elementOr, chk_t (sh_ok d hd).1, bnd_o (hasElC hd a b), if_neg hq, if_pos rfl]
theorem dishAt {σ : St} {d z q : Nat} {el : Nat → Int32} (h : rowAt σ d z el) (hd : d < 8) (hq : q + 1 < z) : f_X4_hasDishAt σ (126 + 2 * d) (nI q) = some (hI (inb (el q) 8 && inb (el (q + 1)) 10)) := by
  rw [f_X4_hasDishAt, chk_t (sh_ok d hd).1, bnd_o (elOr h hd (by omega)), nI_1, noKind]
  cases e1 : inb (el q) 8 with
  | false => rfl
  | true =>
    rw [if_pos rfl, bnd_s, if_pos rfl, bnd_o (elOr h hd hq), noFigure]
    cases e2 : inb (el (q + 1)) 10 with
    | false => rfl
    | true => rfl
def lim (K1 bb k : Nat) : Nat := if bb - 1 - k % bb = 0 then 10 else if bb - 1 - k % bb = 1 then 8 else K1
def okB (K1 bb : Nat) (el : Nat → Int32) : Nat → Bool
  | 0 => true
  | k + 1 => okB K1 bb el k && inb (el k) (lim K1 bb k)
theorem okB_dn {K1 bb : Nat} {el : Nat → Int32} {i : Nat} (h : okB K1 bb el i = false) : ∀ j, i ≤ j → okB K1 bb el j = false := by
  intro j hj
  induction j with
  | zero => rw [show i = 0 by omega] at h; exact h
  | succ j ih =>
    by_cases e : i = j + 1
    · rw [← e]; exact h
    · rw [okB, ih (by omega), Bool.false_and]
theorem okB_at {K1 bb : Nat} {el : Nat → Int32} : ∀ {z : Nat}, okB K1 bb el z = true → ∀ k, k < z → inb (el k) (lim K1 bb k) = true := by
  intro z
  induction z with
  | zero => intro _ k hk; omega
  | succ z ih =>
    intro h k hk
    rw [okB, Bool.and_eq_true] at h
    by_cases e : k = z
    · rw [e]; exact h.2
    · exact ih h.1 k (by omega)
def rowMt (σ : St) (d z : Nat) (el : Nat → Int32) : Prop := z ≤ 100 ∧ σ.1 20 d = nI z ∧ ∀ q, q < z → σ.2 21 (100 * d + q) = (el q).toInt64
theorem rowMt.fr {σ σ' : St} {d z : Nat} {el : Nat → Int32} {P : Nat → Prop} (h : rowMt σ d z el) (f : Fr P σ σ') (h1 : ¬ P 20) (h2 : ¬ P 21) : rowMt σ' d z el := by
  obtain ⟨a, b, c⟩ := h
  refine ⟨a, ?_, fun q hq => ?_⟩
  · rw [(f _ h1).1]; exact b
  · rw [(f _ h2).2]; exact c q hq
theorem el0M {σ : St} {d z q : Nat} {el : Nat → Int32} (h : rowMt σ d z el) (hd : d < 8) (hq : q < z) : f_X6_element0 σ (nI d) (nI q) = some (el q) := by
  obtain ⟨a, b, c⟩ := h
  rw [f_X6_element0, n100, chk_t (inb_nI (by omega) (by omega)), nI_clamp (by omega), c q hq, Int32.toInt32_toInt64]
theorem placeN {bb k : Nat} (hb : bb = 2 ∨ bb = 3) (hk : k < 1000) : (nI bb - 1) - (nI k - nI k / nI bb * nI bb) = nI (bb - 1 - k % bb) := by
  rw [pk_rem (by omega) (by omega) (by omega), show (1 : Int32) = nI 1 from rfl, pk_sub (by omega)]
  have : k % bb < bb := Nat.mod_lt _ (by omega)
  rw [pk_sub (by omega)]
theorem wd_l {σ : St} {d z bb : Nat} {el : Nat → Int32} {K : Kv} {k9 : Int32 → Option Int32} (hM : KM 0 1 2 3 4 σ K) (h : rowMt σ d z el) (hd : d < 8) (hb : bb = 2 ∨ bb = 3) : ∀ (m k : Nat), k ≤ z → z < m + k → f_X6_wrongDishes_49 σ k9 m (nI d) (nI bb) (hI (okB K.1 bb el k)) (nI k) = k9 (hI (okB K.1 bb el z)) := by
  have h6 := hM.2.1
  obtain ⟨h1, h2, h3⟩ := h
  have hz : nz (nI bb) = true := by
    have := nI_ne0 (n := bb) (by omega) (by omega)
    simpa [nz] using this
  intro m
  induction m with
  | zero => intro k g1 g2; omega
  | succ m ih =>
    intro k g1 g2
    rw [f_X6_wrongDishes_49, chk_t (inb_nI hd (by omega)), nI_clamp (show d < 2 ^ 31 by omega), h2]
    by_cases hk : k = z
    · subst hk
      exact if_pos (nI_le (Nat.le_refl _) (by omega))
    · have hlt : k < z := by omega
      rw [if_neg (nI_ge hlt (by omega))]
      cases ho : okB K.1 bb el k with
      | false =>
        rw [hI_f, if_pos rfl, okB_dn ho z (by omega), hI_f]
      | true =>
        have q := ih (k + 1) (by omega) (by omega)
        rw [okB, ho, Bool.true_and] at q
        have hc : bb - 1 - k % bb = 0 ∨ bb - 1 - k % bb = 1 ∨ bb - 1 - k % bb = 2 := by omega
        rw [hI_t, if_neg p0, chk_t hz, nw_s, placeN hb (by omega), n100, chk_t (inb_nI (by omega) (by omega)), nI_clamp (show 100 * d + k < 2 ^ 31 by omega), h3 k hlt]
        rcases hc with e | e | e
        · have hl : lim K.1 bb k = 10 := if_pos e
          rw [hl] at q
          rw [e, if_pos (show nI 0 = 0 from rfl), f_X6_wrongDishes_118, bnd_o (inM (n := 10) rfl rfl), nw_s, nI_1]
          exact q
        · have hl : lim K.1 bb k = 8 := by rw [lim, if_neg (by omega), if_pos e]
          rw [hl] at q
          rw [e, if_neg (show ¬ nI 1 = 0 from p0), if_pos (show nI 1 = 1 from rfl), f_X6_wrongDishes_118, bnd_o (inM (n := 8) rfl rfl), nw_s, nI_1]
          exact q
        · have hl : lim K.1 bb k = K.1 := by rw [lim, if_neg (by omega), if_neg (by omega)]
          rw [hl] at q
          rw [e, if_neg (show ¬ nI 2 = 0 by decide), if_neg (show ¬ nI 2 = 1 by decide), f_X6_wrongDishes_118, hM.1, bnd_o (inCnt (by omega)), nw_s, nI_1]
          exact q
/-- a row of the kind that is asked for -/
def okRow (K1 bb many : Nat) (el : Nat → Int32) (z : Nat) : Prop := z % bb = 0 ∧ z ≤ bb * many ∧ okB K1 bb el z = true
theorem wdM {σ : St} {d z bb many : Nat} {el : Nat → Int32} {K : Kv} (hM : KM 0 1 2 3 4 σ K) (h : rowMt σ d z el) (hd : d < 8) (hb : bb = 2 ∨ bb = 3) (hm : many < 100) (hs : f_X6_wrongSort σ (nI d) 0 = some 0) : (okRow K.1 bb many el z ∧ f_X6_wrongDishes σ (nI d) (nI bb) (nI many) = some 0) ∨ (¬ okRow K.1 bb many el z ∧ f_X6_wrongDishes σ (nI d) (nI bb) (nI many) = some (-13)) := by
  have hz : nz (nI bb) = true := by
    have := nI_ne0 (n := bb) (by omega) (by omega)
    simpa [nz] using this
  have h1 := h.1
  have hbm : bb * many ≤ 3 * 100 := Nat.mul_le_mul (by omega) (by omega)
  have e1 := wd_l (k9 := fun (w28_0 : Int32) => f_X6_wrongDishes_129 σ w28_0) hM h hd hb fu 0 (by omega) (by rw [fu_e]; omega)
  rw [show hI (okB K.1 bb el 0) = 1 from rfl, show nI 0 = 0 from rfl] at e1
  have e0 : f_X6_wrongDishes_49 σ (fun (w28_0 : Int32) => f_X6_wrongDishes_129 σ w28_0) fu (nI d) (nI bb) 0 0 = some (-13) := by
    rw [fu_e, f_X6_wrongDishes_49, chk_t (inb_nI hd (by omega)), nI_clamp (show d < 2 ^ 31 by omega), h.2.1]
    by_cases q : z ≤ 0
    · rw [if_pos (show nI z ≤ 0 from nI_le (b := 0) q (by omega))]; rfl
    · rw [if_neg (show ¬ nI z ≤ 0 from nI_nle (by omega) (by omega)), if_pos rfl]; rfl
  rw [f_X6_wrongDishes, bnd_o hs, if_pos (by decide), chk_t (inb_nI hd (by omega)), nI_clamp (show d < 2 ^ 31 by omega), chk_t hz, h.2.1, pk_rem (by omega) (by omega) (by omega), pk_mul]
  by_cases a1 : z % bb = 0
  · rw [if_pos (show nI (z % bb) = 0 by rw [a1]; rfl)]
    by_cases a2 : z ≤ bb * many
    · rw [if_neg (nI_nlt a2 (by omega)), f_X6_wrongDishes_44, e1]
      cases a3 : okB K.1 bb el z with
      | true => exact Or.inl ⟨⟨a1, a2, a3⟩, rfl⟩
      | false => exact Or.inr ⟨fun q => absurd q.2.2 (by rw [a3]; decide), rfl⟩
    · rw [if_pos (nI_lt (by omega) (by omega)), f_X6_wrongDishes_43, f_X6_wrongDishes_44, e0]
      exact Or.inr ⟨fun q => a2 q.2.1, rfl⟩
  · have : z % bb < bb := Nat.mod_lt _ (by omega)
    rw [if_neg (nI_ne0 (by omega) (by omega)), f_X6_wrongDishes_43, f_X6_wrongDishes_44, e0]
    exact Or.inr ⟨fun q => a1 q.1, rfl⟩
theorem lim3 (K1 i : Nat) : lim K1 3 (3 * i) = K1 ∧ lim K1 3 (3 * i + 1) = 8 ∧ lim K1 3 (3 * i + 2) = 10 := by
  refine ⟨?_, ?_, ?_⟩
  · rw [lim, if_neg (by omega), if_neg (by omega)]
  · rw [lim, if_neg (by omega), if_pos (by omega)]
  · rw [lim, if_pos (by omega)]
theorem lim2 (K1 i : Nat) : lim K1 2 (2 * i) = 8 ∧ lim K1 2 (2 * i + 1) = 10 := by
  refine ⟨?_, ?_⟩
  · rw [lim, if_neg (by omega), if_pos (by omega)]
  · rw [lim, if_pos (by omega)]
theorem plan_l {σ : St} {d Z : Nat} {el : Nat → Int32} {K : Kv} (hC : KC 1 σ K) (h : rowAt σ d (3 * Z) el) (hd : d < 8) : ∀ (m i : Nat), i ≤ Z → Z < m + i → okB K.1 3 el (3 * i) = true → f_X5_isPlan_22 σ (some 0) (some 1) m (126 + 2 * d) (nI (3 * i)) = some (hI (okB K.1 3 el (3 * Z))) := by
  have h1 := h.1
  intro m
  induction m with
  | zero => intro i g1 g2; omega
  | succ m ih =>
    intro i g1 g2 g3
    rw [f_X5_isPlan_22, chk_t (sh_ok d hd).1, h.2.1]
    by_cases hi : i = Z
    · subst hi
      rw [if_pos (nI_le (Nat.le_refl _) (by omega)), g3]
      rfl
    · have hlt : i < Z := by omega
      obtain ⟨l0, l1, l2⟩ := lim3 K.1 i
      have es : okB K.1 3 el (3 * (i + 1)) = ((inb (el (3 * i)) K.1 && inb (el (3 * i + 1)) 8) && inb (el (3 * i + 2)) 10) := by
        show okB K.1 3 el (3 * i + 1 + 1 + 1) = _
        rw [okB, okB, okB, g3, l0, l1, show lim K.1 3 (3 * i + 1 + 1) = 10 from l2, Bool.true_and]
      rw [if_neg (nI_ge (by omega) (by omega)), bnd_o (elOr h hd (by omega)), bnd_o (show f_X1_has σ 1 (el (3 * i)) = some (hI (inb (el (3 * i)) K.1)) from hasC hC _)]
      cases e1 : inb (el (3 * i)) K.1 with
      | false =>
        rw [e1, Bool.false_and, Bool.false_and] at es
        rw [hI_f, if_pos rfl, okB_dn es (3 * Z) (by omega), hI_f]
      | true =>
        rw [hI_t, if_neg p0, nI_1, bnd_o (dishAt h hd (by omega))]
        rw [e1, Bool.true_and] at es
        cases e2 : (inb (el (3 * i + 1)) 8 && inb (el (3 * i + 1 + 1)) 10) with
        | false =>
          rw [e2] at es
          rw [hI_f, if_pos rfl, okB_dn es (3 * Z) (by omega), hI_f]
        | true =>
          rw [e2] at es
          rw [hI_t, if_neg p0, nw_s, show (3 : Int32) = nI 3 from rfl, nI_add]
          exact ih (i + 1) (by omega) (by omega) es
theorem planC {σ : St} {d z : Nat} {el : Nat → Int32} {K : Kv} (hC : KC 1 σ K) (h : rowAt σ d z el) (hd : d < 8) : (okRow K.1 3 8 el z ∧ f_X5_isPlan σ (126 + 2 * d) = some 1) ∨ (¬ okRow K.1 3 8 el z ∧ f_X5_isPlan σ (126 + 2 * d) = some 0) := by
  have h1 := h.1
  rw [f_X5_isPlan, chk_t (sh_ok d hd).1, h.2.1, show (3 : Int32) = nI 3 from rfl, pk_rem (by omega) (by omega) (by omega)]
  by_cases a1 : z % 3 = 0
  · rw [if_pos (show nI (z % 3) = 0 by rw [a1]; rfl)]
    by_cases a2 : z ≤ 24
    · obtain ⟨Z, rfl⟩ : ∃ Z, z = 3 * Z := ⟨z / 3, by omega⟩
      have e := plan_l hC h hd fu 0 (by omega) (by rw [fu_e]; omega) rfl
      rw [show nI (3 * 0) = 0 from rfl] at e
      rw [if_pos (show nI (3 * Z) ≤ 24 from nI_le (b := 24) a2 (by omega)), e]
      cases a3 : okB K.1 3 el (3 * Z) with
      | true => exact Or.inl ⟨⟨a1, a2, a3⟩, rfl⟩
      | false => exact Or.inr ⟨fun q => absurd q.2.2 (by rw [a3]; decide), rfl⟩
    · rw [if_neg (show ¬ nI z ≤ 24 from nI_ge (a := 24) (by omega) (by omega))]
      exact Or.inr ⟨fun q => a2 q.2.1, rfl⟩
  · rw [if_neg (nI_ne0 (by omega) (by omega))]
    exact Or.inr ⟨fun q => a1 q.1, rfl⟩
theorem rowd_l {σ : St} {d Z : Nat} {el : Nat → Int32} {K1 : Nat} (h : rowAt σ d (2 * Z) el) (hd : d < 8) : ∀ (m i : Nat), i ≤ Z → Z < m + i → okB K1 2 el (2 * i) = true → f_X5_isRowOfDishes_22 σ (some 0) (some 1) m (126 + 2 * d) (nI (2 * i)) = some (hI (okB K1 2 el (2 * Z))) := by
  have h1 := h.1
  intro m
  induction m with
  | zero => intro i g1 g2; omega
  | succ m ih =>
    intro i g1 g2 g3
    rw [f_X5_isRowOfDishes_22, chk_t (sh_ok d hd).1, h.2.1]
    by_cases hi : i = Z
    · subst hi
      rw [if_pos (nI_le (Nat.le_refl _) (by omega)), g3]
      rfl
    · have hlt : i < Z := by omega
      obtain ⟨l0, l1⟩ := lim2 K1 i
      have es : okB K1 2 el (2 * (i + 1)) = (inb (el (2 * i)) 8 && inb (el (2 * i + 1)) 10) := by
        show okB K1 2 el (2 * i + 1 + 1) = _
        rw [okB, okB, g3, l0, l1, Bool.true_and]
      rw [if_neg (nI_ge (by omega) (by omega)), bnd_o (dishAt h hd (by omega))]
      cases e2 : (inb (el (2 * i)) 8 && inb (el (2 * i + 1)) 10) with
      | false =>
        rw [e2] at es
        rw [hI_f, if_pos rfl, okB_dn es (2 * Z) (by omega), hI_f]
      | true =>
        rw [e2] at es
        rw [hI_t, if_neg p0, nw_s, show (2 : Int32) = nI 2 from rfl, nI_add]
        exact ih (i + 1) (by omega) (by omega) es
theorem rowdC {σ : St} {d z : Nat} {el : Nat → Int32} {K1 : Nat} (h : rowAt σ d z el) (hd : d < 8) : (okRow K1 2 5 el z ∧ f_X5_isRowOfDishes σ (126 + 2 * d) = some 1) ∨ (¬ okRow K1 2 5 el z ∧ f_X5_isRowOfDishes σ (126 + 2 * d) = some 0) := by
  have h1 := h.1
  rw [f_X5_isRowOfDishes, chk_t (sh_ok d hd).1, h.2.1, show (2 : Int32) = nI 2 from rfl, pk_rem (by omega) (by omega) (by omega)]
  by_cases a1 : z % 2 = 0
  · rw [if_pos (show nI (z % 2) = 0 by rw [a1]; rfl)]
    by_cases a2 : z ≤ 10
    · obtain ⟨Z, rfl⟩ : ∃ Z, z = 2 * Z := ⟨z / 2, by omega⟩
      have e := rowd_l (K1 := K1) h hd fu 0 (by omega) (by rw [fu_e]; omega) rfl
      rw [show nI (2 * 0) = 0 from rfl] at e
      rw [if_pos (show nI (2 * Z) ≤ 10 from nI_le (b := 10) a2 (by omega)), e]
      cases a3 : okB K1 2 el (2 * Z) with
      | true => exact Or.inl ⟨⟨a1, a2, a3⟩, rfl⟩
      | false => exact Or.inr ⟨fun q => absurd q.2.2 (by rw [a3]; decide), rfl⟩
    · rw [if_neg (show ¬ nI z ≤ 10 from nI_ge (a := 10) (by omega) (by omega))]
      exact Or.inr ⟨fun q => a2 q.2.1, rfl⟩
  · rw [if_neg (nI_ne0 (by omega) (by omega))]
    exact Or.inr ⟨fun q => a1 q.1, rfl⟩
/-- the pots in mind -/
def MD (σ : St) (K : Kv) (b p : Nat) : Prop := σ.1 97 2 = nI K.1 ∧ σ.1 97 3 = nI b ∧ σ.1 97 4 = nI p ∧ ∀ i, i < K.1 → flv σ (99 + 2 * i) (K.2.2.1 i) (K.2.1 i) ∧ bd (K.2.2.1 i) (K.2.1 i) ∧ K.2.1 i ≤ 12
theorem fl_mind : ∀ i, i < 6 → isFl (99 + 2 * i) := by
  intro i hi
  have : ∀ i, i < 6 → kOK SC (99 + 2 * i) 0 = true ∧ aOK SC (99 + 2 * i + 1) 21 4 = true := by decide +kernel
  exact this i hi
theorem fl_bef : ∀ i, i < 5 → isFl (112 + 2 * i) := by
  intro i hi
  have : ∀ i, i < 5 → kOK SC (112 + 2 * i) 0 = true ∧ aOK SC (112 + 2 * i + 1) 21 4 = true := by decide +kernel
  exact this i hi
theorem think_l {σ0 : St} {K : Kv} {k : St → Option St} (hC : KC 1 σ0 K) : ∀ (m j : Nat) (σ : St), j ≤ K.1 → K.1 < m + j → σ.1 97 2 = nI K.1 → Fr (fun a => 97 ≤ a ∧ a ≤ 110) σ0 σ → (∀ i, i < j → flv σ (99 + 2 * i) (K.2.2.1 i) (K.2.1 i)) → ∃ σ', f_X2_thinkOf_21 k m 1 (nI j) σ = k σ' ∧ σ'.1 97 = σ.1 97 ∧ Fr (fun a => 97 ≤ a ∧ a ≤ 110) σ0 σ' ∧ ∀ i, i < K.1 → flv σ' (99 + 2 * i) (K.2.2.1 i) (K.2.1 i) := by
  have h6 := hC.2.2.1
  intro m
  induction m with
  | zero => intro j σ h1 h2; omega
  | succ m ih =>
    intro j σ h1 h2 h3 h4 h5
    rw [f_X2_thinkOf_21, h3]
    by_cases hj : j = K.1
    · rw [if_pos (nI_le (by omega) (by omega))]
      exact ⟨σ, rfl, rfl, h4, fun i hi => h5 i (by omega)⟩
    · have hlt : j < K.1 := by omega
      have hC' := hC.fr h4 (fun a _ _ q => by omega)
      obtain ⟨p1, p2, p3, p4, p5⟩ := hC'.2.2.2 j hlt
      have hfl := fl_mind j (by omega)
      have f1 : Fr (fun a => a = 99 + 2 * j ∨ a = 99 + 2 * j + 1) σ (setF σ (99 + 2 * j) (σ.2 (pt 1 j + 1 + 1)) (σ.2 (pt 1 j + 1) 1) (σ.1 (pt 1 j + 1) 2)) := setF_fr
      obtain ⟨σ', g1, g2, g3, g4⟩ := ih (j + 1) (setF σ (99 + 2 * j) (σ.2 (pt 1 j + 1 + 1)) (σ.2 (pt 1 j + 1) 1) (σ.1 (pt 1 j + 1) 2)) (by omega) (by omega) (by rw [(f1 97 (by omega)).1]; exact h3) (Fr.tr h4 (f1.mono (fun a ha => by omega))) (fun i hi => by
        by_cases e : i = j
        · subst e
          exact setF_flv hfl (fun t ht => p2.2.1 t ht) p2.2.2.1 p2.2.2.2
        · exact (h5 i (by omega)).fr f1 (by omega) (by omega))
      refine ⟨σ', ?_, g2.trans (f1 97 (by omega)).1, g3, g4⟩
      rw [if_neg (nI_ge hlt (by omega)), chk_t (inb_nI (by omega) (by omega)), chk_t (kt_ok hC.1).1, chk_t (kt_ok hC.1).2, nI_clamp (show j < 2 ^ 31 by omega)]
      show chk (kOK SC (pt 1 j) 3) (chk (kOK SC (99 + 2 * j) 0) (bnd (f_X0_become σ (99 + 2 * j) (pt 1 j + 1)) fun r10 => nw (nI j + 1 : Int32) fun v112 => f_X2_thinkOf_21 k m 1 v112 r10)) = _
      rw [chk_t p1.1, chk_t hfl.1, bnd_o (becomeC hfl p1.2.1), nw_s, nI_1]
      exact g1
theorem thinkC {σ : St} {K : Kv} {b p : Nat} (hC : KC 1 σ K) : ∃ σ', f_X2_thinkOf σ 1 (nI b) (nI p) = some σ' ∧ MD σ' K b p ∧ Fr (fun a => 97 ≤ a ∧ a ≤ 110) σ σ' := by
  have f0 : Fr (fun a => 97 ≤ a ∧ a ≤ 110) σ (uI (uI (uI σ 97 2 (nI K.1)) 97 3 (nI b)) 97 4 (nI p)) := Fr.tr (Fr.tr (Fr.uI ⟨by omega, by omega⟩) (Fr.uI ⟨by omega, by omega⟩)) (Fr.uI ⟨by omega, by omega⟩)
  have h6 := hC.2.2.1
  obtain ⟨σ', g1, g2, g3, g4⟩ := think_l (k := fun (σ13 : St) => some σ13) hC fu 0 _ (by omega) (by rw [fu_e]; omega) (by rw [uI_n (Or.inr (by omega)), uI_n (Or.inr (by omega)), uI_i]) f0 (fun i hi => absurd hi (by omega))
  refine ⟨σ', ?_, ⟨?_, ?_, ?_, fun i hi => ⟨g4 i hi, (hC.2.2.2 i hi).2.2.2.1, (hC.2.2.2 i hi).2.2.1⟩⟩, g3⟩
  · rw [f_X2_thinkOf, chk_t (kt_ok hC.1).1, nw_s, nw_s, nw_s, hC.2.1]
    exact g1
  · rw [g2, uI_n (Or.inr (by omega)), uI_n (Or.inr (by omega)), uI_i]
  · rw [g2, uI_n (Or.inr (by omega)), uI_i]
  · rw [g2, uI_i]
/-- a dish more in pot i -/
def Kc (K : Kv) (i k f : Nat) : Kv := Kset K K.1 i (K.2.1 i + 1) (takeN k f (K.2.1 i) (K.2.2.1 i)) (up (K.2.2.2.1 i) (K.2.1 i) k) (up (K.2.2.2.2 i) (K.2.1 i) f)
theorem Kc_x {K : Kv} {i k f : Nat} : (Kc K i k f).2.2.1 i = takeN k f (K.2.1 i) (K.2.2.1 i) := setAt_i
theorem Kc_n {K : Kv} {i k f : Nat} : (Kc K i k f).2.1 i = K.2.1 i + 1 := setAt_i
theorem MD.set {σ σ' : St} {K : Kv} {b p i k f : Nat} (h : MD σ K b p) (hf : flv σ' (99 + 2 * i) (takeN k f (K.2.1 i) (K.2.2.1 i)) (K.2.1 i + 1)) (hb : bd (takeN k f (K.2.1 i) (K.2.2.1 i)) (K.2.1 i + 1)) (hn : K.2.1 i < 12) (fr : Fr (fun a => a = 99 + 2 * i ∨ a = 99 + 2 * i + 1) σ σ') : MD σ' (Kc K i k f) b p := by
  obtain ⟨h1, h2, h3, h4⟩ := h
  have e := (fr 97 (by omega)).1
  refine ⟨by rw [e]; exact h1, by rw [e]; exact h2, by rw [e]; exact h3, fun j hj => ?_⟩
  have hj' : j < K.1 := hj
  show flv σ' (99 + 2 * j) (setAt K.2.2.1 i _ j) (setAt K.2.1 i _ j) ∧ bd (setAt K.2.2.1 i _ j) (setAt K.2.1 i _ j) ∧ setAt K.2.1 i _ j ≤ 12
  by_cases q : j = i
  · subst q
    rw [setAt_i, setAt_i]
    exact ⟨hf, hb, by omega⟩
  · rw [setAt_n q, setAt_n q]
    obtain ⟨g1, g2, g3⟩ := h4 j hj'
    exact ⟨g1.fr fr (by omega) (by omega), g2, g3⟩
theorem stays_no {σ : St} {K : Kv} {b p i : Nat} {a : Nat} {x : Int32} (h : MD σ K b p) (hi : i < K.1) (h6 : K.1 ≤ 6) (hn : ¬ K.2.1 i < 12) : f_X2_staysGood σ (99 + 2 * i) a x = some (0, σ) := by
  obtain ⟨g1, g2, g3⟩ := h.2.2.2 i hi
  rw [f_X2_staysGood, chk_t g1.1.1, bnd_o (roomC g1 (by omega)), if_neg hn, if_pos rfl]
theorem stays {σ : St} {K : Kv} {b p i d z q k f : Nat} {el : Nat → Int32} (h : MD σ K b p) (hr : rowAt σ d z el) (hd : d < 8) (hi : i < K.1) (h6 : K.1 ≤ 6) (hn : K.2.1 i < 12) (hq : q + 1 < z) (e1 : el q = nI k) (e2 : el (q + 1) = nI f) (hk : k < 8) (hf : f < 10) (hb : b < 16) (hp : p ≤ 100) : ∃ σ', f_X2_staysGood σ (99 + 2 * i) (126 + 2 * d) (nI q) = some ((if hrN (takeN k f (K.2.1 i) (K.2.2.1 i)) b p = 0 then 1 else 0), σ') ∧ MD σ' (Kc K i k f) b p ∧ Fr (fun a => a = 99 + 2 * i ∨ a = 99 + 2 * i + 1) σ σ' := by
  obtain ⟨g1, g2, g3⟩ := h.2.2.2 i hi
  obtain ⟨σ', c1, c2, c3⟩ := takeC g1 hk hf
  have hb2 := bd_take g2 hk hf
  have hM := h.set c2 hb2 hn c3
  refine ⟨σ', ?_, hM, c3⟩
  rw [f_X2_staysGood, chk_t g1.1.1, bnd_o (roomC g1 (by omega)), if_pos hn, if_neg p0, chk_t (sh_ok d hd).1, bnd_o (elOr hr hd (by omega)), nI_1, bnd_o (elOr hr hd hq), e1, e2, bnd_o c1, hM.2.1, hM.2.2.1, bnd_o (hrC c2 hb2 (by omega) hb hp)]
  rcases hrN_01 (takeN k f (K.2.1 i) (K.2.2.1 i)) b p with e | e
  · rw [e]; rfl
  · rw [e]; rfl
/-- the reference's place for trials: open, close -/
def opS (σ : St) : St := cp4 (uI σ 0 12 (σ.1 0 0)) 1 2 3 4 9 10 11 12
def clS (σ : St) : St := cp4 (uI σ 0 0 (σ.1 0 12)) 9 10 11 12 1 2 3 4
theorem opS_fr {σ : St} : Fr (fun a => a = 0 ∨ (9 ≤ a ∧ a ≤ 12)) σ (opS σ) := Fr.tr (Fr.uI (Or.inl rfl)) (cp4_fr.mono (fun a ha => by omega))
theorem opS_0 {σ : St} {s : Nat} (h : s ≠ 12) : (opS σ).1 0 s = σ.1 0 s := by
  unfold opS
  rw [cp4_0 ⟨by omega, by omega, by omega, by omega⟩, uI_n (Or.inr h)]
theorem opS_KM {σ : St} {K : Kv} (h : KM 0 1 2 3 4 σ K) : KM 0 1 2 3 4 (opS σ) K := by
  obtain ⟨h1, h2, h3⟩ := h
  refine ⟨by rw [opS_0 (by omega)]; exact h1, h2, fun j hj => (h3 j hj).fr opS_fr ⟨by omega, by omega, by omega, by omega⟩⟩
theorem cp4_1 {σ : St} {t m k g t' m' k' g' b : Nat} (hb : b < 28) : (cp4 σ t m k g t' m' k' g').2 t' b = σ.2 t b := by
  unfold cp4
  rw [wI_2, wI_2, wI_2]
  have := wL_i (σ := σ) (i := t') (o := 0) (j := 28) (b := b) (f := σ.2 t) hb
  rw [Nat.zero_add] at this
  exact this
theorem wI_i0 {σ : St} {i j b : Nat} {f : Nat → Int32} (h : b < j) : (wI σ i 0 j f).1 i b = f b := by
  have := wI_i (σ := σ) (i := i) (o := 0) (f := f) h
  rw [Nat.zero_add] at this
  exact this
theorem cp4_2 {σ : St} {t m k g t' m' k' g' b : Nat} (hb : b < 7) (h1 : m' ≠ k') (h2 : m' ≠ g') : (cp4 σ t m k g t' m' k' g').1 m' b = σ.1 m b := by
  unfold cp4
  rw [wI_n (Or.inl h2), wI_n (Or.inl h1), wI_i0 hb]
theorem cp4_3 {σ : St} {t m k g t' m' k' g' b : Nat} (hb : b < 84) (h2 : k' ≠ g') : (cp4 σ t m k g t' m' k' g').1 k' b = σ.1 k b := by
  unfold cp4
  rw [wI_n (Or.inl h2), wI_i0 hb]
theorem cp4_4 {σ : St} {t m k g t' m' k' g' b : Nat} (hb : b < 84) : (cp4 σ t m k g t' m' k' g').1 g' b = σ.1 g b := by
  unfold cp4
  rw [wI_i0 hb]
theorem ocM {σ σ2 : St} (h : Fr (fun a => 1 ≤ a ∧ a ≤ 4) (opS σ) σ2) : MK σ (clS σ2) := by
  have u : ∀ a, a ≠ 0 → (uI σ2 0 0 (σ2.1 0 12)).1 a = σ2.1 a := fun a ha => funext fun b => uI_n (Or.inl ha)
  have u0 : ∀ a, a ≠ 0 → (uI σ 0 12 (σ.1 0 0)).1 a = σ.1 a := fun a ha => funext fun b => uI_n (Or.inl ha)
  refine ⟨fun b hb => ?_, fun b hb => ?_, fun b hb => ⟨?_, ?_⟩, fun a ha => ⟨?_, ?_⟩, ?_, ?_, ?_⟩
  · unfold clS
    rw [cp4_1 (by omega)]
    show σ2.2 9 b = _
    rw [(h 9 (by omega)).2]
    unfold opS
    rw [cp4_1 (by omega)]
    rfl
  · unfold clS
    rw [cp4_2 (by omega) (by omega) (by omega), u 10 (by omega), (h 10 (by omega)).1]
    unfold opS
    rw [cp4_2 (by omega) (by omega) (by omega), u0 2 (by omega)]
  · unfold clS
    rw [cp4_3 (by omega) (by omega), u 11 (by omega), (h 11 (by omega)).1]
    unfold opS
    rw [cp4_3 (by omega) (by omega), u0 3 (by omega)]
  · unfold clS
    rw [cp4_4 (by omega), u 12 (by omega), (h 12 (by omega)).1]
    unfold opS
    rw [cp4_4 (by omega), u0 4 (by omega)]
  · unfold clS
    rw [(cp4_fr a (by omega)).1, u a (by omega), (h a (by omega)).1, (opS_fr a (by omega)).1]
  · unfold clS
    rw [(cp4_fr a (by omega)).2]
    show σ2.2 a = _
    rw [(h a (by omega)).2, (opS_fr a (by omega)).2]
  · unfold clS
    rw [cp4_0 ⟨by omega, by omega, by omega, by omega⟩, uI_i, (h 0 (by omega)).1]
    unfold opS
    rw [cp4_0 ⟨by omega, by omega, by omega, by omega⟩, uI_i]
  · unfold clS
    rw [cp4_0 ⟨by omega, by omega, by omega, by omega⟩, uI_n (Or.inr (by omega)), (h 0 (by omega)).1, opS_0 (by omega)]
  · unfold clS
    rw [cp4_0 ⟨by omega, by omega, by omega, by omega⟩, uI_n (Or.inr (by omega)), (h 0 (by omega)).1, opS_0 (by omega)]
theorem openM' {σ : St} : f_X6_open σ = some (opS σ) := openM
theorem closeM' {σ : St} : f_X6_close σ = some (clS σ) := closeM
theorem harmK {σ : St} {K : Kv} {i b p : Nat} (h : KM 0 1 2 3 4 σ K) (hi : i < K.1) (hbd : bd (K.2.2.1 i) (K.2.1 i)) (hb : b < 16) (hp : p ≤ 100) : f_X6_doesHarm σ (nI i) (nI b) (nI p) = some (nI (hrN (K.2.2.1 i) b p)) := hrM (h.flm hi) hbd (by have := (h.2.2 i hi).2.2.1; omega) hb hp
theorem scr_m {a : Nat} (h : 97 ≤ a ∧ a ≤ 121) : scr a := Or.inr (by omega)
theorem first_l {K : Kv} {d Z b p : Nat} {el : Nat → Int32} {km : Int32 → St → Option (Int32 × St)} (h6 : K.1 ≤ 6) (hd : d < 8) (hZ : Z ≤ 8) (hb : b < 16) (hp : p ≤ 100) (hok : okB K.1 3 el (3 * Z) = true) : ∀ (m i : Nat) (Kx : Kv) (σc σm : St), i ≤ Z → Z < m + i → Kx.1 = K.1 → MD σc Kx b p → KM 0 1 2 3 4 σm Kx → rowAt σc d (3 * Z) el → rowMt σm d (3 * Z) el → ∃ (r : Int32) (σc' σm' : St), f_X2_firstHarm_2 (fun (w12_0 : Int32) (σ13 : St) => some (w12_0 / 3, σ13)) (fun  (σ14 : St) => some ((-4), σ14)) m (126 + 2 * d) (nI (3 * i)) σc = some (r, σc') ∧ f_X6_first_46 km m (nI d) (nI b) (nI p) (-4) (nI i) σm = km r σm' ∧ Fr (fun a => 97 ≤ a ∧ a ≤ 121) σc σc' ∧ Fr (fun a => 1 ≤ a ∧ a ≤ 4) σm σm' := by
  intro m
  induction m with
  | zero => intro i Kx σc σm h1 h2; omega
  | succ m ih =>
    intro i Kx σc σm h1 h2 hK1 hD hM hr hrm
    rw [f_X2_firstHarm_2, chk_t (sh_ok d hd).1, hr.2.1, show (2 : Int32) = nI 2 from rfl, nI_add, f_X6_first_46, chk_t (inb_nI hd (by omega)), nI_clamp (show d < 2 ^ 31 by omega), hrm.2.1, show (3 : Int32) = nI 3 from rfl, pk_div (a := 3 * i) (d := 3) (by omega) (by omega) (by omega), show 3 * i / 3 = i by omega, pk_div (a := 3 * Z) (d := 3) (by omega) (by omega) (by omega), show 3 * Z / 3 = Z by omega]
    by_cases hi : i = Z
    · rw [if_pos (nI_le (by omega) (by omega)), if_pos (nI_le (by omega) (by omega))]
      exact ⟨_, _, _, rfl, rfl, Fr.rf, Fr.rf⟩
    · have hlt : i < Z := by omega
      obtain ⟨l0, l1, l2⟩ := lim3 K.1 i
      have o0 := okB_at hok (3 * i) (by omega)
      have o1 := okB_at hok (3 * i + 1) (by omega)
      have o2 := okB_at hok (3 * i + 2) (by omega)
      rw [l0] at o0
      rw [l1] at o1
      rw [l2] at o2
      obtain ⟨j, hj, e0⟩ := inb_not o0
      obtain ⟨k, hk, e1⟩ := inb_not o1
      obtain ⟨f, hf, e2⟩ := inb_not o2
      have e0 := e0 (by omega)
      have e1 := e1 (by omega)
      have e2 := e2 (by omega)
      obtain ⟨g1, g2, g3⟩ := hD.2.2.2 j (by omega)
      have hneg : ¬ (0 : Int32) ≤ -4 := by decide
      rw [if_neg (nI_ge (by omega) (by omega)), if_neg (nI_ge hlt (by omega)), if_neg hneg, chk_t (sh_ok d hd).2, chk_t (inb_nI (by omega) (by omega)), nw_s, nI_clamp (show 3 * i < 2 ^ 31 by omega), hr.2.2 (3 * i) (by omega), e0, if_neg (nI_pos (by omega)), hD.1, if_neg (nI_ge (by omega) (by omega)), chk_t (inb_nI (by omega) (by omega)), nI_clamp (show j < 2 ^ 31 by omega), nI_1]
      rw [show (2 : Int32) = nI 2 from rfl, pk_mul, nI_1, nI_add (3 * i) 2, bnd_o (el0M (q := 3 * i) hrm hd (by omega)), bnd_o (el0M (q := 3 * i + 1) hrm hd (by omega)), bnd_o (el0M (q := 3 * i + 2) hrm hd (by omega)), e0, e1, e2]
      have stop : ∀ (σ3 : St), rowMt σ3 d (3 * Z) el → f_X6_first_46 km m (nI d) (nI b) (nI p) (nI i) (nI (i + 1)) σ3 = km (nI i) σ3 := by
        intro σ3 hr3
        obtain ⟨m2, rfl⟩ : ∃ m2, m = m2 + 1 := ⟨m - 1, by omega⟩
        rw [f_X6_first_46, chk_t (inb_nI hd (by omega)), nI_clamp (show d < 2 ^ 31 by omega), hr3.2.1, show (3 : Int32) = nI 3 from rfl, pk_div (by omega) (by omega) (by omega), show 3 * Z / 3 = Z by omega]
        by_cases q : Z ≤ i + 1
        · rw [if_pos (nI_le q (by omega))]
        · rw [if_neg (nI_ge (by omega) (by omega)), if_pos (nI_pos' (by omega))]
      by_cases hn : Kx.2.1 j < 12
      · obtain ⟨σ1, c1, c2, c3⟩ := stays (q := 3 * i + 1) hD hr hd (by omega) (by omega) hn (by omega) e1 e2 hk hf hb hp
        obtain ⟨σ2, m1, m2, m3, m4⟩ := cookM hM (show j < Kx.1 by omega) hk hf hn
        have m2' : KM 0 1 2 3 4 σ2 (Kc Kx j k f) := m2
        have hh := harmK (i := j) m2' (show j < Kx.1 by omega) (by rw [Kc_x, Kc_n]; exact bd_take g2 hk hf) hb hp
        rw [Kc_x] at hh
        rw [bnd_o c1, bnd_o m1, if_neg p0, bnd_o hh]
        rcases hrN_01 (takeN k f (Kx.2.1 j) (Kx.2.2.1 j)) b p with e | e
        · rw [e, if_pos (show nI 0 = 0 from rfl), f_X6_first_122, if_neg p0, f_X6_first_136, nw_s, nI_1]
          obtain ⟨r, σ3, σ4, q1, q2, q3, q4⟩ := ih (i + 1) (Kc Kx j k f) σ1 σ2 (by omega) (by omega) hK1 c2 m2' (hr.fr c3 (by omega) (by omega)) (hrm.fr m4 (by omega) (by omega))
          refine ⟨r, σ3, σ4, ?_, q2, Fr.tr (c3.mono (fun a ha => by omega)) q3, Fr.tr m4 q4⟩
          rw [if_pos rfl]
          show (if (1 : Int32) = 0 then _ else nw (nI (3 * i) + nI 3) fun v111 => f_X2_firstHarm_2 _ _ m (126 + 2 * d) v111 σ1) = _
          rw [if_neg p0, nw_s, nI_add]
          exact q1
        · rw [e, if_neg (show ¬ nI 1 = 0 from p0), f_X6_first_121, f_X6_first_122, if_pos rfl, f_X6_first_136]
          refine ⟨nI i, σ1, σ2, ?_, ?_, c3.mono (fun a ha => by omega), m4⟩
          · rfl
          · rw [nw_s, nI_1]
            exact stop σ2 (hrm.fr m4 (by omega) (by omega))
      · rw [bnd_o (stays_no hD (by omega) (by omega) hn), bnd_o (cookM_no hM (by omega) hn), if_pos rfl, if_pos rfl, f_X6_first_121, f_X6_first_122, if_pos rfl, f_X6_first_136, nw_s, nI_1, stop σm hrm]
        exact ⟨nI i, σc, σm, rfl, rfl, Fr.rf, Fr.rf⟩
theorem sim_first {σc σm : St} (h : RR σc σm) (x y z : Int32) : ∃ (r : Int32) (σc' σm' : St), f_X5_first σc x y z = some (r, σc') ∧ f_X6_first σm x y z = some (r, σm') ∧ RR σc' σm' := by
  have h5 := h.u5 (v := 0)
  obtain ⟨K, K2, hC, hM, -⟩ := id h
  have hM5 := hM.u5 (v := 0)
  have h6 := hC.2.2.1
  have n13 : ¬ (0 : Int32) ≤ -13 := by decide
  have n1 : ¬ (0 : Int32) ≤ -1 := by decide
  rw [f_X6_first, nw_s, f_X5_first]
  rcases inb_or y (show 16 < 2 ^ 31 by omega) with ⟨b, hb, rfl⟩ | hn
  · rcases inb_or z (show 101 < 2 ^ 31 by omega) with ⟨p, hp, rfl⟩ | hn
    · rw [bnd_o (noBans_y hb), if_pos rfl, bnd_o (noPercent_y hp), if_pos rfl, bnd_o (lineM hb hp), if_neg p0]
      rcases inb_or x (show 8 < 2 ^ 31 by omega) with ⟨d, hd, rfl⟩ | hn
      · rcases bytesRef hd (h5.shelf hd) with ⟨r, hr, e1, e2⟩ | ⟨e1, e2, z, hz⟩
        · have hneg : ¬ (0 : Int32) ≤ r := by rcases hr with rfl | rfl <;> decide
          have e3 : f_X6_wrongDishes (uI σm 0 5 0) (nI d) 3 8 = some r := by rw [f_X6_wrongDishes, bnd_o e2, if_neg hneg]
          rw [bnd_o e1, bnd_o e3, if_neg (by rcases hr with rfl | rfl <;> decide), f_X6_first_25, if_neg hneg]
          exact ⟨_, _, _, rfl, rfl, h5⟩
        · obtain ⟨q1, q2, q3, q4, q5, q6, q7⟩ := id hz
          have hrc : rowAt σc d z (fun q => σc.1 (126 + 2 * d + 1) q) := ⟨q2, q4, fun q _ => rfl⟩
          have hrm : rowMt (uI σm 0 5 0) d z (fun q => σc.1 (126 + 2 * d + 1) q) := ⟨q2, q6, fun q hq => (q7 q (by omega)).1⟩
          rw [bnd_o e1, if_pos rfl, chk_t (inb_nI hd (by omega)), nw_s, nI_clamp (show d < 2 ^ 31 by omega)]
          rcases planC hC hrc hd with ⟨ok, e3⟩ | ⟨ok, e3⟩
          · rcases wdM (many := 8) hM5 hrm hd (Or.inr rfl) (by omega) e2 with ⟨-, e4⟩ | ⟨no, e4⟩
            · obtain ⟨σ1, t1, t2, t3⟩ := thinkC (b := b) (p := p) hC
              obtain ⟨ok1, ok2, ok3⟩ := ok
              obtain ⟨Z, hZ⟩ : ∃ Z, z = 3 * Z := ⟨z / 3, by omega⟩
              rw [hZ] at hrc hrm ok3 ok2
              obtain ⟨r, σ2, σ3, g1, g2, g3, g4⟩ := first_l (km := fun (w37_0 : Int32) (σ38 : St) => f_X6_first_144 w37_0 σ38) h6 hd (show Z ≤ 8 by omega) hb (show p ≤ 100 by omega) ok3 fu 0 K σ1 (opS (uI σm 0 5 0)) (by omega) (by rw [fu_e]; omega) rfl t2 (opS_KM hM5) (hrc.fr t3 (by omega) (by omega)) (hrm.fr opS_fr (by omega) (by omega))
              rw [show nI (3 * 0) = 0 from rfl] at g1
              rw [show nI 0 = 0 from rfl] at g2
              have e4' : f_X6_wrongDishes (uI σm 0 5 0) (nI d) 3 8 = some 0 := e4
              rw [bnd_o e3, if_neg p0, bnd_o t1, f_X2_firstHarm, bnd_o g1, bnd_o e4', f_X6_first_25, if_pos (by decide), bnd_o openM', nw_s, g2, f_X6_first_144, bnd_o closeM']
              refine ⟨_, _, _, rfl, rfl, h5.keep ?_ (ocM g4)⟩
              exact (Fr.tr (t3.mono (fun a ha => scr_m (by omega))) (g3.mono (fun a ha => scr_m ha)))
            · exact absurd ok no
          · rcases wdM (many := 8) hM5 hrm hd (Or.inr rfl) (by omega) e2 with ⟨yes, e4⟩ | ⟨-, e4⟩
            · exact absurd yes ok
            · have e4' : f_X6_wrongDishes (uI σm 0 5 0) (nI d) 3 8 = some (-13) := e4
              rw [bnd_o e3, if_pos rfl, bnd_o e4', f_X6_first_25, if_neg n13]
              exact ⟨_, _, _, rfl, rfl, h5⟩
      · have e3 : f_X6_wrongDishes (uI σm 0 5 0) x 3 8 = some (-1) := by rw [f_X6_wrongDishes, bnd_o (bytesRef_n (σc := σc) hn).2, if_neg n1]
        rw [bnd_o (bytesRef_n (σm := σm) hn).1, if_neg (by decide), bnd_o e3, f_X6_first_25, if_neg n1]
        exact ⟨_, _, _, rfl, rfl, h5⟩
    · rw [bnd_o (noBans_y hb), if_pos rfl, bnd_o (noPercent_n hn), if_neg p0, bnd_o (lineM_p hb hn), if_pos rfl, f_X6_first_25, if_neg n1]
      exact ⟨_, _, _, rfl, rfl, h5⟩
  · rw [bnd_o (noBans_n hn), if_neg p0, bnd_o (lineM_b hn), if_pos rfl, f_X6_first_25, if_neg n1]
    exact ⟨_, _, _, rfl, rfl, h5⟩
