/-! COUNTS, AND THE JUDGE -/
theorem ne4 {a : Nat} (h : a < 2 ^ 31) (e : ¬ a = 4) : ¬ nI a = 4 := fun q => e ((nI_eq (b := 4) h (by omega)).mp q)
def accN (f : Nat → Nat) : Nat → Nat
  | 0 => 0
  | j + 1 => accN f j + f j
theorem accN_le {f : Nat → Nat} {b : Nat} (h : ∀ i, f i ≤ b) : ∀ j, accN f j ≤ b * j := by
  intro j
  induction j with
  | zero => exact Nat.le_refl _
  | succ j ih =>
    have := h j
    rw [accN, Nat.mul_succ]
    omega
def isK (kd : Nat → Nat) (d : Nat) : Nat := if kd d = 4 then 1 else 0
def bareN (K : Kv) (i : Nat) : Nat := if sumTo (K.2.2.1 i) 4 = 0 then 1 else 0
def scourN (K : Kv) (i : Nat) : Nat := accN (isK (K.2.2.2.1 i)) (K.2.1 i)
theorem howC_l {σ : St} {i n : Nat} {x kd fg : Nat → Nat} {k : Int32 → Option Int32} (h : potC σ i n x kd fg) : ∀ (m j : Nat), j ≤ n → n < m + j → f_X3_howManyOf_4 σ k m i 4 (nI (accN (isK kd) j)) (nI j) = k (nI (accN (isK kd) n)) := by
  have hn := h.2.2.1
  intro m
  induction m with
  | zero => intro j h1 h2; omega
  | succ m ih =>
    intro j h1 h2
    rw [f_X3_howManyOf_4, chk_t h.1.1, chk_t h.1.2.1.1, h.2.1.2.2.2]
    by_cases hj : j = n
    · subst hj
      exact if_pos (nI_le (Nat.le_refl _) (by omega))
    · have hlt : j < n := by omega
      have hk := (h.2.2.2.2 j hlt)
      have q := ih (j + 1) (by omega) (by omega)
      rw [if_neg (nI_ge hlt (by omega)), chk_t h.1.2.2.1, chk_t (inb_nI (by omega) (by omega)), nI_clamp (by omega), hk.2.2.1]
      by_cases e : kd j = 4
      · rw [if_pos (by rw [e]; rfl), f_X3_howManyOf_31, nw_s, nw_s, nI_1, nI_1]
        rw [accN, isK, if_pos e] at q
        exact q
      · rw [if_neg (ne4 (by omega) e), f_X3_howManyOf_31, nw_s, nw_s, nI_1, show (0 : Int32) = nI 0 from rfl, nI_add]
        rw [accN, isK, if_neg e] at q
        exact q
theorem howC {σ : St} {i n : Nat} {x kd fg : Nat → Nat} (h : potC σ i n x kd fg) : f_X3_howManyOf σ i 4 = some (nI (accN (isK kd) n)) := by
  rw [f_X3_howManyOf]
  exact howC_l (k := fun (w17_0 : Int32) => some w17_0) h fu 0 (by omega) (by have := h.2.2.1; rw [fu_e]; omega)
def itemN (K : Kv) (w i : Nat) : Nat := if w = 1 then K.2.1 i else if w = 2 then bareN K i else scourN K i
theorem countC_l {σ : St} {w : Nat} {K : Kv} {k : Int32 → Option Int32} (h : KC 1 σ K) (hw : 1 ≤ w ∧ w ≤ 3) : ∀ (m j : Nat), j ≤ K.1 → K.1 < m + j → f_X5_count_27 σ k m (nI w) (nI (accN (itemN K w) j)) (nI j) = k (nI (accN (itemN K w) K.1)) := by
  have h6 := h.2.2.1
  intro m
  induction m with
  | zero => intro j h1 h2; omega
  | succ m ih =>
    intro j h1 h2
    rw [f_X5_count_27, h.2.1]
    by_cases hj : j = K.1
    · rw [hj]
      exact if_pos (nI_le (Nat.le_refl _) (by omega))
    · have hlt : j < K.1 := by omega
      have hp := h.2.2.2 j hlt
      obtain ⟨p1, p2, p3, p4, p5⟩ := id hp
      have q := ih (j + 1) (by omega) (by omega)
      rw [if_neg (nI_ge hlt (by omega)), chk_t (inb_nI (by omega) (by omega)), nw_s, nI_clamp (show j < 2 ^ 31 by omega), pt1]
      have hc : w = 1 ∨ w = 2 ∨ w = 3 := by omega
      rcases hc with rfl | rfl | rfl
      · rw [if_pos (show nI 1 = 1 from rfl), chk_t p1.1, chk_t p1.2.1.1, nw_s, f_X5_count_106, nw_s, p2.2.2.2, nI_1, nI_add]
        exact q
      · rw [if_neg (show ¬ nI 2 = 1 by decide), if_pos (show nI 2 = 2 from rfl), chk_t p1.1, chk_t p1.2.1.1, bnd_o (totC p2)]
        have hs := (bd_sum p4 (by omega)).1
        by_cases e : sumTo (K.2.2.1 j) 4 = 0
        · rw [if_pos (by rw [lg_cmp_eq, e]; rfl), f_X5_count_92, nw_s, f_X5_count_106, nw_s, nI_1, nI_1]
          have e2 : itemN K 2 j = 1 := if_pos e
          rw [accN, e2] at q
          exact q
        · rw [if_neg (by rw [lg_cmp_eq, lN0, pk_lEQ (by omega) (by omega)]; exact e), f_X5_count_92, nw_s, f_X5_count_106, nw_s, nI_1, show (0 : Int32) = nI 0 from rfl, nI_add]
          have e2 : itemN K 2 j = 0 := if_neg e
          rw [accN, e2] at q
          exact q
      · rw [if_neg (show ¬ nI 3 = 1 by decide), if_neg (show ¬ nI 3 = 2 by decide), chk_t p1.1, bnd_o (howC hp), nw_s, f_X5_count_106, nw_s, nI_1, nI_add]
        exact q
theorem countM_2 {σ : St} {j n s : Nat} {x kd fg : Nat → Nat} {v1 v2 v3 : Int32} {k : Int32 → Int32 → Int32 → Int32 → Int32 → St → Option (Int32 × St)} (hj : j < 6) (h : pm 1 2 3 4 σ j n x kd fg) (hk : ∀ d, d < n → kd d < 8) : ∀ (m i : Nat), i ≤ n → n < m + i → f_X6_count_56 k m v1 v2 v3 (nI (s + accN (isK kd) i)) (nI j) (nI i) σ = k v1 v2 v3 (nI (s + accN (isK kd) n)) (nI j) σ := by
  obtain ⟨h1, h2, h3, h4⟩ := h
  intro m
  induction m with
  | zero => intro i g1 g2; omega
  | succ m ih =>
    intro i g1 g2
    rw [f_X6_count_56, chk_t (inb_nI (by omega) (by omega)), nI_clamp (show j < 2 ^ 31 by omega), h2]
    by_cases hi : i = n
    · subst hi
      exact if_pos (nI_le (Nat.le_refl _) (by omega))
    · have hlt : i < n := by omega
      have hkd := hk i hlt
      have q := ih (i + 1) (by omega) (by omega)
      rw [if_neg (nI_ge hlt (by omega)), n12, chk_t (inb_nI (by omega) (by omega)), nI_clamp (by omega), (h4 i hlt).1]
      by_cases e : kd i = 4
      · rw [if_pos (by rw [e]; rfl), f_X6_count_92, nw_s, nw_s, nI_1, nI_1]
        rw [accN, isK, if_pos e, ← Nat.add_assoc] at q
        exact q
      · rw [if_neg (ne4 (by omega) e), f_X6_count_92, nw_s, nw_s, nI_1, show (0 : Int32) = nI 0 from rfl, nI_add]
        rw [accN, isK, if_neg e, ← Nat.add_assoc] at q
        exact q
theorem countM_l {σ : St} {x : Int32} {K : Kv} {k : Int32 → Int32 → Int32 → Int32 → St → Option (Int32 × St)} (h : KM 0 1 2 3 4 σ K) (hk : ∀ i, i < K.1 → bd (K.2.2.1 i) (K.2.1 i) ∧ ∀ d, d < K.2.1 i → K.2.2.2.1 i d < 8) : ∀ (m j : Nat), j ≤ K.1 → K.1 < m + j → f_X6_count_15 k m x (nI (accN (itemN K 1) j)) (nI (accN (itemN K 2) j)) (nI (accN (itemN K 3) j)) (nI j) σ = k x (nI (accN (itemN K 1) K.1)) (nI (accN (itemN K 2) K.1)) (nI (accN (itemN K 3) K.1)) σ := by
  have h6 := h.2.1
  intro m
  induction m with
  | zero => intro j h1 h2; omega
  | succ m ih =>
    intro j h1 h2
    rw [f_X6_count_15, h.1]
    by_cases hj : j = K.1
    · rw [hj]
      exact if_pos (nI_le (Nat.le_refl _) (by omega))
    · have hlt : j < K.1 := by omega
      have hp := h.2.2 j hlt
      obtain ⟨hb, hkd⟩ := hk j hlt
      have h12 := hp.2.2.1
      have q := ih (j + 1) (by omega) (by omega)
      have hs := (bd_sum hb (by omega)).1
      rw [if_neg (nI_ge hlt (by omega)), chk_t (inb_nI (by omega) (by omega)), nw_s, nI_clamp (show j < 2 ^ 31 by omega), hp.2.1, bnd_o (totM (h.flm hlt)), nI_add]
      have c2 := fun (v1 v2 v3 : Int32) (k : Int32 → Int32 → Int32 → Int32 → Int32 → St → Option (Int32 × St)) => countM_2 (v1 := v1) (v2 := v2) (v3 := v3) (k := k) (s := accN (itemN K 3) j) (by omega) hp hkd fu 0 (by omega) (by rw [fu_e]; omega)
      by_cases e : sumTo (K.2.2.1 j) 4 = 0
      · have e2 : itemN K 2 j = 1 := if_pos e
        have q9 := q
        rw [accN, accN, accN, e2] at q9
        rw [if_pos (by rw [lg_cmp_eq, e]; rfl), f_X6_count_51, nw_s, nI_1, show (0 : Int32) = nI 0 from rfl, show nI (accN (itemN K 3) j) = nI (accN (itemN K 3) j + accN (isK (K.2.2.2.1 j)) 0) from rfl, c2, nw_s, nI_1]
        exact q9
      · have e2 : itemN K 2 j = 0 := if_neg e
        have q9 := q
        rw [accN, accN, accN, e2] at q9
        rw [if_neg (by rw [lg_cmp_eq, lN0, pk_lEQ (by omega) (by omega)]; exact e), f_X6_count_51, nw_s, show (0 : Int32) = nI 0 from rfl, nI_add, show nI (accN (itemN K 3) j) = nI (accN (itemN K 3) j + accN (isK (K.2.2.2.1 j)) 0) from rfl, c2, nw_s, nI_1]
        exact q9
theorem sim_count {σc σm : St} (h : RR σc σm) (x : Int32) : ∃ (r : Int32) (σm' : St), f_X5_count σc x = some r ∧ f_X6_count σm x = some (r, σm') ∧ RR σc σm' := by
  have h5 := h.u5 (v := 0)
  obtain ⟨K, K2, hC, hM, -⟩ := id h
  have hM5 := hM.u5 (v := 0)
  have h6 := hC.2.2.1
  have em := countM_l (x := x) (k := fun (w47_0 : Int32) (w48_1 : Int32) (w49_2 : Int32) (w50_3 : Int32) (σ51 : St) => (if w47_0 = 0 then some (σ51.1 0 0, σ51) else (if w47_0 = 1 then some (w48_1, σ51) else (if w47_0 = 2 then some (w49_2, σ51) else (if w47_0 = 3 then some (w50_3, σ51) else some ((-1), σ51)))))) hM5 (fun i hi => ⟨(hC.2.2.2 i hi).2.2.2.1, fun d hd => ((hC.2.2.2 i hi).2.2.2.2 d hd).1⟩) fu 0 (by omega) (by rw [fu_e]; omega)
  rw [show nI (accN (itemN K 1) 0) = 0 from rfl, show nI (accN (itemN K 2) 0) = 0 from rfl, show nI (accN (itemN K 3) 0) = 0 from rfl, show nI 0 = 0 from rfl] at em
  rw [f_X6_count, nw_s, f_X5_count, em, noC2 (m := 3) (n := 3) rfl (by omega)]
  rcases inb_or x (show 4 < 2 ^ 31 by omega) with ⟨w, hw, rfl⟩ | hn
  · rw [if_pos (inb_nI hw (by omega))]
    have hc : w = 0 ∨ w = 1 ∨ w = 2 ∨ w = 3 := by omega
    have ec : 1 ≤ w → f_X5_count_27 σc (fun (w33_0 : Int32) => some w33_0) fu (nI w) 0 0 = some (nI (accN (itemN K w) K.1)) := fun q => countC_l (k := fun (w33_0 : Int32) => some w33_0) hC ⟨q, by omega⟩ fu 0 (by omega) (by rw [fu_e]; omega)
    rcases hc with rfl | rfl | rfl | rfl
    · rw [if_pos (show nI 0 = 0 from rfl), if_pos (show nI 0 = 0 from rfl), hC.2.1, hM5.1]
      exact ⟨_, _, rfl, rfl, h5⟩
    · rw [ec (by omega)]
      exact ⟨_, _, rfl, rfl, h5⟩
    · rw [ec (by omega)]
      exact ⟨_, _, rfl, rfl, h5⟩
    · rw [ec (by omega)]
      exact ⟨_, _, rfl, rfl, h5⟩
  · have hz : ∀ w : Nat, w < 4 → ¬ x = nI w := fun w hw e => hn (by rw [e]; exact inb_nI hw (by omega))
    rw [if_neg hn, if_neg (show ¬ x = 0 from hz 0 (by omega)), if_neg (show ¬ x = 1 from hz 1 (by omega)), if_neg (show ¬ x = 2 from hz 2 (by omega)), if_neg (show ¬ x = 3 from hz 3 (by omega))]
    exact ⟨_, _, rfl, rfl, h5⟩
/-- the judge -/
theorem i2l_eq {a b : Int32} : a.toInt64 = b.toInt64 ↔ a = b := by
  constructor
  · intro h
    apply Int32.toInt_inj.mp
    rw [← Int32.toInt_toInt64, h, Int32.toInt_toInt64]
  · intro h; rw [h]
theorem cmpN0 {a b : Int32} (e : ¬ a = b) : ¬ lg_cmp a.toInt64 b.toInt64 = 0 := by rw [lg_cmp_eq, i2l_eq]; exact e
theorem cmpY0 {a b : Int32} (e : a = b) : lg_cmp a.toInt64 b.toInt64 = 0 := by rw [lg_cmp_eq, i2l_eq]; exact e
def skN (s : Nat) : Int32 := if s = 0 then -128 else if s = 1 then -32768 else -2147483648
theorem skC {σ : St} {d s : Nat} (hd : d < 8) (hs : s < 3) (h : σ.1 (126 + 2 * d) 3 = nI s) : f_X4_leastNumber σ (126 + 2 * d) = some (skN s) := by
  rw [f_X4_leastNumber, chk_t (sh_ok d hd).1, h]
  have hc : s = 0 ∨ s = 1 ∨ s = 2 := by omega
  rcases hc with rfl | rfl | rfl <;> rfl
theorem skM {σ : St} {d s : Nat} (hd : d < 8) (hs : s < 3) (h : σ.1 19 d = nI s) : f_X6_skippedIn σ (nI d) = some (skN s).toInt64 := by
  rw [f_X6_skippedIn, chk_t (inb_nI hd (by omega)), nI_clamp (by omega), h]
  have hc : s = 0 ∨ s = 1 ∨ s = 2 := by omega
  rcases hc with rfl | rfl | rfl <;> rfl
theorem n4d {j : Nat} (h : j < 2 ^ 31) : nI j / 4 = nI (j / 4) := by rw [show (4 : Int32) = nI 4 from rfl]; exact pk_div h (by omega) (by omega)
theorem n4r {j : Nat} (h : j < 2 ^ 31) : nI j - nI (j / 4) * 4 = nI (j % 4) := by
  rw [← n4d h, show (4 : Int32) = nI 4 from rfl]; exact pk_rem h (by omega) (by omega)
theorem judge_l {σc σm : St} {K : Kv} {d s z : Nat} {kc : Nat → Int32 → Int32 → Option Int32} {km : Int32 → St → Option (Int32 × St)} (hC : KC 1 σc K) (hM : KM 0 1 2 3 4 σm K) (hd : d < 8) (hr : isRow σc σm d s z) (hk : ∃ r : Int32, kc (126 + 2 * d) (nI (4 * K.1)) (nI (if z < 4 * K.1 then z else 4 * K.1)) = some r ∧ km (nI d) σm = some (r, σm)) : ∀ (m j : Nat), j ≤ (if z < 4 * K.1 then z else 4 * K.1) → (if z < 4 * K.1 then z else 4 * K.1) < m + j → ∃ r : Int32, f_X5_judge_50 σc (fun (w31_0 : Int32) => some w31_0) kc m (126 + 2 * d) (nI (4 * K.1)) (nI (if z < 4 * K.1 then z else 4 * K.1)) (skN s) (nI j) = some r ∧ f_X6_judge_19 (fun (w20_0 : Int32) (σ21 : St) => some (w20_0, σ21)) km m (nI d) (nI j) σm = some (r, σm) := by
  have h6 := hC.2.2.1
  obtain ⟨q1, q2, q3, q4, q5, q6, q7⟩ := hr
  generalize hbo : (if z < 4 * K.1 then z else 4 * K.1) = bo at *
  have hbo1 : bo ≤ z ∧ bo ≤ 4 * K.1 ∧ (bo = z ∨ bo = 4 * K.1) := by
    subst hbo
    split <;> omega
  intro m
  induction m with
  | zero => intro j h1 h2; omega
  | succ m ih =>
    intro j h1 h2
    rw [f_X5_judge_50, f_X6_judge_19, hM.1, show (4 : Int32) * nI K.1 = nI (4 * K.1) by rw [show (4 : Int32) = nI 4 from rfl, pk_mul], chk_t (inb_nI hd (by omega)), nI_clamp (show d < 2 ^ 31 by omega), q6]
    by_cases hj : j = bo
    · subst hj
      obtain ⟨r, g1, g2⟩ := hk
      refine ⟨r, ?_, ?_⟩
      · rw [if_pos (nI_le (Nat.le_refl _) (by omega))]; exact g1
      · by_cases e : 4 * K.1 ≤ j
        · rw [if_pos (nI_le e (by omega))]; exact g2
        · rw [if_neg (nI_ge (by omega) (by omega)), if_pos (nI_le (by omega) (by omega))]; exact g2
    · have hlt : j < bo := by omega
      have hp := hC.2.2.2 (j / 4) (by omega)
      obtain ⟨p1, p2, p3, p4, p5⟩ := id hp
      have hq := (q7 j (by omega)).1
      have hn := ih (j + 1) (by omega) (by omega)
      rw [if_neg (nI_ge hlt (by omega)), if_neg (nI_ge (by omega) (by omega)), if_neg (nI_ge (by omega) (by omega)), chk_t (sh_ok d hd).1, chk_t (sh_ok d hd).2, chk_t (inb_nI (by omega) (by omega)), nw_s, nI_clamp (show j < 2 ^ 31 by omega), n100, chk_t (inb_nI (by omega) (by omega)), nI_clamp (by omega), nw_s, hq, bnd_o (skM hd q1 q5)]
      rw [n4d (by omega), n4r (by omega), chk_t (inb_nI (by omega) (by omega)), nI_clamp (show j / 4 < 2 ^ 31 by omega), pt1, chk_t p1.1, chk_t p1.2.1.1, bnd_o (porC p2 p4 (by omega) (Nat.mod_lt _ (by omega))), bnd_o (porM (hM.flm (by omega)) p4 (by omega) (Nat.mod_lt _ (by omega)))]
      by_cases e : σc.1 (126 + 2 * d + 1) j = skN s
      · rw [if_pos e, if_pos (cmpY0 e), f_X5_judge_103, f_X6_judge_82, nw_s, nw_s, nI_1]
        exact hn
      · rw [if_neg e, if_neg (cmpN0 e)]
        by_cases e2 : σc.1 (126 + 2 * d + 1) j = nI (porN (K.2.2.1 (j / 4)) (j % 4))
        · rw [if_pos e2, if_pos (cmpY0 e2), f_X5_judge_103, f_X6_judge_82, nw_s, nw_s, nI_1]
          exact hn
        · rw [if_neg e2, if_neg (cmpN0 e2)]
          exact ⟨_, rfl, rfl⟩
theorem sim_judge {σc σm : St} (h : RR σc σm) (x : Int32) : ∃ (r : Int32) (σm' : St), f_X5_judge σc x = some r ∧ f_X6_judge σm x = some (r, σm') ∧ RR σc σm' := by
  have h5 := h.u5 (v := 0)
  obtain ⟨K, K2, hC, hM, -⟩ := id h
  have hM5 := hM.u5 (v := 0)
  have h6 := hC.2.2.1
  rw [f_X6_judge, nw_s, f_X5_judge]
  rcases inb_or x (show 8 < 2 ^ 31 by omega) with ⟨d, hd, rfl⟩ | hn
  · rcases rowRef hd (h5.shelf hd) with ⟨r, hr, e1, e2⟩ | ⟨e1, e2, w1, w2, s, z, hz⟩
    · rw [bnd_o e1, bnd_o e2, if_neg (by rcases hr with rfl | rfl <;> decide), if_neg (by rcases hr with rfl | rfl <;> decide)]
      exact ⟨_, _, rfl, rfl, h5⟩
    · obtain ⟨q1, q2, q3, q4, q5, q6, q7⟩ := id hz
      have e4 : (4 : Int32) * nI K.1 = nI (4 * K.1) := by rw [show (4 : Int32) = nI 4 from rfl, pk_mul]
      have em : (if nI z < nI (4 * K.1) then nI z else nI (4 * K.1)) = nI (if z < 4 * K.1 then z else 4 * K.1) := by
        by_cases e : z < 4 * K.1
        · rw [if_pos e, if_pos (nI_lt e (by omega))]
        · rw [if_neg e, if_neg (nI_nlt (by omega) (by omega))]
      rw [bnd_o e1, bnd_o e2, if_pos rfl, if_pos (by decide), chk_t (inb_nI hd (by omega)), nw_s, nI_clamp (show d < 2 ^ 31 by omega), nw_s, hC.2.1, chk_t (sh_ok d hd).1, nw_s, q4, e4, em, bnd_o (skC hd q1 q3)]
      obtain ⟨r, g1, g2⟩ := judge_l (kc := fun (w32_0 : Nat) (w33_1 : Int32) (w34_2 : Int32) => chk (kOK SC w32_0 4) <| (if (σc.1 w32_0 4) = w33_1 then some ((-4)) else some w34_2)) (km := fun (w22_0 : Int32) (σ23 : St) => f_X6_judge_88 w22_0 σ23) hC hM5 hd hz (by
        show ∃ r : Int32, chk (kOK SC (126 + 2 * d) 4) (if σc.1 (126 + 2 * d) 4 = nI (4 * K.1) then some (-4) else some (nI (if z < 4 * K.1 then z else 4 * K.1))) = some r ∧ f_X6_judge_88 (nI d) (uI σm 0 5 0) = some (r, uI σm 0 5 0)
        rw [chk_t (sh_ok d hd).1, q4, f_X6_judge_88, chk_t (inb_nI hd (by omega)), nI_clamp (show d < 2 ^ 31 by omega), q6, hM5.1, e4]
        by_cases a1 : z = 4 * K.1
        · rw [if_pos (by rw [a1]), if_pos (nI_le (by omega) (by omega)), if_pos (nI_le (by omega) (by omega))]
          exact ⟨_, rfl, rfl⟩
        · rw [if_neg (fun q => a1 ((nI_eq (by omega) (by omega)).mp q))]
          by_cases a2 : z < 4 * K.1
          · rw [if_pos a2, if_neg (nI_ge a2 (by omega))]
            exact ⟨_, rfl, rfl⟩
          · rw [if_neg a2, if_pos (nI_le (by omega) (by omega)), if_neg (nI_ge (by omega) (by omega))]
            exact ⟨_, rfl, rfl⟩) fu 0 (by omega) (by rw [fu_e]; split <;> omega)
      rw [show nI 0 = 0 from rfl] at g1 g2
      rw [g1, g2]
      exact ⟨_, _, rfl, rfl, h5⟩
  · rw [bnd_o (rowRef_n (σm := σm) hn).1, bnd_o (rowRef_n (σc := σc) hn).2, if_neg (by decide), if_neg (by decide)]
    exact ⟨_, _, rfl, rfl, h5⟩
