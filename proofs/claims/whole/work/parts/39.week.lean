/-! WEEKS: all ways, one by one -/
def upd2 (st : Nat × Int32) (o : Option Nat) : Nat × Int32 := match o with
  | none => st
  | some v => (st.1 + 1, if st.1 = 0 then nI v else st.2)
def fw (g : Nat → Option Nat) (a : Nat) : Nat → Nat × Int32 → Nat × Int32
  | 0, st => st
  | l + 1, st => upd2 (fw g a l st) (g (a + l))
theorem fw_app {g : Nat → Option Nat} {a l1 : Nat} {st : Nat × Int32} : ∀ l2, fw g a (l1 + l2) st = fw g (a + l1) l2 (fw g a l1 st) := by
  intro l2
  induction l2 with
  | zero => rfl
  | succ l2 ih =>
    show upd2 (fw g a (l1 + l2) st) (g (a + (l1 + l2))) = upd2 (fw g (a + l1) l2 (fw g a l1 st)) (g (a + l1 + l2))
    rw [ih, Nat.add_assoc]
theorem fw_cong {g g' : Nat → Option Nat} {a a' : Nat} {st : Nat × Int32} : ∀ l, (∀ v, v < l → g (a + v) = g' (a' + v)) → fw g a l st = fw g' a' l st := by
  intro l
  induction l with
  | zero => intro _; rfl
  | succ l ih =>
    intro h
    rw [fw, fw, ih (fun v hv => h v (by omega)), h l (by omega)]
theorem fw_none {g : Nat → Option Nat} {a : Nat} {st : Nat × Int32} : ∀ l, (∀ v, v < l → g (a + v) = none) → fw g a l st = st := by
  intro l
  induction l with
  | zero => intro _; rfl
  | succ l ih =>
    intro h
    rw [fw, ih (fun v hv => h v (by omega)), h l (by omega)]
    rfl
theorem fw_le {g : Nat → Option Nat} {a : Nat} {st : Nat × Int32} : ∀ l, (fw g a l st).1 ≤ st.1 + l := by
  intro l
  induction l with
  | zero => exact Nat.le_refl _
  | succ l ih =>
    rw [fw]
    cases g (a + l) with
    | none => show (fw g a l st).1 ≤ _; omega
    | some v => show (fw g a l st).1 + 1 ≤ _; omega
def stp (kd fg : Nat → Nat) (b p : Nat) (K : Kv) (i k : Nat) : Option Kv := if K.2.1 i < 12 then (if hrN (takeN (kd k) (fg k) (K.2.1 i) (K.2.2.1 i)) b p = 0 then some (Kc K i (kd k) (fg k)) else none) else none
def gd (kd fg : Nat → Nat) (b p P n : Nat) : Nat → Kv → Nat → Option Nat
  | 0, _, _ => some 0
  | r + 1, K, w => (stp kd fg b p K (w / P ^ r % P) (n - (r + 1))).bind (fun K' => (gd kd fg b p P n r K' w).map (fun u => (w / P ^ r % P) * 10 ^ r + u))
theorem gd_mod {kd fg : Nat → Nat} {b p P n : Nat} (hP : 0 < P) : ∀ (r c v : Nat) (K : Kv), gd kd fg b p P n r K (v + c * P ^ r) = gd kd fg b p P n r K v := by
  intro r
  induction r with
  | zero => intro c v K; rfl
  | succ r ih =>
    intro c v K
    have hp : 0 < P ^ r := Nat.pow_pos hP
    have e0 : v + c * P ^ (r + 1) = v + c * P * P ^ r := by rw [Nat.pow_succ, Nat.mul_comm (P ^ r) P, ← Nat.mul_assoc]
    have e1 : (v + c * P ^ (r + 1)) / P ^ r % P = v / P ^ r % P := by rw [e0, Nat.add_mul_div_right _ _ hp, Nat.add_mul_mod_self_right]
    rw [gd, gd, e1]
    congr 1
    funext K'
    rw [e0, ih]
theorem gd_seg {kd fg : Nat → Nat} {b p P n r i v : Nat} {K : Kv} (hP : 0 < P) (hi : i < P) (hv : v < P ^ r) : gd kd fg b p P n (r + 1) K (i * P ^ r + v) = (stp kd fg b p K i (n - (r + 1))).bind (fun K' => (gd kd fg b p P n r K' v).map (fun u => i * 10 ^ r + u)) := by
  have hp : 0 < P ^ r := Nat.pow_pos hP
  have e1 : (i * P ^ r + v) / P ^ r % P = i := by
    rw [Nat.add_comm, Nat.add_mul_div_right _ _ hp, Nat.div_eq_of_lt hv, Nat.zero_add, Nat.mod_eq_of_lt hi]
  rw [gd, e1]
  congr 1
  funext K'
  rw [Nat.add_comm, gd_mod hP]
theorem MD.back {σ σ' : St} {K K' : Kv} {b p i : Nat} (h : MD σ K' b p) (h1 : K'.1 = K.1) (h2 : ∀ j, j ≠ i → K'.2.2.1 j = K.2.2.1 j ∧ K'.2.1 j = K.2.1 j) (hf : flv σ' (99 + 2 * i) (K.2.2.1 i) (K.2.1 i)) (hb : bd (K.2.2.1 i) (K.2.1 i)) (hn : K.2.1 i ≤ 12) (fr : Fr (fun a => a = 99 + 2 * i ∨ a = 99 + 2 * i + 1) σ σ') : MD σ' K b p := by
  obtain ⟨g1, g2, g3, g4⟩ := h
  have e := (fr 97 (by omega)).1
  refine ⟨by rw [e, ← h1]; exact g1, by rw [e]; exact g2, by rw [e]; exact g3, fun j hj => ?_⟩
  by_cases q : j = i
  · subst q
    exact ⟨hf, hb, hn⟩
  · obtain ⟨a1, a2, a3⟩ := g4 j (by omega)
    obtain ⟨b1, b2⟩ := h2 j q
    rw [b1, b2] at a1
    rw [b1, b2] at a2
    rw [b2] at a3
    exact ⟨a1.fr fr (by omega) (by omega), a2, a3⟩
theorem Kc_ne {K : Kv} {i k f j : Nat} (h : j ≠ i) : (Kc K i k f).2.2.1 j = K.2.2.1 j ∧ (Kc K i k f).2.1 j = K.2.1 j := ⟨setAt_n h, setAt_n h⟩
theorem MD.fr {σ σ' : St} {K : Kv} {b p : Nat} {P : Nat → Prop} (h : MD σ K b p) (h6 : K.1 ≤ 6) (f : Fr P σ σ') (h97 : ¬ P 97) (hp : ∀ a, 99 ≤ a → a ≤ 110 → ¬ P a) : MD σ' K b p := by
  obtain ⟨g1, g2, g3, g4⟩ := h
  have e := (f 97 h97).1
  refine ⟨by rw [e]; exact g1, by rw [e]; exact g2, by rw [e]; exact g3, fun j hj => ?_⟩
  obtain ⟨a1, a2, a3⟩ := g4 j hj
  exact ⟨a1.fr f (hp _ (by omega) (by omega)) (hp _ (by omega) (by omega)), a2, a3⟩
def dk (el : Nat → Int32) (k : Nat) : Nat := (el (2 * k)).toNatClampNeg
def df (el : Nat → Int32) (k : Nat) : Nat := (el (2 * k + 1)).toNatClampNeg
def isD (el : Nat → Int32) (n : Nat) : Prop := ∀ k, k < n → dk el k < 8 ∧ df el k < 10 ∧ el (2 * k) = nI (dk el k) ∧ el (2 * k + 1) = nI (df el k)
theorem isD_of {el : Nat → Int32} {K1 n : Nat} (h : okB K1 2 el (2 * n) = true) : isD el n := by
  intro k hk
  obtain ⟨l0, l1⟩ := lim2 K1 k
  have o0 := okB_at h (2 * k) (by omega)
  have o1 := okB_at h (2 * k + 1) (by omega)
  rw [l0] at o0
  rw [l1] at o1
  obtain ⟨j, hj, e0⟩ := inb_not o0
  obtain ⟨f, hf, e1⟩ := inb_not o1
  have e0 := e0 (by omega)
  have e1 := e1 (by omega)
  unfold dk df
  rw [e0, e1, nI_clamp (by omega), nI_clamp (by omega)]
  exact ⟨hj, hf, rfl, rfl⟩
def FrW (k : Nat) (a : Nat) : Prop := a = 97 ∨ (99 ≤ a ∧ a ≤ 110) ∨ (112 + 2 * k ≤ a ∧ a ≤ 121)
/-- the class: what the ways from the k-th dish on add -/
theorem spr {d n b p P : Nat} {el : Nat → Int32} (hd : d < 8) (hn : n ≤ 5) (hb : b < 16) (hp : p ≤ 100) (hP : 0 < P) (hP6 : P ≤ 6) (hD : isD el n) : ∀ (r nR k D : Nat) (K : Kv) (σ : St) (st : Nat × Int32), r < nR → k + r = n → K.1 = P → MD σ K b p → rowAt σ d (2 * n) el → σ.1 97 5 = nI st.1 → σ.1 97 6 = st.2 → st.1 + P ^ r < 2 ^ 30 →
    ∃ σ', f_X2_spread nR σ (126 + 2 * d) (nI k) (nI D) = some σ' ∧ MD σ' K b p ∧ σ'.1 97 5 = nI (fw (fun w => (gd (dk el) (df el) b p P n r K w).map (fun u => D * 10 ^ r + u)) 0 (P ^ r) st).1 ∧ σ'.1 97 6 = (fw (fun w => (gd (dk el) (df el) b p P n r K w).map (fun u => D * 10 ^ r + u)) 0 (P ^ r) st).2 ∧ Fr (FrW k) σ σ' := by
  have m97 : kOK SC 97 2 = true := by decide +kernel
  intro r
  induction r with
  | zero =>
    intro nR k D K σ st h1 h2 hK hM hr h5 h6 hs
    obtain ⟨nR, rfl⟩ : ∃ x, nR = x + 1 := ⟨nR - 1, by omega⟩
    have hk : k = n := by omega
    have eg : fw (fun w => (gd (dk el) (df el) b p P n 0 K w).map (fun u => D * 10 ^ 0 + u)) 0 (P ^ 0) st = (st.1 + 1, if st.1 = 0 then nI D else st.2) := by
      show upd2 st (some (D * 10 ^ 0 + 0)) = _
      rw [Nat.pow_zero, Nat.mul_one, Nat.add_zero]
      rfl
    have fr : ∀ v : Int32, Fr (fun a => a = 97) σ (uI (uI σ 97 6 v) 97 5 (nI (st.1 + 1))) := fun v => Fr.tr (Fr.uI rfl) (Fr.uI rfl)
    have hM2 : ∀ v : Int32, MD (uI (uI σ 97 6 v) 97 5 (nI (st.1 + 1))) K b p := by
      intro v
      obtain ⟨g1, g2, g3, g4⟩ := hM
      refine ⟨?_, ?_, ?_, fun i hi => ?_⟩
      · rw [uI_n (Or.inr (by omega)), uI_n (Or.inr (by omega))]; exact g1
      · rw [uI_n (Or.inr (by omega)), uI_n (Or.inr (by omega))]; exact g2
      · rw [uI_n (Or.inr (by omega)), uI_n (Or.inr (by omega))]; exact g3
      · obtain ⟨a1, a2, a3⟩ := g4 i hi
        exact ⟨a1.fr (fr v) (by omega) (by omega), a2, a3⟩
    rw [eg]
    have lf : ∀ v : Int32, f_X2_spread_26 (f_X2_spread nR) 97 v σ = some (uI (uI σ 97 6 v) 97 5 (nI (st.1 + 1))) := by
      intro v
      rw [f_X2_spread_26, chk_t m97, nw_s, nw_s, uI_n (Or.inr (by omega)), h5, nI_1]
    rw [f_X2_spread]
    dsimp only
    rw [chk_t (sh_ok d hd).1, hr.2.1, show (2 : Int32) = nI 2 from rfl, pk_mul, if_neg (nI_nlt (by omega) (by omega)), h5, h6]
    by_cases e : st.1 = 0
    · rw [if_pos (show nI st.1 = 0 by rw [e]; rfl), lf]
      refine ⟨_, rfl, hM2 _, uI_i, ?_, (fr _).mono (fun a ha => Or.inl ha)⟩
      rw [uI_n (Or.inr (by omega)), uI_i]
      show nI D = if st.1 = 0 then nI D else st.2
      rw [if_pos e]
    · rw [if_neg (nI_ne0 (by omega) (by omega)), lf]
      refine ⟨_, rfl, hM2 _, uI_i, ?_, (fr _).mono (fun a ha => Or.inl ha)⟩
      rw [uI_n (Or.inr (by omega)), uI_i]
      show st.2 = if st.1 = 0 then nI D else st.2
      rw [if_neg e]
  | succ r ih =>
    intro nR k D K σ0 st h1 h2 hK hM0 hr0 h50 h60 hs
    obtain ⟨nR, rfl⟩ : ∃ x, nR = x + 1 := ⟨nR - 1, by omega⟩
    have hkn : k < n := by omega
    obtain ⟨d1, d2, d3, d4⟩ := hD k hkn
    have hnk : n - (r + 1) = k := by omega
    have hbef := fl_bef k (by omega)
    have hpw : P ^ (r + 1) = P * P ^ r := by rw [Nat.pow_succ, Nat.mul_comm]
    have hpp : 0 < P ^ r := Nat.pow_pos hP
    generalize hG : (fun w => (gd (dk el) (df el) b p P n (r + 1) K w).map (fun u => D * 10 ^ (r + 1) + u)) = G
    have loop : ∀ (m i : Nat) (σ : St), i ≤ P → P < m + i → MD σ K b p → rowAt σ d (2 * n) el → σ.1 97 5 = nI (fw G 0 (i * P ^ r) st).1 → σ.1 97 6 = (fw G 0 (i * P ^ r) st).2 → ∃ σ', f_X2_spread_61 (f_X2_spread nR) (fun (σ29 : St) => some σ29) m (126 + 2 * d) (nI k) (nI D) (112 + 2 * k) (nI i) σ = some σ' ∧ MD σ' K b p ∧ σ'.1 97 5 = nI (fw G 0 (P * P ^ r) st).1 ∧ σ'.1 97 6 = (fw G 0 (P * P ^ r) st).2 ∧ Fr (FrW k) σ σ' := by
      intro m
      induction m with
      | zero => intro i σ g1 g2; omega
      | succ m ihm =>
        intro i σ g1 g2 hM hr h5 h6
        rw [f_X2_spread_61, hM.1, hK]
        by_cases hi : i = P
        · subst hi
          rw [if_pos (nI_le (Nat.le_refl _) (by omega))]
          exact ⟨σ, rfl, hM, h5, h6, Fr.rf⟩
        · have hlt : i < P := by omega
          have hiK : i < K.1 := by omega
          obtain ⟨a1, a2, a3⟩ := hM.2.2.2 i hiK
          have hmi := fl_mind i (by omega)
          have f1 : Fr (fun a => a = 112 + 2 * k ∨ a = 112 + 2 * k + 1) σ (setF σ (112 + 2 * k) (σ.2 (99 + 2 * i + 1)) (σ.2 (99 + 2 * i) 1) (σ.1 (99 + 2 * i) 2)) := setF_fr
          have v1 : flv (setF σ (112 + 2 * k) (σ.2 (99 + 2 * i + 1)) (σ.2 (99 + 2 * i) 1) (σ.1 (99 + 2 * i) 2)) (112 + 2 * k) (K.2.2.1 i) (K.2.1 i) := setF_flv hbef (fun t ht => a1.2.1 t ht) a1.2.2.1 a1.2.2.2
          generalize hσ1 : setF σ (112 + 2 * k) (σ.2 (99 + 2 * i + 1)) (σ.2 (99 + 2 * i) 1) (σ.1 (99 + 2 * i) 2) = σ1 at f1 v1
          have hM1 : MD σ1 K b p := hM.fr (by omega) f1 (by omega) (fun a q1 q2 q3 => by omega)
          have hr1 : rowAt σ1 d (2 * n) el := hr.fr f1 (by omega) (by omega)
          have e97 := (f1 97 (by omega)).1
          rw [if_neg (nI_ge hlt (by omega)), chk_t (inb_nI (by omega) (by omega)), nw_s, nI_clamp (show i < 2 ^ 31 by omega), chk_t hbef.1, bnd_o (becomeC hbef hmi), hσ1, show (2 : Int32) = nI 2 from rfl, pk_mul]
          /- what comes behind the try -/
          have back : ∀ (σ3 : St) (K3 : Kv), MD σ3 K3 b p → K3.1 = K.1 → (∀ j, j ≠ i → K3.2.2.1 j = K.2.2.1 j ∧ K3.2.1 j = K.2.1 j) → flv σ3 (112 + 2 * k) (K.2.2.1 i) (K.2.1 i) → rowAt σ3 d (2 * n) el → σ3.1 97 5 = nI (fw G 0 ((i + 1) * P ^ r) st).1 → σ3.1 97 6 = (fw G 0 ((i + 1) * P ^ r) st).2 → Fr (FrW k) σ σ3 → ∃ σ', f_X2_spread_114 (f_X2_spread nR) (fun (w16_0 : Nat) (w17_1 : Int32) (w18_2 : Int32) (w19_3 : Nat) (w20_4 : Int32) (σ21 : St) => f_X2_spread_61 (f_X2_spread nR) (fun (σ29 : St) => some σ29) m w16_0 w17_1 w18_2 w19_3 w20_4 σ21) (126 + 2 * d) (nI k) (nI D) (112 + 2 * k) (nI i) (99 + 2 * i) σ3 = some σ' ∧ MD σ' K b p ∧ σ'.1 97 5 = nI (fw G 0 (P * P ^ r) st).1 ∧ σ'.1 97 6 = (fw G 0 (P * P ^ r) st).2 ∧ Fr (FrW k) σ σ' := by
            intro σ3 K3 q1 q2 q3 q4 q5 q6 q7 q8
            have f4 : Fr (fun a => a = 99 + 2 * i ∨ a = 99 + 2 * i + 1) σ3 (setF σ3 (99 + 2 * i) (σ3.2 (112 + 2 * k + 1)) (σ3.2 (112 + 2 * k) 1) (σ3.1 (112 + 2 * k) 2)) := setF_fr
            have v4 : flv (setF σ3 (99 + 2 * i) (σ3.2 (112 + 2 * k + 1)) (σ3.2 (112 + 2 * k) 1) (σ3.1 (112 + 2 * k) 2)) (99 + 2 * i) (K.2.2.1 i) (K.2.1 i) := setF_flv hmi (fun t ht => q4.2.1 t ht) q4.2.2.1 q4.2.2.2
            generalize hσ4 : setF σ3 (99 + 2 * i) (σ3.2 (112 + 2 * k + 1)) (σ3.2 (112 + 2 * k) 1) (σ3.1 (112 + 2 * k) 2) = σ4 at f4 v4
            have e4 := (f4 97 (by omega)).1
            obtain ⟨σ', w1, w2, w3, w4, w5⟩ := ihm (i + 1) σ4 (by omega) (by omega) (q1.back q2 q3 v4 a2 a3 f4) (q5.fr f4 (by omega) (by omega)) (by rw [e4]; exact q6) (by rw [e4]; exact q7)
            refine ⟨σ', ?_, w2, w3, w4, Fr.tr (Fr.tr q8 (f4.mono (fun a ha => Or.inr (Or.inl (by omega))))) w5⟩
            rw [f_X2_spread_114, chk_t hmi.1, bnd_o (becomeC hmi hbef), hσ4, nw_s, nI_1]
            exact w1
          have seg : ∀ _ : Nat, fw G 0 ((i + 1) * P ^ r) st = fw G (i * P ^ r) (P ^ r) (fw G 0 (i * P ^ r) st) := by
            intro _
            rw [Nat.add_mul, Nat.one_mul, fw_app, Nat.zero_add]
          have f1W : Fr (FrW k) σ σ1 := f1.mono (fun a ha => Or.inr (Or.inr (by omega)))
          have none_ : stp (dk el) (df el) b p K i k = none → fw G 0 ((i + 1) * P ^ r) st = fw G 0 (i * P ^ r) st := by
            intro hno
            rw [seg 0]
            refine fw_none _ (fun v hv => ?_)
            rw [← hG]
            show (gd (dk el) (df el) b p P n (r + 1) K (i * P ^ r + v)).map _ = none
            rw [gd_seg hP hlt hv, hnk, hno]
            rfl
          by_cases h12 : K.2.1 i < 12
          · obtain ⟨σ2, c1, c2, c3⟩ := stays (q := 2 * k) hM1 hr1 hd hiK (by omega) h12 (by omega) d3 d4 d1 d2 hb hp
            have c3W : Fr (FrW k) σ1 σ2 := c3.mono (fun a ha => Or.inr (Or.inl (by omega)))
            have e2 := (c3 97 (by omega)).1
            have v2 : flv σ2 (112 + 2 * k) (K.2.2.1 i) (K.2.1 i) := v1.fr c3 (by omega) (by omega)
            have hr2 : rowAt σ2 d (2 * n) el := hr1.fr c3 (by omega) (by omega)
            rw [bnd_o c1]
            rcases hrN_01 (takeN (dk el k) (df el k) (K.2.1 i) (K.2.2.1 i)) b p with e | e
            · have hst : stp (dk el) (df el) b p K i k = some (Kc K i (dk el k) (df el k)) := by rw [stp, if_pos h12, if_pos e]
              have hle := fw_le (g := G) (a := 0) (st := st) (i * P ^ r)
              have hmul : (i + 1) * P ^ r ≤ P * P ^ r := Nat.mul_le_mul_right _ (by omega)
              rw [Nat.add_mul, Nat.one_mul] at hmul
              rw [hpw] at hs
              obtain ⟨σ3, q1, q2, q3, q4, q5⟩ := ih nR (k + 1) (10 * D + i) (Kc K i (dk el k) (df el k)) σ2 (fw G 0 (i * P ^ r) st) (by omega) (by omega) hK c2 hr2 (by rw [e2, e97]; exact h5) (by rw [e2, e97]; exact h6) (by omega)
              have hfw : fw G 0 ((i + 1) * P ^ r) st = fw (fun w => (gd (dk el) (df el) b p P n r (Kc K i (dk el k) (df el k)) w).map (fun u => (10 * D + i) * 10 ^ r + u)) 0 (P ^ r) (fw G 0 (i * P ^ r) st) := by
                rw [seg 0]
                refine fw_cong _ (fun v hv => ?_)
                rw [← hG, Nat.zero_add]
                show (gd (dk el) (df el) b p P n (r + 1) K (i * P ^ r + v)).map _ = _
                rw [gd_seg hP hlt hv, hnk, hst]
                show ((gd (dk el) (df el) b p P n r (Kc K i (dk el k) (df el k)) v).map _).map _ = _
                rw [Option.map_map]
                congr 1
                funext u
                show D * 10 ^ (r + 1) + (i * 10 ^ r + u) = _
                rw [Nat.add_mul, Nat.pow_succ, Nat.mul_comm (10 ^ r) 10, ← Nat.mul_assoc, Nat.mul_comm D 10, Nat.add_assoc]
              have q5W : Fr (FrW k) σ2 σ3 := q5.mono (fun a ha => by unfold FrW at *; omega)
              obtain ⟨σ', w1, w2⟩ := back σ3 (Kc K i (dk el k) (df el k)) q2 rfl (fun j hj => Kc_ne hj) (v2.fr q5 (by unfold FrW; omega) (by unfold FrW; omega)) (hr2.fr q5 (by unfold FrW; omega) (by unfold FrW; omega)) (by rw [hfw]; exact q3) (by rw [hfw]; exact q4) (Fr.tr (Fr.tr f1W c3W) q5W)
              refine ⟨σ', ?_, w2⟩
              rw [e, if_pos rfl]
              show (if (1 : Int32) = 0 then _ else bnd (f_X2_spread nR σ2 (126 + 2 * d) (nI k + 1) ((10 * nI D) + nI i)) _) = _
              rw [if_neg p0, nI_1, show (10 : Int32) = nI 10 from rfl, pk_mul, nI_add, bnd_o q1]
              exact w1
            · have hst : stp (dk el) (df el) b p K i k = none := by rw [stp, if_pos h12, if_neg (by omega)]
              obtain ⟨σ', w1, w2⟩ := back σ2 (Kc K i (dk el k) (df el k)) c2 rfl (fun j hj => Kc_ne hj) v2 hr2 (by rw [none_ hst, e2, e97]; exact h5) (by rw [none_ hst, e2, e97]; exact h6) (Fr.tr f1W c3W)
              refine ⟨σ', ?_, w2⟩
              rw [e, if_neg (show ¬ (1 : Nat) = 0 by omega)]
              show (if (0 : Int32) = 0 then _ else _) = _
              rw [if_pos rfl]
              exact w1
          · have hst : stp (dk el) (df el) b p K i k = none := by rw [stp, if_neg h12]
            obtain ⟨σ', w1, w2⟩ := back σ1 K hM1 rfl (fun j hj => ⟨rfl, rfl⟩) v1 hr1 (by rw [none_ hst, e97]; exact h5) (by rw [none_ hst, e97]; exact h6) f1W
            refine ⟨σ', ?_, w2⟩
            rw [bnd_o (stays_no hM1 hiK (by omega) h12)]
            show (if (0 : Int32) = 0 then _ else _) = _
            rw [if_pos rfl]
            exact w1
    rw [f_X2_spread]
    dsimp only
    rw [chk_t (sh_ok d hd).1, hr0.2.1, show (2 : Int32) = nI 2 from rfl, pk_mul, if_pos (nI_lt (by omega) (by omega)), if_pos (show nI k < 5 from nI_lt (b := 5) (by omega) (by omega)), chk_t (inb_nI (by omega) (by omega)), nw_s, nI_clamp (show k < 2 ^ 31 by omega), hpw]
    obtain ⟨σ', w1, w2⟩ := loop fu 0 σ0 (by omega) (by rw [fu_e]; omega) hM0 hr0 (by rw [Nat.zero_mul]; exact h50) (by rw [Nat.zero_mul]; exact h60)
    exact ⟨σ', w1, w2⟩
