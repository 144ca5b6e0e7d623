/-! CODES OF KINDS: bring, mayHave -/
theorem powM_l {b n : Nat} {k : Int32 → Option Int32} (hn : n < 2 ^ 31) : ∀ (m j : Nat), j ≤ n → n < m + j → f_X6_power_4 k m (nI b) (nI n) (nI (b ^ j)) (nI j) = k (nI (b ^ n)) := by
  intro m
  induction m with
  | zero => intro j h1 h2; omega
  | succ m ih =>
    intro j h1 h2
    rw [f_X6_power_4]
    by_cases hj : j = n
    · subst hj
      exact if_pos (nI_le (Nat.le_refl _) hn)
    · rw [if_neg (nI_ge (by omega) hn), nw_s, nw_s, pk_mul, nI_1, ← Nat.pow_succ]
      exact ih (j + 1) (by omega) (by omega)
theorem powM {b n : Nat} (hn : n < 1000) : f_X6_power (nI b) (nI n) = some (nI (b ^ n)) := by
  have e := powM_l (b := b) (k := fun (w4_0 : Int32) => some w4_0) (n := n) (by omega) fu 0 (by omega) (by rw [fu_e]; omega)
  rw [Nat.pow_zero, show nI 1 = 1 from rfl, show nI 0 = 0 from rfl] at e
  rw [f_X6_power, e]
theorem pow8 {n : Nat} (hn : n < 1000) : f_X6_power 8 (nI n) = some (nI (8 ^ n)) := powM (b := 8) hn
theorem codesC : ∀ n, n < 4 → f_X5_codesOf (nI n) = some (nI (8 ^ n)) := by decide +kernel
theorem kindInC : ∀ i, i < 3 → ∀ c, c < 512 → f_X5_kindIn (nI c) (nI i) = some (nI (c / 8 ^ i % 8)) := by decide +kernel
def digN (c n : Nat) : Nat := if n = 0 then 0 else if n = 1 then c % 8 else if n = 2 then 10 * (c / 8 % 8) + c % 8 else 10 * (10 * (c / 64 % 8) + c / 8 % 8) + c % 8
theorem digC : ∀ n, n < 4 → ∀ c, c < 512 → f_X5_digitsOf (nI c) (nI n) = some (nI (digN c n)) := by
  simp only [f_X5_digitsOf, fu_e]
  decide +kernel
theorem digM : ∀ n, n < 4 → ∀ c, c < 512 → f_X6_digitsOf (nI c) (nI n) = some (nI (digN c n)) := by
  intro n hn c hc
  rw [f_X6_digitsOf, bnd_o (pow8 (by omega)), fu_e]
  revert c
  revert n
  decide +kernel
theorem p8_le {n : Nat} (h : n ≤ 3) : 8 ^ n ≤ 512 := Nat.le_trans (Nat.pow_le_pow_right (by omega) h) (by decide)
theorem p8_pos (n : Nat) : 0 < 8 ^ n := Nat.pow_pos (by omega)
/-- the tastes behind k dishes of a code -/
def codX (c n f n0 : Nat) (x : Nat → Nat) : Nat → Nat → Nat
  | 0 => x
  | k + 1 => takeN (c / 8 ^ (n - 1 - k) % 8) f (n0 + k) (codX c n f n0 x k)
theorem codX_bd {c n f n0 : Nat} {x : Nat → Nat} (h : bd x n0) (hf : f < 10) : ∀ k, bd (codX c n f n0 x k) (n0 + k) := by
  intro k
  induction k with
  | zero => exact h
  | succ k ih => exact bd_take ih (Nat.mod_lt _ (by omega)) hf
theorem sub1 (n : Nat) : nI n - 1 = nI n + (-1) := by
  cases n with
  | zero => decide
  | succ n => rw [nI_pred, pk_m1]
theorem tcC_l {i c n f n0 : Nat} {x : Nat → Nat} (hc : c < 512) (hn : n ≤ 3) (hf : f < 10) : ∀ (m r k : Nat) (σ : St), r < m → k + r = n → flv σ i (codX c n f n0 x k) (n0 + k) → ∃ σ', f_X0_takeCode_5 (fun  (σ7 : St) => some σ7) m i (nI c) (nI f) (nI r + (-1)) σ = some σ' ∧ flv σ' i (codX c n f n0 x n) (n0 + n) ∧ Fr (fun a => a = i ∨ a = i + 1) σ σ' := by
  intro m
  induction m with
  | zero => intro r k σ h1; omega
  | succ m ih =>
    intro r k σ h1 h2 h3
    rw [f_X0_takeCode_5]
    cases r with
    | zero =>
      have hk : k = n := by omega
      subst hk
      rw [if_pos (by decide)]
      exact ⟨_, rfl, h3, Fr.rf⟩
    | succ r =>
      have e1 : r = n - 1 - k := by omega
      obtain ⟨σ1, q1, q2, q3⟩ := takeC h3 (show c / 8 ^ r % 8 < 8 from Nat.mod_lt _ (by omega)) hf
      have q2' : flv σ1 i (codX c n f n0 x (k + 1)) (n0 + (k + 1)) := by
        rw [codX, ← e1]
        exact q2
      obtain ⟨σ2, g1, g2, g3⟩ := ih r (k + 1) σ1 (by omega) (by omega) q2'
      refine ⟨σ2, ?_, g2, Fr.tr q3 g3⟩
      rw [pk_m1, if_neg (nI_pos (by omega)), bnd_o (kindInC r (by omega) c hc), chk_t h3.1.1, bnd_o q1, nw_s]
      exact g1
theorem tcC {σ : St} {i c n f n0 : Nat} {x : Nat → Nat} (h : flv σ i x n0) (hc : c < 512) (hn : n ≤ 3) (hf : f < 10) : ∃ σ', f_X0_takeCode σ i (nI c) (nI n) (nI f) = some σ' ∧ flv σ' i (codX c n f n0 x n) (n0 + n) ∧ Fr (fun a => a = i ∨ a = i + 1) σ σ' := by
  obtain ⟨σ', g1, g2⟩ := tcC_l (n0 := n0) (x := x) hc hn hf fu n 0 σ (by rw [fu_e]; omega) (by omega) h
  refine ⟨σ', ?_, g2⟩
  rw [f_X0_takeCode, nw_s, sub1]
  exact g1
theorem codD {c n k : Nat} (hc : c < 512) (hn : n ≤ 3) (hk : k < n) : nI (8 ^ (n - k)) / 8 = nI (8 ^ (n - 1 - k)) ∧ nz (nI (8 ^ (n - 1 - k))) = true ∧ nI c / nI (8 ^ (n - 1 - k)) - nI c / nI (8 ^ (n - 1 - k)) / 8 * 8 = nI (c / 8 ^ (n - 1 - k) % 8) := by
  have b1 := p8_le (n := n - 1 - k) (by omega)
  have b2 := p8_le (n := n - k) (by omega)
  have b3 := p8_pos (n - 1 - k)
  have e : 8 ^ (n - k) = 8 ^ (n - 1 - k) * 8 := by rw [← Nat.pow_succ]; congr 1; omega
  have q1 : nI c / nI (8 ^ (n - 1 - k)) = nI (c / 8 ^ (n - 1 - k)) := pk_div (by omega) b3 (by omega)
  have b4 : c / 8 ^ (n - 1 - k) ≤ c := Nat.div_le_self _ _
  refine ⟨?_, ?_, ?_⟩
  · have := pk_div (a := 8 ^ (n - k)) (d := 8) (by omega) (by omega) (by omega)
    rw [e, Nat.mul_div_cancel _ (by omega)] at this
    rw [e]
    exact this
  · have := nI_ne0 (n := 8 ^ (n - 1 - k)) b3 (by omega)
    simpa [nz] using this
  · rw [q1]
    exact pk_rem (d := 8) (by omega) (by omega) (by omega)
theorem ccM_l {c n f n0 : Nat} {x : Nat → Nat} (hc : c < 512) (hn : n ≤ 3) (hf : f < 10) : ∀ (m k : Nat) (σ : St), k ≤ n → n < m + k → n0 + k ≤ 12 → flm σ 6 (codX c n f n0 x k) (n0 + k) → ∃ σ', f_X6_cooksCode_14 (fun (w9_0 : Int32) (σ10 : St) => chk (b01 w9_0) <| some (w9_0, σ10)) m (nI c) (nI n) (nI f) 1 (nI (8 ^ (n - k))) (nI k) σ = some ((if n0 + n ≤ 12 then 1 else 0), σ') ∧ (n0 + n ≤ 12 → flm σ' 6 (codX c n f n0 x n) (n0 + n)) ∧ MK σ σ' := by
  intro m
  induction m with
  | zero => intro k σ h1 h2; omega
  | succ m ih =>
    intro k σ h1 h2 h3 h4
    rw [f_X6_cooksCode_14]
    by_cases hk : k = n
    · subst hk
      rw [if_pos (nI_le (Nat.le_refl _) (by omega)), if_pos h3]
      exact ⟨_, rfl, fun _ => h4, MK.rf⟩
    · obtain ⟨d1, d2, d3⟩ := codD (k := k) hc hn (by omega)
      rw [if_neg (nI_ge (by omega) (by omega)), if_neg p0, nw_s, d1, chk_t d2, d3]
      by_cases hr : n0 + k < 12
      · obtain ⟨σ1, q1, q2, q3, q4⟩ := cooM6 h4 (show c / 8 ^ (n - 1 - k) % 8 < 8 from Nat.mod_lt _ (by omega)) hf hr
        obtain ⟨σ2, g1, g2, g3⟩ := ih (k + 1) σ1 (by omega) (by omega) (by omega) q2
        refine ⟨σ2, ?_, g2, q3.tr g3⟩
        rw [bnd_o q1, nw_s, nw_s, nI_1]
        rw [show n - (k + 1) = n - 1 - k by omega] at g1
        exact g1
      · refine ⟨σ, ?_, fun q => absurd q (by omega), MK.rf⟩
        rw [bnd_o (cooM6_no h4 hr (by omega)), nw_s, nw_s, nI_1, if_neg (by omega)]
        obtain ⟨m2, rfl⟩ : ∃ m2, m = m2 + 1 := ⟨m - 1, by omega⟩
        rw [f_X6_cooksCode_14]
        by_cases e : n ≤ k + 1
        · rw [if_pos (nI_le e (by omega))]; rfl
        · rw [if_neg (nI_ge (by omega) (by omega)), if_pos rfl]; rfl
theorem ccM {σ : St} {c n f n0 : Nat} {x : Nat → Nat} (h : flm σ 6 x n0) (h0 : n0 ≤ 12) (hc : c < 512) (hn : n ≤ 3) (hf : f < 10) : ∃ σ', f_X6_cooksCode σ (nI c) (nI n) (nI f) = some ((if n0 + n ≤ 12 then 1 else 0), σ') ∧ (n0 + n ≤ 12 → flm σ' 6 (codX c n f n0 x n) (n0 + n)) ∧ MK σ σ' := by
  obtain ⟨σ', g1, g2, g3⟩ := ccM_l (n0 := n0) (x := x) hc hn hf fu 0 σ (by omega) (by rw [fu_e]; omega) (by omega) h
  refine ⟨σ', ?_, g2, g3⟩
  rw [f_X6_cooksCode, bnd_o (pow8 (by omega))]
  exact g1
/-- both sides, over one kitchen -/
def RK (K : Kv) (σc σm : St) : Prop := RR σc σm ∧ KC 1 σc K ∧ KM 0 1 2 3 4 σm K
theorem RK.keep {K : Kv} {σc σc' σm σm' : St} (h : RK K σc σm) (f : Fr scr σc σc') (g : MK σm σm') : RK K σc' σm' :=
  ⟨h.1.keep f g, h.2.1.fr f (fun a _ _ q => by unfold scr at q; omega), h.2.2.mk g⟩
/-- the first code that brings the taste over p -/
theorem bring_in {K : Kv} {j t p f n : Nat} {v5 : Int32} {kc : Int32 → St → Option (Int32 × St)} {kc0 : St → Option (Int32 × St)} {km : Int32 → Int32 → Int32 → St → Option (Int32 × St)} {km0 : Int32 → Int32 → Int32 → Int32 → Int32 → Int32 → St → Option (Int32 × St)} (hj : j < K.1) (ht : t < 4) (hp : p ≤ 100) (hf : f < 10) (hn : n ≤ 3) (h12 : K.2.1 j + n ≤ 12) : ∀ (m c : Nat) (σc σm : St), c ≤ 8 ^ n → 8 ^ n < m + c → RK K σc σm →
    (∃ (c' : Nat) (σc' σm' : St), c' < 8 ^ n ∧ f_X5_firstBringing_10 kc kc0 m (pt 1 j + 1) (nI t) (nI p) (nI f) (nI n) (nI (8 ^ n)) (nI c) σc = kc (nI c') σc' ∧ f_X6_bring_75 km km0 m (nI j) (nI t) (nI p) (nI f) v5 (nI n) (nI c) σm = km v5 (nI n) (nI c') σm' ∧ RK K σc' σm') ∨
    (∃ (σc' σm' : St), f_X5_firstBringing_10 kc kc0 m (pt 1 j + 1) (nI t) (nI p) (nI f) (nI n) (nI (8 ^ n)) (nI c) σc = kc0 σc' ∧ f_X6_bring_75 km km0 m (nI j) (nI t) (nI p) (nI f) v5 (nI n) (nI c) σm = km0 (nI j) (nI t) (nI p) (nI f) v5 (nI n) σm' ∧ RK K σc' σm') := by
  have b8 := p8_le hn
  intro m
  induction m with
  | zero => intro c σc σm h1 h2; omega
  | succ m ih =>
    intro c σc σm h1 h2 hR
    obtain ⟨hRR, hC, hM⟩ := id hR
    have h6 := hC.2.2.1
    rw [f_X5_firstBringing_10, f_X6_bring_75, bnd_o (pow8 (by omega))]
    by_cases hc : c = 8 ^ n
    · refine Or.inr ⟨σc, σm, ?_, ?_, hR⟩
      · rw [if_pos (nI_le (by omega) (by omega))]
      · rw [if_pos (nI_le (by omega) (by omega))]
    · have hlt : c < 8 ^ n := by omega
      obtain ⟨p1, p2, p3, p4, p5⟩ := hC.2.2.2 j hj
      obtain ⟨s1, s2⟩ := smM6 (hM.flm hj)
      obtain ⟨σ1, c1, c2, c3⟩ := tcC (c := c) (n := n) (f := f) (setF_flv (σ := σc) fl122 (fun t ht => p2.2.1 t ht) p2.2.2.1 p2.2.2.2) (by omega) hn hf
      obtain ⟨σ2, m1, m2, m3⟩ := ccM (c := c) (n := n) (f := f) s1 p3 (by omega) hn hf
      have b1 := codX_bd (c := c) (n := n) (f := f) p4 hf n
      have hR2 : RK K σ1 σ2 := hR.keep (Fr.tr (setF_fr.mono (fun a ha => scr_fl ha)) (c3.mono (fun a ha => scr_fl ha))) (s2.tr m3)
      rw [if_pos h12] at m1
      have hov : f_X6_isOver σ2 6 (nI t) (nI p) = some (nI (ovN (codX c n f (K.2.1 j) (K.2.2.1 j) n) t p)) := ovM (m2 h12) b1 (by omega) ht hp
      rw [if_neg (nI_ge hlt (by omega)), if_neg (nI_ge hlt (by omega)), bnd_o (becomeC fl122 p1.2.1), bnd_o c1, bnd_o (ovC c2 b1 (by omega) ht hp), bnd_o (sameM6 (a := j) (by omega)), bnd_o m1, if_neg p0, bnd_o hov]
      rcases ovN_01 (codX c n f (K.2.1 j) (K.2.2.1 j) n) t p with e | e
      · rw [e, if_pos (show nI 0 = 0 from rfl), if_pos (show nI 0 = 0 from rfl), nw_s, f_X6_bring_151, nw_s, nI_1]
        exact ih (c + 1) σ1 σ2 (by omega) (by omega) hR2
      · refine Or.inl ⟨c, σ1, σ2, hlt, ?_, ?_, hR2⟩
        · rw [e, if_neg (show ¬ nI 1 = 0 from p0)]
        · rw [e, if_neg (show ¬ nI 1 = 0 from p0)]
theorem bring_no {K : Kv} {j n f : Nat} {t p v5 : Int32} {km : Int32 → Int32 → Int32 → St → Option (Int32 × St)} {km0 : Int32 → Int32 → Int32 → Int32 → Int32 → Int32 → St → Option (Int32 × St)} (hj : j < K.1) (h0 : K.2.1 j ≤ 12) (hf : f < 10) (hn : n ≤ 3) (h12 : ¬ K.2.1 j + n ≤ 12) : ∀ (m c : Nat) (σm : St), c ≤ 8 ^ n → 8 ^ n < m + c → KM 0 1 2 3 4 σm K → ∃ σm', f_X6_bring_75 km km0 m (nI j) t p (nI f) v5 (nI n) (nI c) σm = km0 (nI j) t p (nI f) v5 (nI n) σm' ∧ MK σm σm' := by
  have b8 := p8_le hn
  intro m
  induction m with
  | zero => intro c σm h1 h2; omega
  | succ m ih =>
    intro c σm h1 h2 hM
    have h6 := hM.2.1
    rw [f_X6_bring_75, bnd_o (pow8 (by omega))]
    by_cases hc : c = 8 ^ n
    · rw [if_pos (nI_le (by omega) (by omega))]
      exact ⟨σm, rfl, MK.rf⟩
    · have hlt : c < 8 ^ n := by omega
      obtain ⟨s1, s2⟩ := smM6 (hM.flm hj)
      obtain ⟨σ2, m1, m2, m3⟩ := ccM (c := c) (n := n) (f := f) s1 h0 (by omega) hn hf
      rw [if_neg h12] at m1
      obtain ⟨σ3, g1, g2⟩ := ih (c + 1) σ2 (by omega) (by omega) (hM.mk (s2.tr m3))
      refine ⟨σ3, ?_, (s2.tr m3).tr g2⟩
      rw [if_neg (nI_ge hlt (by omega)), bnd_o (sameM6 (a := j) (by omega)), bnd_o m1, if_pos rfl, f_X6_bring_151, nw_s, nI_1]
      exact g1
theorem bring_rest {K : Kv} {j f : Nat} {t p v5 : Int32} {km : Int32 → Int32 → Int32 → St → Option (Int32 × St)} {km0 : St → Option (Int32 × St)} (hj : j < K.1) (h0 : K.2.1 j ≤ 12) (hf : f < 10) : ∀ (m n : Nat) (σm : St), n ≤ 4 → 4 < m + n → ¬ K.2.1 j + n ≤ 12 → KM 0 1 2 3 4 σm K → ∃ σm', f_X6_bring_66 km km0 m (nI j) t p (nI f) v5 (nI n) σm = km0 σm' ∧ MK σm σm' := by
  intro m
  induction m with
  | zero => intro n σm h1 h2; omega
  | succ m ih =>
    intro n σm h1 h2 h3 hM
    rw [f_X6_bring_66]
    by_cases hn : n = 4
    · subst hn
      rw [if_pos (by decide)]
      exact ⟨σm, rfl, MK.rf⟩
    · have b8 := p8_le (n := n) (by omega)
      obtain ⟨σ1, g1, g2⟩ := bring_no (t := t) (p := p) (v5 := v5) (km := km) (km0 := fun (w37_0 : Int32) (w38_1 : Int32) (w39_2 : Int32) (w40_3 : Int32) (w41_4 : Int32) (w42_5 : Int32) (σ43 : St) => nw (w42_5 + 1 : Int32) fun v144 => f_X6_bring_66 km km0 m w37_0 w38_1 w39_2 w40_3 w41_4 v144 σ43) hj h0 hf (show n ≤ 3 by omega) h3 fu 0 σm (Nat.zero_le _) (by rw [fu_e]; omega) hM
      obtain ⟨σ2, g3, g4⟩ := ih (n + 1) σ1 (by omega) (by omega) (by omega) (hM.mk g2)
      refine ⟨σ2, ?_, g2.tr g4⟩
      rw [show nI 0 = 0 from rfl] at g1
      rw [if_neg (show ¬ (4 : Int32) ≤ nI n from nI_ge (b := 4) (by omega) (by omega)), g1, nw_s, nI_1]
      exact g3
theorem bring_l {K : Kv} {j t p f q : Nat} (hj : j < K.1) (ht : t < 4) (hp : p ≤ 100) (hf : f < 10) (hq : q < 2) : ∀ (m n : Nat) (σc σm : St), n ≤ 4 → 4 < m + n → RK K σc σm → ∃ (r : Int32) (σc' σm' : St), f_X5_bring_60 (fun (w21_0 : Int32) (w22_1 : Int32) (w23_2 : Int32) (σ24 : St) => (if w21_0 = 0 then some (w22_1, σ24) else bnd (f_X5_firstKind w23_2 w22_1) fun r26 => some (r26, σ24))) (fun  (σ27 : St) => some ((-4), σ27)) m (nI t) (nI p) (nI f) (nI q) (pt 1 j + 1) (nI n) σc = some (r, σc') ∧
    f_X6_bring_66 (fun (w45_0 : Int32) (w46_1 : Int32) (w47_2 : Int32) (σ48 : St) => (if w45_0 = 0 then some (w46_1, σ48) else (if w46_1 = 0 then some ((-4), σ48) else bnd (f_X6_power 8 (w46_1 - 1)) fun r51 => chk (nz r51) <| some (w47_2 / r51, σ48)))) (fun  (σ53 : St) => some ((-4), σ53)) m (nI j) (nI t) (nI p) (nI f) (nI q) (nI n) σm = some (r, σm') ∧ RR σc' σm' := by
  intro m
  induction m with
  | zero => intro n σc σm h1 h2; omega
  | succ m ih =>
    intro n σc σm h1 h2 hR
    obtain ⟨hRR, hC, hM⟩ := id hR
    have h6 := hC.2.2.1
    obtain ⟨p1, p2, p3, p4, p5⟩ := hC.2.2.2 j hj
    by_cases hn : n = 4
    · subst hn
      rw [f_X5_bring_60, f_X6_bring_66, if_pos (by decide), if_pos (by decide)]
      exact ⟨_, _, _, rfl, rfl, hRR⟩
    · rw [f_X5_bring_60, if_neg (show ¬ (3 : Int32) < nI n from nI_nlt (a := 3) (by omega) (by omega)), chk_t p2.1.1, p2.2.2.2, nI_add]
      by_cases h12 : K.2.1 j + n ≤ 12
      · have b8 := p8_le (n := n) (by omega)
        rw [if_neg (show ¬ (12 : Int32) < nI (K.2.1 j + n) from nI_nlt (a := 12) (by omega) (by omega)), f_X5_firstBringing, bnd_o (codesC n (by omega)), f_X6_bring_66, if_neg (show ¬ (4 : Int32) ≤ nI n from nI_ge (b := 4) (by omega) (by omega))]
        rcases bring_in (K := K) (v5 := nI q) (kc := fun (w8_0 : Int32) (σ9 : St) => some (w8_0, σ9)) (kc0 := fun  (σ10 : St) => some ((-4), σ10)) (km := fun (w45_0 : Int32) (w46_1 : Int32) (w47_2 : Int32) (σ48 : St) => (if w45_0 = 0 then some (w46_1, σ48) else (if w46_1 = 0 then some ((-4), σ48) else bnd (f_X6_power 8 (w46_1 - 1)) fun r51 => chk (nz r51) <| some (w47_2 / r51, σ48)))) (km0 := fun (w37_0 : Int32) (w38_1 : Int32) (w39_2 : Int32) (w40_3 : Int32) (w41_4 : Int32) (w42_5 : Int32) (σ43 : St) => nw (w42_5 + 1 : Int32) fun v144 => f_X6_bring_66 (fun (w45_0 : Int32) (w46_1 : Int32) (w47_2 : Int32) (σ48 : St) => (if w45_0 = 0 then some (w46_1, σ48) else (if w46_1 = 0 then some ((-4), σ48) else bnd (f_X6_power 8 (w46_1 - 1)) fun r51 => chk (nz r51) <| some (w47_2 / r51, σ48)))) (fun  (σ53 : St) => some ((-4), σ53)) m w37_0 w38_1 w39_2 w40_3 w41_4 v144 σ43) hj ht hp hf (show n ≤ 3 by omega) h12 fu 0 σc σm (Nat.zero_le _) (by rw [fu_e]; omega) hR with ⟨c, σ1, σ2, hc, e1, e2, hR2⟩ | ⟨σ1, σ2, e1, e2, hR2⟩
        · rw [show nI 0 = 0 from rfl] at e1 e2
          rw [e1, e2, bnd_s, nw_s]
          show ∃ (r : Int32) (σc' σm' : St), (if nI c < 0 then _ else _) = some (r, σc') ∧ _
          rw [if_neg (nI_pos (by omega))]
          by_cases e0 : q = 0
          · subst e0
            rw [if_pos (show nI 0 = 0 from rfl), if_pos (show nI 0 = 0 from rfl)]
            exact ⟨_, _, _, rfl, rfl, hR2.1⟩
          · rw [if_neg (nI_ne0 (by omega) (by omega)), if_neg (nI_ne0 (by omega) (by omega)), f_X5_firstKind]
            by_cases en : n = 0
            · subst en
              rw [if_pos (show nI 0 = 0 from rfl), if_pos (show nI 0 = 0 from rfl)]
              exact ⟨_, _, _, rfl, rfl, hR2.1⟩
            · obtain ⟨n', rfl⟩ : ∃ n', n = n' + 1 := ⟨n - 1, by omega⟩
              have b9 := p8_le (n := n') (by omega)
              have b10 := p8_pos n'
              have hd : c / 8 ^ n' < 8 := by
                rw [Nat.div_lt_iff_lt_mul b10]
                rw [Nat.pow_succ] at hc
                omega
              have hz : nz (nI (8 ^ n')) = true := by
                have := nI_ne0 (n := 8 ^ n') b10 (by omega)
                simpa [nz] using this
              rw [if_neg (nI_ne0 (by omega) (by omega)), if_neg (nI_ne0 (by omega) (by omega)), nI_pred, bnd_o (kindInC n' (by omega) c (by omega)), bnd_s, bnd_o (pow8 (by omega)), chk_t hz, pk_div (by omega) b10 (by omega), Nat.mod_eq_of_lt hd]
              exact ⟨_, _, _, rfl, rfl, hR2.1⟩
        · rw [show nI 0 = 0 from rfl] at e1 e2
          rw [e1, e2, bnd_s, nw_s, nw_s, nI_1]
          show ∃ (r : Int32) (σc' σm' : St), (if (-4 : Int32) < 0 then _ else _) = some (r, σc') ∧ _
          rw [if_pos (by decide), nw_s]
          exact ih (n + 1) σ1 σ2 (by omega) (by omega) hR2
      · rw [if_pos (show (12 : Int32) < nI (K.2.1 j + n) from nI_lt (a := 12) (by omega) (by omega))]
        obtain ⟨σ2, e2, e3⟩ := bring_rest (K := K) (t := nI t) (p := nI p) (v5 := nI q) (km := fun (w45_0 : Int32) (w46_1 : Int32) (w47_2 : Int32) (σ48 : St) => (if w45_0 = 0 then some (w46_1, σ48) else (if w46_1 = 0 then some ((-4), σ48) else bnd (f_X6_power 8 (w46_1 - 1)) fun r51 => chk (nz r51) <| some (w47_2 / r51, σ48)))) (km0 := fun  (σ53 : St) => some ((-4), σ53)) hj p3 hf (m + 1) n σm (by omega) (by omega) h12 hM
        rw [e2]
        exact ⟨_, _, _, rfl, rfl, hRR.keep Fr.rf e3⟩
theorem sim_bring {σc σm : St} (h : RR σc σm) (x y z v u : Int32) : ∃ (r : Int32) (σc' σm' : St), f_X5_bring σc x y z v u = some (r, σc') ∧ f_X6_bring σm x y z v u = some (r, σm') ∧ RR σc' σm' := by
  have h5 := h.u5 (v := 0)
  obtain ⟨K, K2, hC, hM, -⟩ := id h
  have hM5 := hM.u5 (v := 0)
  have h6 := hC.2.2.1
  rw [f_X6_bring, nw_s, f_X5_bring]
  rcases inb_or x (show K.1 < 2 ^ 31 by omega) with ⟨j, hj, rfl⟩ | hn
  · obtain ⟨p1, p2, p3, p4, p5⟩ := hC.2.2.2 j hj
    rw [bnd_o (hasC_y hC hj), bnd_o (isPotM_y hM5 hj), if_neg p0, if_neg p0]
    rcases inb_or y (show 4 < 2 ^ 31 by omega) with ⟨t, ht, rfl⟩ | hn
    · rw [bnd_o (noTaste_y ht), bnd_o (inM_y ht (by omega)), if_pos rfl, if_neg p0]
      rcases inb_or z (show 101 < 2 ^ 31 by omega) with ⟨p, hp, rfl⟩ | hn
      · rw [bnd_o (noPercent_y hp), bnd_o (inM_y hp (by omega)), if_pos rfl, if_neg p0]
        rcases inb_or v (show 10 < 2 ^ 31 by omega) with ⟨f, hf, rfl⟩ | hn
        · rw [bnd_o (noFigure_y hf), bnd_o (inM_y hf (by omega)), if_pos rfl, if_neg p0]
          rcases inb_or u (show 2 < 2 ^ 31 by omega) with ⟨q, hq, rfl⟩ | hn
          · obtain ⟨r, σ1, σ2, e1, e2, hR⟩ := bring_l hj ht (show p ≤ 100 by omega) hf hq fu 0 σc (uI σm 0 5 0) (by omega) (by rw [fu_e]; omega) ⟨h5, hC, hM5⟩
            rw [show nI 0 = 0 from rfl] at e1 e2
            rw [bnd_o (noHalf_y hq), bnd_o (inM_y hq (by omega)), if_pos rfl, if_neg p0, chk_t (inb_nI (by omega) (by omega)), nI_clamp (show j < 2 ^ 31 by omega), pt1, chk_t p1.1, nw_s, e1, e2]
            exact ⟨_, _, _, rfl, rfl, hR⟩
          · rw [bnd_o (noHalf_n hn), bnd_o (inM_n (n := 2) hn), if_neg p0, if_pos rfl]
            exact ⟨_, _, _, rfl, rfl, h5⟩
        · rw [bnd_o (noFigure_n hn), bnd_o (inM_n (n := 10) hn), if_neg p0, if_pos rfl]
          exact ⟨_, _, _, rfl, rfl, h5⟩
      · rw [bnd_o (noPercent_n hn), bnd_o (inM_n (n := 101) hn), if_neg p0, if_pos rfl]
        exact ⟨_, _, _, rfl, rfl, h5⟩
    · rw [bnd_o (noTaste_n hn), bnd_o (inM_n (n := 4) hn), if_neg p0, if_pos rfl]
      exact ⟨_, _, _, rfl, rfl, h5⟩
  · rw [bnd_o (hasC_n hC hn), bnd_o (isPotM_n hM5 hn), if_pos rfl, if_pos rfl]
    exact ⟨_, _, _, rfl, rfl, h5⟩
