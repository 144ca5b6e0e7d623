/-! WEEKS: the reference, and both together -/
def bdK (K : Kv) : Prop := ∀ i, i < K.1 → bd (K.2.2.1 i) (K.2.1 i)
theorem bdK.set {K : Kv} {i k f : Nat} (h : bdK K) (hi : i < K.1) (hk : k < 8) (hf : f < 10) : bdK (Kc K i k f) := by
  intro j hj
  have hj' : j < K.1 := hj
  by_cases q : j = i
  · subst q
    rw [Kc_x, Kc_n]
    exact bd_take (h j hi) hk hf
  · obtain ⟨a, b⟩ := Kc_ne (K := K) (i := i) (k := k) (f := f) q
    rw [a, b]
    exact h j hj'
theorem divP {P r w : Nat} (hP : 0 < P) (hP6 : P ≤ 6) (hr : r < 5) (hw : w < 2 ^ 31) : nI (P ^ (r + 1)) / nI P = nI (P ^ r) ∧ nz (nI P) = true ∧ nz (nI (P ^ r)) = true ∧ nI w / nI (P ^ r) - nI w / nI (P ^ r) / nI P * nI P = nI (w / P ^ r % P) := by
  have b1 : P ^ r ≤ 6 ^ 4 := Nat.le_trans (Nat.pow_le_pow_left hP6 r) (Nat.pow_le_pow_right (by omega) (by omega))
  have b2 : P ^ (r + 1) ≤ 6 ^ 5 := Nat.le_trans (Nat.pow_le_pow_left hP6 _) (Nat.pow_le_pow_right (by omega) (by omega))
  have c1 : (6 : Nat) ^ 4 = 1296 := by decide
  have c2 : (6 : Nat) ^ 5 = 7776 := by decide
  have hp : 0 < P ^ r := Nat.pow_pos hP
  refine ⟨?_, ?_, ?_, ?_⟩
  · rw [pk_div (by omega) hP (by omega), Nat.pow_succ, Nat.mul_div_cancel _ hP]
  · have := nI_ne0 (n := P) hP (by omega)
    simpa [nz] using this
  · have := nI_ne0 (n := P ^ r) hp (by omega)
    simpa [nz] using this
  · rw [pk_div hw hp (by omega)]
    have := Nat.div_le_self w (P ^ r)
    exact pk_rem (by omega) hP (by omega)
theorem wk_in {d n b p P w : Nat} {el : Nat → Int32} {v4 v7 v8 : Int32} {k9 : Int32 → Int32 → Int32 → Int32 → Int32 → Int32 → Int32 → Int32 → Int32 → Int32 → St → Option (Int32 × St)} (hd : d < 8) (hn : n ≤ 5) (hb : b < 16) (hp : p ≤ 100) (hP : 0 < P) (hP6 : P ≤ 6) (hD : isD el n) (hw : w < 2 ^ 31) : ∀ (r m k D : Nat) (K : Kv) (σ : St), r < m → k + r = n → K.1 = P → KM 0 1 2 3 4 σ K → bdK K → rowMt σ d (2 * n) el →
    ∃ (g D' : Int32) (σ' : St), f_X6_week_125 k9 m (nI d) (nI b) (nI p) v4 (nI n) v7 v8 (nI w) 1 (nI D) (nI (P ^ r)) (nI k) σ = k9 (nI d) (nI b) (nI p) v4 (nI n) v7 v8 (nI w) g D' σ' ∧ Fr (fun a => 1 ≤ a ∧ a ≤ 4) σ σ' ∧ ((gd (dk el) (df el) b p P n r K w = none ∧ g = 0) ∨ (∃ u, gd (dk el) (df el) b p P n r K w = some u ∧ g = 1 ∧ D' = nI (D * 10 ^ r + u))) := by
  intro r
  induction r with
  | zero =>
    intro m k D K σ h1 h2 hK hM hB hr
    obtain ⟨m, rfl⟩ : ∃ x, m = x + 1 := ⟨m - 1, by omega⟩
    rw [f_X6_week_125, if_pos (nI_le (by omega) (by omega))]
    refine ⟨1, nI D, σ, rfl, Fr.rf, Or.inr ⟨0, rfl, rfl, ?_⟩⟩
    rw [Nat.pow_zero, Nat.mul_one, Nat.add_zero]
  | succ r ih =>
    intro m k D K σ h1 h2 hK hM hB hr
    obtain ⟨m, rfl⟩ : ∃ x, m = x + 1 := ⟨m - 1, by omega⟩
    have hkn : k < n := by omega
    have hnk : n - (r + 1) = k := by omega
    obtain ⟨d1, d2, d3, d4⟩ := hD k hkn
    obtain ⟨q1, q2, q3, q4⟩ := divP (w := w) (r := r) hP hP6 (by omega) hw
    have hi : w / P ^ r % P < K.1 := by rw [hK]; exact Nat.mod_lt _ hP
    have bad : ∀ (dd : Int32) (σ3 : St), f_X6_week_125 k9 m (nI d) (nI b) (nI p) v4 (nI n) v7 v8 (nI w) 0 dd (nI (P ^ r)) (nI (k + 1)) σ3 = k9 (nI d) (nI b) (nI p) v4 (nI n) v7 v8 (nI w) 0 dd σ3 := by
      intro dd σ3
      obtain ⟨m2, rfl⟩ : ∃ x, m = x + 1 := ⟨m - 1, by omega⟩
      rw [f_X6_week_125]
      by_cases e : n ≤ k + 1
      · rw [if_pos (nI_le e (by omega))]
      · rw [if_neg (nI_ge (by omega) (by omega)), if_pos rfl]
    have gs : gd (dk el) (df el) b p P n (r + 1) K w = (stp (dk el) (df el) b p K (w / P ^ r % P) k).bind (fun K' => (gd (dk el) (df el) b p P n r K' w).map (fun u => (w / P ^ r % P) * 10 ^ r + u)) := by rw [gd, hnk]
    rw [f_X6_week_125, if_neg (nI_ge hkn (by omega)), if_neg p0, hM.1, hK, chk_t q2, nw_s, q1, chk_t q3, chk_t q2, nw_s, q4, nw_s, show (10 : Int32) = nI 10 from rfl, pk_mul, nI_add, show (2 : Int32) = nI 2 from rfl, pk_mul, nI_1, bnd_o (el0M (q := 2 * k) hr hd (by omega)), bnd_o (el0M (q := 2 * k + 1) hr hd (by omega)), d3, d4]
    generalize hii : w / P ^ r % P = i at *
    by_cases h12 : K.2.1 i < 12
    · obtain ⟨σ2, m1, m2, m3, m4⟩ := cookM hM hi d1 d2 h12
      have m2' : KM 0 1 2 3 4 σ2 (Kc K i (dk el k) (df el k)) := m2
      have hB2 := hB.set hi d1 d2
      have hh := harmK (i := i) m2' hi (hB2 i hi) hb hp
      rw [Kc_x] at hh
      rw [bnd_o m1, if_neg p0, bnd_o hh]
      rcases hrN_01 (takeN (dk el k) (df el k) (K.2.1 i) (K.2.2.1 i)) b p with e | e
      · have hst : stp (dk el) (df el) b p K i k = some (Kc K i (dk el k) (df el k)) := by rw [stp, if_pos h12, if_pos e]
        obtain ⟨g, D', σ3, w1, w2, w3⟩ := ih m (k + 1) (10 * D + i) (Kc K i (dk el k) (df el k)) σ2 (by omega) (by omega) hK m2' hB2 (hr.fr m4 (by omega) (by omega))
        refine ⟨g, D', σ3, ?_, Fr.tr m4 w2, ?_⟩
        · rw [e, if_pos (show nI 0 = 0 from rfl), f_X6_week_213, nw_s, nI_1]
          exact w1
        · rw [gs, hst]
          rcases w3 with ⟨a1, a2⟩ | ⟨u, a1, a2, a3⟩
          · refine Or.inl ⟨?_, a2⟩
            show (gd (dk el) (df el) b p P n r (Kc K i (dk el k) (df el k)) w).map _ = none
            rw [a1]
            rfl
          · refine Or.inr ⟨i * 10 ^ r + u, ?_, a2, ?_⟩
            · show (gd (dk el) (df el) b p P n r (Kc K i (dk el k) (df el k)) w).map _ = _
              rw [a1]
              rfl
            · rw [a3]
              congr 1
              rw [Nat.add_mul, Nat.pow_succ, Nat.mul_comm (10 ^ r) 10, ← Nat.mul_assoc, Nat.mul_comm D 10, Nat.add_assoc]
      · have hst : stp (dk el) (df el) b p K i k = none := by rw [stp, if_pos h12, if_neg (by omega)]
        refine ⟨0, nI (10 * D + i), σ2, ?_, m4, Or.inl ⟨by rw [gs, hst]; rfl, rfl⟩⟩
        rw [e, if_neg (show ¬ nI 1 = 0 from p0), f_X6_week_212, f_X6_week_213, nw_s, nI_1]
        exact bad _ σ2
    · have hst : stp (dk el) (df el) b p K i k = none := by rw [stp, if_neg h12]
      refine ⟨0, nI (10 * D + i), σ, ?_, Fr.rf, Or.inl ⟨by rw [gs, hst]; rfl, rfl⟩⟩
      rw [bnd_o (cookM_no hM hi h12), if_pos rfl, f_X6_week_212, f_X6_week_213, nw_s, nI_1]
      exact bad _ σ
theorem rowMt.mk {σ σ' : St} {d z : Nat} {el : Nat → Int32} (h : rowMt σ d z el) (g : MK σ σ') : rowMt σ' d z el := by
  obtain ⟨a, b, c⟩ := h
  refine ⟨a, ?_, fun q hq => ?_⟩
  · rw [(g.2.2.2.1 20 (by omega)).1]; exact b
  · rw [(g.2.2.2.1 21 (by omega)).2]; exact c q hq
theorem wk_out {d n b p P q : Nat} {el : Nat → Int32} {K : Kv} {k9 : Int32 → Int32 → Int32 → St → Option (Int32 × St)} (hd : d < 8) (hn : n ≤ 5) (hb : b < 16) (hp : p ≤ 100) (hP : 0 < P) (hP6 : P ≤ 6) (hD : isD el n) (hK : K.1 = P) (hB : bdK K) : ∀ (m w : Nat) (σ : St), w ≤ P ^ n → P ^ n < m + w → KM 0 1 2 3 4 σ K → rowMt σ d (2 * n) el → ∃ σ', f_X6_week_87 k9 m (nI d) (nI b) (nI p) (nI q) (nI n) (nI (fw (gd (dk el) (df el) b p P n n K) 0 w (0, -4)).1) (fw (gd (dk el) (df el) b p P n n K) 0 w (0, -4)).2 (nI w) σ = k9 (nI q) (nI (fw (gd (dk el) (df el) b p P n n K) 0 (P ^ n) (0, -4)).1) (fw (gd (dk el) (df el) b p P n n K) 0 (P ^ n) (0, -4)).2 σ' ∧ MK σ σ' := by
  have b2 : P ^ n ≤ 6 ^ 5 := Nat.le_trans (Nat.pow_le_pow_left hP6 _) (Nat.pow_le_pow_right (by omega) (by omega))
  have c2 : (6 : Nat) ^ 5 = 7776 := by decide
  intro m
  induction m with
  | zero => intro w σ h1 h2; omega
  | succ m ih =>
    intro w σ h1 h2 hM hr
    rw [f_X6_week_87, hM.1, hK, bnd_o (powM (b := P) (n := n) (by omega))]
    by_cases hw : w = P ^ n
    · subst hw
      rw [if_pos (nI_le (Nat.le_refl _) (by omega))]
      exact ⟨σ, rfl, MK.rf⟩
    · have hlt : w < P ^ n := by omega
      have hop : (opS σ).1 0 0 = nI P := by rw [opS_0 (by omega), hM.1, hK]
      obtain ⟨g, D', σ2, w1, w2, w3⟩ := wk_in (v4 := nI q) (v7 := nI (fw (gd (dk el) (df el) b p P n n K) 0 w (0, -4)).1) (v8 := (fw (gd (dk el) (df el) b p P n n K) 0 w (0, -4)).2) (k9 := fun (w72_0 : Int32) (w73_1 : Int32) (w74_2 : Int32) (w75_3 : Int32) (w76_4 : Int32) (w77_5 : Int32) (w78_6 : Int32) (w79_7 : Int32) (w80_8 : Int32) (w81_9 : Int32) (σ82 : St) => f_X6_week_221 (fun (w89_0 : Int32) (w90_1 : Int32) (w91_2 : Int32) (w92_3 : Int32) (w93_4 : Int32) (w94_5 : Int32) (w95_6 : Int32) (w96_7 : Int32) (σ97 : St) => f_X6_week_87 k9 m w89_0 w90_1 w91_2 w92_3 w93_4 w94_5 w95_6 w96_7 σ97) w72_0 w73_1 w74_2 w75_3 w76_4 w77_5 w78_6 w79_7 w80_8 w81_9 σ82) hd hn hb hp hP hP6 hD (show w < 2 ^ 31 by omega) n fu 0 0 K (opS σ) (by rw [fu_e]; omega) (by omega) hK (opS_KM hM) hB (hr.fr opS_fr (by omega) (by omega))
      rw [show nI 0 = 0 from rfl] at w1
      have hmk := ocM w2
      obtain ⟨σ', g1, g2⟩ := ih (w + 1) (clS σ2) (by omega) (by omega) (hM.mk hmk) (hr.mk hmk)
      have hle := fw_le (g := gd (dk el) (df el) b p P n n K) (a := 0) (st := ((0 : Nat), (-4 : Int32))) w
      have hfs : fw (gd (dk el) (df el) b p P n n K) 0 (w + 1) (0, -4) = upd2 (fw (gd (dk el) (df el) b p P n n K) 0 w (0, -4)) (gd (dk el) (df el) b p P n n K w) := by rw [fw, Nat.zero_add]
      rw [hfs] at g1
      generalize hst : fw (gd (dk el) (df el) b p P n n K) 0 w (0, -4) = st at *
      have hle' : st.1 ≤ 7776 := by
        have : ((0 : Nat), (-4 : Int32)).1 = 0 := rfl
        omega
      refine ⟨σ', ?_, hmk.tr g2⟩
      rw [if_neg (nI_ge hlt (by omega)), bnd_o openM', hop, bnd_o (powM (b := P) (n := n) (by omega)), w1, f_X6_week_221, bnd_o closeM']
      rcases w3 with ⟨a1, a2⟩ | ⟨u, a1, a2, a3⟩
      · rw [a1] at g1
        rw [a2, if_pos rfl, f_X6_week_240, f_X6_week_242, if_pos rfl, f_X6_week_256, nw_s, nw_s, nI_1, show (0 : Int32) = nI 0 from rfl, nI_add]
        exact g1
      · rw [a1] at g1
        rw [a2, a3, if_neg p0, Nat.zero_mul, Nat.zero_add]
        by_cases e : st.1 = 0
        · have g9 : upd2 st (some u) = (st.1 + 1, nI u) := by show (st.1 + 1, if st.1 = 0 then nI u else st.2) = _; rw [if_pos e]
          rw [g9] at g1
          rw [if_pos (show nI st.1 = 0 by rw [e]; rfl), f_X6_week_242, if_neg p0, f_X6_week_256, nw_s, nw_s, nI_1, nI_1]
          exact g1
        · have g9 : upd2 st (some u) = (st.1 + 1, st.2) := by show (st.1 + 1, if st.1 = 0 then nI u else st.2) = _; rw [if_neg e]
          rw [g9] at g1
          rw [if_neg (nI_ne0 (by omega) (by omega)), f_X6_week_240, f_X6_week_242, if_neg p0, f_X6_week_256, nw_s, nw_s, nI_1, nI_1]
          exact g1
theorem sim_week {σc σm : St} (h : RR σc σm) (x y z v : Int32) : ∃ (r : Int32) (σc' σm' : St), f_X5_week σc x y z v = some (r, σc') ∧ f_X6_week σm x y z v = some (r, σm') ∧ RR σc' σm' := by
  have h5 := h.u5 (v := 0)
  obtain ⟨K, K2, hC, hM, -⟩ := id h
  have hM5 := hM.u5 (v := 0)
  have h6 := hC.2.2.1
  have n13 : ¬ (0 : Int32) ≤ -13 := by decide
  have n3 : ¬ (0 : Int32) ≤ -3 := by decide
  rw [f_X6_week, nw_s, f_X5_week]
  rcases inb_or x (show 8 < 2 ^ 31 by omega) with ⟨d, hd, rfl⟩ | hn
  · rw [bnd_o (noShelf_y hd), if_pos rfl, bnd_o (inM_y hd (by omega)), if_neg p0]
    rcases inb_or y (show 16 < 2 ^ 31 by omega) with ⟨b, hb, rfl⟩ | hn
    · rw [bnd_o (noBans_y hb), if_pos rfl]
      rcases inb_or z (show 101 < 2 ^ 31 by omega) with ⟨p, hp, rfl⟩ | hn
      · rw [bnd_o (noPercent_y hp), if_pos rfl, bnd_o (lineM hb hp), if_neg p0]
        rcases inb_or v (show 2 < 2 ^ 31 by omega) with ⟨q, hq, rfl⟩ | hn
        · rw [bnd_o (noHalf_y hq), if_pos rfl, bnd_o (inM_y hq (by omega)), if_neg p0, hC.2.1, hM5.1]
          by_cases e0 : K.1 = 0
          · rw [e0, if_pos (show nI 0 = 0 from rfl), if_pos (show nI 0 = 0 from rfl), f_X6_week_57, if_neg n3]
            exact ⟨_, _, _, rfl, rfl, h5⟩
          · rw [if_neg (nI_ne0 (by omega) (by omega)), if_neg (nI_ne0 (by omega) (by omega))]
            rcases bytesRef hd (h5.shelf hd) with ⟨r, hr, e1, e2⟩ | ⟨e1, e2, s, hz⟩
            · have hneg : ¬ (0 : Int32) ≤ r := by rcases hr with rfl | rfl <;> decide
              have e3 : f_X6_wrongDishes (uI σm 0 5 0) (nI d) 2 5 = some r := by rw [f_X6_wrongDishes, bnd_o e2, if_neg hneg]
              rw [bnd_o e1, bnd_o e3, if_neg (by rcases hr with rfl | rfl <;> decide), f_X6_week_57, if_neg hneg]
              exact ⟨_, _, _, rfl, rfl, h5⟩
            · obtain ⟨q1, q2, q3, q4, q5, q6, q7⟩ := id hz
              have hrc : rowAt σc d s (fun q => σc.1 (126 + 2 * d + 1) q) := ⟨q2, q4, fun q _ => rfl⟩
              have hrm : rowMt (uI σm 0 5 0) d s (fun q => σc.1 (126 + 2 * d + 1) q) := ⟨q2, q6, fun q hq => (q7 q (by omega)).1⟩
              rw [bnd_o e1, if_pos rfl, chk_t (inb_nI hd (by omega)), nw_s, nI_clamp (show d < 2 ^ 31 by omega)]
              rcases rowdC (K1 := K.1) hrc hd with ⟨ok, e3⟩ | ⟨ok, e3⟩
              · rcases wdM (many := 5) hM5 hrm hd (Or.inl rfl) (by omega) e2 with ⟨-, e4⟩ | ⟨no, e4⟩
                · obtain ⟨ok1, ok2, ok3⟩ := ok
                  obtain ⟨n, hN⟩ : ∃ n, s = 2 * n := ⟨s / 2, by omega⟩
                  rw [hN] at hrc hrm ok3 ok2
                  have hD := isD_of ok3
                  have hdv : nI (2 * n) / nI 2 = nI n := by rw [pk_div (by omega) (by omega) (by omega), show 2 * n / 2 = n by omega]
                  have b2 : K.1 ^ n ≤ 6 ^ 5 := Nat.le_trans (Nat.pow_le_pow_left h6 _) (Nat.pow_le_pow_right (by omega) (by omega))
                  have c2 : (6 : Nat) ^ 5 = 7776 := by decide
                  have hB : bdK K := fun i hi => (hC.2.2.2 i hi).2.2.2.1
                  obtain ⟨σ1, t1, t2, t3⟩ := thinkC (b := b) (p := p) hC
                  have f2 : Fr (fun a => a = 97) σ1 (uI (uI σ1 97 5 0) 97 6 (-4)) := Fr.tr (Fr.uI rfl) (Fr.uI rfl)
                  have hM2 : MD (uI (uI σ1 97 5 0) 97 6 (-4)) K b p := by
                    obtain ⟨g1, g2, g3, g4⟩ := t2
                    refine ⟨?_, ?_, ?_, fun i hi => ?_⟩
                    · rw [uI_n (Or.inr (by omega)), uI_n (Or.inr (by omega))]; exact g1
                    · rw [uI_n (Or.inr (by omega)), uI_n (Or.inr (by omega))]; exact g2
                    · rw [uI_n (Or.inr (by omega)), uI_n (Or.inr (by omega))]; exact g3
                    · obtain ⟨a1, a2, a3⟩ := g4 i hi
                      exact ⟨a1.fr f2 (by omega) (by omega), a2, a3⟩
                  have hrc2 := (hrc.fr t3 (by omega) (by omega)).fr f2 (by omega) (by omega)
                  obtain ⟨σ2, s1, s2, s3, s4, s5⟩ := spr (P := K.1) hd (show n ≤ 5 by omega) hb (show p ≤ 100 by omega) (by omega) h6 hD n fuS 0 0 K _ (0, -4) (by show n < 6; omega) (by omega) rfl hM2 hrc2 (by rw [uI_n (Or.inr (by omega)), uI_i]; rfl) uI_i (by show 0 + K.1 ^ n < _; omega)
                  have hfe : fw (fun w => (gd (dk (fun q => σc.1 (126 + 2 * d + 1) q)) (df (fun q => σc.1 (126 + 2 * d + 1) q)) b p K.1 n n K w).map (fun u => 0 * 10 ^ n + u)) 0 (K.1 ^ n) (0, -4) = fw (gd (dk (fun q => σc.1 (126 + 2 * d + 1) q)) (df (fun q => σc.1 (126 + 2 * d + 1) q)) b p K.1 n n K) 0 (K.1 ^ n) (0, -4) := by
                    refine fw_cong _ (fun w _ => ?_)
                    show (gd _ _ b p K.1 n n K (0 + w)).map _ = _
                    cases gd (dk (fun q => σc.1 (126 + 2 * d + 1) q)) (df (fun q => σc.1 (126 + 2 * d + 1) q)) b p K.1 n n K (0 + w) with
                    | none => rfl
                    | some u =>
                      show some (0 * 10 ^ n + u) = some u
                      rw [Nat.zero_mul, Nat.zero_add]
                  rw [hfe] at s3 s4
                  obtain ⟨σ3, m1, m2⟩ := wk_out (q := q) (k9 := fun (w98_0 : Int32) (w99_1 : Int32) (w100_2 : Int32) (σ101 : St) => (if w98_0 = 0 then some (w99_1, σ101) else some (w100_2, σ101))) hd (show n ≤ 5 by omega) hb (show p ≤ 100 by omega) (by omega) h6 hD rfl hB fu 0 (uI σm 0 5 0) (Nat.zero_le _) (by rw [fu_e]; omega) hM5 hrm
                  rw [show (fw (gd (dk (fun q => σc.1 (126 + 2 * d + 1) q)) (df (fun q => σc.1 (126 + 2 * d + 1) q)) b p K.1 n n K) 0 0 (0, -4)) = (0, -4) from rfl] at m1
                  have m1' : f_X6_week_87 (fun (w98_0 : Int32) (w99_1 : Int32) (w100_2 : Int32) (σ101 : St) => (if w98_0 = 0 then some (w99_1, σ101) else some (w100_2, σ101))) fu (nI d) (nI b) (nI p) (nI q) (nI n) 0 (-4) 0 (uI σm 0 5 0) = _ := m1
                  have e4' : f_X6_wrongDishes (uI σm 0 5 0) (nI d) 2 5 = some 0 := e4
                  have s1' : f_X2_spread fuS (uI (uI σ1 97 5 0) 97 6 (-4)) (126 + 2 * d) 0 0 = some σ2 := s1
                  have hcw : f_X2_countWays σ1 (126 + 2 * d) = some σ2 := by rw [f_X2_countWays, nw_s, nw_s, bnd_o s1']
                  rw [bnd_o e3, if_neg p0, bnd_o t1, bnd_o hcw, s3, s4, bnd_o e4', f_X6_week_57, if_pos (show (0 : Int32) ≤ 0 by decide), chk_t (inb_nI hd (by omega)), nI_clamp (show d < 2 ^ 31 by omega), nw_s, nw_s, hrm.2.1, show (2 : Int32) = nI 2 from rfl, hdv, m1']
                  have hkeep : RR σ2 σ3 := h5.keep (Fr.tr (Fr.tr (t3.mono (fun a ha => scr_m (by omega))) (f2.mono (fun a ha => scr_m (by omega)))) (s5.mono (fun a ha => scr_m (by unfold FrW at ha; omega)))) m2
                  by_cases eq0 : nI q = 0
                  · rw [if_pos eq0, if_pos eq0]
                    exact ⟨_, _, _, rfl, rfl, hkeep⟩
                  · rw [if_neg eq0, if_neg eq0]
                    exact ⟨_, _, _, rfl, rfl, hkeep⟩
                · exact absurd ok no
              · rcases wdM (many := 5) hM5 hrm hd (Or.inl rfl) (by omega) e2 with ⟨yes, e4⟩ | ⟨-, e4⟩
                · exact absurd yes ok
                · have e4' : f_X6_wrongDishes (uI σm 0 5 0) (nI d) 2 5 = some (-13) := e4
                  rw [bnd_o e3, if_pos rfl, bnd_o e4', f_X6_week_57, if_neg n13]
                  exact ⟨_, _, _, rfl, rfl, h5⟩
        · rw [bnd_o (noHalf_n hn), bnd_o (inM_n (n := 2) hn), if_neg p0, if_pos rfl]
          exact ⟨_, _, _, rfl, rfl, h5⟩
      · rw [bnd_o (noPercent_n hn), if_neg p0, bnd_o (lineM_p hb hn), if_pos rfl]
        exact ⟨_, _, _, rfl, rfl, h5⟩
    · rw [bnd_o (noBans_n hn), if_neg p0, bnd_o (lineM_b hn), if_pos rfl]
      exact ⟨_, _, _, rfl, rfl, h5⟩
  · rw [bnd_o (noShelf_n hn), bnd_o (inM_n (n := 8) hn), if_neg p0, if_pos rfl]
    exact ⟨_, _, _, rfl, rfl, h5⟩
