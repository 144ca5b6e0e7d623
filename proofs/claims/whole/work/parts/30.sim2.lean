theorem hasDishC {σ : St} {i n : Nat} {y : Int32} {x kd fg : Nat → Nat} (h : potC σ i n x kd fg) : f_X3_hasDish σ i y = some (if inb y n = true then 1 else 0) := by
  have h3 := h.2.2.1
  rw [f_X3_hasDish]
  rcases inb_or y (show n < 2 ^ 31 by omega) with ⟨d, hd, rfl⟩ | hn
  · rw [if_neg (nI_pos (by omega)), chk_t h.1.1, chk_t h.1.2.1.1, h.2.1.2.2.2, if_neg (nI_ge hd (by omega)), if_pos (inb_nI hd (by omega))]
  · rw [if_neg hn]
    by_cases h1 : y < 0
    · rw [if_pos h1]
    · rw [if_neg h1, chk_t h.1.1, chk_t h.1.2.1.1, h.2.1.2.2.2, if_pos]
      obtain ⟨d, hd, rfl⟩ := nI_of h1
      refine nI_le ?_ hd
      rcases Nat.lt_or_ge d n with q | q
      · exact absurd (inb_nI q hd) hn
      · exact q
theorem sim_dish {σc σm : St} (h : RR σc σm) (x y z : Int32) : ∃ (r : Int32) (σm' : St), f_X5_dish σc x y z = some r ∧ f_X6_dish σm x y z = some (r, σm') ∧ RR σc σm' := by
  have h5 := h.u5 (v := 0)
  obtain ⟨K, K2, hC, hM, -⟩ := id h
  have hM5 := hM.u5 (v := 0)
  have h6 := hC.2.2.1
  rw [f_X6_dish, nw_s, f_X5_dish]
  rcases inb_or x (show K.1 < 2 ^ 31 by omega) with ⟨j, hj, rfl⟩ | hn
  · have hp := hC.2.2.2 j hj
    obtain ⟨p1, p2, p3, p4, p5⟩ := id hp
    obtain ⟨m1, m2, m3, m4⟩ := hM5.2.2 j hj
    rw [bnd_o (hasC_y hC hj), bnd_o (isPotM_y hM5 hj), if_neg p0, if_neg p0]
    by_cases hy : y < 0
    · rw [if_pos hy, if_pos hy]
      exact ⟨_, _, rfl, rfl, h5⟩
    · rw [if_neg hy, if_neg hy]
      rcases inb_or z (show 2 < 2 ^ 31 by omega) with ⟨q, hq, rfl⟩ | hn
      · rw [bnd_o (noHalf_y hq), bnd_o (inM_y hq (by omega)), if_pos rfl, if_neg p0, chk_t (inb_nI (by omega) (by omega)), nI_clamp (by omega), nw_s, pt1, chk_t p1.1, bnd_o (hasDishC hp), chk_t (inb_nI (by omega) (by omega)), m2]
        obtain ⟨d, hd2, rfl⟩ := nI_of hy
        by_cases hd : d < K.2.1 j
        · rw [if_pos (inb_nI hd hd2), if_neg p0, if_pos (nI_lt hd (by omega)), nw_s, n12s hd, chk_t (inb_nI (by omega) (by omega)), nI_clamp (by omega)]
          by_cases e : q = 0
          · subst e
            rw [if_pos (show nI 0 = 0 from rfl), if_pos (show nI 0 = 0 from rfl), bnd_o (kindC hp hd), (m4 _ (by omega)).1]
            exact ⟨_, _, rfl, rfl, h5⟩
          · rw [if_neg (nI_ne0 (by omega) (by omega)), if_neg (nI_ne0 (by omega) (by omega)), bnd_o (figureC hp hd), chk_t (inb_nI (by omega) (by omega)), (m4 _ (by omega)).2]
            exact ⟨_, _, rfl, rfl, h5⟩
        · have e : ¬ inb (nI d) (K.2.1 j) = true := by
            intro z
            obtain ⟨d', hd', ed⟩ := inb_not z
            have := (nI_eq hd2 (by omega)).mp (ed (by omega))
            omega
          rw [if_neg e, if_pos rfl, if_neg (nI_nlt (by omega) hd2)]
          exact ⟨_, _, rfl, rfl, h5⟩
      · rw [bnd_o (noHalf_n hn), bnd_o (inM_n (n := 2) hn), if_neg p0, if_pos rfl]
        exact ⟨_, _, rfl, rfl, h5⟩
  · rw [bnd_o (hasC_n hC hn), bnd_o (isPotM_n hM5 hn), if_pos rfl, if_pos rfl]
    exact ⟨_, _, rfl, rfl, h5⟩
theorem inCnt {y : Int32} {n : Nat} (hn : n ≤ 1000) : f_X6_in y.toInt64 0 ((nI n - 1).toInt64) = some (if inb y n = true then 1 else 0) := by
  refine inM rfl ?_
  rw [Int32.toInt_toInt64]
  exact pk_sub_toInt (b := 1) (by omega) (by omega)
theorem p6_le {i : Nat} (h : i ≤ 12) : 6 ^ i ≤ 2176782336 := Nat.le_trans (Nat.pow_le_pow_right (by omega) h) (by decide)
theorem sim_part {σc σm : St} (h : RR σc σm) (x y z : Int32) : ∃ (r : Int64) (σm' : St), f_X5_part σc x y z = some r ∧ f_X6_part σm x y z = some (r, σm') ∧ RR σc σm' := by
  have h5 := h.u5 (v := 0)
  obtain ⟨K, K2, hC, hM, -⟩ := id h
  have hM5 := hM.u5 (v := 0)
  have h6 := hC.2.2.1
  rw [f_X6_part, nw_s, f_X5_part]
  rcases inb_or x (show K.1 < 2 ^ 31 by omega) with ⟨j, hj, rfl⟩ | hn
  · have hp := hC.2.2.2 j hj
    obtain ⟨p1, p2, p3, p4, p5⟩ := id hp
    have hpm := hM5.2.2 j hj
    obtain ⟨m1, m2, m3, m4⟩ := id hpm
    rw [bnd_o (hasC_y hC hj), bnd_o (isPotM_y hM5 hj), if_neg p0, if_neg p0, chk_t (inb_nI (n := 7) (by omega) (by omega)), nI_clamp (show j < 2 ^ 31 by omega), m2, bnd_o (inCnt (by omega))]
    rcases inb_or z (show 2 < 2 ^ 31 by omega) with ⟨q, hq, rfl⟩ | hn
    · rw [bnd_o (noHalf_y hq), if_pos rfl, chk_t (inb_nI (by omega) (by omega)), pt1, chk_t p1.1, bnd_o (hasDishC hp), bnd_o (inM_y hq (by omega))]
      rcases inb_or y (show K.2.1 j < 2 ^ 31 by omega) with ⟨d, hd, rfl⟩ | hn
      · have b1 := prN_le (n := K.2.1 j) (fun d hd => (p5 d hd).1) d (by omega)
        have b3 := p6_le (i := d) (by omega)
        have b2 := p9_le (n := d) (by omega)
        rw [if_pos (inb_nI hd (by omega)), if_neg p0, if_neg p0, if_neg p0, bnd_o (leftC hp (by omega)), bnd_o (nineC (by omega)), bnd_o (leastC (by omega) (by omega) hq), bnd_o (partM (by omega) hpm (fun d hd => (p5 d hd).1) (by omega)), bnd_o (nineM (by omega)), bnd_o (leastM (by omega) (by omega) (p9_pos _) hq)]
        exact ⟨_, _, rfl, rfl, h5⟩
      · rw [if_neg hn, if_pos rfl, if_pos rfl]
        exact ⟨_, _, rfl, rfl, h5⟩
    · rw [bnd_o (noHalf_n hn), if_neg p0, bnd_o (inM_n (n := 2) hn)]
      rcases inb_or y (show K.2.1 j < 2 ^ 31 by omega) with ⟨d, hd, rfl⟩ | hn
      · rw [if_pos (inb_nI hd (by omega)), if_neg p0, if_pos rfl]
        exact ⟨_, _, rfl, rfl, h5⟩
      · rw [if_neg hn, if_pos rfl]
        exact ⟨_, _, rfl, rfl, h5⟩
  · rw [bnd_o (hasC_n hC hn), bnd_o (isPotM_n hM5 hn), if_pos rfl, if_pos rfl]
    exact ⟨_, _, rfl, rfl, h5⟩
theorem back_l {σc σm : St} {i j n p : Nat} {x kd fg : Nat → Nat} {kc : Int32 → Option Int32} {km : Int32 → St → Option (Int32 × St)} (hj : j < 6) (hp : potC σc i n x kd fg) (hm : pm 1 2 3 4 σm j n x kd fg) : ∀ (m u : Nat), u ≤ n → n < m + u → ∃ r : Int32, f_X5_back_33 σc kc m (nI p) i (nI u) = kc r ∧ f_X6_back_29 km m (nI j) (nI p) (nI u) σm = km r σm := by
  have hk : ∀ d, d < n → kd d < 8 := fun d hd => (hp.2.2.2.2 d hd).1
  have h12 := hp.2.2.1
  intro m
  induction m with
  | zero => intro u h1 h2; omega
  | succ m ih =>
    intro u h1 h2
    rw [f_X5_back_33, f_X6_back_29, chk_t hp.1.1, chk_t hp.1.2.1.1, hp.2.1.2.2.2, chk_t (inb_nI (by omega) (by omega)), nI_clamp (by omega), hm.2.1]
    by_cases hu : u = n
    · subst hu
      rw [if_pos (nI_le (Nat.le_refl _) (by omega)), if_pos (nI_le (Nat.le_refl _) (by omega))]
      exact ⟨_, rfl, rfl⟩
    · rw [if_neg (nI_ge (by omega) (by omega)), if_neg (nI_ge (by omega) (by omega)), bnd_o (leftC hp (by omega)), bnd_o (nineC (by omega)), bnd_o (partM hj hm hk (by omega)), bnd_o (nineM (by omega))]
      by_cases e : lg_cmp (100 * lN (prN kd n u)) ((nI p).toInt64 * lN (9 ^ u)) < 0
      · rw [if_pos e, if_pos e]
        exact ⟨_, rfl, rfl⟩
      · rw [if_neg e, if_neg e, nw_s, nw_s, nI_1]
        exact ih (u + 1) (by omega) (by omega)
theorem sim_back {σc σm : St} (h : RR σc σm) (x y : Int32) : ∃ (r : Int32) (σm' : St), f_X5_back σc x y = some r ∧ f_X6_back σm x y = some (r, σm') ∧ RR σc σm' := by
  have h5 := h.u5 (v := 0)
  obtain ⟨K, K2, hC, hM, -⟩ := id h
  have hM5 := hM.u5 (v := 0)
  have h6 := hC.2.2.1
  rw [f_X6_back, nw_s, f_X5_back]
  rcases inb_or x (show K.1 < 2 ^ 31 by omega) with ⟨j, hj, rfl⟩ | hn
  · have hp := hC.2.2.2 j hj
    have hpm := hM5.2.2 j hj
    have h3 := hp.2.2.1
    rw [bnd_o (hasC_y hC hj), bnd_o (isPotM_y hM5 hj), if_neg p0, if_neg p0, noHundredth, bnd_o (inM1 (n := 101) (by decide) (by decide))]
    by_cases e : inb y 101 = true ∧ ¬ y = 0
    · rw [if_pos e, if_pos e, bnd_s, if_pos rfl, if_neg p0, chk_t (inb_nI (by omega) (by omega)), nw_s, nI_clamp (by omega), pt1]
      rcases inb_or y (show 101 < 2 ^ 31 by omega) with ⟨p, hp2, rfl⟩ | hn
      · obtain ⟨r, e1, e2⟩ := back_l (p := p) (kc := fun (w14_0 : Int32) => some w14_0) (km := fun (w12_0 : Int32) (σ13 : St) => some (w12_0, σ13)) (by omega) hp hpm fu 0 (by omega) (by rw [fu_e]; omega)
        rw [show (0 : Int32) = nI 0 from rfl] at *
        rw [e1, e2]
        exact ⟨_, _, rfl, rfl, h5⟩
      · exact absurd e.1 hn
    · rw [if_neg e, if_neg e, bnd_s, if_neg p0, if_pos rfl]
      exact ⟨_, _, rfl, rfl, h5⟩
  · rw [bnd_o (hasC_n hC hn), bnd_o (isPotM_n hM5 hn), if_pos rfl, if_pos rfl]
    exact ⟨_, _, rfl, rfl, h5⟩
