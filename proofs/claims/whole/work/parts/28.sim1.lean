/-! CALLS, one by one: what both sides answer, and that the relation stays -/
theorem hasC_y {b j : Nat} {σ : St} {K : Kv} (h : KC b σ K) (hj : j < K.1) : f_X1_has σ b (nI j) = some 1 := by
  have h6 := h.2.2.1
  rw [hasC h, if_pos (inb_nI hj (by omega))]
theorem hasC_n {b : Nat} {x : Int32} {σ : St} {K : Kv} (h : KC b σ K) (hx : ¬ inb x K.1 = true) : f_X1_has σ b x = some 0 := by rw [hasC h, if_neg hx]
theorem isPotM_y {σ : St} {t m k g j : Nat} {K : Kv} (h : KM 0 t m k g σ K) (hj : j < K.1) : f_X6_isPot σ (nI j) = some 1 := by
  have h6 := h.2.1
  rw [isPotM (f := 0) h, if_pos (inb_nI hj (by omega))]
theorem isPotM_n {σ : St} {t m k g : Nat} {x : Int32} {K : Kv} (h : KM 0 t m k g σ K) (hx : ¬ inb x K.1 = true) : f_X6_isPot σ x = some 0 := by rw [isPotM (f := 0) h, if_neg hx]
theorem inM_y {j n : Nat} {b c : Int64} (hj : j < n) (hn : n < 2 ^ 31) (hb : b.toInt = 0 := by decide) (hc : c.toInt = (n : Int) - 1 := by decide) : f_X6_in (nI j).toInt64 b c = some 1 := by rw [inM hb hc, if_pos (inb_nI hj (by omega))]
theorem inM_n {x : Int32} {n : Nat} {b c : Int64} (hx : ¬ inb x n = true) (hb : b.toInt = 0 := by decide) (hc : c.toInt = (n : Int) - 1 := by decide) : f_X6_in x.toInt64 b c = some 0 := by rw [inM hb hc, if_neg hx]
theorem noTaste_y {j : Nat} (h : j < 4) : f_X5_isNoTaste (nI j) = some 0 := by rw [noTaste, if_pos (inb_nI h (by omega))]
theorem noTaste_n {x : Int32} (h : ¬ inb x 4 = true) : f_X5_isNoTaste x = some 1 := by rw [noTaste, if_neg h]
theorem noKind_y {j : Nat} (h : j < 8) : f_X5_isNoKind (nI j) = some 0 := by rw [noKind, if_pos (inb_nI h (by omega))]
theorem noKind_n {x : Int32} (h : ¬ inb x 8 = true) : f_X5_isNoKind x = some 1 := by rw [noKind, if_neg h]
theorem noFigure_y {j : Nat} (h : j < 10) : f_X5_isNoFigure (nI j) = some 0 := by rw [noFigure, if_pos (inb_nI h (by omega))]
theorem noFigure_n {x : Int32} (h : ¬ inb x 10 = true) : f_X5_isNoFigure x = some 1 := by rw [noFigure, if_neg h]
theorem noShelf_y {j : Nat} (h : j < 8) : f_X5_isNoShelf (nI j) = some 0 := by rw [noShelf, if_pos (inb_nI h (by omega))]
theorem noShelf_n {x : Int32} (h : ¬ inb x 8 = true) : f_X5_isNoShelf x = some 1 := by rw [noShelf, if_neg h]
theorem noHalf_y {j : Nat} (h : j < 2) : f_X5_isNoHalf (nI j) = some 0 := by rw [noHalf, if_pos (inb_nI h (by omega))]
theorem noHalf_n {x : Int32} (h : ¬ inb x 2 = true) : f_X5_isNoHalf x = some 1 := by rw [noHalf, if_neg h]
theorem noPercent_y {j : Nat} (h : j < 101) : f_X5_isNoPercent (nI j) = some 0 := by rw [noPercent, if_pos (inb_nI h (by omega))]
theorem noPercent_n {x : Int32} (h : ¬ inb x 101 = true) : f_X5_isNoPercent x = some 1 := by rw [noPercent, if_neg h]
theorem noBans_y {j : Nat} (h : j < 16) : f_X5_isNoBans (nI j) = some 0 := by rw [noBans, if_pos (inb_nI h (by omega))]
theorem noBans_n {x : Int32} (h : ¬ inb x 16 = true) : f_X5_isNoBans x = some 1 := by rw [noBans, if_neg h]
theorem p0 : ¬ (1 : Int32) = 0 := by decide
def pt1 (j : Nat) : 3 + 5 * j = pt 1 j := by unfold pt; omega
theorem KM.flm {σ : St} {K : Kv} {j : Nat} (h : KM 0 1 2 3 4 σ K) (hj : j < K.1) : flm σ j (K.2.2.1 j) (K.2.1 j) := by
  have h6 := h.2.1
  obtain ⟨a, b, c, d⟩ := h.2.2 j hj
  exact ⟨by omega, a, b⟩
theorem KM.u5 {σ : St} {K : Kv} {v : Int32} (h : KM 0 1 2 3 4 σ K) : KM 0 1 2 3 4 (uI σ 0 5 v) K := h.u0 ⟨by omega, by omega, by omega, by omega⟩ (by omega)
theorem sim_dishes {σc σm : St} (h : RR σc σm) (x : Int32) : ∃ (r : Int32) (σm' : St), f_X5_dishes σc x = some r ∧ f_X6_dishes σm x = some (r, σm') ∧ RR σc σm' := by
  have h5 := h.u5 (v := 0)
  obtain ⟨K, K2, hC, hM, -⟩ := id h
  have hM5 := hM.u5 (v := 0)
  have h6 := hC.2.2.1
  rw [f_X6_dishes, nw_s, f_X5_dishes]
  rcases inb_or x (show K.1 < 2 ^ 31 by omega) with ⟨j, hj, rfl⟩ | hn
  · obtain ⟨p1, p2, p3, p4, p5⟩ := hC.2.2.2 j hj
    rw [bnd_o (hasC_y hC hj), bnd_o (isPotM_y hM5 hj), if_neg p0, if_neg p0, chk_t (inb_nI (by omega) (by omega)), nI_clamp (by omega), pt1, chk_t p1.1, chk_t p1.2.1.1, chk_t (inb_nI (by omega) (by omega)), p2.2.2.2, (hM5.2.2 j hj).2.1]
    exact ⟨_, _, rfl, rfl, h5⟩
  · rw [bnd_o (hasC_n hC hn), bnd_o (isPotM_n hM5 hn), if_pos rfl, if_pos rfl]
    exact ⟨_, _, rfl, rfl, h5⟩
theorem sim_portion {σc σm : St} (h : RR σc σm) (x y : Int32) : ∃ (r : Int32) (σm' : St), f_X5_portion σc x y = some r ∧ f_X6_portion σm x y = some (r, σm') ∧ RR σc σm' := by
  have h5 := h.u5 (v := 0)
  obtain ⟨K, K2, hC, hM, -⟩ := id h
  have hM5 := hM.u5 (v := 0)
  have h6 := hC.2.2.1
  rw [f_X6_portion, nw_s, f_X5_portion]
  rcases inb_or x (show K.1 < 2 ^ 31 by omega) with ⟨j, hj, rfl⟩ | hn
  · obtain ⟨p1, p2, p3, p4, p5⟩ := hC.2.2.2 j hj
    rw [bnd_o (hasC_y hC hj), bnd_o (isPotM_y hM5 hj), if_neg p0, if_neg p0]
    rcases inb_or y (show 4 < 2 ^ 31 by omega) with ⟨t, ht, rfl⟩ | hn
    · rw [bnd_o (noTaste_y ht), bnd_o (inM_y ht (by omega)), if_pos rfl, if_neg p0, chk_t (inb_nI (by omega) (by omega)), nI_clamp (by omega), pt1, chk_t p1.1, chk_t p1.2.1.1, bnd_o (porC p2 p4 (by omega) ht), bnd_o (porM (hM5.flm hj) p4 (by omega) ht)]
      exact ⟨_, _, rfl, rfl, h5⟩
    · rw [bnd_o (noTaste_n hn), bnd_o (inM_n (n := 4) hn), if_neg p0, if_pos rfl]
      exact ⟨_, _, rfl, rfl, h5⟩
  · rw [bnd_o (hasC_n hC hn), bnd_o (isPotM_n hM5 hn), if_pos rfl, if_pos rfl]
    exact ⟨_, _, rfl, rfl, h5⟩
theorem ovN_01 (x : Nat → Nat) (t p : Nat) : ovN x t p = 0 ∨ ovN x t p = 1 := by
  unfold ovN
  split
  · exact Or.inl rfl
  · exact Or.inr rfl
theorem hrN_01 (x : Nat → Nat) (b p : Nat) : hrN x b p = 0 ∨ hrN x b p = 1 := by
  unfold hrN
  split
  · exact Or.inr rfl
  · exact Or.inl rfl
theorem sim_over {σc σm : St} (h : RR σc σm) (x y z : Int32) : ∃ (r : Int32) (σm' : St), f_X5_over σc x y z = some r ∧ f_X6_over σm x y z = some (r, σm') ∧ RR σc σm' := by
  have h5 := h.u5 (v := 0)
  obtain ⟨K, K2, hC, hM, -⟩ := id h
  have hM5 := hM.u5 (v := 0)
  have h6 := hC.2.2.1
  rw [f_X6_over, nw_s, f_X5_over]
  rcases inb_or x (show K.1 < 2 ^ 31 by omega) with ⟨j, hj, rfl⟩ | hn
  · obtain ⟨p1, p2, p3, p4, p5⟩ := hC.2.2.2 j hj
    rw [bnd_o (hasC_y hC hj), bnd_o (isPotM_y hM5 hj), if_neg p0, if_neg p0]
    rcases inb_or y (show 4 < 2 ^ 31 by omega) with ⟨t, ht, rfl⟩ | hn
    · rw [bnd_o (noTaste_y ht), bnd_o (inM_y ht (by omega)), if_pos rfl, if_neg p0]
      rcases inb_or z (show 101 < 2 ^ 31 by omega) with ⟨p, hp, rfl⟩ | hn
      · rw [bnd_o (noPercent_y hp), bnd_o (inM_y hp (by omega)), if_pos rfl, if_neg p0, chk_t (inb_nI (by omega) (by omega)), nI_clamp (by omega), pt1, chk_t p1.1, chk_t p1.2.1.1, bnd_o (ovC p2 p4 (by omega) ht (by omega)), bnd_o (ovM (hM5.flm hj) p4 (by omega) ht (by omega))]
        rcases ovN_01 (K.2.2.1 j) t p with e | e
        · rw [e]
          exact ⟨_, _, rfl, rfl, h5⟩
        · rw [e]
          exact ⟨_, _, rfl, rfl, h5⟩
      · rw [bnd_o (noPercent_n hn), bnd_o (inM_n (n := 101) hn), if_neg p0, if_pos rfl]
        exact ⟨_, _, rfl, rfl, h5⟩
    · rw [bnd_o (noTaste_n hn), bnd_o (inM_n (n := 4) hn), if_neg p0, if_pos rfl]
      exact ⟨_, _, rfl, rfl, h5⟩
  · rw [bnd_o (hasC_n hC hn), bnd_o (isPotM_n hM5 hn), if_pos rfl, if_pos rfl]
    exact ⟨_, _, rfl, rfl, h5⟩
theorem lineM {b p : Nat} (hb : b < 16) (hp : p < 101) : f_X6_isLine (nI b) (nI p) = some 1 := by
  rw [f_X6_isLine, bnd_o (inM_y hb (by omega)), if_neg p0, bnd_o (inM_y hp (by omega)), if_neg p0]
theorem lineM_b {x y : Int32} (hb : ¬ inb x 16 = true) : f_X6_isLine x y = some 0 := by
  rw [f_X6_isLine, bnd_o (inM_n (n := 16) hb), if_pos rfl]
theorem lineM_p {b : Nat} {y : Int32} (hb : b < 16) (hp : ¬ inb y 101 = true) : f_X6_isLine (nI b) y = some 0 := by
  rw [f_X6_isLine, bnd_o (inM_y hb (by omega)), if_neg p0, bnd_o (inM_n (n := 101) hp), if_pos rfl]
theorem sim_harms {σc σm : St} (h : RR σc σm) (x y z : Int32) : ∃ (r : Int32) (σm' : St), f_X5_harms σc x y z = some r ∧ f_X6_harms σm x y z = some (r, σm') ∧ RR σc σm' := by
  have h5 := h.u5 (v := 0)
  obtain ⟨K, K2, hC, hM, -⟩ := id h
  have hM5 := hM.u5 (v := 0)
  have h6 := hC.2.2.1
  rw [f_X6_harms, nw_s, f_X5_harms]
  rcases inb_or x (show K.1 < 2 ^ 31 by omega) with ⟨j, hj, rfl⟩ | hn
  · obtain ⟨p1, p2, p3, p4, p5⟩ := hC.2.2.2 j hj
    rw [bnd_o (hasC_y hC hj), bnd_o (isPotM_y hM5 hj), if_neg p0, if_neg p0]
    rcases inb_or y (show 16 < 2 ^ 31 by omega) with ⟨b, hb, rfl⟩ | hn
    · rw [bnd_o (noBans_y hb), if_pos rfl]
      rcases inb_or z (show 101 < 2 ^ 31 by omega) with ⟨p, hp, rfl⟩ | hn
      · rw [bnd_o (noPercent_y hp), bnd_o (lineM hb hp), if_pos rfl, if_neg p0, chk_t (inb_nI (by omega) (by omega)), nI_clamp (by omega), pt1, chk_t p1.1, chk_t p1.2.1.1, bnd_o (hrC p2 p4 (by omega) hb (by omega)), bnd_o (hrM (hM5.flm hj) p4 (by omega) hb (by omega))]
        rcases hrN_01 (K.2.2.1 j) b p with e | e
        · rw [e]
          exact ⟨_, _, rfl, rfl, h5⟩
        · rw [e]
          exact ⟨_, _, rfl, rfl, h5⟩
      · rw [bnd_o (noPercent_n hn), bnd_o (lineM_p hb hn), if_neg p0, if_pos rfl]
        exact ⟨_, _, rfl, rfl, h5⟩
    · rw [bnd_o (noBans_n hn), bnd_o (lineM_b hn), if_neg p0, if_pos rfl]
      exact ⟨_, _, rfl, rfl, h5⟩
  · rw [bnd_o (hasC_n hC hn), bnd_o (isPotM_n hM5 hn), if_pos rfl, if_pos rfl]
    exact ⟨_, _, rfl, rfl, h5⟩
theorem sim_strongest {σc σm : St} (h : RR σc σm) (x : Int32) : ∃ (r : Int32) (σm' : St), f_X5_strongest σc x = some r ∧ f_X6_strongest σm x = some (r, σm') ∧ RR σc σm' := by
  have h5 := h.u5 (v := 0)
  obtain ⟨K, K2, hC, hM, -⟩ := id h
  have hM5 := hM.u5 (v := 0)
  have h6 := hC.2.2.1
  rw [f_X6_strongest, nw_s, f_X5_strongest]
  rcases inb_or x (show K.1 < 2 ^ 31 by omega) with ⟨j, hj, rfl⟩ | hn
  · obtain ⟨p1, p2, p3, p4, p5⟩ := hC.2.2.2 j hj
    have hs := (bd_sum p4 (by omega)).1
    have em := stM_l (k := fun (w17_0 : Int32) (w18_1 : Int32) (σ19 : St) => bnd (f_X6_allOf σ19 w17_0) fun r20 => (if (lg_cmp r20 0) = 0 then some ((-4), σ19) else some (w18_1, σ19))) (hM5.flm hj) p4 (by omega) fu 1 (by omega) (by omega) (by rw [fu_e]; omega)
    rw [show nI (best (K.2.2.1 j) 1) = 0 by rw [best, best, if_pos (Nat.le_refl _)]; rfl, show nI 1 = 1 from rfl] at em
    rw [bnd_o (hasC_y hC hj), bnd_o (isPotM_y hM5 hj), if_neg p0, if_neg p0, chk_t (inb_nI (by omega) (by omega)), nI_clamp (by omega), pt1, chk_t p1.1, chk_t p1.2.1.1, bnd_o (stC p2 p4 (by omega)), em, bnd_o (totM (hM5.flm hj))]
    by_cases e : sumTo (K.2.2.1 j) 4 = 0
    · rw [if_pos e, if_pos (by rw [lg_cmp_eq, e]; rfl)]
      exact ⟨_, _, rfl, rfl, h5⟩
    · rw [if_neg e, if_neg (by rw [lg_cmp_eq, lN0, pk_lEQ (by omega) (by omega)]; exact e)]
      exact ⟨_, _, rfl, rfl, h5⟩
  · rw [bnd_o (hasC_n hC hn), bnd_o (isPotM_n hM5 hn), if_pos rfl, if_pos rfl]
    exact ⟨_, _, rfl, rfl, h5⟩
