/-! SHELVES WRITTEN: keep, row, put, copy -/
theorem kM8 : kOK SM 17 20 = true ∧ kOK SM 18 20 = true ∧ SM.2.2 17 = 8 ∧ SM.2.2 18 = 8 := by decide +kernel
def kpM (σ : St) (d : Nat) (w k f : Int32) : St := uI (uI (uI σ 16 d w) 17 d k) 18 d f
theorem kpM_ok {σc σc' σm : St} {d : Nat} {w k f : Int32} (h : RR σc σm) (fc : Fr (fun a => a = 126 + 2 * d ∨ a = 126 + 2 * d + 1) σc σc') (hs : SH σc' (kpM σm d w k f) d) : RR σc' (kpM σm d w k f) := by
  refine h.sh fc ?_ (fun a h1 h2 b hb => ?_) (fun b _ => rfl) hs
  · exact Fr.tr (Fr.tr (Fr.uI ⟨by omega, by omega⟩) (Fr.uI ⟨by omega, by omega⟩)) (Fr.uI ⟨by omega, by omega⟩)
  · show (uI (uI (uI σm 16 d w) 17 d k) 18 d f).1 a b = _
    rw [uI_n (Or.inr hb), uI_n (Or.inr hb), uI_n (Or.inr hb)]
theorem kp59 {σ : St} {d : Nat} {w z v : Int32} (hd : d < 8) : f_X6_keep_59 (nI d) w z v σ = some (0, kpM σ d w (if w = 1 then z else 0) (if w = 1 then v else 0)) := by
  have i1 : inb (nI d) (SM.2.2 17) = true := by rw [kM8.2.2.1]; exact inb_nI hd (by omega)
  have i2 : inb (nI d) (SM.2.2 18) = true := by rw [kM8.2.2.2]; exact inb_nI hd (by omega)
  rw [f_X6_keep_59, chk_t (inb_nI hd (by omega)), nw_s, nI_clamp (by omega)]
  by_cases e : w = 1
  · simp only [if_pos e]
    rw [f_X6_keep_81, chk_t kM8.1, chk_t i1, nw_s]
    simp only [if_pos e]
    rw [f_X6_keep_98, chk_t kM8.2.1, chk_t i2, nw_s, nI_clamp (by omega)]
    rfl
  · simp only [if_neg e]
    rw [f_X6_keep_81, chk_t kM8.1, chk_t i1, nw_s]
    simp only [if_neg e]
    rw [f_X6_keep_98, chk_t kM8.2.1, chk_t i2, nw_s, nI_clamp (by omega)]
    rfl
theorem sim_keep {σc σm : St} (h : RR σc σm) (x y z v : Int32) : ∃ (r : Int32) (σc' σm' : St), f_X5_keep σc x y z v = some (r, σc') ∧ f_X6_keep σm x y z v = some (r, σm') ∧ RR σc' σm' := by
  have h5 := h.u5 (v := 0)
  rw [f_X6_keep, nw_s, f_X5_keep]
  rcases inb_or x (show 8 < 2 ^ 31 by omega) with ⟨d, hd, rfl⟩ | hn
  · rw [bnd_o (noShelf_y hd), if_pos rfl, bnd_o (inM_y hd (by omega)), if_neg p0]
    rcases inb_or y (show 2 < 2 ^ 31 by omega) with ⟨q, hq, rfl⟩ | hn
    · rw [bnd_o (noHalf_y hq), if_pos rfl, bnd_o (inM_y hq (by omega)), if_neg p0]
      have hq2 : q = 0 ∨ q = 1 := by omega
      rcases hq2 with rfl | rfl
      · rw [if_pos (show nI 0 = 0 from rfl), chk_t (inb_nI hd (by omega)), nI_clamp (show d < 2 ^ 31 by omega), chk_t (sh_ok d hd).1, f_X4_holdNothing, chk_t (sh_ok d hd).1, nw_s, bnd_s, if_neg (show ¬ nI 0 = 1 by decide), kp59 hd]
        refine ⟨_, _, _, rfl, rfl, kpM_ok h5 (Fr.uI (Or.inl rfl)) ⟨0, by omega, uI_i, ?_, fun e => absurd e (by omega), fun e => absurd e (by omega)⟩⟩
        show (uI (uI (uI _ 16 d _) 17 d _) 18 d _).1 16 d = nI 0
        rw [uI_n (Or.inl (by omega)), uI_n (Or.inl (by omega)), uI_i]
      · rw [if_neg (show ¬ nI 1 = 0 by decide), if_pos (show nI 1 = 1 from rfl)]
        rcases inb_or z (show 8 < 2 ^ 31 by omega) with ⟨k, hk, rfl⟩ | hn
        · rw [bnd_o (noKind_y hk), if_pos rfl, bnd_o (inM_y hk (by omega)), if_neg p0]
          rcases inb_or v (show 10 < 2 ^ 31 by omega) with ⟨f, hf, rfl⟩ | hn
          · rw [bnd_o (noFigure_y hf), if_pos rfl, bnd_o (inM_y hf (by omega)), if_neg p0, chk_t (inb_nI hd (by omega)), nI_clamp (show d < 2 ^ 31 by omega), chk_t (sh_ok d hd).1, f_X4_holdDish, chk_t (sh_ok d hd).1, nw_s, nw_s, nw_s, bnd_s, kp59 hd]
            refine ⟨_, _, _, rfl, rfl, kpM_ok h5 (Fr.tr (Fr.tr (Fr.uI (Or.inl rfl)) (Fr.uI (Or.inl rfl))) (Fr.uI (Or.inl rfl))) ⟨1, by omega, ?_, ?_, fun _ => ⟨k, f, hk, hf, ?_, ?_, ?_, ?_⟩, fun e => absurd e (by omega)⟩⟩
            · rw [uI_n (Or.inr (by omega)), uI_n (Or.inr (by omega)), uI_i]; rfl
            · show (uI (uI (uI _ 16 d _) 17 d _) 18 d _).1 16 d = nI 1
              rw [uI_n (Or.inl (by omega)), uI_n (Or.inl (by omega)), uI_i]
            · rw [uI_n (Or.inr (by omega)), uI_i]
            · rw [uI_i]
            · show (uI (uI (uI _ 16 d _) 17 d _) 18 d _).1 17 d = nI k
              rw [uI_n (Or.inl (by omega)), uI_i]; rfl
            · show (uI (uI (uI _ 16 d _) 17 d _) 18 d _).1 18 d = nI f
              rw [uI_i]; rfl
          · rw [bnd_o (noFigure_n hn), bnd_o (inM_n (n := 10) hn), if_neg p0, if_pos rfl]
            exact ⟨_, _, _, rfl, rfl, h5⟩
        · rw [bnd_o (noKind_n hn), bnd_o (inM_n (n := 8) hn), if_neg p0, if_pos rfl]
          exact ⟨_, _, _, rfl, rfl, h5⟩
    · rw [bnd_o (noHalf_n hn), bnd_o (inM_n (n := 2) hn), if_neg p0, if_pos rfl]
      exact ⟨_, _, _, rfl, rfl, h5⟩
  · rw [bnd_o (noShelf_n hn), bnd_o (inM_n (n := 8) hn), if_neg p0, if_pos rfl]
    exact ⟨_, _, _, rfl, rfl, h5⟩
theorem noC3 {x m : Int32} {n : Nat} {A : Type} {u v : A} (hm : m = nI n) (hn : n + 1 < 2 ^ 31) : (if x < 0 then u else if m < x then u else v) = if inb x (n + 1) = true then v else u := by
  subst hm
  rcases inb_or x hn with ⟨j, hj, rfl⟩ | h
  · rw [if_neg (nI_pos (by omega)), if_neg (nI_nlt (by omega) (by omega)), if_pos (inb_nI hj (by omega))]
  · rw [if_neg h]
    by_cases h1 : x < 0
    · rw [if_pos h1]
    · rw [if_neg h1, if_pos]
      obtain ⟨j, hj, rfl⟩ := nI_of h1
      refine nI_lt ?_ hj
      rcases Nat.lt_or_ge n j with q | q
      · exact q
      · exact absurd (inb_nI (n := n + 1) (by omega) hj) h
theorem holdRow_l {σ : St} {d : Nat} {k : St → Option St} (hd : d < 8) : ∀ (m j : Nat), j ≤ 100 → 100 < m + j → f_X4_holdRow_17 k m (126 + 2 * d) (nI j) (wI σ (126 + 2 * d + 1) 0 j (fun _ => 0)) = k (wI σ (126 + 2 * d + 1) 0 100 (fun _ => 0)) := by
  intro m
  induction m with
  | zero => intro j h1 h2; omega
  | succ m ih =>
    intro j h1 h2
    rw [f_X4_holdRow_17, chk_t (sh_ok d hd).1, chk_t (sh_ok d hd).2]
    by_cases hj : j = 100
    · subst hj
      exact if_pos (by decide)
    · have hlt : j < 100 := by omega
      have e := wI_s (σ := σ) (i := 126 + 2 * d + 1) (o := 0) (j := j) (f := fun _ => (0 : Int32)) rfl
      rw [Nat.zero_add] at e
      rw [if_neg (show ¬ (100 : Int32) ≤ nI j from nI_ge (b := 100) hlt (by omega)), chk_t (inb_nI hlt (by omega)), nw_s, nw_s, nI_clamp (by omega), nI_1, e]
      exact ih (j + 1) (by omega) (by omega)
theorem rowM_l {σ : St} {d : Nat} {k : St → Option (Int32 × St)} (hd : d < 8) : ∀ (m j : Nat), j ≤ 100 → 100 < m + j → f_X6_row_68 k m (nI d) (nI j) (wL σ 21 (100 * d) j (fun _ => 0)) = k (wL σ 21 (100 * d) 100 (fun _ => 0)) := by
  intro m
  induction m with
  | zero => intro j h1 h2; omega
  | succ m ih =>
    intro j h1 h2
    rw [f_X6_row_68]
    by_cases hj : j = 100
    · subst hj
      exact if_pos (by decide)
    · have hlt : j < 100 := by omega
      rw [if_neg (show ¬ (100 : Int32) ≤ nI j from nI_ge (b := 100) hlt (by omega)), n100, chk_t (inb_nI (by omega) (by omega)), nw_s, nw_s, nI_clamp (by omega), nI_1, wL_s rfl]
      exact ih (j + 1) (by omega) (by omega)
theorem sim_row {σc σm : St} (h : RR σc σm) (x y z : Int32) : ∃ (r : Int32) (σc' σm' : St), f_X5_row σc x y z = some (r, σc') ∧ f_X6_row σm x y z = some (r, σm') ∧ RR σc' σm' := by
  have h5 := h.u5 (v := 0)
  rw [f_X6_row, nw_s, f_X5_row]
  rcases inb_or x (show 8 < 2 ^ 31 by omega) with ⟨d, hd, rfl⟩ | hn
  · rw [bnd_o (noShelf_y hd), if_pos rfl, bnd_o (inM_y hd (by omega)), if_neg p0, noC3 (m := 2) (n := 2) rfl (by omega)]
    rcases inb_or y (show 3 < 2 ^ 31 by omega) with ⟨s, hs, rfl⟩ | hn
    · rw [if_pos (inb_nI hs (by omega)), bnd_o (inM_y hs (by omega)), if_neg p0]
      by_cases h1 : z ≤ 100
      · rw [if_pos h1, if_pos h1]
        by_cases h0 : 0 ≤ z
        · have hz : ¬ z < 0 := by
            rw [Int32.le_iff_toInt_le] at h0
            rw [Int32.lt_iff_toInt_lt]
            omega
          obtain ⟨n, hn, rfl⟩ := nI_of hz
          have hn1 : n ≤ 100 := (nI_leI (b := 100) hn (by omega)).mp h1
          have e1 := holdRow_l (σ := uI (uI (uI σc (126 + 2 * d) 0 2) (126 + 2 * d) 3 (nI s)) (126 + 2 * d) 4 (nI n)) (k := fun (σ11 : St) => some σ11) hd fu 0 (by omega) (by rw [fu_e]; omega)
          have e2 := rowM_l (σ := uI (uI (uI (uI σm 0 5 0) 16 d 2) 19 d (nI s)) 20 d (nI n)) (k := fun (σ16 : St) => some (0, σ16)) hd fu 0 (by omega) (by rw [fu_e]; omega)
          rw [wI_0] at e1
          rw [wL_0] at e2
          rw [show nI 0 = 0 from rfl] at e1 e2
          rw [if_pos h0, if_pos h0, chk_t (inb_nI hd (by omega)), nI_clamp (show d < 2 ^ 31 by omega), chk_t (sh_ok d hd).1, f_X4_holdRow, chk_t (sh_ok d hd).1, nw_s, nw_s, nw_s, e1, bnd_s, chk_t (inb_nI hd (by omega)), nw_s, nw_s, nw_s, e2]
          refine ⟨_, _, _, rfl, rfl, h5.sh (d := d) ?_ ?_ (fun a g1 g2 b hb => ?_) (fun b hb => ?_) ⟨2, by omega, ?_, ?_, fun e => absurd e (by omega), fun _ => ⟨s, n, hs, hn1, ?_, ?_, ?_, ?_, fun i hi => ⟨?_, fun _ => ?_⟩⟩⟩⟩
          · exact Fr.tr (Fr.tr (Fr.tr (Fr.uI (Or.inl rfl)) (Fr.uI (Or.inl rfl))) (Fr.uI (Or.inl rfl))) (Fr.wI (Or.inr rfl))
          · exact Fr.tr (Fr.tr (Fr.tr (Fr.uI ⟨by omega, by omega⟩) (Fr.uI ⟨by omega, by omega⟩)) (Fr.uI ⟨by omega, by omega⟩)) (Fr.wL ⟨by omega, by omega⟩)
          · rw [wL_1, uI_n (Or.inr hb), uI_n (Or.inr hb), uI_n (Or.inr hb)]
          · rw [wL_n (Or.inr hb)]; rfl
          · rw [wI_n (Or.inl (by omega)), uI_n (Or.inr (by omega)), uI_n (Or.inr (by omega)), uI_i]; rfl
          · rw [wL_1, uI_n (Or.inl (by omega)), uI_n (Or.inl (by omega)), uI_i]; rfl
          · rw [wI_n (Or.inl (by omega)), uI_n (Or.inr (by omega)), uI_i]
          · rw [wI_n (Or.inl (by omega)), uI_i]
          · rw [wL_1, uI_n (Or.inl (by omega)), uI_i]
          · rw [wL_1, uI_i]
          · rw [wL_i hi, show i = 0 + i by omega, wI_i hi]; rfl
          · rw [show i = 0 + i by omega, wI_i hi]; rfl
        · rw [if_neg h0, if_neg h0]
          exact ⟨_, _, _, rfl, rfl, h5⟩
      · rw [if_neg h1, if_neg h1]
        exact ⟨_, _, _, rfl, rfl, h5⟩
    · rw [if_neg hn, bnd_o (inM_n (n := 3) hn), if_pos rfl]
      exact ⟨_, _, _, rfl, rfl, h5⟩
  · rw [bnd_o (noShelf_n hn), bnd_o (inM_n (n := 8) hn), if_neg p0, if_pos rfl]
    exact ⟨_, _, _, rfl, rfl, h5⟩
theorem hasElC {σ : St} {d z : Nat} {y : Int32} (hd : d < 8) (hz : z ≤ 100) (h : σ.1 (126 + 2 * d) 4 = nI z) : f_X4_hasElement σ (126 + 2 * d) y = some (if inb y z = true then 1 else 0) := by
  rw [f_X4_hasElement]
  rcases inb_or y (show z < 2 ^ 31 by omega) with ⟨j, hj, rfl⟩ | hn
  · rw [if_neg (nI_pos (by omega)), chk_t (sh_ok d hd).1, h, if_neg (nI_ge hj (by omega)), if_pos (inb_nI hj (by omega))]
  · rw [if_neg hn]
    by_cases h1 : y < 0
    · rw [if_pos h1]
    · rw [if_neg h1, chk_t (sh_ok d hd).1, h, if_pos]
      obtain ⟨j, hj, rfl⟩ := nI_of h1
      refine nI_le ?_ hj
      rcases Nat.lt_or_ge j z with q | q
      · exact absurd (inb_nI q hj) hn
      · exact q
def nar (s : Nat) (v : Int32) : Int32 := if s = 0 then v.toInt8.toInt32 else if s = 1 then v.toInt16.toInt32 else v
theorem lowC {σ : St} {d s : Nat} {v : Int32} (hd : d < 8) (hs : s < 3) (h : σ.1 (126 + 2 * d) 3 = nI s) : f_X4_lowestBits σ (126 + 2 * d) v = some (nar s v) := by
  rw [f_X4_lowestBits, chk_t (sh_ok d hd).1, h, nar]
  have hc : s = 0 ∨ s = 1 ∨ s = 2 := by omega
  rcases hc with rfl | rfl | rfl <;> rfl
theorem narM {s : Nat} {v : Int32} (hs : s < 3) : f_X6_narrowed v (nI s) = some ((nar s v).toInt64) := by
  rw [f_X6_narrowed, nar]
  have hc : s = 0 ∨ s = 1 ∨ s = 2 := by omega
  rcases hc with rfl | rfl | rfl <;> rfl
theorem nar0 (v : Int32) : (nar 0 v).toInt8.toInt32 = nar 0 v := by
  show v.toInt8.toInt32.toInt8.toInt32 = v.toInt8.toInt32
  simp
theorem RR.row {σc σc' σm σm' : St} {d : Nat} (h : RR σc σm) (fc : Fr (fun a => a = 126 + 2 * d + 1) σc σc') (fm : Fr (fun a => a = 21 ∨ a = 22) σm σm') (f1 : σm'.1 = σm.1) (f2 : ∀ b, (b < 100 * d ∨ 100 * d + 100 ≤ b) → σm'.2 21 b = σm.2 21 b) (h0 : σc.1 (126 + 2 * d) 0 = nI 2) (h1 : σm.1 16 d = nI 2) {s z : Nat} (hr : isRow σc σm d s z) (hs : ∀ i, i < 100 → σm'.2 21 (100 * d + i) = (σc'.1 (126 + 2 * d + 1) i).toInt64 ∧ (s = 0 → (σc'.1 (126 + 2 * d + 1) i).toInt8.toInt32 = σc'.1 (126 + 2 * d + 1) i)) : RR σc' σm' := by
  have k1 := (fc (126 + 2 * d) (by omega)).1
  obtain ⟨q1, q2, q3, q4, q5, q6, q7⟩ := hr
  refine h.sh (fc.mono (fun a ha => Or.inr ha)) (fm.mono (fun a ha => by omega)) (fun a _ _ b _ => by rw [f1]) f2 ⟨2, by omega, by rw [k1]; exact h0, by rw [f1]; exact h1, fun e => absurd e (by omega), fun _ => ⟨s, z, q1, q2, ?_, ?_, ?_, ?_, hs⟩⟩
  · rw [k1]; exact q3
  · rw [k1]; exact q4
  · rw [f1]; exact q5
  · rw [f1]; exact q6
theorem sim_put {σc σm : St} (h : RR σc σm) (x y v : Int32) : ∃ (r : Int32) (σc' σm' : St), f_X5_put σc x y v = some (r, σc') ∧ f_X6_put σm x y v = some (r, σm') ∧ RR σc' σm' := by
  have h5 := h.u5 (v := 0)
  rw [f_X6_put, nw_s, f_X5_put]
  rcases inb_or x (show 8 < 2 ^ 31 by omega) with ⟨d, hd, rfl⟩ | hn
  · rcases rowRef hd (h5.shelf hd) with ⟨r, hr, e1, e2⟩ | ⟨e1, e2, w1, w2, s, z, hz⟩
    · rw [bnd_o e1, bnd_o e2, if_neg (by rcases hr with rfl | rfl <;> decide), if_neg (by rcases hr with rfl | rfl <;> decide)]
      exact ⟨_, _, _, rfl, rfl, h5⟩
    · obtain ⟨q1, q2, q3, q4, q5, q6, q7⟩ := id hz
      rw [bnd_o e1, bnd_o e2, if_pos rfl, if_pos (by decide), chk_t (inb_nI hd (by omega)), chk_t (inb_nI hd (by omega)), nI_clamp (show d < 2 ^ 31 by omega), chk_t (sh_ok d hd).1, bnd_o (hasElC hd q2 q4), q6, bnd_o (inCnt (by omega)), q5, bnd_o (narM q1), bnd_o (lowC hd q1 q3), chk_t (sh_ok d hd).2]
      rcases inb_or y (show z < 2 ^ 31 by omega) with ⟨i, hi, rfl⟩ | hn
      · rw [if_pos (inb_nI hi (by omega)), if_neg p0, if_neg p0, n100, chk_t (inb_nI (by omega) (by omega)), chk_t (inb_nI (by omega) (by omega)), nI_clamp (by omega), nI_clamp (by omega), nw_s, nw_s]
        refine ⟨_, _, _, rfl, rfl, h5.row (Fr.uI rfl) (Fr.uL (Or.inl rfl)) rfl (fun b hb => uL_n (Or.inr (by omega))) w1 w2 hz (fun j hj => ?_)⟩
        by_cases e : j = i
        · subst e
          rw [uL_i, uI_i]
          exact ⟨rfl, fun e => by subst e; exact nar0 v⟩
        · rw [uL_n (Or.inr (by omega)), uI_n (Or.inr e)]
          exact q7 j hj
      · rw [if_neg hn, if_pos rfl, if_pos rfl]
        exact ⟨_, _, _, rfl, rfl, h5⟩
  · rw [bnd_o (rowRef_n (σm := σm) hn).1, bnd_o (rowRef_n (σc := σc) hn).2, if_neg (by decide), if_neg (by decide)]
    exact ⟨_, _, _, rfl, rfl, h5⟩
/-- n elements from y on, of z -/
def okN (y n : Int32) (z : Nat) : Prop := ∃ j k : Nat, j + k ≤ z ∧ y = nI j ∧ n = nI k
theorem hasElsC {σ : St} {d z : Nat} {y n : Int32} (hd : d < 8) (hz : z ≤ 100) (h : σ.1 (126 + 2 * d) 4 = nI z) : (okN y n z ∧ f_X4_hasElements σ (126 + 2 * d) y n = some 1) ∨ (¬ okN y n z ∧ f_X4_hasElements σ (126 + 2 * d) y n = some 0) := by
  rw [f_X4_hasElements, chk_t (sh_ok d hd).1, h]
  by_cases h1 : y < 0
  · refine Or.inr ⟨fun q => ?_, if_pos h1⟩
    obtain ⟨j, k, g1, rfl, rfl⟩ := q
    exact nI_pos (by omega) h1
  · obtain ⟨j, hj, rfl⟩ := nI_of h1
    rw [if_neg h1]
    by_cases h2 : nI z < nI j
    · refine Or.inr ⟨fun q => ?_, if_pos h2⟩
      obtain ⟨j', k, g1, g2, rfl⟩ := q
      have := (nI_eq hj (by omega)).mp g2
      exact nI_nlt (by omega) (by omega) h2
    · have hjz : j ≤ z := by
        rcases Nat.lt_or_ge z j with q | q
        · exact absurd (nI_lt q hj) h2
        · exact q
      rw [if_neg h2]
      by_cases h3 : n < 0
      · refine Or.inr ⟨fun q => ?_, if_pos h3⟩
        obtain ⟨j', k, g1, g2, rfl⟩ := q
        exact nI_pos (by omega) h3
      · obtain ⟨k, hk, rfl⟩ := nI_of h3
        rw [if_neg h3, pk_sub hjz]
        by_cases h4 : j + k ≤ z
        · exact Or.inl ⟨⟨j, k, h4, rfl, rfl⟩, if_neg (nI_nlt (by omega) (by omega))⟩
        · refine Or.inr ⟨fun q => ?_, if_pos (nI_lt (by omega) hk)⟩
          obtain ⟨j', k', g1, g2, g3⟩ := q
          have a1 := (nI_eq hj (by omega)).mp g2
          have a2 := (nI_eq hk (by omega)).mp g3
          omega
theorem copyM_if {A : Type} {u v : A} {x y n : Int32} {z w : Nat} (hz : z ≤ 100) (hw : w ≤ 100) : (okN x n z ∧ okN y n w → (if n < 0 then u else if x < 0 then u else if y < 0 then u else if nI z - n < x then u else if y ≤ nI w - n then v else u) = v) ∧ (¬ (okN x n z ∧ okN y n w) → (if n < 0 then u else if x < 0 then u else if y < 0 then u else if nI z - n < x then u else if y ≤ nI w - n then v else u) = u) := by
  constructor
  · rintro ⟨⟨j, k, g1, rfl, rfl⟩, ⟨i, k', g2, rfl, g3⟩⟩
    have hk : k < 2 ^ 31 := by omega
    have hkk : k = k' := (nI_eq hk (by omega)).mp g3
    subst hkk
    rw [if_neg (nI_pos (by omega)), if_neg (nI_pos (by omega)), if_neg (nI_pos (by omega)), pk_sub (by omega), pk_sub (by omega), if_neg (nI_nlt (by omega) (by omega)), if_pos (nI_le (by omega) (by omega))]
  · intro hno
    by_cases h1 : n < 0
    · rw [if_pos h1]
    · by_cases h2 : x < 0
      · rw [if_neg h1, if_pos h2]
      · by_cases h3 : y < 0
        · rw [if_neg h1, if_neg h2, if_pos h3]
        · rw [if_neg h1, if_neg h2, if_neg h3]
          obtain ⟨k, hk, rfl⟩ := nI_of h1
          obtain ⟨j, hj, rfl⟩ := nI_of h2
          obtain ⟨i, hi, rfl⟩ := nI_of h3
          by_cases e : k ≤ z
          · rw [pk_sub e]
            by_cases e2 : j + k ≤ z
            · rw [if_neg (nI_nlt (by omega) (by omega))]
              by_cases e3 : k ≤ w
              · rw [pk_sub e3, if_neg]
                intro q
                have := (nI_leI hi (by omega)).mp q
                exact hno ⟨⟨j, k, e2, rfl, rfl⟩, ⟨i, k, by omega, rfl, rfl⟩⟩
              · rw [if_neg]
                intro q
                have hs := pk_sneg (a := w) (b := k) (by omega) (by omega)
                rw [Int32.lt_iff_toInt_lt] at hs
                rw [Int32.le_iff_toInt_le, nI_toInt hi] at q
                have e0 : (0 : Int32).toInt = 0 := rfl
                omega
            · rw [if_pos (nI_lt (by omega) hj)]
          · rw [if_pos]
            have hs : (nI z - nI k).toInt < 0 := by
              have hz2 := nI_toInt (n := z) (by omega)
              have hk2 := nI_toInt hk
              rw [Int32.toInt_sub, hz2, hk2, Int.bmod_eq_of_le (by omega) (by omega)]
              omega
            rw [Int32.lt_iff_toInt_lt, nI_toInt hj]
            omega
theorem copyM_1 {σ : St} {d i n e j : Nat} {k : Int32 → Int32 → Int32 → St → Option (Int32 × St)} (hd : d < 8) (hi : i + n ≤ 100) : ∀ (m q : Nat), q ≤ n → n < m + q → f_X6_copy_137 k m (nI d) (nI i) (nI e) (nI j) (nI n) (nI q) (wL σ 22 0 q (fun a => σ.2 21 (100 * d + i + a))) = k (nI e) (nI j) (nI n) (wL σ 22 0 n (fun a => σ.2 21 (100 * d + i + a))) := by
  intro m
  induction m with
  | zero => intro q h1 h2; omega
  | succ m ih =>
    intro q h1 h2
    rw [f_X6_copy_137]
    by_cases hq : q = n
    · subst hq
      exact if_pos (nI_le (Nat.le_refl _) (by omega))
    · have hlt : q < n := by omega
      have e9 := wL_s (σ := σ) (i := 22) (o := 0) (j := q) (f := fun a => σ.2 21 (100 * d + i + a)) rfl
      rw [Nat.zero_add] at e9
      rw [if_neg (nI_ge hlt (by omega)), n100, nI_add, chk_t (inb_nI (by omega) (by omega)), chk_t (inb_nI (by omega) (by omega)), nw_s, nw_s, nI_clamp (by omega), nI_clamp (by omega), nI_1, wL_n (Or.inl (by omega)), e9]
      exact ih (q + 1) (by omega) (by omega)
theorem copyM_2 {σ : St} {n e j : Nat} {k : Int32 → St → Option (Int32 × St)} (he : e < 8) (hj : j + n ≤ 100) : ∀ (m q : Nat), q ≤ n → n < m + q → f_X6_copy_174 k m (nI e) (nI j) (nI n) (nI q) (wL σ 21 (100 * e + j) q (σ.2 22)) = k (nI n) (wL σ 21 (100 * e + j) n (σ.2 22)) := by
  intro m
  induction m with
  | zero => intro q h1 h2; omega
  | succ m ih =>
    intro q h1 h2
    rw [f_X6_copy_174]
    by_cases hq : q = n
    · subst hq
      exact if_pos (nI_le (Nat.le_refl _) (by omega))
    · have hlt : q < n := by omega
      rw [if_neg (nI_ge hlt (by omega)), n100, nI_add, chk_t (inb_nI (by omega) (by omega)), chk_t (inb_nI (by omega) (by omega)), nw_s, nw_s, nI_clamp (by omega), nI_clamp (by omega), nI_1, wL_n (Or.inl (by omega)), wL_s rfl]
      exact ih (q + 1) (by omega) (by omega)
theorem cpk_ok {i j n : Nat} (h1 : i + n ≤ 100) (h2 : j + n ≤ 100) : cpk (nI i) (nI j) (nI n) 100 100 = true := by
  unfold cpk
  rw [nI_clamp (by omega), nI_clamp (by omega), nI_clamp (by omega)]
  simp only [decide_eq_true (nI_pos' (show i < 2 ^ 31 by omega)), decide_eq_true (nI_pos' (show j < 2 ^ 31 by omega)), decide_eq_true (nI_pos' (show n < 2 ^ 31 by omega)), decide_eq_true h1, decide_eq_true h2, Bool.and_self]
theorem sim_copy {σc σm : St} (h : RR σc σm) (x a y b n : Int32) : ∃ (r : Int32) (σc' σm' : St), f_X5_copy σc x a y b n = some (r, σc') ∧ f_X6_copy σm x a y b n = some (r, σm') ∧ RR σc' σm' := by
  have h5 := h.u5 (v := 0)
  rw [f_X6_copy, nw_s, f_X5_copy]
  rcases inb_or x (show 8 < 2 ^ 31 by omega) with ⟨d, hd, rfl⟩ | hn
  · rw [bnd_o (noShelf_y hd), if_pos rfl, bnd_o (inM_y hd (by omega)), if_neg p0]
    rcases inb_or y (show 8 < 2 ^ 31 by omega) with ⟨e, he, rfl⟩ | hn
    · obtain ⟨w1, hw1, c1, m1, -, r1⟩ := h5.shelf hd
      obtain ⟨w2, hw2, c2, m2, -, r2⟩ := h5.shelf he
      rw [bnd_o (noShelf_y he), if_pos rfl, bnd_o (inM_y he (by omega)), if_neg p0, chk_t (inb_nI hd (by omega)), nw_s, chk_t (inb_nI he (by omega)), nw_s, nI_clamp (show d < 2 ^ 31 by omega), nI_clamp (show e < 2 ^ 31 by omega), chk_t (sh_ok d hd).1, chk_t (sh_ok e he).1, bnd_o (holds0 hd hw1 c1), bnd_o (holds0 he hw2 c2), bnd_o (holds2 hd hw1 c1), bnd_o (holds2 he hw2 c2), chk_t (inb_nI hd (by omega)), chk_t (inb_nI he (by omega)), m1, m2]
      by_cases z1 : w1 = 0
      · subst z1
        exact ⟨_, _, _, rfl, rfl, h5⟩
      · rw [if_neg z1, if_pos rfl, if_neg (show ¬ nI w1 = 0 from nI_ne0 (by omega) (by omega))]
        by_cases z2 : w2 = 0
        · subst z2
          exact ⟨_, _, _, rfl, rfl, h5⟩
        · rw [if_neg z2, if_pos rfl, if_neg (show ¬ nI w2 = 0 from nI_ne0 (by omega) (by omega))]
          by_cases y1 : w1 = 2
          · by_cases y2 : w2 = 2
            · subst y1
              subst y2
              obtain ⟨s1, n1, hr1⟩ := r1 rfl
              obtain ⟨s2, n2, hr2⟩ := r2 rfl
              have hrr2 : isRow σc (uI σm 0 5 0) e s2 n2 := hr2
              obtain ⟨q1, q2, q3, q4, q5, q6, q7⟩ := hr1
              obtain ⟨t1, t2, t3, t4, t5, t6, t7⟩ := hr2
              rw [if_pos rfl, if_neg p0, if_neg p0, if_pos (show nI 2 = 2 from rfl), if_pos (show nI 2 = 2 from rfl), q3, t3, q5, t5, q6, t6]
              by_cases es : s1 = s2
              · subst es
                rw [if_pos rfl, if_pos rfl]
                have ci := copyM_if (u := some ((-13 : Int32), uI σm 0 5 0)) (v := f_X6_copy_137 (fun (w23_0 : Int32) (w24_1 : Int32) (w25_2 : Int32) (σ26 : St) => f_X6_copy_174 (fun (w32_0 : Int32) (σ33 : St) => some (w32_0, σ33)) fu w23_0 w24_1 w25_2 0 σ26) fu (nI d) a (nI e) b n 0 (uI σm 0 5 0)) (x := a) (y := b) (n := n) q2 t2
                rcases hasElsC (σ := σc) (y := a) (n := n) hd q2 q4 with ⟨o1, f1⟩ | ⟨o1, f1⟩
                · rcases hasElsC (σ := σc) (y := b) (n := n) he t2 t4 with ⟨o2, f2⟩ | ⟨o2, f2⟩
                  · rw [bnd_o f1, bnd_o f2, if_neg p0, if_neg p0, ci.1 ⟨o1, o2⟩]
                    obtain ⟨i, k, g1, rfl, rfl⟩ := o1
                    obtain ⟨j, k', g2, rfl, g3⟩ := o2
                    have hkk : k = k' := (nI_eq (by omega) (by omega)).mp g3
                    subst hkk
                    have e1 := copyM_1 (σ := uI σm 0 5 0) (e := e) (j := j) (k := fun (w23_0 : Int32) (w24_1 : Int32) (w25_2 : Int32) (σ26 : St) => f_X6_copy_174 (fun (w32_0 : Int32) (σ33 : St) => some (w32_0, σ33)) fu w23_0 w24_1 w25_2 0 σ26) hd (show i + k ≤ 100 by omega) fu 0 (by omega) (by rw [fu_e]; omega)
                    rw [wL_0] at e1
                    have e2 := copyM_2 (σ := wL (uI σm 0 5 0) 22 0 k (fun q => (uI σm 0 5 0).2 21 (100 * d + i + q))) (k := fun (w32_0 : Int32) (σ33 : St) => some (w32_0, σ33)) he (show j + k ≤ 100 by omega) fu 0 (by omega) (by rw [fu_e]; omega)
                    rw [wL_0] at e2
                    rw [show nI 0 = 0 from rfl] at e1 e2
                    rw [chk_t (sh_ok d hd).2, chk_t (sh_ok e he).2, chk_t (cpk_ok (by omega) (by omega)), nw_s, e1, e2]
                    refine ⟨_, _, _, rfl, rfl, h5.row (d := e) (fun q hq => ⟨funext fun q2 => if_neg hq, rfl⟩) (Fr.tr (Fr.wL (Or.inr rfl)) (Fr.wL (Or.inl rfl))) rfl (fun q hq => ?_) c2 m2 hrr2 (fun q hq => ?_)⟩
                    · rw [wL_n (Or.inr (by omega)), wL_n (Or.inl (by omega))]
                    · have ec : (cpI σc (126 + 2 * d + 1) (nI i) (126 + 2 * e + 1) (nI j) (nI k)).1 (126 + 2 * e + 1) q = va_cpy (σc.1 (126 + 2 * d + 1)) (σc.1 (126 + 2 * e + 1)) i j k q := by
                        show (if 126 + 2 * e + 1 = 126 + 2 * e + 1 then va_cpy (σc.1 (126 + 2 * d + 1)) (σc.1 (126 + 2 * e + 1)) (nI i).toNatClampNeg (nI j).toNatClampNeg (nI k).toNatClampNeg q else _) = _
                        rw [if_pos rfl, nI_clamp (by omega), nI_clamp (by omega), nI_clamp (by omega)]
                      rw [ec]
                      by_cases hin : j ≤ q ∧ q < j + k
                      · obtain ⟨t, rfl⟩ : ∃ t, q = j + t := ⟨q - j, by omega⟩
                        have w9 := wL_i (σ := uI σm 0 5 0) (i := 22) (o := 0) (j := k) (b := t) (f := fun a => (uI σm 0 5 0).2 21 (100 * d + i + a)) (by omega)
                        rw [Nat.zero_add] at w9
                        rw [pk_cpy_in hin.1 hin.2, Nat.add_sub_cancel_left, show 100 * e + (j + t) = 100 * e + j + t by omega, wL_i (by omega), w9, show 100 * d + i + t = 100 * d + (i + t) by omega]
                        exact q7 _ (by omega)
                      · rw [pk_cpy_out (by omega), wL_n (Or.inr (by omega)), wL_n (Or.inl (by omega))]
                        exact t7 q hq
                  · rw [bnd_o f1, bnd_o f2, if_neg p0, if_pos rfl, ci.2 (fun q => o2 q.2)]
                    exact ⟨_, _, _, rfl, rfl, h5⟩
                · rw [bnd_o f1, if_pos rfl, ci.2 (fun q => o1 q.1)]
                  exact ⟨_, _, _, rfl, rfl, h5⟩
              · rw [if_neg (fun q => es ((nI_eq (by omega) (by omega)).mp q)), if_neg (fun q => es ((nI_eq (by omega) (by omega)).mp q))]
                exact ⟨_, _, _, rfl, rfl, h5⟩
            · have y3 : w2 = 1 := by omega
              subst y1
              subst y3
              exact ⟨_, _, _, rfl, rfl, h5⟩
          · have y3 : w1 = 1 := by omega
            subst y3
            exact ⟨_, _, _, rfl, rfl, h5⟩
    · rw [bnd_o (noShelf_n hn), bnd_o (inM_n (n := 8) hn), if_neg p0, if_pos rfl]
      exact ⟨_, _, _, rfl, rfl, h5⟩
  · rw [bnd_o (noShelf_n hn), bnd_o (inM_n (n := 8) hn), if_neg p0, if_pos rfl]
    exact ⟨_, _, _, rfl, rfl, h5⟩
