/-! THE POTS CHANGED on both sides -/
theorem RR.now {σc σc' σm σm' : St} {K' : Kv} (h : RR σc σm) (hC : KC 1 σc' K') (hM : KM 0 1 2 3 4 σm' K') (fc : Fr (fun a => (1 ≤ a ∧ a ≤ 64) ∨ (97 ≤ a ∧ a ≤ 124)) σc σc') (fm : ∀ a, (5 ≤ a ∧ a ≤ 8) ∨ (16 ≤ a ∧ a ≤ 21) → σm'.1 a = σm.1 a ∧ σm'.2 a = σm.2 a) (f6 : σm'.1 0 6 = σm.1 0 6) (f7 : σm'.1 0 7 = σm.1 0 7) : RR σc' σm' := by
  obtain ⟨K, K2, h1, h2, ⟨b, hb, h3, h4, h5⟩, h6⟩ := h
  refine ⟨K', K2, hC, hM, ⟨b, hb, ?_, f7.trans h4, fun e => ⟨(h5 e).1.fr fc (fun a _ _ q => by omega), ?_⟩⟩, fun d hd => ?_⟩
  · rw [(fc 0 (by omega)).1]; exact h3
  · obtain ⟨g1, g2, g3⟩ := (h5 e).2
    refine ⟨f6.trans g1, g2, fun j hj => ?_⟩
    obtain ⟨q1, q2, q3, q4⟩ := g3 j hj
    refine ⟨fun q hq => ?_, ?_, q3, fun d hd => ⟨?_, ?_⟩⟩
    · rw [(fm 5 (by omega)).2]; exact q1 q hq
    · rw [(fm 6 (by omega)).1]; exact q2
    · rw [(fm 7 (by omega)).1]; exact (q4 d hd).1
    · rw [(fm 8 (by omega)).1]; exact (q4 d hd).2
  · exact (h6 d hd).mk (fc _ (by omega)).1 (fc _ (by omega)).1 (fun a ha => fm a (Or.inr ha))
def setAt {α : Type} (f : Nat → α) (j : Nat) (v : α) : Nat → α := fun i => if i = j then v else f i
theorem setAt_i {α : Type} {f : Nat → α} {j : Nat} {v : α} : setAt f j v j = v := if_pos rfl
theorem setAt_n {α : Type} {f : Nat → α} {j i : Nat} {v : α} (h : i ≠ j) : setAt f j v i = f i := if_neg h
/-- a kitchen with pot j anew (and np pots) -/
def Kset (K : Kv) (np j n : Nat) (x kd fg : Nat → Nat) : Kv := (np, setAt K.2.1 j n, setAt K.2.2.1 j x, setAt K.2.2.2.1 j kd, setAt K.2.2.2.2 j fg)
theorem KC.set {b j n np : Nat} {σ σ' : St} {K : Kv} {x kd fg : Nat → Nat} (h : KC b σ K) (hp : potC σ' (pt b j) n x kd fg) (hs : σ'.1 b 1 = nI np) (hn : np ≤ 6) (hj : np ≤ K.1 ∨ (np = K.1 + 1 ∧ j = K.1)) (f : Fr (fun a => a = b ∨ (pt b j ≤ a ∧ a ≤ pt b j + 4)) σ σ') : KC b σ' (Kset K np j n x kd fg) := by
  obtain ⟨h1, h2, h3, h4⟩ := h
  refine ⟨h1, hs, hn, fun i hi => ?_⟩
  have hi' : i < np := hi
  show potC σ' (pt b i) (setAt K.2.1 j n i) (setAt K.2.2.1 j x i) (setAt K.2.2.2.1 j kd i) (setAt K.2.2.2.2 j fg i)
  by_cases e : i = j
  · subst e
    rw [setAt_i, setAt_i, setAt_i, setAt_i]
    exact hp
  · rw [setAt_n e, setAt_n e, setAt_n e, setAt_n e]
    exact (h4 i (by omega)).fr f (fun a g1 g2 g3 => by unfold pt at g1 g2 g3; omega)
theorem KM.set {j n np : Nat} {σ σ' : St} {K : Kv} {x kd fg : Nat → Nat} (h : KM 0 1 2 3 4 σ K) (hp : pm 1 2 3 4 σ' j n x kd fg) (hs : σ'.1 0 0 = nI np) (hn : np ≤ 6) (hj : np ≤ K.1 ∨ (np = K.1 + 1 ∧ j = K.1)) (f1 : ∀ b, (b < 4 * j ∨ 4 * j + 4 ≤ b) → σ'.2 1 b = σ.2 1 b) (f2 : ∀ b, b ≠ j → σ'.1 2 b = σ.1 2 b) (f3 : ∀ b, (b < 12 * j ∨ 12 * j + 12 ≤ b) → σ'.1 3 b = σ.1 3 b ∧ σ'.1 4 b = σ.1 4 b) : KM 0 1 2 3 4 σ' (Kset K np j n x kd fg) := by
  obtain ⟨h1, h2, h3⟩ := h
  refine ⟨hs, hn, fun i hi => ?_⟩
  have hi' : i < np := hi
  show pm 1 2 3 4 σ' i (setAt K.2.1 j n i) (setAt K.2.2.1 j x i) (setAt K.2.2.2.1 j kd i) (setAt K.2.2.2.2 j fg i)
  by_cases e : i = j
  · subst e
    rw [setAt_i, setAt_i, setAt_i, setAt_i]
    exact hp
  · rw [setAt_n e, setAt_n e, setAt_n e, setAt_n e]
    obtain ⟨q1, q2, q3, q4⟩ := h3 i (by omega)
    refine ⟨fun q hq => (f1 _ (by omega)).trans (q1 q hq), (f2 i e).trans q2, q3, fun d hd => ?_⟩
    exact ⟨(f3 _ (by omega)).1.trans (q4 d hd).1, (f3 _ (by omega)).2.trans (q4 d hd).2⟩
/-- a pot more: the class -/
theorem addC {b : Nat} {σ : St} {K : Kv} (h : KC b σ K) (h6 : K.1 < 6) : ∃ σ', f_X1_addPot σ b = some (1, σ') ∧ KC b σ' (Kset K (K.1 + 1) K.1 0 (fun _ => 0) (fun _ => 0) (fun _ => 0)) ∧ Fr (fun a => b ≤ a ∧ a ≤ b + 31) σ σ' := by
  have hp := pt_ok h.1 h6
  have e1 : kOK SC (b + 1 + 1 + 5 * K.1) 3 = true := hp.1
  have e2 : kOK SC (b + 1 + 1 + 5 * K.1 + 1) 0 = true := hp.2.1.1
  have e3 : f_X0_clear σ (b + 1 + 1 + 5 * K.1 + 1) = some (setF σ (pt b K.1 + 1) (fun _ => 0) 1 0) := clearC hp.2.1
  have fr : Fr (fun a => a = pt b K.1 + 1 ∨ a = pt b K.1 + 1 + 1) σ (setF σ (pt b K.1 + 1) (fun _ => 0) 1 0) := setF_fr
  have hs : (setF σ (pt b K.1 + 1) (fun _ => 0) 1 0).1 b 1 = nI K.1 := by
    rw [(fr b (by unfold pt; omega)).1]; exact h.2.1
  have hf : flv (setF σ (pt b K.1 + 1) (fun _ => 0) 1 0) (pt b K.1 + 1) (fun _ => 0) 0 := setF_flv hp.2.1 (fun _ _ => rfl) rfl rfl
  rw [f_X1_addPot, chk_t (kt_ok h.1).1, h.2.1, if_pos (show nI K.1 < 6 from nI_lt (b := 6) h6 (by omega)), chk_t (kt_ok h.1).2, chk_t (inb_nI h6 (by omega)), nI_clamp (by omega), chk_t e1, chk_t e2, bnd_o e3, nw_s, hs, nI_1]
  have f2 : Fr (fun a => a = b) (setF σ (pt b K.1 + 1) (fun _ => 0) 1 0) (uI (setF σ (pt b K.1 + 1) (fun _ => 0) 1 0) b 1 (nI (K.1 + 1))) := Fr.uI rfl
  refine ⟨_, rfl, h.set (np := K.1 + 1) ⟨hp, hf.fr f2 (by unfold pt; omega) (by unfold pt; omega), by omega, bd_0, fun d hd => absurd hd (by omega)⟩ uI_i (by omega) (Or.inr ⟨rfl, rfl⟩) ?_, ?_⟩
  · exact Fr.tr (fr.mono (fun a ha => by omega)) (f2.mono (fun a ha => by omega))
  · exact Fr.tr (fr.mono (fun a ha => by unfold pt at ha; omega)) (f2.mono (fun a ha => by omega))
theorem addC_no {b : Nat} {σ : St} {K : Kv} (h : KC b σ K) (h6 : ¬ K.1 < 6) : f_X1_addPot σ b = some (0, σ) := by
  have := h.2.2.1
  rw [f_X1_addPot, chk_t (kt_ok h.1).1, h.2.1, if_neg (show ¬ nI K.1 < 6 from nI_nlt (b := 6) (by omega) (by omega))]
/-- .. and the reference, that empties the place and counts one more -/
theorem addM {σ : St} {K : Kv} (h : KM 0 1 2 3 4 σ K) (h6 : K.1 < 6) : ∃ σ1, f_X6_empty σ (nI K.1) = some σ1 ∧ σ1.1 0 = σ.1 0 ∧ KM 0 1 2 3 4 (uI σ1 0 0 (nI (K.1 + 1))) (Kset K (K.1 + 1) K.1 0 (fun _ => 0) (fun _ => 0) (fun _ => 0)) ∧ Fr (fun a => a = 1 ∨ a = 2) σ σ1 := by
  have fr : Fr (fun a => a = 1 ∨ a = 2) σ (wL (uI σ 2 K.1 0) 1 (4 * K.1) 4 (fun _ => 0)) := Fr.tr (Fr.uI (Or.inr rfl)) (Fr.wL (Or.inl rfl))
  refine ⟨_, emptyM (by omega), (fr 0 (by omega)).1, ?_, fr⟩
  refine h.set (np := K.1 + 1) ⟨fun q hq => ?_, ?_, by omega, fun d hd => absurd hd (by omega)⟩ uI_i (by omega) (Or.inr ⟨rfl, rfl⟩) (fun b hb => ?_) (fun b hb => ?_) (fun b hb => ⟨?_, ?_⟩)
  · show (wL (uI σ 2 K.1 0) 1 (4 * K.1) 4 (fun _ => 0)).2 1 (4 * K.1 + q) = _
    rw [wL_i hq]; rfl
  · rw [uI_n (Or.inl (by omega))]
    show (uI σ 2 K.1 0).1 2 K.1 = _
    rw [uI_i]; rfl
  · show (wL (uI σ 2 K.1 0) 1 (4 * K.1) 4 (fun _ => 0)).2 1 b = _
    rw [wL_n (Or.inr hb)]; rfl
  · rw [uI_n (Or.inl (by omega))]
    show (uI σ 2 K.1 0).1 2 b = _
    rw [uI_n (Or.inr hb)]
  · rw [uI_n (Or.inl (by omega))]
    exact congrFun (fr 3 (by omega)).1 b
  · rw [uI_n (Or.inl (by omega))]
    exact congrFun (fr 4 (by omega)).1 b
theorem sim_pot {σc σm : St} (h : RR σc σm) : ∃ (r : Int32) (σc' σm' : St), f_X5_pot σc = some (r, σc') ∧ f_X6_pot σm = some (r, σm') ∧ RR σc' σm' := by
  have h5 := h.u5 (v := 0)
  obtain ⟨K, K2, hC, hM, -⟩ := id h
  have hM5 := hM.u5 (v := 0)
  have h6 := hC.2.2.1
  rw [f_X6_pot, nw_s, f_X5_pot, hM5.1]
  by_cases e : K.1 < 6
  · obtain ⟨σc', e1, kc, fc⟩ := addC hC e
    obtain ⟨σ1, e2, g0, km, fm⟩ := addM hM5 e
    rw [bnd_o e1, if_neg p0, if_neg (fun q => by have := (nI_eq (b := 6) (by omega) (by omega)).mp q; omega), bnd_o e2, nw_s, g0, hM5.1, nI_1, uI_i, kc.2.1]
    refine ⟨_, _, _, rfl, rfl, h5.now kc km (fc.mono (fun a ha => by omega)) (fun a ha => ?_) ?_ ?_⟩
    · rw [← (fm a (by omega)).1, ← (fm a (by omega)).2]
      exact ⟨funext fun b => uI_n (Or.inl (by omega)), rfl⟩
    · rw [uI_n (Or.inr (by omega)), g0]
    · rw [uI_n (Or.inr (by omega)), g0]
  · rw [bnd_o (addC_no hC e), if_pos rfl, if_pos (show nI K.1 = 6 by rw [show K.1 = 6 by omega]; rfl)]
    exact ⟨_, _, _, rfl, rfl, h5⟩
/-- a dish in a pot of the reference, if there is room -/
theorem cookM {σ : St} {K : Kv} {j k f : Nat} (h : KM 0 1 2 3 4 σ K) (hj : j < K.1) (hk : k < 8) (hf : f < 10) (hn : K.2.1 j < 12) : ∃ σ', f_X6_cooks σ (nI j) (nI k) (nI f) = some (1, σ') ∧ KM 0 1 2 3 4 σ' (Kset K K.1 j (K.2.1 j + 1) (takeN k f (K.2.1 j) (K.2.2.1 j)) (up (K.2.2.2.1 j) (K.2.1 j) k) (up (K.2.2.2.2 j) (K.2.1 j) f)) ∧ σ'.1 2 j = nI (K.2.1 j + 1) ∧ Fr (fun a => 1 ≤ a ∧ a ≤ 4) σ σ' := by
  have h6 := h.2.1
  obtain ⟨m1, m2, m3, m4⟩ := h.2.2 j hj
  obtain ⟨σ', e1, q1, q2, q3, q4, q5, q6⟩ := takeM (h.flm hj) hk hf (by omega)
  rw [f_X6_cooks, chk_t (inb_nI (by omega) (by omega)), nI_clamp (by omega), m2, if_neg (show ¬ (12 : Int32) ≤ nI (K.2.1 j) from nI_ge (b := 12) hn (by omega)), f_X6_cooks_16, if_neg p0, bnd_o e1, chk_t (by decide)]
  refine ⟨σ', rfl, h.set (np := K.1) ⟨q1.2.1, q1.2.2, by omega, fun d hd => ?_⟩ ?_ h6 (Or.inl (Nat.le_refl _)) q2 q3 (fun b hb => q4 b (by omega)), q1.2.2, q6.mono (fun a ha => by omega)⟩
  · by_cases e : d = K.2.1 j
    · subst e
      rw [up_i, up_i]
      exact q5 hn
    · rw [up_n e, up_n e, (q4 _ (by omega)).1, (q4 _ (by omega)).2]
      exact m4 d (by omega)
  · rw [(q6 0 (by omega)).1]; exact h.1
theorem cookM_no {σ : St} {K : Kv} {j : Nat} {k f : Int32} (h : KM 0 1 2 3 4 σ K) (hj : j < K.1) (hn : ¬ K.2.1 j < 12) : f_X6_cooks σ (nI j) k f = some (0, σ) := by
  have h6 := h.2.1
  obtain ⟨m1, m2, m3, m4⟩ := h.2.2 j hj
  rw [f_X6_cooks, chk_t (inb_nI (by omega) (by omega)), nI_clamp (by omega), m2, if_pos (show (12 : Int32) ≤ nI (K.2.1 j) from nI_le (a := 12) (by omega) (by omega)), f_X6_cooks_16, if_pos rfl, chk_t (by decide)]
theorem sim_cook {σc σm : St} (h : RR σc σm) (x y : Int32) : ∃ (r : Int32) (σc' σm' : St), f_X5_cook σc x y = some (r, σc') ∧ f_X6_cook σm x y = some (r, σm') ∧ RR σc' σm' := by
  have h5 := h.u5 (v := 0)
  obtain ⟨K, K2, hC, hM, -⟩ := id h
  have hM5 := hM.u5 (v := 0)
  have h6 := hC.2.2.1
  rw [f_X6_cook, nw_s, f_X5_cook]
  rcases inb_or y (show K.1 < 2 ^ 31 by omega) with ⟨j, hj, rfl⟩ | hn
  · have hp := hC.2.2.2 j hj
    rw [bnd_o (hasC_y hC hj), bnd_o (isPotM_y hM5 hj), if_neg p0, if_neg p0]
    rcases inb_or x (show 8 < 2 ^ 31 by omega) with ⟨d, hd, rfl⟩ | hn
    · rcases dishRef hd (h5.shelf hd) with ⟨r, hr, e1, e2⟩ | ⟨e1, e2, k, f, hk, hf, q1, q2, q3, q4⟩
      · rw [bnd_o e1, bnd_o e2, if_neg (by rcases hr with rfl | rfl <;> decide), f_X6_cook_22, if_neg (by rcases hr with rfl | rfl <;> decide)]
        exact ⟨_, _, _, rfl, rfl, h5⟩
      · rw [bnd_o e1, bnd_o e2, if_pos rfl, f_X6_cook_22, if_pos (by decide), chk_t (inb_nI (by omega) (by omega)), nI_clamp (show j < 2 ^ 31 by omega), nw_s, chk_t (inb_nI hd (by omega)), nI_clamp (show d < 2 ^ 31 by omega), chk_t (sh_ok d hd).1, pt1, chk_t hp.1.1, q1, q2, chk_t (inb_nI hd (by omega)), q3, q4]
        by_cases e : K.2.1 j < 12
        · obtain ⟨σc', c1, c2, c3⟩ := cookC hp hk hf e
          obtain ⟨σm', c4, c5, c6, c7⟩ := cookM hM5 hj hk hf e
          rw [bnd_o c1, bnd_o c4, if_neg p0, if_neg p0, chk_t c2.1.2.1.1, c2.2.1.2.2.2, chk_t (inb_nI (by omega) (by omega)), c6]
          refine ⟨_, _, _, rfl, rfl, h5.now (hC.set (np := K.1) c2 ?_ h6 (Or.inl (Nat.le_refl _)) (c3.mono (fun a ha => Or.inr ha))) c5 (c3.mono (fun a ha => by unfold pt at ha; omega)) (fun a ha => c7 a (by omega)) (congrFun (c7 0 (by omega)).1 6) (congrFun (c7 0 (by omega)).1 7)⟩
          rw [(c3 1 (by unfold pt; omega)).1]
          exact hC.2.1
        · rw [bnd_o (cookC_no hp e), bnd_o (cookM_no hM5 hj e), if_pos rfl, if_pos rfl]
          exact ⟨_, _, _, rfl, rfl, h5⟩
    · rw [bnd_o (dishRef_n (σm := σm) hn).1, bnd_o (dishRef_n (σc := σc) hn).2, if_neg (by decide), f_X6_cook_22, if_neg (by decide)]
      exact ⟨_, _, _, rfl, rfl, h5⟩
  · rw [bnd_o (hasC_n hC hn), bnd_o (isPotM_n hM5 hn), if_pos rfl, if_pos rfl, f_X6_cook_22, if_neg (by decide)]
    exact ⟨_, _, _, rfl, rfl, h5⟩
theorem cp4_0 {σ : St} {t m k g t' m' k' g' : Nat} (h : 0 < t' ∧ 0 < m' ∧ 0 < k' ∧ 0 < g') : (cp4 σ t m k g t' m' k' g').1 0 = σ.1 0 := (cp4_fr 0 (by omega)).1
theorem sim_image {σc σm : St} (h : RR σc σm) : ∃ (r : Int32) (σc' σm' : St), f_X5_image σc = some (r, σc') ∧ f_X6_image σm = some (r, σm') ∧ RR σc' σm' := by
  obtain ⟨K, K2, hC, hM, -, hS⟩ := id h
  have h6 := hC.2.2.1
  obtain ⟨σ2, e1, kc, fc⟩ := kitBecome (a := 65) (Or.inr (Or.inr rfl)) hC (by omega)
  have f2 : Fr (fun a => a = 0) σ2 (uI σ2 0 3 1) := Fr.uI rfl
  rw [f_X5_image, bnd_o e1, nw_s, imageM, hM.1, uI_n (Or.inl (by omega)), (fc 1 (by omega)).1, hC.2.1]
  refine ⟨_, _, _, rfl, rfl, K, K, (hC.fr fc (fun a _ _ q => by omega)).fr f2 (fun a _ _ q => by omega), ?_, ⟨1, by omega, uI_i, ?_, fun _ => ⟨kc.fr f2 (fun a _ _ q => by omega), ?_, h6, fun j hj => ?_⟩⟩, fun d hd => ?_⟩
  · have q : KM 0 1 2 3 4 (uI (uI (uI σm 0 5 0) 0 7 1) 0 6 (nI K.1)) K := ((hM.u5).u0 (s := 7) ⟨by omega, by omega, by omega, by omega⟩ (by omega)).u0 ⟨by omega, by omega, by omega, by omega⟩ (by omega)
    exact q.fr cp4_fr ⟨by omega, by omega, by omega, by omega, by omega⟩
  · rw [cp4_0 ⟨by omega, by omega, by omega, by omega⟩, uI_n (Or.inr (by omega)), uI_i]; rfl
  · rw [cp4_0 ⟨by omega, by omega, by omega, by omega⟩, uI_i]
  · refine cp4_pm (by omega) ⟨by omega, by omega, by omega, by omega, by omega, by omega⟩ ?_
    exact (((hM.2.2 j hj).u0 ⟨by omega, by omega, by omega, by omega⟩).u0 ⟨by omega, by omega, by omega, by omega⟩).u0 ⟨by omega, by omega, by omega, by omega⟩
  · refine (hS d hd).mk ?_ ?_ (fun a ha => ?_)
    · rw [(f2 _ (by omega)).1, (fc _ (by omega)).1]
    · rw [(f2 _ (by omega)).1, (fc _ (by omega)).1]
    · have q := cp4_fr (σ := uI (uI (uI σm 0 5 0) 0 7 1) 0 6 (nI K.1)) (t := 1) (m := 2) (k := 3) (g := 4) (t' := 5) (m' := 6) (k' := 7) (g' := 8) a (by omega)
      rw [q.1, q.2]
      refine ⟨funext fun b => ?_, rfl⟩
      rw [uI_n (Or.inl (by omega)), uI_n (Or.inl (by omega)), uI_n (Or.inl (by omega))]
theorem sim_restore {σc σm : St} (h : RR σc σm) : ∃ (r : Int32) (σc' σm' : St), f_X5_restore σc = some (r, σc') ∧ f_X6_restore σm = some (r, σm') ∧ RR σc' σm' := by
  have h5 := h.u5 (v := 0)
  obtain ⟨K, K2, hC, hM, ⟨b, hb, g1, g2, g3⟩, hS⟩ := id h
  rw [f_X5_restore, g1]
  by_cases e : b = 0
  · subst e
    rw [if_pos (show nI 0 = 0 from rfl), f_X6_restore, nw_s, uI_n (Or.inr (by omega)), g2, if_pos (show nI 0 = 0 from rfl)]
    exact ⟨_, _, _, rfl, rfl, h5⟩
  · have hb1 : b = 1 := by omega
    subst hb1
    obtain ⟨kc, km⟩ := g3 rfl
    have h6 := kc.2.2.1
    obtain ⟨σ2, e1, k1, f1⟩ := kitBecome (a := 1) (Or.inl rfl) kc (by omega)
    rw [if_neg (by decide), bnd_o e1, restoreM (by rw [g2]; decide), km.1, k1.2.1]
    have h6' := cp4_fr (σ := uI (uI σm 0 5 0) 0 0 (nI K2.1)) (t := 5) (m := 6) (k := 7) (g := 8) (t' := 1) (m' := 2) (k' := 3) (g' := 4)
    refine ⟨_, _, _, rfl, rfl, h.now k1 ⟨?_, h6, fun j hj => ?_⟩ (f1.mono (fun a ha => by omega)) (fun a ha => ?_) ?_ ?_⟩
    · rw [cp4_0 ⟨by omega, by omega, by omega, by omega⟩, uI_i]
    · refine cp4_pm (by omega) ⟨by omega, by omega, by omega, by omega, by omega, by omega⟩ ?_
      exact ((km.2.2 j hj).u0 ⟨by omega, by omega, by omega, by omega⟩).u0 ⟨by omega, by omega, by omega, by omega⟩
    · rw [(h6' a (by omega)).1, (h6' a (by omega)).2]
      refine ⟨funext fun b => ?_, rfl⟩
      rw [uI_n (Or.inl (by omega)), uI_n (Or.inl (by omega))]
    · rw [cp4_0 ⟨by omega, by omega, by omega, by omega⟩, uI_n (Or.inr (by omega)), uI_n (Or.inr (by omega))]
    · rw [cp4_0 ⟨by omega, by omega, by omega, by omega⟩, uI_n (Or.inr (by omega)), uI_n (Or.inr (by omega))]
