/-! STATEMENTS CARRIED OUT, and kitchen -/
def FP (σ σ' : St) : Prop := Fr (fun a => a ≤ 4) σ σ' ∧ ∀ s, s ≠ 0 → σ'.1 0 s = σ.1 0 s
theorem FP.rf {σ : St} : FP σ σ := ⟨Fr.rf, fun _ _ => rfl⟩
theorem FP.tr {σ σ' σ'' : St} (h : FP σ σ') (g : FP σ' σ'') : FP σ σ'' := ⟨Fr.tr h.1 g.1, fun s a => (g.2 s a).trans (h.2 s a)⟩
theorem FP.of {σ σ' : St} (h : Fr (fun a => 1 ≤ a ∧ a ≤ 4) σ σ') : FP σ σ' := ⟨h.mono (fun a ha => by omega), fun s _ => congrFun (h 0 (by omega)).1 s⟩
theorem FP.u0 {σ : St} {v : Int32} : FP σ (uI σ 0 0 v) := ⟨Fr.uI (by omega), fun s hs => uI_n (Or.inr hs)⟩
theorem ocM2 {σ σ2 : St} (h : FP (opS σ) σ2) : MK σ (clS σ2) := by
  obtain ⟨h, h0⟩ := h
  have u : ∀ a, a ≠ 0 → (uI σ2 0 0 (σ2.1 0 12)).1 a = σ2.1 a := fun a ha => funext fun b => uI_n (Or.inl ha)
  have u0 : ∀ a, a ≠ 0 → (uI σ 0 12 (σ.1 0 0)).1 a = σ.1 a := fun a ha => funext fun b => uI_n (Or.inl ha)
  refine ⟨fun b hb => ?_, fun b hb => ?_, fun b hb => ⟨?_, ?_⟩, fun a ha => ⟨?_, ?_⟩, ?_, ?_, ?_⟩
  · unfold clS
    rw [cp4_1 (by omega)]
    show σ2.2 9 b = _
    rw [(h 9 (by omega)).2]
    unfold opS
    rw [cp4_1 (by omega)]
    rfl
  · unfold clS
    rw [cp4_2 (by omega) (by omega) (by omega), u 10 (by omega), (h 10 (by omega)).1]
    unfold opS
    rw [cp4_2 (by omega) (by omega) (by omega), u0 2 (by omega)]
  · unfold clS
    rw [cp4_3 (by omega) (by omega), u 11 (by omega), (h 11 (by omega)).1]
    unfold opS
    rw [cp4_3 (by omega) (by omega), u0 3 (by omega)]
  · unfold clS
    rw [cp4_4 (by omega), u 12 (by omega), (h 12 (by omega)).1]
    unfold opS
    rw [cp4_4 (by omega), u0 4 (by omega)]
  · unfold clS
    rw [(cp4_fr a (by omega)).1, u a (by omega), (h a (by omega)).1, (opS_fr a (by omega)).1]
  · unfold clS
    rw [(cp4_fr a (by omega)).2]
    show σ2.2 a = _
    rw [(h a (by omega)).2, (opS_fr a (by omega)).2]
  · unfold clS
    rw [cp4_0 ⟨by omega, by omega, by omega, by omega⟩, uI_i, h0 12 (by omega)]
    unfold opS
    rw [cp4_0 ⟨by omega, by omega, by omega, by omega⟩, uI_i]
  · unfold clS
    rw [cp4_0 ⟨by omega, by omega, by omega, by omega⟩, uI_n (Or.inr (by omega)), h0 6 (by omega), opS_0 (by omega)]
  · unfold clS
    rw [cp4_0 ⟨by omega, by omega, by omega, by omega⟩, uI_n (Or.inr (by omega)), h0 7 (by omega), opS_0 (by omega)]
theorem FR.mk {σ σ' : St} (h : FR σ σ') : MK σ σ' :=
  ⟨fun b _ => congrFun (h.1 1 (by omega)).2 b, fun b _ => congrFun (h.1 2 (by omega)).1 b, fun b _ => ⟨congrFun (h.1 3 (by omega)).1 b, congrFun (h.1 4 (by omega)).1 b⟩, fun a ha => h.1 a (by omega), h.2 0 (by omega) (by omega) (by omega), h.2 6 (by omega) (by omega) (by omega), h.2 7 (by omega) (by omega) (by omega)⟩
theorem k33 : isKt 33 := Or.inr (Or.inl rfl)
theorem ptk (i : Nat) : 33 + 1 + 1 + 5 * i = pt 33 i := rfl
/-- one pot as another, in the kitchen for trials -/
theorem alikeC {σ : St} {K : Kv} {a b : Nat} (h : KC 33 σ K) (ha : a < K.1) (hb : b < K.1) (hab : a ≠ b) : ∃ σ', f_X3_become σ (pt 33 b) (pt 33 a) = some σ' ∧ KC 33 σ' (Kset K K.1 b (K.2.1 a) (K.2.2.1 a) (K.2.2.2.1 a) (K.2.2.2.2 a)) ∧ Fr (fun a => 33 ≤ a ∧ a ≤ 64) σ σ' := by
  have h6 := h.2.2.1
  obtain ⟨σ', g1, g2, g3⟩ := potBecome (h.2.2.2 a ha) (pt_ok k33 (show b < 6 by omega)) (by unfold pt; omega)
  refine ⟨σ', g1, h.set (np := K.1) g2 ?_ h6 (Or.inl (Nat.le_refl _)) (g3.mono (fun q hq => Or.inr hq)), g3.mono (fun q hq => by unfold pt at hq; omega)⟩
  rw [(g3 33 (by unfold pt; omega)).1]
  exact h.2.1
theorem alikeM {σ : St} {K : Kv} {a b : Nat} (h : KM 0 1 2 3 4 σ K) (ha : a < K.1) (hb : b < K.1) (hab : a ≠ b) : f_X6_same σ (nI a) (nI b) = some (smM σ a b) ∧ KM 0 1 2 3 4 (smM σ a b) (Kset K K.1 b (K.2.1 a) (K.2.2.1 a) (K.2.2.2.1 a) (K.2.2.2.2 a)) := by
  have h6 := h.2.1
  obtain ⟨p1, p2, p3, p4⟩ := h.2.2 a ha
  refine ⟨sameM (by omega) (by omega) hab, h.set (np := K.1) ⟨fun q hq => ?_, ?_, p3, fun d hd => ?_⟩ ?_ h6 (Or.inl (Nat.le_refl _)) (fun c hc => smM_1n hc) (fun c hc => smM_2n hc) (fun c hc => smM_3n hc)⟩
  · rw [smM_1i hq]; exact p1 q hq
  · rw [smM_2i]; exact p2
  · obtain ⟨e1, e2⟩ := smM_3i (σ := σ) (a := a) (b := b) (t := d) (by omega)
    rw [e1, e2]
    exact p4 d hd
  · rw [(smM_fr 0 (by omega)).1]; exact h.1
theorem newC {σ : St} {K : Kv} {a : Nat} (h : KC 33 σ K) (ha : a < K.1) : ∃ σ', f_X0_clear σ (pt 33 a + 1) = some σ' ∧ KC 33 σ' (Kset K K.1 a 0 (fun _ => 0) (fun _ => 0) (fun _ => 0)) ∧ Fr (fun a => 33 ≤ a ∧ a ≤ 64) σ σ' := by
  have h6 := h.2.2.1
  have hp := pt_ok k33 (show a < 6 by omega)
  have fr : Fr (fun q => q = pt 33 a + 1 ∨ q = pt 33 a + 1 + 1) σ (setF σ (pt 33 a + 1) (fun _ => 0) 1 0) := setF_fr
  refine ⟨_, clearC hp.2.1, h.set (np := K.1) ⟨hp, setF_flv hp.2.1 (fun _ _ => rfl) rfl rfl, by omega, bd_0, fun d hd => absurd hd (by omega)⟩ ?_ h6 (Or.inl (Nat.le_refl _)) (fr.mono (fun q hq => by omega)), fr.mono (fun q hq => by unfold pt at hq; omega)⟩
  rw [(fr 33 (by unfold pt; omega)).1]
  exact h.2.1
theorem newM {σ : St} {K : Kv} {a : Nat} (h : KM 0 1 2 3 4 σ K) (ha : a < K.1) : ∃ σ', f_X6_empty σ (nI a) = some σ' ∧ KM 0 1 2 3 4 σ' (Kset K K.1 a 0 (fun _ => 0) (fun _ => 0) (fun _ => 0)) ∧ Fr (fun a => 1 ≤ a ∧ a ≤ 4) σ σ' := by
  have h6 := h.2.1
  have fr : Fr (fun a => 1 ≤ a ∧ a ≤ 4) σ (wL (uI σ 2 a 0) 1 (4 * a) 4 (fun _ => 0)) := Fr.tr (Fr.uI ⟨by omega, by omega⟩) (Fr.wL ⟨by omega, by omega⟩)
  refine ⟨_, emptyM (by omega), h.set (np := K.1) ⟨fun q hq => ?_, ?_, by omega, fun d hd => absurd hd (by omega)⟩ ?_ h6 (Or.inl (Nat.le_refl _)) (fun b hb => ?_) (fun b hb => ?_) (fun b hb => ⟨?_, ?_⟩), fr⟩
  · rw [wL_i hq]; rfl
  · rw [wL_1, uI_i]; rfl
  · rw [(fr 0 (by omega)).1]; exact h.1
  · rw [wL_n (Or.inr hb), uI_2]
  · rw [wL_1, uI_n (Or.inr hb)]
  · rw [wL_1, uI_n (Or.inl (by omega))]
  · rw [wL_1, uI_n (Or.inl (by omega))]
theorem st1_some {ch : Nat → Nat} {q D : Nat} (h : st1 ch q = some D) : dg (ch q) = some D ∧ ∀ t, t < D → 48 ≤ ch (q + 1 + t) ∧ ch (q + 1 + t) ≤ 57 := by
  cases hdg : dg (ch q) with
  | none => rw [(st1_0 hdg).1] at h; cases h
  | some D2 =>
    cases hf : fb ch (q + 1) D2 with
    | some x => rw [(st1_1 hdg hf).1] at h; cases h
    | none =>
      by_cases e59 : ch (q + 1 + D2) = 59
      · rw [st1_3 hdg hf e59] at h
        cases h
        exact ⟨rfl, fb_dig D (q + 1) hf⟩
      · rw [(st1_2 hdg hf e59).1] at h; cases h
theorem hasK {σ : St} {K : Kv} {a : Nat} (h : KC 33 σ K) (ha : a < 2 ^ 31) : f_X1_has σ 33 (nI a) = some (if a < K.1 then 1 else 0) := by
  by_cases e : a < K.1
  · rw [if_pos e]; exact hasC_y h e
  · rw [if_neg e]
    refine hasC_n h (fun w => ?_)
    obtain ⟨j, hj, ej⟩ := inb_not w
    have h6 := h.2.2.1
    have := (nI_eq ha (by omega)).mp (ej (by omega))
    omega
theorem isPotK {σ : St} {K : Kv} {a : Nat} (h : KM 0 1 2 3 4 σ K) (ha : a < 2 ^ 31) : f_X6_isPot σ (nI a) = some (if a < K.1 then 1 else 0) := by
  by_cases e : a < K.1
  · rw [if_pos e]; exact isPotM_y h e
  · rw [if_neg e]
    refine isPotM_n h (fun w => ?_)
    obtain ⟨j, hj, ej⟩ := inb_not w
    have h6 := h.2.1
    have := (nI_eq ha (by omega)).mp (ej (by omega))
    omega
theorem chk_b0 {β : Type} {k : Option β} : chk (b01 0) k = k := rfl
theorem chk_b1 {β : Type} {k : Option β} : chk (b01 1) k = k := rfl
theorem carry {σc σm : St} {K : Kv} {d z q j D : Nat} {el : Nat → Int32} {ch : Nat → Nat} (hC : KC 33 σc K) (hM : KM 0 1 2 3 4 σm K) (hr : rowAt σc d z el) (ht : isTx el z ch) (hd : d < 8) (hq : q < 900) (hj : j < 50) (hs : st1 ch q = some D) (h14 : σm.1 14 j = nI (ch q)) (h15 : ∀ t, t < D → σm.1 15 (3 * j + t) = nI (ch (q + 1 + t) - 48)) :
    ∃ (r : Int32) (σc' σm' : St), f_X1_carryOut σc 33 (126 + 2 * d) (nI q) = some (r, σc') ∧ f_X6_comes σm (nI j) = some (r, σm') ∧ Fr (fun a => 33 ≤ a ∧ a ≤ 64) σc σc' ∧ FP σm σm' ∧ (r = 0 ∨ (r = 1 ∧ ∃ K', KC 33 σc' K' ∧ KM 0 1 2 3 4 σm' K')) := by
  have h6 := hC.2.2.1
  obtain ⟨hdg, hds⟩ := st1_some hs
  obtain ⟨x, x1, x2⟩ := letC (q := q) hr ht hd (by omega)
  obtain ⟨a, a1, a2, a3⟩ := digC1 (q := q + 1) hr ht hd (by omega)
  obtain ⟨b, b1, b2, b3⟩ := digC1 (q := q + 2) hr ht hd (by omega)
  obtain ⟨f, f1, f2, f3⟩ := digC1 (q := q + 3) hr ht hd (by omega)
  have k33k := (kt_ok k33).1
  have k33a := (kt_ok k33).2
  have y9 := x2 99 (by omega)
  have y10 := x2 100 (by omega)
  have y11 := x2 110 (by omega)
  have y12 := x2 112 (by omega)
  rw [f_X1_carryOut, chk_t (sh_ok d hd).1, nI_1, bnd_o a1, show (2 : Int32) = nI 2 from rfl, nI_add, bnd_o b1, bnd_o x1]
  rw [f_X6_comes, show (3 : Int32) = nI 3 from rfl, pk_mul, chk_t (inb_nI (by omega) (by omega)), nI_clamp (show 3 * j < 2 ^ 31 by omega), nw_s, nI_1, chk_t (inb_nI (by omega) (by omega)), nI_clamp (show 3 * j + 1 < 2 ^ 31 by omega), nw_s, chk_t (inb_nI (by omega) (by omega)), nI_clamp (show j < 2 ^ 31 by omega), nw_s, h14]
  rcases dg_c (c := ch q) with ⟨e, g⟩ | ⟨e, g⟩ | ⟨e, g⟩ | ⟨e, g⟩ | ⟨n1, n2, n3, n4, g⟩
  · rw [g] at hdg
    cases hdg
    have d0 := hds 0 (by omega)
    have d1 := hds 1 (by omega)
    have t0 := h15 0 (by omega)
    have t1 := h15 1 (by omega)
    rw [Nat.add_zero] at d0
    rw [Nat.add_zero, Nat.add_zero] at t0
    rw [show q + 1 + 1 = q + 2 by omega] at d1 t1
    have ea := a3 d0
    have eb := b3 d1
    rw [e, if_pos (show x = 99 from y9.mpr e), chk_t k33k, f_X1_makeAlike, chk_t k33k, ea, eb, t0, t1, bnd_o (hasK hC (by omega)), bnd_o (hasK hC (by omega)), if_neg (show ¬ nI 99 = 100 by decide), if_neg (show ¬ nI 99 = 110 by decide), if_neg (show ¬ nI 99 = 112 by decide), bnd_o (isPotK hM (by omega)), bnd_o (isPotK hM (by omega))]
    generalize ch (q + 1) - 48 = u at *
    generalize ch (q + 2) - 48 = v at *
    by_cases hu : u < K.1
    · rw [if_pos hu, if_neg p0, if_neg p0]
      by_cases hv : v < K.1
      · rw [if_pos hv, if_neg p0, if_neg p0]
        by_cases huv : u = v
        · rw [if_pos (by rw [huv]), if_pos (by rw [huv]), bnd_s, f_X6_comes_186, f_X6_comes_187, if_pos rfl, chk_b0, chk_b0]
          exact ⟨_, _, _, rfl, rfl, Fr.rf, FP.rf, Or.inl rfl⟩
        · have hne : ¬ nI u = nI v := fun w => huv ((nI_eq (by omega) (by omega)).mp w)
          obtain ⟨σc', c1, c2, c3⟩ := alikeC hC hu hv huv
          obtain ⟨m1, m9⟩ := alikeM hM hu hv huv
          have kv : kOK SC (33 + 1 + 1 + 5 * v) 3 = true := (pt_ok k33 (show v < 6 by omega)).1
          have c1' : f_X3_become σc (33 + 1 + 1 + 5 * v) (33 + 1 + 1 + 5 * u) = some σc' := c1
          rw [if_neg hne, if_neg hne, chk_t k33a, chk_t (inb_nI (by omega) (by omega)), chk_t (inb_nI (by omega) (by omega)), nI_clamp (show v < 2 ^ 31 by omega), nI_clamp (show u < 2 ^ 31 by omega), chk_t kv, bnd_o c1', bnd_s, f_X6_comes_187, if_neg p0, bnd_o m1, chk_b1, chk_b1]
          exact ⟨_, _, _, rfl, rfl, c3, FP.of smM_fr, Or.inr ⟨rfl, _, c2, m9⟩⟩
      · rw [if_neg hv, if_pos rfl, if_pos rfl, bnd_s, f_X6_comes_186, f_X6_comes_187, if_pos rfl, chk_b0, chk_b0]
        exact ⟨_, _, _, rfl, rfl, Fr.rf, FP.rf, Or.inl rfl⟩
    · rw [if_neg hu, if_pos rfl, if_pos rfl, bnd_s, f_X6_comes_186, f_X6_comes_187, if_pos rfl, chk_b0, chk_b0]
      exact ⟨_, _, _, rfl, rfl, Fr.rf, FP.rf, Or.inl rfl⟩
  · rw [g] at hdg
    cases hdg
    have d0 := hds 0 (by omega)
    have d1 := hds 1 (by omega)
    have d2 := hds 2 (by omega)
    have t0 := h15 0 (by omega)
    have t1 := h15 1 (by omega)
    have t2 := h15 2 (by omega)
    rw [Nat.add_zero] at d0
    rw [Nat.add_zero, Nat.add_zero] at t0
    rw [show q + 1 + 1 = q + 2 by omega] at d1 t1
    rw [show q + 1 + 2 = q + 3 by omega] at d2 t2
    have ea := a3 d0
    have eb := b3 d1
    have ef := f3 d2
    rw [e, if_neg (show ¬ x = 99 from fun w => by have := y9.mp w; omega), if_pos (show x = 100 from y10.mpr e), nI_add q 3, bnd_o f1, chk_t k33k, f_X1_cookIn, chk_t k33k, ea, eb, ef, t0, t1, bnd_o (hasK hC (by omega)), if_pos (show nI 100 = 100 from rfl), bnd_o (isPotK hM (by omega)), show (2 : Int32) = nI 2 from rfl, nI_add (3 * j) 2, chk_t (inb_nI (i := 3 * j + 2) (n := 153) (by omega) (by omega)), nI_clamp (show 3 * j + 2 < 2 ^ 31 by omega), t2]
    have hu9 : ch (q + 1) - 48 < 10 := by omega
    have hv9 : ch (q + 2) - 48 < 10 := by omega
    have hw9 : ch (q + 3) - 48 < 10 := by omega
    generalize ch (q + 1) - 48 = u at *
    generalize ch (q + 2) - 48 = v at *
    generalize ch (q + 3) - 48 = w at *
    by_cases hu : u < K.1
    · rw [if_pos hu, if_neg p0, if_neg p0]
      by_cases hv : v < 8
      · rw [bnd_o (noKind_y hv), if_pos rfl, bnd_o (noFigure_y hw9), if_pos rfl, if_neg (show ¬ (8 : Int32) ≤ nI v from nI_ge (b := 8) hv (by omega)), chk_t k33a, chk_t (inb_nI (by omega) (by omega)), nI_clamp (show u < 2 ^ 31 by omega)]
        have ku : kOK SC (33 + 1 + 1 + 5 * u) 3 = true := (pt_ok k33 (show u < 6 by omega)).1
        rw [chk_t ku]
        have hpu := hC.2.2.2 u hu
        by_cases h12 : K.2.1 u < 12
        · obtain ⟨σc', c1, c2, c3⟩ := cookC hpu hv hw9 h12
          obtain ⟨σm', c4, c5, c6, c7⟩ := cookM hM hu hv hw9 h12
          have c1' : f_X3_cookIn σc (33 + 1 + 1 + 5 * u) (nI v) (nI w) = some (1, σc') := c1
          rw [bnd_o c1', chk_b1, bnd_s, chk_b1, bnd_o c4, if_neg p0]
          refine ⟨_, _, _, rfl, rfl, c3.mono (fun q hq => by unfold pt at hq; omega), FP.of c7, Or.inr ⟨rfl, _, hC.set (np := K.1) c2 ?_ h6 (Or.inl (Nat.le_refl _)) (c3.mono (fun q hq => Or.inr hq)), c5⟩⟩
          rw [(c3 33 (by unfold pt; omega)).1]
          exact hC.2.1
        · have c1' : f_X3_cookIn σc (33 + 1 + 1 + 5 * u) (nI v) (nI w) = some (0, σc) := cookC_no hpu h12
          rw [bnd_o c1', chk_b0, bnd_s, chk_b0, bnd_o (cookM_no hM hu h12), if_pos rfl]
          exact ⟨_, _, _, rfl, rfl, Fr.rf, FP.rf, Or.inl rfl⟩
      · have hnv : ¬ inb (nI v) 8 = true := by
          intro w2
          obtain ⟨j2, hj2, ej⟩ := inb_not w2
          have := (nI_eq (by omega) (by omega)).mp (ej (by omega))
          omega
        rw [bnd_o (noKind_n hnv), if_neg p0, bnd_s, chk_b0, if_pos (show (8 : Int32) ≤ nI v from nI_le (a := 8) (by omega) (by omega))]
        exact ⟨_, _, _, rfl, rfl, Fr.rf, FP.rf, Or.inl rfl⟩
    · rw [if_neg hu, if_pos rfl, if_pos rfl, bnd_s, chk_b0]
      exact ⟨_, _, _, rfl, rfl, Fr.rf, FP.rf, Or.inl rfl⟩
  · rw [g] at hdg
    cases hdg
    have d0 := hds 0 (by omega)
    have t0 := h15 0 (by omega)
    rw [Nat.add_zero] at d0
    rw [Nat.add_zero, Nat.add_zero] at t0
    have ea := a3 d0
    rw [e, if_neg (show ¬ x = 99 from fun w => by have := y9.mp w; omega), if_neg (show ¬ x = 100 from fun w => by have := y10.mp w; omega), if_pos (show x = 110 from y11.mpr e), chk_t k33k, f_X1_renew, chk_t k33k, ea, t0, bnd_o (hasK hC (by omega)), if_neg (show ¬ nI 110 = 100 by decide), if_pos (show nI 110 = 110 from rfl), bnd_o (isPotK hM (by omega))]
    generalize ch (q + 1) - 48 = u at *
    by_cases hu : u < K.1
    · have ku : kOK SC (33 + 1 + 1 + 5 * u) 3 = true := (pt_ok k33 (show u < 6 by omega)).1
      have ku2 : kOK SC (33 + 1 + 1 + 5 * u + 1) 0 = true := (pt_ok k33 (show u < 6 by omega)).2.1.1
      obtain ⟨σc', c1, c2, c3⟩ := newC hC hu
      obtain ⟨σm', c4, c5, c6⟩ := newM hM hu
      have c1' : f_X0_clear σc (33 + 1 + 1 + 5 * u + 1) = some σc' := c1
      rw [if_pos hu, if_neg p0, if_neg p0, chk_t k33a, chk_t (inb_nI (by omega) (by omega)), nI_clamp (show u < 2 ^ 31 by omega), chk_t ku, chk_t ku2, bnd_o c1', bnd_s, bnd_o c4, chk_b1, chk_b1]
      exact ⟨_, _, _, rfl, rfl, c3, FP.of c6, Or.inr ⟨rfl, _, c2, c5⟩⟩
    · rw [if_neg hu, if_pos rfl, if_pos rfl, bnd_s, chk_b0, chk_b0]
      exact ⟨_, _, _, rfl, rfl, Fr.rf, FP.rf, Or.inl rfl⟩
  · rw [e, if_neg (show ¬ x = 99 from fun w => by have := y9.mp w; omega), if_neg (show ¬ x = 100 from fun w => by have := y10.mp w; omega), if_neg (show ¬ x = 110 from fun w => by have := y11.mp w; omega), if_pos (show x = 112 from y12.mpr e), chk_t k33k, if_neg (show ¬ nI 112 = 100 by decide), if_neg (show ¬ nI 112 = 110 by decide), if_pos (show nI 112 = 112 from rfl), hM.1]
    by_cases h6' : K.1 < 6
    · obtain ⟨σc', e1, kc, fc⟩ := addC hC h6'
      obtain ⟨σ1, e2, g0, km, fm⟩ := addM hM h6'
      rw [bnd_o e1, chk_b1, if_neg (show ¬ (6 : Int32) ≤ nI K.1 from nI_ge (b := 6) h6' (by omega)), f_X6_comes_74, if_neg p0, hM.1, bnd_o e2, g0, hM.1, nI_1, nw_s, chk_b1]
      exact ⟨_, _, _, rfl, rfl, fc.mono (fun q hq => by omega), (FP.of (fm.mono (fun q hq => by omega))).tr FP.u0, Or.inr ⟨rfl, _, kc, km⟩⟩
    · rw [bnd_o (addC_no hC h6'), chk_b0, if_pos (show (6 : Int32) ≤ nI K.1 from nI_le (a := 6) (by omega) (by omega)), f_X6_comes_74, if_pos rfl, chk_b0]
      exact ⟨_, _, _, rfl, rfl, Fr.rf, FP.rf, Or.inl rfl⟩
  · rw [g] at hdg
    cases hdg
theorem ph2 {d z N : Nat} {el : Nat → Int32} {ch : Nat → Nat} {k83 k114 k121 : Int32 → St → Option (Int32 × St)} {k142 : St → Option (Int32 × St)} (ht : isTx el z ch) (hd : d < 8) (hN : N ≤ 50) (hzN : z ≤ pos ch N) (hp : ∀ i, i < N → pos ch i < z) : ∀ (m j : Nat) (K : Kv) (σc σm : St), j ≤ N → N < m + j → KC 33 σc K → KM 0 1 2 3 4 σm K → rowAt σc d z el → TL ch σm N → σm.1 0 21 = nI N →
    ∃ σc' σm' : St, Fr (fun a => 33 ≤ a ∧ a ≤ 64) σc σc' ∧ FP σm σm' ∧ ((∃ i, i < N ∧ f_X5_kitchen_54 k83 k114 m (126 + 2 * d) (nI j) (nI (pos ch j)) σc = k83 (nI (pos ch i)) σc' ∧ f_X6_kitchen_105 k121 k142 m (nI j) σm = k121 (nI i) σm') ∨ (∃ K', f_X5_kitchen_54 k83 k114 m (126 + 2 * d) (nI j) (nI (pos ch j)) σc = k114 (nI N) σc' ∧ f_X6_kitchen_105 k121 k142 m (nI j) σm = k142 σm' ∧ KC 33 σc' K' ∧ KM 0 1 2 3 4 σm' K')) := by
  intro m
  induction m with
  | zero => intro j K σc σm h1 h2; omega
  | succ m ih =>
    intro j K σc σm h1 h2 hC hM hr hT h21
    have hz := hr.1
    rw [f_X5_kitchen_54, chk_t (sh_ok d hd).1, hr.2.1, f_X6_kitchen_105, h21]
    by_cases hj : j = N
    · subst hj
      have hpl : pos ch j < 900 := by
        cases j with
        | zero => show 0 < 900; omega
        | succ j =>
          have := hp j (by omega)
          obtain ⟨D, t1, t2, -⟩ := hT j (by omega)
          have e : pos ch (j + 1) = pos ch j + 2 + D := by
            show pos ch j + 2 + (st1 ch (pos ch j)).getD 0 = _
            rw [t1]; rfl
          omega
      rw [if_pos (nI_le hzN (by omega)), if_pos (nI_le (Nat.le_refl _) (by omega))]
      exact ⟨σc, σm, Fr.rf, FP.rf, Or.inr ⟨K, rfl, rfl, hC, hM⟩⟩
    · have hlt : j < N := by omega
      have hpj := hp j hlt
      obtain ⟨D, t1, t2, t3, t4, t5⟩ := hT j hlt
      obtain ⟨r, σc', σm', c1, c2, c3, c4, c5⟩ := carry (j := j) hC hM hr ht hd (show pos ch j < 900 by omega) (by omega) t1 t4 t5
      rw [if_neg (nI_ge hpj (by omega)), if_neg (show ¬ (100 : Int32) ≤ nI j from nI_ge (b := 100) (by omega) (by omega)), if_neg (nI_ge hlt (by omega)), bnd_o c1, bnd_o c2]
      rcases c5 with e | ⟨e, K', k1, k2⟩
      · subst e
        rw [if_pos rfl, if_pos rfl]
        exact ⟨σc', σm', c3, c4, Or.inl ⟨j, hlt, rfl, rfl⟩⟩
      · subst e
        have hr' := hr.fr c3 (by omega) (by omega)
        obtain ⟨x, x1, x2⟩ := letC (q := pos ch j) hr' ht hd (by omega)
        obtain ⟨hdg, -⟩ := st1_some t1
        have hb := behC x2
        rw [hdg] at hb
        have hpos : pos ch (j + 1) = pos ch j + (2 + D) := by
          show pos ch j + 2 + (st1 ch (pos ch j)).getD 0 = _
          rw [t1]
          show pos ch j + 2 + D = _
          omega
        have hT' : TL ch σm' N := by
          intro i hi
          obtain ⟨D2, s1, s2, s3, s4, s5⟩ := hT i hi
          refine ⟨D2, s1, s2, ?_, ?_, fun t ht2 => ?_⟩
          · rw [(c4.1 13 (by omega)).1]; exact s3
          · rw [(c4.1 14 (by omega)).1]; exact s4
          · rw [(c4.1 15 (by omega)).1]; exact s5 t ht2
        obtain ⟨σ3, σ4, g1, g2, g3⟩ := ih (j + 1) K' σc' σm' (by omega) (by omega) k1 k2 hr' hT' ((c4.2 21 (by omega)).trans h21)
        refine ⟨σ3, σ4, Fr.tr c3 g1, c4.tr g2, ?_⟩
        have hb' : f_X1_digitsBehind x = some (nI D) := hb
        rw [if_neg p0, if_neg p0, bnd_o x1, bnd_o hb', show (2 : Int32) = nI 2 from rfl, nI_add, nI_add, nw_s, nw_s, nw_s, nI_1, ← hpos]
        exact g3
theorem sim_kitchen {σc σm : St} (h : RR σc σm) (x : Int32) : ∃ (r : Int32) (σc' σm' : St), f_X5_kitchen σc x = some (r, σc') ∧ f_X6_kitchen σm x = some (r, σm') ∧ RR σc' σm' := by
  have h5 := h.u5 (v := 0)
  obtain ⟨K, K2, hC, hM, -⟩ := id h
  have hM5 := hM.u5 (v := 0)
  have h6 := hC.2.2.1
  rw [f_X6_kitchen, nw_s, f_X5_kitchen]
  rcases inb_or x (show 8 < 2 ^ 31 by omega) with ⟨d, hd, rfl⟩ | hn
  · rcases bytesRef hd (h5.shelf hd) with ⟨r, hr, e1, e2⟩ | ⟨e1, e2, z, hz⟩
    · rw [bnd_o e1, bnd_o e2, if_neg (by rcases hr with rfl | rfl <;> decide), if_neg (by rcases hr with rfl | rfl <;> decide)]
      exact ⟨_, _, _, rfl, rfl, h5⟩
    · obtain ⟨q1, q2, q3, q4, q5, q6, q7⟩ := id hz
      have hrc : rowAt σc d z (fun q => σc.1 (126 + 2 * d + 1) q) := ⟨q2, q4, fun q _ => rfl⟩
      have hrm : rowMt (uI σm 0 5 0) d z (fun q => σc.1 (126 + 2 * d + 1) q) := ⟨q2, q6, fun q hq => (q7 q (by omega)).1⟩
      obtain ⟨ch, ht⟩ := isTx_of (el := fun q => σc.1 (126 + 2 * d + 1) q) (z := z) (fun q hq => (q7 q (by omega)).2 rfl)
      have f0 : Fr (fun a => a = 0) (uI σm 0 5 0) (uI (uI (uI (uI (uI (uI σm 0 5 0) 0 17 (nI (100 * d))) 0 18 (nI z)) 0 19 0) 0 20 0) 0 21 0) := Fr.tr (Fr.tr (Fr.tr (Fr.tr (Fr.uI rfl) (Fr.uI rfl)) (Fr.uI rfl)) (Fr.uI rfl)) (Fr.uI rfl)
      have mk0 : MK (uI σm 0 5 0) (uI (uI (uI (uI (uI (uI σm 0 5 0) 0 17 (nI (100 * d))) 0 18 (nI z)) 0 19 0) 0 20 0) 0 21 0) := ((((MK.u0 (by omega)).tr (MK.u0 (by omega))).tr (MK.u0 (by omega))).tr (MK.u0 (by omega))).tr (MK.u0 (by omega))
      have s17 : (uI (uI (uI (uI (uI (uI σm 0 5 0) 0 17 (nI (100 * d))) 0 18 (nI z)) 0 19 0) 0 20 0) 0 21 0).1 0 17 = nI (100 * d) := by rw [uI_n (Or.inr (by omega)), uI_n (Or.inr (by omega)), uI_n (Or.inr (by omega)), uI_n (Or.inr (by omega)), uI_i]
      have s18 : (uI (uI (uI (uI (uI (uI σm 0 5 0) 0 17 (nI (100 * d))) 0 18 (nI z)) 0 19 0) 0 20 0) 0 21 0).1 0 18 = nI z := by rw [uI_n (Or.inr (by omega)), uI_n (Or.inr (by omega)), uI_n (Or.inr (by omega)), uI_i]
      have s19 : (uI (uI (uI (uI (uI (uI σm 0 5 0) 0 17 (nI (100 * d))) 0 18 (nI z)) 0 19 0) 0 20 0) 0 21 0).1 0 19 = nI 0 := by rw [uI_n (Or.inr (by omega)), uI_n (Or.inr (by omega)), uI_i]; rfl
      have s20 : (uI (uI (uI (uI (uI (uI σm 0 5 0) 0 17 (nI (100 * d))) 0 18 (nI z)) 0 19 0) 0 20 0) 0 21 0).1 0 20 = 0 := by rw [uI_n (Or.inr (by omega)), uI_i]
      have s21 : (uI (uI (uI (uI (uI (uI σm 0 5 0) 0 17 (nI (100 * d))) 0 18 (nI z)) 0 19 0) 0 20 0) 0 21 0).1 0 21 = nI 0 := by rw [uI_i]; rfl
      have e18 : (uI (uI σm 0 5 0) 0 17 (nI (100 * d))).1 20 d = nI z := by rw [uI_n (Or.inl (by omega))]; exact q6
      rw [bnd_o e1, bnd_o e2, if_pos rfl, if_pos (show (0 : Int32) ≤ 0 by decide), chk_t (inb_nI hd (by omega)), nw_s, nI_clamp (show d < 2 ^ 31 by omega), show (100 : Int32) = nI 100 from rfl, pk_mul, nw_s, chk_t (inb_nI hd (by omega)), e18, nw_s, nw_s, nw_s, nw_s]
      generalize hσ9 : uI (uI (uI (uI (uI (uI σm 0 5 0) 0 17 (nI (100 * d))) 0 18 (nI z)) 0 19 0) 0 20 0) 0 21 0 = σ9 at *
      have hRS : RS σ9 d z (fun q => σc.1 (126 + 2 * d + 1) q) (pos ch 0) := ⟨hd, hrm.fr f0 (by omega) (by omega), s17, s18, s19⟩
      have hph := ph1 (k83 := fun (σ16 : St) => f_X6_kitchen_83 σ16) hrc ht hd fu 0 σ9 (by show z + 2 ≤ fu + 0; rw [fu_e]; omega) (Nat.zero_le _) (Or.inr rfl) hRS s20 s21 (fun j hj => absurd hj (by omega)) (fun j hj => absurd hj (by omega))
      rw [show nI (pos ch 0) = 0 from rfl] at hph
      rcases hph with ⟨y, σ', y0, b1, b2, b3, b4, b5⟩ | ⟨N, σ', b1, b2, b3, b4, b5, b6, b7, b8, b9⟩
      · rw [f_X1_brokenAt, bnd_o b1, if_neg (nI_pos (by omega)), b2, f_X6_kitchen_83, b4, if_neg p0, b5]
        exact ⟨_, _, _, rfl, rfl, h5.keep Fr.rf (mk0.tr b3.mk)⟩
      · obtain ⟨σ2, g1, g2, g3⟩ := kitBecome k33 hC (by omega)
        have mk1 := mk0.tr b3.mk
        have hM' := hM5.mk mk1
        have frO : Fr (fun a => a = 0 ∨ (9 ≤ a ∧ a ≤ 12)) σ' (opS σ') := opS_fr
        have hTO : TL ch (opS σ') N := by
          intro i hi
          obtain ⟨D2, w1, w2, w3, w4, w5⟩ := b6 i hi
          refine ⟨D2, w1, w2, ?_, ?_, fun t ht2 => ?_⟩
          · rw [(frO 13 (by omega)).1]; exact w3
          · rw [(frO 14 (by omega)).1]; exact w4
          · rw [(frO 15 (by omega)).1]; exact w5 t ht2
        obtain ⟨σ3, σ4, p1, p2, p3⟩ := ph2 (k83 := fun (w17_0 : Int32) (σ18 : St) => some (((-2000)) - w17_0, σ18)) (k114 := fun (w19_0 : Int32) (σ20 : St) => f_X5_kitchen_114 w19_0 σ20) (k121 := fun (w23_0 : Int32) (σ24 : St) => bnd (f_X6_close σ24) fun r25 => chk (inb w23_0 51) <| some (((-2000)) - (r25.1 13 w23_0.toNatClampNeg), r25)) (k142 := fun  (σ27 : St) => some (σ27.1 0 21, σ27)) ht hd b7 b8 b9 fu 0 K σ2 (opS σ') (by omega) (by rw [fu_e]; omega) g2 (opS_KM hM') (hrc.fr g3 (by omega) (by omega)) hTO (by rw [opS_0 (by omega)]; exact b5)
        rw [show nI (pos ch 0) = 0 from rfl, show nI 0 = 0 from rfl] at p3
        rw [f_X1_brokenAt, bnd_o b1, if_pos (by decide), bnd_o g1, b2, f_X6_kitchen_83, b4, if_pos rfl, bnd_o openM']
        rcases p3 with ⟨i, w1, w2, w3⟩ | ⟨K', w2, w3, w4, w5⟩
        · rw [w2, w3, bnd_o closeM', chk_t (inb_nI (by omega) (by omega)), nI_clamp (by omega)]
          have hcl : (clS σ4).1 13 i = nI (pos ch i) := by
            obtain ⟨D2, u1, u2, u3, u4, u5⟩ := hTO i w1
            unfold clS
            rw [(cp4_fr 13 (by omega)).1, uI_n (Or.inl (by omega)), (p2.1 13 (by omega)).1]
            exact u3
          rw [hcl]
          exact ⟨_, _, _, rfl, rfl, h5.keep (Fr.tr (g3.mono (fun a ha => Or.inl (by omega))) (p1.mono (fun a ha => Or.inl ha))) (mk1.tr (ocM2 p2))⟩
        · obtain ⟨σ5, v1, v2, v3⟩ := kitBecome (a := 1) (Or.inl rfl) w4 (by omega)
          have s21' : σ4.1 0 21 = nI N := by rw [p2.2 21 (by omega), opS_0 (by omega)]; exact b5
          rw [w2, w3, f_X5_kitchen_114, bnd_o v1, s21']
          refine ⟨_, _, _, rfl, rfl, h5.now v2 w5 ?_ (fun a ha => ?_) ?_ ?_⟩
          · exact Fr.tr (Fr.tr (g3.mono (fun a ha => by omega)) (p1.mono (fun a ha => by omega))) (v3.mono (fun a ha => by omega))
          · obtain ⟨-, -, -, mm, -⟩ := mk1
            obtain ⟨m3, m4⟩ := mm a ha
            rw [(p2.1 a (by omega)).1, (p2.1 a (by omega)).2, (frO a (by omega)).1, (frO a (by omega)).2, m3, m4]
            exact ⟨rfl, rfl⟩
          · rw [p2.2 6 (by omega), opS_0 (by omega)]
            exact mk1.2.2.2.2.2.1
          · rw [p2.2 7 (by omega), opS_0 (by omega)]
            exact mk1.2.2.2.2.2.2
  · rw [bnd_o (bytesRef_n (σm := σm) hn).1, bnd_o (bytesRef_n (σc := σc) hn).2, if_neg (by decide), if_neg (by decide)]
    exact ⟨_, _, _, rfl, rfl, h5⟩
