/-! STATEMENTS: read, and carried out -/
def tl (σ : St) (g : Int32) (y k : Int32) : St := uI (uI (uI σ 0 20 g) 0 19 y) 0 21 k
theorem tl_fr {σ : St} {g y k : Int32} : FR σ (tl σ g y k) := ((FR.u0 (Or.inr (Or.inl rfl))).tr (FR.u0 (Or.inl rfl))).tr (FR.u0 (Or.inr (Or.inr rfl)))
theorem tl_v {σ : St} {g y k : Int32} : (tl σ g y k).1 0 20 = g ∧ (tl σ g y k).1 0 19 = y ∧ (tl σ g y k).1 0 21 = k ∧ ∀ a, a ≠ 0 → (tl σ g y k).1 a = σ.1 a := by
  unfold tl
  refine ⟨?_, ?_, ?_, fun a ha => funext fun b => ?_⟩
  · rw [uI_n (Or.inr (by omega)), uI_n (Or.inr (by omega)), uI_i]
  · rw [uI_n (Or.inr (by omega)), uI_i]
  · rw [uI_i]
  · rw [uI_n (Or.inl ha), uI_n (Or.inl ha), uI_n (Or.inl ha)]
theorem tl_0 {σ : St} {y k : Nat} (hy : σ.1 0 19 = nI y) (hk : σ.1 0 21 = nI k) : f_X6_readStatement_172 0 0 σ = some (tl σ 0 (nI (y + 1)) (nI (k + 1))) := by
  have s19 : (uI σ 0 20 0).1 0 19 = nI y := by rw [uI_n (Or.inr (by omega))]; exact hy
  have s21 : (uI (uI σ 0 20 0) 0 19 (nI (y + 1))).1 0 21 = nI k := by rw [uI_n (Or.inr (by omega)), uI_n (Or.inr (by omega))]; exact hk
  rw [f_X6_readStatement_172, chk_t m2, chk_t (by decide), nw_s, uI_i, if_pos rfl, f_X6_readStatement_192, chk_t m2, s19, nI_1, nw_s, s21, nI_1, nw_s]
  rfl
theorem tl_1 {σ : St} {y k : Nat} (hy : σ.1 0 19 = nI y) (hk : σ.1 0 21 = nI k) : f_X6_readStatement_172 0 1 σ = some (tl σ 1 (nI y) (nI (k + 1))) := by
  have s19 : (uI σ 0 20 1).1 0 19 = nI y := by rw [uI_n (Or.inr (by omega))]; exact hy
  have s21 : (uI (uI σ 0 20 1) 0 19 (nI y)).1 0 21 = nI k := by rw [uI_n (Or.inr (by omega)), uI_n (Or.inr (by omega))]; exact hk
  rw [f_X6_readStatement_172, chk_t m2, chk_t (by decide), nw_s, uI_i, if_neg p0, f_X6_readStatement_192, chk_t m2, s19, show nI y + 0 = nI y from nI_add y 0, nw_s, s21, nI_1, nw_s]
  rfl
theorem rdS {σ : St} {d z q k : Nat} {el : Nat → Int32} {ch : Nat → Nat} (hS : RS σ d z el q) (ht : isTx el z ch) (hk : k ≤ 50) (hq : q < 900) (h0 : σ.1 0 20 = 0) (h21 : σ.1 0 21 = nI k) : ∃ σ', f_X6_readStatement σ = some σ' ∧ FR σ σ' ∧ σ'.1 0 21 = nI (k + 1) ∧ (∀ b, b < k → σ'.1 13 b = σ.1 13 b ∧ σ'.1 14 b = σ.1 14 b) ∧ (∀ b, b < 3 * k → σ'.1 15 b = σ.1 15 b) ∧
    ((st1 ch q = none ∧ σ'.1 0 20 = 1 ∧ σ'.1 0 19 = nI (bp ch q)) ∨ (∃ D, st1 ch q = some D ∧ D < 4 ∧ σ'.1 0 20 = 0 ∧ σ'.1 0 19 = nI (q + 2 + D) ∧ σ'.1 13 k = nI q ∧ σ'.1 14 k = nI (ch q) ∧ ∀ t, t < D → σ'.1 15 (3 * k + t) = nI (ch (q + 1 + t) - 48))) := by
  obtain ⟨x, e1, e2, e3⟩ := hereM hS ht (by omega)
  have h19 := hS.2.2.2.2
  have f5 : FR σ (uI (uI σ 13 k (nI q)) 14 k x) := (FR.u13 (Or.inl rfl)).tr (FR.u13 (Or.inr (Or.inl rfl)))
  have a20 : (uI (uI σ 13 k (nI q)) 14 k x).1 0 20 = 0 := by rw [uI_n (Or.inl (by omega)), uI_n (Or.inl (by omega))]; exact h0
  have a19 : (uI (uI σ 13 k (nI q)) 14 k x).1 0 19 = nI q := by rw [uI_n (Or.inl (by omega)), uI_n (Or.inl (by omega))]; exact h19
  have a21 : (uI (uI σ 13 k (nI q)) 14 k x).1 0 21 = nI k := by rw [uI_n (Or.inl (by omega)), uI_n (Or.inl (by omega))]; exact h21
  have a13 : ∀ b, (uI (uI σ 13 k (nI q)) 14 k x).1 13 b = if b = k then nI q else σ.1 13 b := by
    intro b
    rw [uI_n (Or.inl (by omega))]
    by_cases e : b = k
    · subst e; rw [uI_i, if_pos rfl]
    · rw [uI_n (Or.inr e), if_neg e]
  have a14 : ∀ b, (uI (uI σ 13 k (nI q)) 14 k x).1 14 b = if b = k then x else σ.1 14 b := by
    intro b
    by_cases e : b = k
    · subst e; rw [uI_i, if_pos rfl]
    · rw [uI_n (Or.inr e), uI_n (Or.inl (by omega)), if_neg e]
  have a15 : (uI (uI σ 13 k (nI q)) 14 k x).1 15 = σ.1 15 := by funext b; rw [uI_n (Or.inl (by omega)), uI_n (Or.inl (by omega))]
  rw [f_X6_readStatement, h21, nw_s, bnd_o e1, chk_t (inb_nI (by omega) (by omega)), nI_clamp (by omega), h19, nw_s, nw_s, a20, if_pos rfl]
  generalize uI (uI σ 13 k (nI q)) 14 k x = σ5 at *
  have b9 : ∀ b, b < k → (if b = k then nI q else σ.1 13 b) = σ.1 13 b ∧ (if b = k then x else σ.1 14 b) = σ.1 14 b := fun b hb => ⟨if_neg (by omega), if_neg (by omega)⟩
  -- a letter of a statement
  have good : ∀ D, dg (ch q) = some D → ∃ σ', f_X6_readStatement_119 (nI k) (nI D) (uI (uI σ5 0 20 0) 0 19 (nI (q + 1))) = some σ' ∧ FR σ σ' ∧ σ'.1 0 21 = nI (k + 1) ∧ (∀ b, b < k → σ'.1 13 b = σ.1 13 b ∧ σ'.1 14 b = σ.1 14 b) ∧ (∀ b, b < 3 * k → σ'.1 15 b = σ.1 15 b) ∧
    ((st1 ch q = none ∧ σ'.1 0 20 = 1 ∧ σ'.1 0 19 = nI (bp ch q)) ∨ (∃ D, st1 ch q = some D ∧ D < 4 ∧ σ'.1 0 20 = 0 ∧ σ'.1 0 19 = nI (q + 2 + D) ∧ σ'.1 13 k = nI q ∧ σ'.1 14 k = x ∧ ∀ t, t < D → σ'.1 15 (3 * k + t) = nI (ch (q + 1 + t) - 48))) := by
    intro D hdg
    have hD := dg_lt hdg
    have f12 : FR σ (uI (uI σ5 0 20 0) 0 19 (nI (q + 1))) := (f5.tr (FR.u0 (Or.inr (Or.inl rfl)))).tr (FR.u0 (Or.inl rfl))
    have c21 : (uI (uI σ5 0 20 0) 0 19 (nI (q + 1))).1 0 21 = nI k := by rw [uI_n (Or.inr (by omega)), uI_n (Or.inr (by omega))]; exact a21
    have cn : ∀ a, a ≠ 0 → (uI (uI σ5 0 20 0) 0 19 (nI (q + 1))).1 a = σ5.1 a := fun a ha => funext fun b => by rw [uI_n (Or.inl ha), uI_n (Or.inl ha)]
    obtain ⟨σ', g1, g2, g3, g4, g5, g6, g7⟩ := rs_dig (k9 := fun (σ21 : St) => (if (σ21.1 0 20) = 0 then bnd (f_X6_here σ21) fun r30 => (if r30 = 59 then f_X6_readStatement_172 0 0 σ21 else f_X6_readStatement_167 0 σ21) else f_X6_readStatement_167 0 σ21)) ht hk hD D fu (q + 1) 0 (uI (uI σ5 0 20 0) 0 19 (nI (q + 1))) (by rw [fu_e]; omega) (by omega) (by omega) (hS.fr f12 uI_i) (by rw [uI_n (Or.inr (by omega)), uI_i])
    rw [show nI 0 = 0 from rfl] at g1
    rw [f_X6_readStatement_119, g1]
    have fz := f12.tr g2
    have z13 : ∀ b, b < k → σ'.1 13 b = σ.1 13 b ∧ σ'.1 14 b = σ.1 14 b := by
      intro b hb
      rw [g5, g6, cn 13 (by omega), cn 14 (by omega), a13, a14]
      exact b9 b hb
    have z15 : ∀ b, b < 3 * k → σ'.1 15 b = σ.1 15 b := by
      intro b hb
      rw [g4 b (by omega), cn 15 (by omega), a15]
    have z21 : σ'.1 0 21 = nI k := g3.trans c21
    rcases g7 with ⟨w1, w2, w3, w4⟩ | ⟨y, w1, w2, w3⟩
    · obtain ⟨u, u1, u2, u3⟩ := hereM (q := q + 1 + D) (hS.fr fz w3) ht (by omega)
      rw [w2, if_pos rfl, bnd_o u1]
      by_cases e59 : ch (q + 1 + D) = 59
      · rw [if_pos (show u = 59 from (u2 59 (by omega)).mpr e59), tl_0 w3 z21]
        obtain ⟨t1, t2, t3, t4⟩ := tl_v (σ := σ') (g := 0) (y := nI (q + 1 + D + 1)) (k := nI (k + 1))
        refine ⟨_, rfl, fz.tr tl_fr, t3, fun b hb => ?_, fun b hb => ?_, Or.inr ⟨D, st1_3 hdg w1 e59, hD, t1, ?_, ?_, ?_, fun t htD => ?_⟩⟩
        · rw [t4 13 (by omega), t4 14 (by omega)]; exact z13 b hb
        · rw [t4 15 (by omega)]; exact z15 b hb
        · rw [t2, show q + 1 + D + 1 = q + 2 + D by omega]
        · rw [t4 13 (by omega), g5, cn 13 (by omega), a13, if_pos rfl]
        · rw [t4 14 (by omega), g6, cn 14 (by omega), a14, if_pos rfl]
        · rw [t4 15 (by omega)]; exact w4 t htD
      · rw [if_neg (show ¬ u = 59 from fun g => e59 ((u2 59 (by omega)).mp g)), f_X6_readStatement_167, tl_1 w3 z21]
        obtain ⟨t1, t2, t3, t4⟩ := tl_v (σ := σ') (g := 1) (y := nI (q + 1 + D)) (k := nI (k + 1))
        obtain ⟨s1, s2⟩ := st1_2 hdg w1 e59
        refine ⟨_, rfl, fz.tr tl_fr, t3, fun b hb => ?_, fun b hb => ?_, Or.inl ⟨s1, t1, by rw [t2, s2]⟩⟩
        · rw [t4 13 (by omega), t4 14 (by omega)]; exact z13 b hb
        · rw [t4 15 (by omega)]; exact z15 b hb
    · rw [w2, if_neg p0, f_X6_readStatement_167, tl_1 w3 z21]
      obtain ⟨t1, t2, t3, t4⟩ := tl_v (σ := σ') (g := 1) (y := nI y) (k := nI (k + 1))
      obtain ⟨s1, s2⟩ := st1_1 hdg w1
      refine ⟨_, rfl, fz.tr tl_fr, t3, fun b hb => ?_, fun b hb => ?_, Or.inl ⟨s1, t1, by rw [t2, s2]⟩⟩
      · rw [t4 13 (by omega), t4 14 (by omega)]; exact z13 b hb
      · rw [t4 15 (by omega)]; exact z15 b hb
  have r64 : f_X6_readStatement_64 (nI k) x 0 0 σ5 = f_X6_readStatement_84 (nI k) x 0 (nI q) 1 (uI σ5 0 20 0) := by
    have s19 : (uI σ5 0 20 0).1 0 19 = nI q := by rw [uI_n (Or.inr (by omega))]; exact a19
    rw [f_X6_readStatement_64, chk_t m2, chk_t (by decide), nw_s, uI_i, if_pos rfl, s19]
  have fin : ∀ c, c < 128 → ch q = c → x = nI (ch q) := fun c hc e => by rw [e]; exact (e2 c hc).mpr e
  have h9 := e2 99 (by omega)
  have h10 := e2 100 (by omega)
  have h11 := e2 110 (by omega)
  have h12 := e2 112 (by omega)
  rcases dg_c (c := ch q) with ⟨e, g⟩ | ⟨e, g⟩ | ⟨e, g⟩ | ⟨e, g⟩ | ⟨n1, n2, n3, n4, g⟩
  · obtain ⟨σ', w1, w2⟩ := good 2 g
    have hx := fin 99 (by omega) e
    rw [hx] at w2
    refine ⟨σ', ?_, w2⟩
    have ex : x = 99 := h9.mpr e
    rw [if_neg (show ¬ x = 112 from fun w => by have := h12.mp w; omega), if_neg (show ¬ x = 100 from fun w => by have := h10.mp w; omega), if_neg (show ¬ x = 110 from fun w => by have := h11.mp w; omega), if_pos ex, f_X6_readStatement_63, r64, f_X6_readStatement_84, chk_t m2, nI_1, nw_s, if_neg (show ¬ x = 112 from fun w => by have := h12.mp w; omega), if_neg (show ¬ x = 100 from fun w => by have := h10.mp w; omega), if_neg (show ¬ x = 110 from fun w => by have := h11.mp w; omega)]
    exact w1
  · obtain ⟨σ', w1, w2⟩ := good 3 g
    have hx := fin 100 (by omega) e
    rw [hx] at w2
    refine ⟨σ', ?_, w2⟩
    have ex : x = 100 := h10.mpr e
    rw [if_neg (show ¬ x = 112 from fun w => by have := h12.mp w; omega), if_pos ex, f_X6_readStatement_63, r64, f_X6_readStatement_84, chk_t m2, nI_1, nw_s, if_neg (show ¬ x = 112 from fun w => by have := h12.mp w; omega), if_pos ex]
    exact w1
  · obtain ⟨σ', w1, w2⟩ := good 1 g
    have hx := fin 110 (by omega) e
    rw [hx] at w2
    refine ⟨σ', ?_, w2⟩
    have ex : x = 110 := h11.mpr e
    rw [if_neg (show ¬ x = 112 from fun w => by have := h12.mp w; omega), if_neg (show ¬ x = 100 from fun w => by have := h10.mp w; omega), if_pos ex, f_X6_readStatement_63, r64, f_X6_readStatement_84, chk_t m2, nI_1, nw_s, if_neg (show ¬ x = 112 from fun w => by have := h12.mp w; omega), if_neg (show ¬ x = 100 from fun w => by have := h10.mp w; omega), if_pos ex]
    exact w1
  · obtain ⟨σ', w1, w2⟩ := good 0 g
    have hx := fin 112 (by omega) e
    rw [hx] at w2
    refine ⟨σ', ?_, w2⟩
    have ex : x = 112 := h12.mpr e
    rw [if_pos ex, f_X6_readStatement_63, r64, f_X6_readStatement_84, chk_t m2, nI_1, nw_s, if_pos ex]
    exact w1
  · have x1 : ¬ x = 112 := fun w => n4 (h12.mp w)
    have x2 : ¬ x = 100 := fun w => n2 (h10.mp w)
    have x3 : ¬ x = 110 := fun w => n3 (h11.mp w)
    have x4 : ¬ x = 99 := fun w => n1 (h9.mp w)
    have s19 : (uI σ5 0 20 1).1 0 19 = nI q := by rw [uI_n (Or.inr (by omega))]; exact a19
    have f12 : FR σ (uI (uI σ5 0 20 1) 0 19 (nI q)) := (f5.tr (FR.u0 (Or.inr (Or.inl rfl)))).tr (FR.u0 (Or.inl rfl))
    have cn : ∀ a, a ≠ 0 → (uI (uI σ5 0 20 1) 0 19 (nI q)).1 a = σ5.1 a := fun a ha => funext fun b => by rw [uI_n (Or.inl ha), uI_n (Or.inl ha)]
    obtain ⟨σ', g1, g2, g3, g4, g5, g6, g7, g8⟩ := rs_bad (k9 := fun (σ21 : St) => (if (σ21.1 0 20) = 0 then bnd (f_X6_here σ21) fun r30 => (if r30 = 59 then f_X6_readStatement_172 0 0 σ21 else f_X6_readStatement_167 0 σ21) else f_X6_readStatement_167 0 σ21)) hk (show 2 < 4 by omega) 2 fu 0 (uI (uI σ5 0 20 1) 0 19 (nI q)) (by rw [fu_e]; omega) (by omega) (by rw [uI_n (Or.inr (by omega)), uI_i])
    have z19 : σ'.1 0 19 = nI q := by rw [g4, uI_i]
    have z21 : σ'.1 0 21 = nI k := by rw [g5, uI_n (Or.inr (by omega)), uI_n (Or.inr (by omega))]; exact a21
    rw [show nI 0 = 0 from rfl, show nI 2 = 2 from rfl] at g1
    rw [if_neg x1, if_neg x2, if_neg x3, if_neg x4, f_X6_readStatement_59, f_X6_readStatement_64, chk_t m2, chk_t (by decide), nw_s, uI_i, if_neg p0, s19, f_X6_readStatement_84, chk_t m2, show nI q + 0 = nI q from nI_add q 0, nw_s, if_neg x1, if_neg x2, if_neg x3, f_X6_readStatement_119, g1, g3, if_neg p0, f_X6_readStatement_167, tl_1 z19 z21]
    obtain ⟨t1, t2, t3, t4⟩ := tl_v (σ := σ') (g := 1) (y := nI q) (k := nI (k + 1))
    obtain ⟨s1, s2⟩ := st1_0 g
    refine ⟨_, rfl, (f12.tr g2).tr tl_fr, t3, fun b hb => ?_, fun b hb => ?_, Or.inl ⟨s1, t1, by rw [t2, s2]⟩⟩
    · rw [t4 13 (by omega), t4 14 (by omega), g7, g8, cn 13 (by omega), cn 14 (by omega), a13, a14]
      exact b9 b hb
    · rw [t4 15 (by omega), g6 b (by omega), cn 15 (by omega), a15]
/-- where the statements stand -/
def pos (ch : Nat → Nat) : Nat → Nat
  | 0 => 0
  | j + 1 => pos ch j + 2 + (st1 ch (pos ch j)).getD 0
def TL (ch : Nat → Nat) (σ : St) (k : Nat) : Prop := ∀ j, j < k → ∃ D, st1 ch (pos ch j) = some D ∧ D < 4 ∧ σ.1 13 j = nI (pos ch j) ∧ σ.1 14 j = nI (ch (pos ch j)) ∧ ∀ t, t < D → σ.1 15 (3 * j + t) = nI (ch (pos ch j + 1 + t) - 48)
theorem ph1 {σc : St} {d z : Nat} {el : Nat → Int32} {ch : Nat → Nat} {k83 : St → Option (Int32 × St)} (hr : rowAt σc d z el) (ht : isTx el z ch) (hd : d < 8) : ∀ (m k : Nat) (σm : St), z + 2 ≤ m + pos ch k → 2 * k ≤ pos ch k → (pos ch k < z ∨ k = 0) → RS σm d z el (pos ch k) → σm.1 0 20 = 0 → σm.1 0 21 = nI k → TL ch σm k → (∀ i, i < k → pos ch i < z) →
    (∃ (x : Nat) (σ' : St), x < 1000 ∧ f_X1_brokenAt_2 σc (fun (w20_0 : Int32) => some w20_0) (fun (w21_0 : Int32) => some w21_0) (fun (w22_0 : Int32) => some w22_0) (some ((-4))) m (126 + 2 * d) (nI (pos ch k)) = some (nI x) ∧ f_X6_kitchen_51 k83 m σm = k83 σ' ∧ FR σm σ' ∧ σ'.1 0 20 = 1 ∧ σ'.1 0 19 = nI x) ∨
    (∃ (N : Nat) (σ' : St), f_X1_brokenAt_2 σc (fun (w20_0 : Int32) => some w20_0) (fun (w21_0 : Int32) => some w21_0) (fun (w22_0 : Int32) => some w22_0) (some ((-4))) m (126 + 2 * d) (nI (pos ch k)) = some (-4) ∧ f_X6_kitchen_51 k83 m σm = k83 σ' ∧ FR σm σ' ∧ σ'.1 0 20 = 0 ∧ σ'.1 0 21 = nI N ∧ TL ch σ' N ∧ N ≤ 50 ∧ z ≤ pos ch N ∧ ∀ i, i < N → pos ch i < z) := by
  have hz := hr.1
  intro m
  induction m with
  | zero =>
    intro k σm h1 h2 h3
    exfalso
    rcases h3 with q | q
    · omega
    · subst q
      have : pos ch 0 = 0 := rfl
      omega
  | succ m ih =>
    intro k σm h1 h2 h3 hS h0 h21 hT hp
    have hpk : pos ch k ≤ 100 := by
      rcases h3 with q | q
      · omega
      · subst q; exact Nat.zero_le _
    obtain ⟨σ', g1, g2, g3, g4, g5, g6⟩ := rdS hS ht (show k ≤ 50 by omega) (by omega) h0 h21
    have hread : f_X6_kitchen_51 k83 (m + 1) σm = f_X6_kitchen_51 k83 m σ' := by
      rw [f_X6_kitchen_51, h0, if_pos rfl, h21]
      by_cases hk0 : k = 0
      · rw [if_pos (show nI k = 0 by rw [hk0]; rfl), f_X6_kitchen_76, bnd_o g1]
      · have hlt : pos ch k < z := by
          rcases h3 with q | q
          · exact q
          · exact absurd q hk0
        rw [if_neg (nI_ne0 (by omega) (by omega)), hS.2.2.2.1, hS.2.2.2.2, if_neg (nI_ge hlt (by omega)), f_X6_kitchen_76, bnd_o g1]
    have hm1 : 1 ≤ m := by
      rcases h3 with q | q
      · omega
      · subst q
        have : pos ch 0 = 0 := rfl
        omega
    obtain ⟨m', rfl⟩ : ∃ m', m = m' + 1 := ⟨m - 1, by omega⟩
    rcases bkA (m := m' + 1) (q := pos ch k) hr ht hd (by omega) with ⟨b1, b2⟩ | ⟨D, b1, b2, b3⟩
    · rcases g6 with ⟨w1, w2, w3⟩ | ⟨D', w1, -⟩
      · refine Or.inl ⟨bp ch (pos ch k), σ', ?_, b2, ?_, g2, w2, w3⟩
        · unfold bp
          cases hdg : dg (ch (pos ch k)) with
          | none => show pos ch k < 1000; omega
          | some D =>
            have hD := dg_lt hdg
            show (match fb ch (pos ch k + 1) D with | some x => x | none => pos ch k + 1 + D) < 1000
            cases hf : fb ch (pos ch k + 1) D with
            | none => show pos ch k + 1 + D < 1000; omega
            | some x =>
              have := fb_ge D _ x hf
              show x < 1000
              omega
        · rw [hread, f_X6_kitchen_51, w2, if_neg p0]
      · rw [b1] at w1; cases w1
    · rcases g6 with ⟨w1, -⟩ | ⟨D', w1, w0, w2, w3, w4, w5, w6⟩
      · rw [b1] at w1; cases w1
      · rw [b1] at w1
        cases w1
        have hpos : pos ch (k + 1) = pos ch k + 2 + D := by
          show pos ch k + 2 + (st1 ch (pos ch k)).getD 0 = _
          rw [b1]; rfl
        have hT' : TL ch σ' (k + 1) := by
          intro j hj
          by_cases e : j = k
          · subst e
            exact ⟨D, b1, b2, w4, w5, w6⟩
          · obtain ⟨D2, t1, t2, t3, t4, t5⟩ := hT j (by omega)
            refine ⟨D2, t1, t2, ?_, ?_, fun t ht2 => ?_⟩
            · rw [(g4 j (by omega)).1]; exact t3
            · rw [(g4 j (by omega)).2]; exact t4
            · rw [g5 _ (by omega)]; exact t5 t ht2
        have hlt : pos ch k < z := by
          rcases Nat.lt_or_ge (pos ch k) z with q | q
          · exact q
          · exfalso
            have hc := (ht (pos ch k)).2 q
            have : dg (ch (pos ch k)) = none := by rw [hc]; rfl
            rw [(st1_0 this).1] at b1
            cases b1
        have hp' : ∀ i, i < k + 1 → pos ch i < z := fun i hi => by
          by_cases e : i = k
          · subst e; exact hlt
          · exact hp i (by omega)
        rw [← hpos] at b3 w3
        by_cases hz2 : pos ch (k + 1) < z
        · rw [if_pos hz2] at b3
          rw [hread, b3]
          rcases ih (k + 1) σ' (by omega) (by omega) (Or.inl hz2) (hS.fr g2 w3) w2 g3 hT' hp' with ⟨x, σ2, q0, q1, q2, q3, q4⟩ | ⟨N, σ2, q1, q2, q3, q4⟩
          · exact Or.inl ⟨x, σ2, q0, q1, q2, g2.tr q3, q4⟩
          · exact Or.inr ⟨N, σ2, q1, q2, g2.tr q3, q4⟩
        · rw [if_neg hz2] at b3
          refine Or.inr ⟨k + 1, σ', b3, ?_, g2, w2, g3, hT', ?_, by omega, hp'⟩
          · rw [hread, f_X6_kitchen_51, w2, if_pos rfl, g3, if_neg (nI_ne0 (by omega) (by omega)), (hS.fr g2 w3).2.2.2.1, w3, if_pos (nI_le (by omega) (by omega))]
          · have hle : pos ch (k + 1) ≤ z := by
              rcases Nat.lt_or_ge (pos ch k + 1 + D) z with q | q
              · omega
              · exfalso
                have hc := (ht (pos ch k + 1 + D)).2 q
                cases hdg : dg (ch (pos ch k)) with
                | none => rw [(st1_0 hdg).1] at b1; cases b1
                | some D2 =>
                  cases hf : fb ch (pos ch k + 1) D2 with
                  | some x => rw [(st1_1 hdg hf).1] at b1; cases b1
                  | none =>
                    by_cases e59 : ch (pos ch k + 1 + D2) = 59
                    · rw [st1_3 hdg hf e59] at b1
                      cases b1
                      omega
                    · rw [(st1_2 hdg hf e59).1] at b1; cases b1
            omega
