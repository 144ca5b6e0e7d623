/-! SHELVES -/
theorem sh_ok : ∀ d, d < 8 → kOK SC (126 + 2 * d) 4 = true ∧ aOK SC (126 + 2 * d + 1) 20 100 = true := by decide +kernel
theorem dishRef_n {σc σm : St} {x : Int32} (h : ¬ inb x 8 = true) : f_X5_dishRefusal σc x = some (-1) ∧ f_X6_wrongDish σm x = some (-1) := by
  constructor
  · rw [f_X5_dishRefusal, bnd_o (noShelf_n h), if_neg p0]
  · rw [f_X6_wrongDish, bnd_o (inM_n (n := 8) h), if_pos rfl]
theorem rowRef_n {σc σm : St} {x : Int32} (h : ¬ inb x 8 = true) : f_X5_rowRefusal σc x = some (-1) ∧ f_X6_wrongRow σm x = some (-1) := by
  constructor
  · rw [f_X5_rowRefusal, bnd_o (noShelf_n h), if_neg p0]
  · rw [f_X6_wrongRow, bnd_o (inM_n (n := 8) h), if_pos rfl]
theorem holds0 {σ : St} {d w : Nat} (hd : d < 8) (hw : w < 3) (h : σ.1 (126 + 2 * d) 0 = nI w) : f_X4_holdsNothing σ (126 + 2 * d) = some (if w = 0 then 1 else 0) := by
  rw [f_X4_holdsNothing, chk_t (sh_ok d hd).1, h]
  have hc : w = 0 ∨ w = 1 ∨ w = 2 := by omega
  rcases hc with rfl | rfl | rfl <;> rfl
theorem holds2 {σ : St} {d w : Nat} (hd : d < 8) (hw : w < 3) (h : σ.1 (126 + 2 * d) 0 = nI w) : f_X4_holdsRow σ (126 + 2 * d) = some (if w = 2 then 1 else 0) := by
  rw [f_X4_holdsRow, chk_t (sh_ok d hd).1, h]
  have hc : w = 0 ∨ w = 1 ∨ w = 2 := by omega
  rcases hc with rfl | rfl | rfl <;> rfl
def hI (b : Bool) : Int32 := if b = true then 1 else 0
theorem holds0_c {σ : St} {d w : Nat} (hd : d < 8) (hw : w < 3) (h : σ.1 (126 + 2 * d) 0 = nI w) (v : Int32) (hv : v = if w = 0 then 1 else 0) : f_X4_holdsNothing σ (126 + 2 * d) = some v := by rw [hv]; exact holds0 hd hw h
theorem holds2_c {σ : St} {d w : Nat} (hd : d < 8) (hw : w < 3) (h : σ.1 (126 + 2 * d) 0 = nI w) (v : Int32) (hv : v = if w = 2 then 1 else 0) : f_X4_holdsRow σ (126 + 2 * d) = some v := by rw [hv]; exact holds2 hd hw h
theorem dishRef {σc σm : St} {d : Nat} (hd : d < 8) (h : SH σc σm d) : (∃ r : Int32, (r = -11 ∨ r = -12) ∧ f_X5_dishRefusal σc (nI d) = some r ∧ f_X6_wrongDish σm (nI d) = some r) ∨ (f_X5_dishRefusal σc (nI d) = some 0 ∧ f_X6_wrongDish σm (nI d) = some 0 ∧ ∃ k f : Nat, k < 8 ∧ f < 10 ∧ σc.1 (126 + 2 * d) 1 = nI k ∧ σc.1 (126 + 2 * d) 2 = nI f ∧ σm.1 17 d = nI k ∧ σm.1 18 d = nI f) := by
  obtain ⟨w, hw, h1, h2, h3, h4⟩ := h
  rw [f_X5_dishRefusal, bnd_o (noShelf_y hd), if_pos rfl, chk_t (inb_nI hd (by omega)), nI_clamp (by omega), chk_t (sh_ok d hd).1, f_X6_wrongDish, bnd_o (inM_y hd (by omega)), if_neg p0, chk_t (inb_nI hd (by omega)), nI_clamp (by omega), h2]
  have hc : w = 0 ∨ w = 1 ∨ w = 2 := by omega
  rcases hc with rfl | rfl | rfl
  · refine Or.inl ⟨-11, Or.inl rfl, ?_, rfl⟩
    rw [bnd_o (holds0_c hd hw h1 1 rfl), if_neg p0]
  · refine Or.inr ⟨?_, rfl, h3 rfl⟩
    rw [bnd_o (holds0_c hd hw h1 0 rfl), if_pos rfl, bnd_o (holds2_c hd hw h1 0 rfl), if_pos rfl]
  · refine Or.inl ⟨-12, Or.inr rfl, ?_, rfl⟩
    rw [bnd_o (holds0_c hd hw h1 0 rfl), if_pos rfl, bnd_o (holds2_c hd hw h1 1 rfl), if_neg p0]
/-- what a row is, on both sides -/
def isRow (σc σm : St) (d s z : Nat) : Prop := s < 3 ∧ z ≤ 100 ∧ σc.1 (126 + 2 * d) 3 = nI s ∧ σc.1 (126 + 2 * d) 4 = nI z ∧ σm.1 19 d = nI s ∧ σm.1 20 d = nI z ∧ ∀ i, i < 100 → σm.2 21 (100 * d + i) = (σc.1 (126 + 2 * d + 1) i).toInt64 ∧ (s = 0 → (σc.1 (126 + 2 * d + 1) i).toInt8.toInt32 = σc.1 (126 + 2 * d + 1) i)
theorem rowRef {σc σm : St} {d : Nat} (hd : d < 8) (h : SH σc σm d) : (∃ r : Int32, (r = -11 ∨ r = -12) ∧ f_X5_rowRefusal σc (nI d) = some r ∧ f_X6_wrongRow σm (nI d) = some r) ∨ (f_X5_rowRefusal σc (nI d) = some 0 ∧ f_X6_wrongRow σm (nI d) = some 0 ∧ σc.1 (126 + 2 * d) 0 = nI 2 ∧ σm.1 16 d = nI 2 ∧ ∃ s z : Nat, isRow σc σm d s z) := by
  obtain ⟨w, hw, h1, h2, h3, h4⟩ := h
  rw [f_X5_rowRefusal, bnd_o (noShelf_y hd), if_pos rfl, chk_t (inb_nI hd (by omega)), nI_clamp (by omega), chk_t (sh_ok d hd).1, f_X6_wrongRow, bnd_o (inM_y hd (by omega)), if_neg p0, chk_t (inb_nI hd (by omega)), nI_clamp (by omega), h2]
  have hc : w = 0 ∨ w = 1 ∨ w = 2 := by omega
  rcases hc with rfl | rfl | rfl
  · refine Or.inl ⟨-11, Or.inl rfl, ?_, rfl⟩
    rw [bnd_o (holds0_c hd hw h1 1 rfl), if_neg p0]
  · refine Or.inl ⟨-12, Or.inr rfl, ?_, rfl⟩
    rw [bnd_o (holds0_c hd hw h1 0 rfl), if_pos rfl, bnd_o (holds2_c hd hw h1 0 rfl), if_pos rfl]
  · refine Or.inr ⟨?_, rfl, h1, rfl, h4 rfl⟩
    rw [bnd_o (holds0_c hd hw h1 0 rfl), if_pos rfl, bnd_o (holds2_c hd hw h1 1 rfl), if_neg p0]
theorem bytesRef_n {σc σm : St} {x : Int32} (h : ¬ inb x 8 = true) : f_X5_bytesRefusal σc x = some (-1) ∧ f_X6_wrongSort σm x 0 = some (-1) := by
  constructor
  · rw [f_X5_bytesRefusal, bnd_o (rowRef_n (σc := σc) (σm := σm) h).1, if_neg (by decide)]
  · rw [f_X6_wrongSort, bnd_o (rowRef_n (σc := σc) (σm := σm) h).2, if_neg (by decide), bnd_o (rowRef_n (σc := σc) (σm := σm) h).2]
theorem bytesRef {σc σm : St} {d : Nat} (hd : d < 8) (h : SH σc σm d) : (∃ r : Int32, (r = -11 ∨ r = -12) ∧ f_X5_bytesRefusal σc (nI d) = some r ∧ f_X6_wrongSort σm (nI d) 0 = some r) ∨ (f_X5_bytesRefusal σc (nI d) = some 0 ∧ f_X6_wrongSort σm (nI d) 0 = some 0 ∧ ∃ z : Nat, isRow σc σm d 0 z) := by
  rcases rowRef hd h with ⟨r, hr, e1, e2⟩ | ⟨e1, e2, -, -, s, z, hz⟩
  · refine Or.inl ⟨r, hr, ?_, ?_⟩
    · rw [f_X5_bytesRefusal, bnd_o e1, if_neg]
      rcases hr with rfl | rfl <;> decide
    · rw [f_X6_wrongSort, bnd_o e2, if_neg, bnd_o e2]
      rcases hr with rfl | rfl <;> decide
  · have q1 : f_X5_bytesRefusal σc (nI d) = if nI s = 0 then some 0 else some (-12) := by
      rw [f_X5_bytesRefusal, bnd_o e1, if_pos rfl, chk_t (inb_nI hd (by omega)), nI_clamp (by omega), chk_t (sh_ok d hd).1, hz.2.2.1]
    have q2 : f_X6_wrongSort σm (nI d) 0 = if nI s = 0 then some 0 else some (-12) := by
      rw [f_X6_wrongSort, bnd_o e2, if_pos (by decide), chk_t (inb_nI hd (by omega)), nI_clamp (by omega), hz.2.2.2.2.1]
    by_cases e : s = 0
    · subst e
      exact Or.inr ⟨q1, q2, z, hz⟩
    · have hs := hz.1
      rw [if_neg (nI_ne0 (by omega) (by omega))] at q1 q2
      exact Or.inl ⟨-12, Or.inr rfl, q1, q2⟩
/-- one shelf is another -/
theorem RR.sh {σc σc' σm σm' : St} {d : Nat} (h : RR σc σm) (fc : Fr (fun a => a = 126 + 2 * d ∨ a = 126 + 2 * d + 1) σc σc') (fm : Fr (fun a => 16 ≤ a ∧ a ≤ 22) σm σm') (f1 : ∀ a, 16 ≤ a → a ≤ 20 → ∀ b, b ≠ d → σm'.1 a b = σm.1 a b) (f2 : ∀ b, (b < 100 * d ∨ 100 * d + 100 ≤ b) → σm'.2 21 b = σm.2 21 b) (hs : SH σc' σm' d) : RR σc' σm' := by
  obtain ⟨K, K2, h1, h2, ⟨b, hb, h3, h4, h5⟩, h6⟩ := h
  refine ⟨K, K2, h1.fr fc (fun a _ _ q => by omega), h2.fr fm ⟨by omega, by omega, by omega, by omega, by omega⟩, ⟨b, hb, ?_, ?_, fun e => ⟨(h5 e).1.fr fc (fun a _ _ q => by omega), (h5 e).2.fr fm ⟨by omega, by omega, by omega, by omega, by omega⟩⟩⟩, fun d' hd' => ?_⟩
  · rw [(fc 0 (by omega)).1]; exact h3
  · rw [(fm 0 (by omega)).1]; exact h4
  · by_cases e : d' = d
    · subst e; exact hs
    · have k1 := (fc (126 + 2 * d') (by clear h6 hs; omega)).1
      have k2 := (fc (126 + 2 * d' + 1) (by clear h6 hs; omega)).1
      obtain ⟨w, g1, g2, g3, g4, g5⟩ := h6 d' hd'
      refine ⟨w, g1, ?_, ?_, fun q => ?_, fun q => ?_⟩
      · rw [k1]; exact g2
      · rw [f1 16 (by omega) (by omega) d' e]; exact g3
      · obtain ⟨k, f, q⟩ := g4 q
        rw [k1, f1 17 (by omega) (by omega) d' e, f1 18 (by omega) (by omega) d' e]
        exact ⟨k, f, q⟩
      · obtain ⟨s, z, q1, q2, q3, q4, q5, q6, q7⟩ := g5 q
        refine ⟨s, z, q1, q2, ?_, ?_, ?_, ?_, fun i hi => ?_⟩
        · rw [k1]; exact q3
        · rw [k1]; exact q4
        · rw [f1 19 (by omega) (by omega) d' e]; exact q5
        · rw [f1 20 (by omega) (by omega) d' e]; exact q6
        · rw [k2, f2 _ (by omega)]; exact q7 i hi
theorem RR.shelf {σc σm : St} {d : Nat} (h : RR σc σm) (hd : d < 8) : SH σc σm d := by
  obtain ⟨K, K2, h1, h2, h3, h6⟩ := h
  exact h6 d hd
theorem sim_price {σc σm : St} (h : RR σc σm) (x : Int32) : ∃ (r : Int32) (σm' : St), f_X5_price σc x = some r ∧ f_X6_price σm x = some (r, σm') ∧ RR σc σm' := by
  have h5 := h.u5 (v := 0)
  rw [f_X6_price, nw_s, f_X5_price]
  rcases inb_or x (show 8 < 2 ^ 31 by omega) with ⟨d, hd, rfl⟩ | hn
  · rcases dishRef hd (h5.shelf hd) with ⟨r, hr, e1, e2⟩ | ⟨e1, e2, k, f, hk, hf, q1, q2, q3, q4⟩
    · rw [bnd_o e1, bnd_o e2, if_neg (by rcases hr with rfl | rfl <;> decide), if_neg (by rcases hr with rfl | rfl <;> decide), bnd_o e2]
      exact ⟨_, _, rfl, rfl, h5⟩
    · rw [bnd_o e1, bnd_o e2, if_pos rfl, if_pos (by decide), chk_t (inb_nI hd (by omega)), chk_t (inb_nI hd (by omega)), nI_clamp (by omega), chk_t (sh_ok d hd).1, q1, q2, q3, q4, bnd_o (priceC k hk f hf), bnd_o (priceM k hk f hf)]
      exact ⟨_, _, rfl, rfl, h5⟩
  · rw [bnd_o (dishRef_n (σm := σm) hn).1, bnd_o (dishRef_n (σc := σc) hn).2, if_neg (by decide), if_neg (by decide), bnd_o (dishRef_n (σc := σc) hn).2]
    exact ⟨_, _, rfl, rfl, h5⟩
theorem nI_is {a b : Nat} (ha : a < 2 ^ 31) (hb : b < 2 ^ 31) {A : Type} {u v : A} : (if nI a = nI b then u else v) = if a = b then u else v := by
  by_cases e : a = b
  · rw [if_pos e, if_pos (by rw [e])]
  · rw [if_neg e, if_neg (fun q => e ((nI_eq ha hb).mp q))]
theorem sim_toss {σc σm : St} (h : RR σc σm) (x : Int32) : ∃ (r : Int32) (σm' : St), f_X5_toss σc x = some r ∧ f_X6_toss σm x = some (r, σm') ∧ RR σc σm' := by
  have h5 := h.u5 (v := 0)
  rw [f_X6_toss, nw_s, f_X5_toss]
  rcases inb_or x (show 8 < 2 ^ 31 by omega) with ⟨d, hd, rfl⟩ | hn
  · rcases dishRef hd (h5.shelf hd) with ⟨r, hr, e1, e2⟩ | ⟨e1, e2, k, f, hk, hf, q1, q2, q3, q4⟩
    · rw [bnd_o e1, bnd_o e2, if_neg (by rcases hr with rfl | rfl <;> decide), if_neg (by rcases hr with rfl | rfl <;> decide), bnd_o e2]
      exact ⟨_, _, rfl, rfl, h5⟩
    · rw [bnd_o e1, bnd_o e2, if_pos rfl, if_pos (by decide), chk_t (inb_nI hd (by omega)), chk_t (inb_nI hd (by omega)), nI_clamp (by omega), chk_t (sh_ok d hd).1, nw_s, nw_s, nw_s, nw_s, q1, q2, q3, q4]
      rw [show (4 : Int32) = nI 4 from rfl, show (5 : Int32) = nI 5 from rfl, show (6 : Int32) = nI 6 from rfl]
      simp only [nI_is (show k < 2 ^ 31 by omega) (show 4 < 2 ^ 31 by omega), nI_is (show k < 2 ^ 31 by omega) (show 5 < 2 ^ 31 by omega), nI_is (show k < 2 ^ 31 by omega) (show 6 < 2 ^ 31 by omega)]
      by_cases e4 : k = 4
      · rw [if_pos e4, if_pos e4]
        exact ⟨_, _, rfl, rfl, h5⟩
      · rw [if_neg e4, if_neg e4]
        by_cases e0 : nI f = 0
        · rw [if_pos e0, if_pos e0]
          exact ⟨_, _, rfl, rfl, h5⟩
        · rw [if_neg e0, if_neg e0]
          by_cases e6 : k = 6
          · rw [if_pos e6, if_neg (show ¬ k = 5 by omega), if_pos e6, bnd_o (priceC k hk f hf), bnd_o (priceM k hk f hf)]
            exact ⟨_, _, rfl, rfl, h5⟩
          · rw [if_neg e6, if_neg e6]
            by_cases e5 : k = 5
            · rw [if_pos e5, if_pos e5, Int32.add_comm]
              exact ⟨_, _, rfl, rfl, h5⟩
            · rw [if_neg e5, if_neg e5]
              exact ⟨_, _, rfl, rfl, h5⟩
  · rw [bnd_o (dishRef_n (σm := σm) hn).1, bnd_o (dishRef_n (σc := σc) hn).2, if_neg (by decide), if_neg (by decide), bnd_o (dishRef_n (σc := σc) hn).2]
    exact ⟨_, _, rfl, rfl, h5⟩
