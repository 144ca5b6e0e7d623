/-! THE RELATION of the two sides, and what is asked of numbers and shelves -/
def SH (σc σm : St) (d : Nat) : Prop := ∃ w : Nat, w < 3 ∧ σc.1 (126 + 2 * d) 0 = nI w ∧ σm.1 16 d = nI w ∧
  (w = 1 → ∃ k f : Nat, k < 8 ∧ f < 10 ∧ σc.1 (126 + 2 * d) 1 = nI k ∧ σc.1 (126 + 2 * d) 2 = nI f ∧ σm.1 17 d = nI k ∧ σm.1 18 d = nI f) ∧
  (w = 2 → ∃ s z : Nat, s < 3 ∧ z ≤ 100 ∧ σc.1 (126 + 2 * d) 3 = nI s ∧ σc.1 (126 + 2 * d) 4 = nI z ∧ σm.1 19 d = nI s ∧ σm.1 20 d = nI z ∧ ∀ i, i < 100 → σm.2 21 (100 * d + i) = (σc.1 (126 + 2 * d + 1) i).toInt64 ∧ (s = 0 → (σc.1 (126 + 2 * d + 1) i).toInt8.toInt32 = σc.1 (126 + 2 * d + 1) i))
def RR (σc σm : St) : Prop := ∃ K K2 : Kv, KC 1 σc K ∧ KM 0 1 2 3 4 σm K ∧ (∃ b : Nat, b < 2 ∧ σc.1 0 3 = nI b ∧ σm.1 0 7 = nI b ∧ (b = 1 → KC 65 σc K2 ∧ KM 6 5 6 7 8 σm K2)) ∧ ∀ d, d < 8 → SH σc σm d
/-- the class's scratch cells -/
def scr (a : Nat) : Prop := (33 ≤ a ∧ a ≤ 64) ∨ (97 ≤ a ∧ a ≤ 124)
/-- what counts of the reference is kept -/
def MK (σ σ' : St) : Prop := (∀ b, b < 24 → σ'.2 1 b = σ.2 1 b) ∧ (∀ b, b < 6 → σ'.1 2 b = σ.1 2 b) ∧ (∀ b, b < 72 → σ'.1 3 b = σ.1 3 b ∧ σ'.1 4 b = σ.1 4 b) ∧ (∀ a, (5 ≤ a ∧ a ≤ 8) ∨ (16 ≤ a ∧ a ≤ 21) → σ'.1 a = σ.1 a ∧ σ'.2 a = σ.2 a) ∧ σ'.1 0 0 = σ.1 0 0 ∧ σ'.1 0 6 = σ.1 0 6 ∧ σ'.1 0 7 = σ.1 0 7
theorem MK.rf {σ : St} : MK σ σ := ⟨fun _ _ => rfl, fun _ _ => rfl, fun _ _ => ⟨rfl, rfl⟩, fun _ _ => ⟨rfl, rfl⟩, rfl, rfl, rfl⟩
theorem MK.tr {σ σ' σ'' : St} (h : MK σ σ') (g : MK σ' σ'') : MK σ σ'' := by
  obtain ⟨a1, a2, a3, a4, a5, a6, a7⟩ := h
  obtain ⟨b1, b2, b3, b4, b5, b6, b7⟩ := g
  exact ⟨fun b hb => (b1 b hb).trans (a1 b hb), fun b hb => (b2 b hb).trans (a2 b hb), fun b hb => ⟨(b3 b hb).1.trans (a3 b hb).1, (b3 b hb).2.trans (a3 b hb).2⟩, fun a ha => ⟨(b4 a ha).1.trans (a4 a ha).1, (b4 a ha).2.trans (a4 a ha).2⟩, b5.trans a5, b6.trans a6, b7.trans a7⟩
theorem MK.u0 {σ : St} {s : Nat} {v : Int32} (h : s ≠ 0 ∧ s ≠ 6 ∧ s ≠ 7) : MK σ (uI σ 0 s v) :=
  ⟨fun _ _ => rfl, fun b _ => uI_n (Or.inl (by omega)), fun b _ => ⟨uI_n (Or.inl (by omega)), uI_n (Or.inl (by omega))⟩, fun a ha => ⟨funext fun b => uI_n (Or.inl (by omega)), rfl⟩, uI_n (Or.inr (by omega)), uI_n (Or.inr (by omega)), uI_n (Or.inr (by omega))⟩
theorem MK.fr {σ σ' : St} {P : Nat → Prop} (h : Fr P σ σ') (hp : ∀ a, P a → (9 ≤ a ∧ a ≤ 15) ∨ 22 ≤ a) : MK σ σ' := by
  have q : ∀ a, a ≤ 8 ∨ (16 ≤ a ∧ a ≤ 21) → σ'.1 a = σ.1 a ∧ σ'.2 a = σ.2 a := fun a ha => h a (fun z => by have := hp a z; omega)
  exact ⟨fun b _ => congrFun (q 1 (by omega)).2 b, fun b _ => congrFun (q 2 (by omega)).1 b, fun b _ => ⟨congrFun (q 3 (by omega)).1 b, congrFun (q 4 (by omega)).1 b⟩, fun a ha => q a (by omega), congrFun (q 0 (by omega)).1 0, congrFun (q 0 (by omega)).1 6, congrFun (q 0 (by omega)).1 7⟩
theorem KM.mk {σ σ' : St} {K : Kv} (h : KM 0 1 2 3 4 σ K) (f : MK σ σ') : KM 0 1 2 3 4 σ' K := by
  obtain ⟨a1, a2, a3, a4, a5, a6, a7⟩ := f
  have h6 := h.2.1
  refine ⟨a5.trans h.1, h.2.1, fun j hj => ?_⟩
  obtain ⟨p1, p2, p3, p4⟩ := h.2.2 j hj
  refine ⟨fun q hq => (a1 _ (by omega)).trans (p1 q hq), (a2 _ (by omega)).trans p2, p3, fun d hd => ?_⟩
  exact ⟨(a3 _ (by omega)).1.trans (p4 d hd).1, (a3 _ (by omega)).2.trans (p4 d hd).2⟩
theorem KM.mk2 {σ σ' : St} {K : Kv} (h : KM 6 5 6 7 8 σ K) (f : MK σ σ') : KM 6 5 6 7 8 σ' K := by
  obtain ⟨a1, a2, a3, a4, a5, a6, a7⟩ := f
  refine ⟨a6.trans h.1, h.2.1, fun j hj => ?_⟩
  obtain ⟨p1, p2, p3, p4⟩ := h.2.2 j hj
  refine ⟨fun q hq => ?_, ?_, p3, fun d hd => ⟨?_, ?_⟩⟩
  · rw [(a4 5 (by omega)).2]; exact p1 q hq
  · rw [(a4 6 (by omega)).1]; exact p2
  · rw [(a4 7 (by omega)).1]; exact (p4 d hd).1
  · rw [(a4 8 (by omega)).1]; exact (p4 d hd).2
theorem SH.mk {σc σc' σm σm' : St} {d : Nat} (h : SH σc σm d) (f1 : σc'.1 (126 + 2 * d) = σc.1 (126 + 2 * d)) (f2 : σc'.1 (126 + 2 * d + 1) = σc.1 (126 + 2 * d + 1)) (g : ∀ a, 16 ≤ a ∧ a ≤ 21 → σm'.1 a = σm.1 a ∧ σm'.2 a = σm.2 a) : SH σc' σm' d := by
  obtain ⟨w, h1, h2, h3, h4, h5⟩ := h
  refine ⟨w, h1, ?_, ?_, fun e => ?_, fun e => ?_⟩
  · rw [f1]; exact h2
  · rw [(g 16 (by omega)).1]; exact h3
  · obtain ⟨k, f, q⟩ := h4 e
    rw [f1, (g 17 (by omega)).1, (g 18 (by omega)).1]
    exact ⟨k, f, q⟩
  · obtain ⟨s, z, q⟩ := h5 e
    rw [f1, f2, (g 19 (by omega)).1, (g 20 (by omega)).1, (g 21 (by omega)).2]
    exact ⟨s, z, q⟩
theorem RR.keep {σc σc' σm σm' : St} (h : RR σc σm) (f : Fr scr σc σc') (g : MK σm σm') : RR σc' σm' := by
  obtain ⟨K, K2, h1, h2, ⟨b, hb, h3, h4, h5⟩, h6⟩ := h
  refine ⟨K, K2, h1.fr f (fun a _ _ q => by unfold scr at q; omega), h2.mk g, ⟨b, hb, ?_, ?_, fun e => ⟨(h5 e).1.fr f (fun a _ _ q => by unfold scr at q; omega), (h5 e).2.mk2 g⟩⟩, fun d hd => ?_⟩
  · rw [(f 0 (fun q => by unfold scr at q; omega)).1]; exact h3
  · exact g.2.2.2.2.2.2.trans h4
  · exact (h6 d hd).mk (f _ (fun q => by unfold scr at q; omega)).1 (f _ (fun q => by unfold scr at q; omega)).1 (fun a ha => g.2.2.2.1 a (Or.inr ha))
theorem RR.u5 {σc σm : St} {v : Int32} (h : RR σc σm) : RR σc (uI σm 0 5 v) := h.keep Fr.rf (MK.u0 (by omega))
/-! numbers in range -/
theorem inM_i {a b c : Int64} : f_X6_in a b c = some (if b.toInt ≤ a.toInt ∧ a.toInt ≤ c.toInt then 1 else 0) := by
  rw [f_X6_in]
  by_cases h1 : lg_cmp a b < 0
  · rw [if_pos h1, if_neg]
    rw [lg_cmp_lt, Int64.lt_iff_toInt_lt] at h1
    omega
  · rw [if_neg h1]
    rw [lg_cmp_lt, Int64.lt_iff_toInt_lt] at h1
    by_cases h2 : 0 < lg_cmp a c
    · rw [if_pos h2, if_neg]
      rw [lg_cmp_gt, Int64.lt_iff_toInt_lt] at h2
      omega
    · rw [if_neg h2, if_pos]
      rw [lg_cmp_gt, Int64.lt_iff_toInt_lt] at h2
      omega
theorem inM {x : Int32} {b c : Int64} {n : Nat} (hb : b.toInt = 0) (hc : c.toInt = (n : Int) - 1) : f_X6_in x.toInt64 b c = some (if inb x n = true then 1 else 0) := by
  rw [inM_i, hb, hc, Int32.toInt_toInt64]
  by_cases h : inb x n = true
  · rw [if_pos h, if_pos]
    simp [inb] at h
    omega
  · rw [if_neg h, if_neg]
    simp [inb] at h
    omega
theorem inM1 {x : Int32} {b c : Int64} {n : Nat} (hb : b.toInt = 1) (hc : c.toInt = (n : Int) - 1) : f_X6_in x.toInt64 b c = some (if inb x n = true ∧ ¬ x = 0 then 1 else 0) := by
  have hz : x = 0 ↔ x.toInt = 0 := by
    rw [← Int32.toInt_inj]
    rfl
  rw [inM_i, hb, hc, Int32.toInt_toInt64]
  by_cases h : inb x n = true
  · have h9 := h
    simp [inb] at h
    by_cases h2 : x.toInt = 0
    · rw [if_neg (by omega), if_neg (fun q => q.2 (hz.mpr h2))]
    · rw [if_pos (by omega), if_pos ⟨h9, fun q => h2 (hz.mp q)⟩]
  · rw [if_neg (c := inb x n = true ∧ ¬ x = 0) (fun q => h q.1), if_neg]
    simp [inb] at h
    omega
theorem inb_or (x : Int32) {n : Nat} (hn : n < 2 ^ 31) : (∃ j : Nat, j < n ∧ x = nI j) ∨ ¬ inb x n = true := by
  by_cases h : inb x n = true
  · obtain ⟨j, hj, e⟩ := inb_not h
    exact Or.inl ⟨j, hj, e hn⟩
  · exact Or.inr h
/-- x below 0, x of a bound or more: not in it -/
theorem noC {x m : Int32} {n : Nat} {A : Type} {u v : A} (hm : m = nI n) (hn : n < 2 ^ 31) : (if x < 0 then u else if x < m then v else u) = if inb x n = true then v else u := by
  subst hm
  rcases inb_or x hn with ⟨j, hj, rfl⟩ | h
  · rw [if_neg (nI_pos (by omega)), if_pos (nI_lt hj hn), if_pos (inb_nI hj (by omega))]
  · rw [if_neg h]
    by_cases h1 : x < 0
    · rw [if_pos h1]
    · rw [if_neg h1, if_neg]
      intro q
      obtain ⟨j, hj, rfl⟩ := nI_of h1
      exact h (inb_nI ((nI_ltI hj hn).mp q) hj)
theorem noC2 {x m : Int32} {n : Nat} {A : Type} {u v : A} (hm : m = nI n) (hn : n + 1 < 2 ^ 31) : (if x < 0 then u else if x ≤ m then v else u) = if inb x (n + 1) = true then v else u := by
  subst hm
  rcases inb_or x hn with ⟨j, hj, rfl⟩ | h
  · rw [if_neg (nI_pos (by omega)), if_pos (nI_le (by omega) (by omega)), if_pos (inb_nI hj (by omega))]
  · rw [if_neg h]
    by_cases h1 : x < 0
    · rw [if_pos h1]
    · rw [if_neg h1, if_neg]
      intro q
      obtain ⟨j, hj, rfl⟩ := nI_of h1
      have := (nI_leI hj (by omega)).mp q
      exact h (inb_nI (by omega) hj)
theorem noTaste (x : Int32) : f_X5_isNoTaste x = if inb x 4 = true then some 0 else some 1 := by rw [f_X5_isNoTaste]; exact noC rfl (by omega)
theorem noKind (x : Int32) : f_X5_isNoKind x = if inb x 8 = true then some 0 else some 1 := by rw [f_X5_isNoKind]; exact noC rfl (by omega)
theorem noFigure (x : Int32) : f_X5_isNoFigure x = if inb x 10 = true then some 0 else some 1 := by rw [f_X5_isNoFigure]; exact noC rfl (by omega)
theorem noShelf (x : Int32) : f_X5_isNoShelf x = if inb x 8 = true then some 0 else some 1 := by rw [f_X5_isNoShelf]; exact noC rfl (by omega)
theorem noHalf (x : Int32) : f_X5_isNoHalf x = if inb x 2 = true then some 0 else some 1 := by rw [f_X5_isNoHalf]; exact noC2 rfl (by omega)
theorem noPercent (x : Int32) : f_X5_isNoPercent x = if inb x 101 = true then some 0 else some 1 := by rw [f_X5_isNoPercent]; exact noC2 rfl (by omega)
theorem noBans (x : Int32) : f_X5_isNoBans x = if inb x 16 = true then some 0 else some 1 := by rw [f_X5_isNoBans]; exact noC2 rfl (by omega)
theorem noHundredth (x : Int32) : f_X5_isNoHundredth x = if inb x 101 = true ∧ ¬ x = 0 then some 0 else some 1 := by
  rw [f_X5_isNoHundredth]
  rcases inb_or x (show 101 < 2 ^ 31 by omega) with ⟨j, hj, rfl⟩ | h
  · by_cases h0 : j = 0
    · subst h0
      rw [if_pos (by decide), if_neg (fun q => q.2 rfl)]
    · rw [if_neg (show ¬ nI j < 1 from nI_nlt (b := 1) (by omega) (by omega)), if_pos (show nI j ≤ 100 from nI_le (b := 100) (by omega) (by omega)), if_pos ⟨inb_nI hj (by omega), nI_ne0 (by omega) (by omega)⟩]
  · rw [if_neg (c := inb x 101 = true ∧ ¬ x = 0) (fun q => h q.1)]
    by_cases h1 : x < 1
    · rw [if_pos h1]
    · rw [if_neg h1, if_neg]
      intro q
      have h0 : ¬ x < 0 := by
        intro z
        rw [Int32.lt_iff_toInt_lt] at z h1
        have e0 : (0 : Int32).toInt = 0 := rfl
        have e1 : (1 : Int32).toInt = 1 := rfl
        omega
      obtain ⟨j, hj, rfl⟩ := nI_of h0
      have := (nI_leI (b := 100) hj (by omega)).mp q
      exact h (inb_nI (by omega) hj)
theorem isPotM {σ : St} {f t m k g : Nat} {K : Kv} (h : KM 0 t m k g σ K) (x : Int32) : f_X6_isPot σ x = some (if inb x K.1 = true then 1 else 0) := by
  have h6 := h.2.1
  rw [f_X6_isPot, h.1]
  have e : (nI K.1 - 1).toInt64.toInt = (K.1 : Int) - 1 := by
    rw [Int32.toInt_toInt64]
    exact pk_sub_toInt (b := 1) (by omega) (by omega)
  rw [bnd_o (inM (b := 0) rfl e)]
  by_cases q : inb x K.1 = true
  · rw [if_pos q]; rfl
  · rw [if_neg q]; rfl
