/-! TEXTS: what both sides read -/
theorem byte_all : ∀ n, n < 256 → (((Int8.ofNat n).toInt32) &&& 255 = nI n) ∧ (n < 128 → (Int8.ofNat n).toInt32 = nI n) ∧ (128 ≤ n → (Int8.ofNat n).toInt32 < 0) := by decide +kernel
theorem byte_e {x : Int32} (h : x.toInt8.toInt32 = x) : ∃ n, n < 256 ∧ x &&& 255 = nI n ∧ (n < 128 → x = nI n) ∧ (128 ≤ n → x < 0) := by
  refine ⟨x.toInt8.toBitVec.toNat, x.toInt8.toBitVec.isLt, ?_⟩
  have e : Int8.ofNat x.toInt8.toBitVec.toNat = x.toInt8 := by
    apply Int8.toBitVec_inj.mp
    rw [Int8.toBitVec_ofNat', BitVec.ofNat_toNat, BitVec.setWidth_eq]
  have := byte_all x.toInt8.toBitVec.toNat x.toInt8.toBitVec.isLt
  rw [e, h] at this
  exact this
/-- the characters of a text of z elements; 300 where there is none -/
def isTx (el : Nat → Int32) (z : Nat) (ch : Nat → Nat) : Prop := ∀ q, (q < z → ch q < 256 ∧ el q &&& 255 = nI (ch q) ∧ (ch q < 128 → el q = nI (ch q)) ∧ (128 ≤ ch q → el q < 0)) ∧ (z ≤ q → ch q = 300)
theorem isTx_of {el : Nat → Int32} {z : Nat} (h : ∀ q, q < z → (el q).toInt8.toInt32 = el q) : ∃ ch, isTx el z ch := by
  refine ⟨fun q => if q < z then (el q).toInt8.toBitVec.toNat else 300, fun q => ⟨fun hq => ?_, fun hq => if_neg (by omega)⟩⟩
  have hb := byte_e (h q hq)
  obtain ⟨n, h1, h2, h3, h4⟩ := hb
  have hn : (el q).toInt8.toBitVec.toNat = n := by
    have q1 := byte_all _ (el q).toInt8.toBitVec.isLt
    have e : Int8.ofNat (el q).toInt8.toBitVec.toNat = (el q).toInt8 := by
      apply Int8.toBitVec_inj.mp
      rw [Int8.toBitVec_ofNat', BitVec.ofNat_toNat, BitVec.setWidth_eq]
    rw [e, h q hq, h2] at q1
    have lt := (el q).toInt8.toBitVec.isLt
    exact ((nI_eq (by omega) (by omega)).mp q1.1).symm
  show (if q < z then _ else _) < 256 ∧ _ = nI (if q < z then _ else _) ∧ ((if q < z then _ else _) < 128 → _ = nI (if q < z then _ else _)) ∧ (128 ≤ (if q < z then _ else _) → _)
  rw [if_pos hq, hn]
  exact ⟨h1, h2, h3, h4⟩
theorem nI_neg_ne {x : Int32} (h : x < 0) {c : Nat} (hc : c < 2 ^ 31) : x ≠ nI c := fun e => nI_pos hc (e ▸ h)
/-- a letter, as the class reads it -/
theorem letC {σ : St} {d z q : Nat} {el : Nat → Int32} {ch : Nat → Nat} (h : rowAt σ d z el) (ht : isTx el z ch) (hd : d < 8) (hq : q < 2 ^ 31) : ∃ x, f_X4_elementOr σ (126 + 2 * d) (nI q) (-4) = some x ∧ ∀ c, c < 128 → (x = nI c ↔ ch q = c) := by
  rcases Nat.lt_or_ge q z with hz | hz
  · obtain ⟨a1, a2, a3, a4⟩ := (ht q).1 hz
    refine ⟨el q, elOr h hd hz, fun c hc => ?_⟩
    rcases Nat.lt_or_ge (ch q) 128 with e | e
    · rw [a3 e]
      exact nI_eq (by omega) (by omega)
    · exact ⟨fun g => absurd g (nI_neg_ne (a4 e) (by omega)), fun g => by omega⟩
  · have hn : ¬ inb (nI q) z = true := by
      intro w
      obtain ⟨j, hj, e⟩ := inb_not w
      have h1 := h.1
      have := (nI_eq hq (by omega)).mp (e (by omega))
      omega
    refine ⟨-4, elOr_n h hd hn, fun c hc => ⟨fun g => ?_, fun g => ?_⟩⟩
    · exact absurd g (nI_neg_ne (by decide) (by omega))
    · have := (ht q).2 hz
      omega
theorem digC1 {σ : St} {d z q : Nat} {el : Nat → Int32} {ch : Nat → Nat} (h : rowAt σ d z el) (ht : isTx el z ch) (hd : d < 8) (hq : q < 2 ^ 31) : ∃ x, f_X4_digitAt σ (126 + 2 * d) (nI q) = some x ∧ f_X5_isNoFigure x = some (if 48 ≤ ch q ∧ ch q ≤ 57 then 0 else 1) ∧ (48 ≤ ch q ∧ ch q ≤ 57 → x = nI (ch q - 48)) := by
  rcases Nat.lt_or_ge q z with hz | hz
  · obtain ⟨a1, a2, a3, a4⟩ := (ht q).1 hz
    have e0 : f_X4_digitAt σ (126 + 2 * d) (nI q) = some (el q - 48) := by rw [f_X4_digitAt, chk_t (sh_ok d hd).1, bnd_o (elOr h hd hz)]
    rcases Nat.lt_or_ge (ch q) 128 with e | e
    · have e9 := a3 e
      by_cases hr : 48 ≤ ch q ∧ ch q ≤ 57
      · have ex : el q - 48 = nI (ch q - 48) := by rw [e9]; exact pk_sub (b := 48) hr.1
        refine ⟨el q - 48, e0, ?_, fun _ => ex⟩
        rw [if_pos hr, ex]
        exact noFigure_y (by omega)
      · refine ⟨el q - 48, e0, ?_, fun g => absurd g hr⟩
        rw [if_neg hr]
        refine noFigure_n (fun w => ?_)
        obtain ⟨j, hj, ej⟩ := inb_not w
        have ej := ej (by omega)
        have e5 : (el q - 48).toInt = (ch q : Int) - 48 := by rw [e9]; exact pk_sub_toInt (b := 48) (by omega) (by omega)
        rw [ej, nI_toInt (by omega)] at e5
        omega
    · have hneg := a4 e
      refine ⟨el q - 48, e0, ?_, fun g => by omega⟩
      rw [if_neg (by omega)]
      refine noFigure_n (fun w => ?_)
      obtain ⟨j, hj, ej⟩ := inb_not w
      have ej := ej (by omega)
      have e5 : el q = nI (j + 48) := by
        have : el q - 48 + 48 = nI j + 48 := by rw [ej]
        rw [Int32.sub_add_cancel] at this
        rw [this]
        exact nI_add j 48
      exact nI_neg_ne hneg (by omega) e5
  · have hn : ¬ inb (nI q) z = true := by
      intro w
      obtain ⟨j, hj, e⟩ := inb_not w
      have h1 := h.1
      have := (nI_eq hq (by omega)).mp (e (by omega))
      omega
    have hc := (ht q).2 hz
    refine ⟨47 - 48, ?_, ?_, fun g => by omega⟩
    · rw [f_X4_digitAt, chk_t (sh_ok d hd).1, bnd_o (elOr_n h hd hn)]
    · rw [if_neg (by omega)]
      exact noFigure_n (by decide)
def dg (c : Nat) : Option Nat := if c = 99 then some 2 else if c = 100 then some 3 else if c = 110 then some 1 else if c = 112 then some 0 else none
theorem dg_c {c : Nat} : (c = 99 ∧ dg c = some 2) ∨ (c = 100 ∧ dg c = some 3) ∨ (c = 110 ∧ dg c = some 1) ∨ (c = 112 ∧ dg c = some 0) ∨ (c ≠ 99 ∧ c ≠ 100 ∧ c ≠ 110 ∧ c ≠ 112 ∧ dg c = none) := by
  unfold dg
  by_cases h1 : c = 99
  · exact Or.inl ⟨h1, if_pos h1⟩
  · by_cases h2 : c = 100
    · exact Or.inr (Or.inl ⟨h2, by rw [if_neg h1, if_pos h2]⟩)
    · by_cases h3 : c = 110
      · exact Or.inr (Or.inr (Or.inl ⟨h3, by rw [if_neg h1, if_neg h2, if_pos h3]⟩))
      · by_cases h4 : c = 112
        · exact Or.inr (Or.inr (Or.inr (Or.inl ⟨h4, by rw [if_neg h1, if_neg h2, if_neg h3, if_pos h4]⟩)))
        · exact Or.inr (Or.inr (Or.inr (Or.inr ⟨h1, h2, h3, h4, by rw [if_neg h1, if_neg h2, if_neg h3, if_neg h4]⟩)))
/-- the letter's digits, as the class counts them -/
theorem behC {x : Int32} {c : Nat} (h : ∀ k, k < 128 → (x = nI k ↔ c = k)) : f_X1_digitsBehind x = some (match dg c with | some D => nI D | none => -4) := by
  have h9 := h 99 (by omega)
  have h10 := h 100 (by omega)
  have h11 := h 110 (by omega)
  have h12 := h 112 (by omega)
  rw [f_X1_digitsBehind]
  rcases dg_c (c := c) with ⟨e, g⟩ | ⟨e, g⟩ | ⟨e, g⟩ | ⟨e, g⟩ | ⟨e1, e2, e3, e4, g⟩
  · rw [g, if_pos (show x = 99 from h9.mpr e)]; rfl
  · rw [g, if_neg (show ¬ x = 99 from fun w => by have := h9.mp w; omega), if_pos (show x = 100 from h10.mpr e)]; rfl
  · rw [g, if_neg (show ¬ x = 99 from fun w => by have := h9.mp w; omega), if_neg (show ¬ x = 100 from fun w => by have := h10.mp w; omega), if_pos (show x = 110 from h11.mpr e)]; rfl
  · rw [g, if_neg (show ¬ x = 99 from fun w => by have := h9.mp w; omega), if_neg (show ¬ x = 100 from fun w => by have := h10.mp w; omega), if_neg (show ¬ x = 110 from fun w => by have := h11.mp w; omega), if_pos (show x = 112 from h12.mpr e)]; rfl
  · rw [g, if_neg (show ¬ x = 99 from fun w => e1 (h9.mp w)), if_neg (show ¬ x = 100 from fun w => e2 (h10.mp w)), if_neg (show ¬ x = 110 from fun w => e3 (h11.mp w)), if_neg (show ¬ x = 112 from fun w => e4 (h12.mp w))]
/-- the first place that is no digit -/
def fb (ch : Nat → Nat) : Nat → Nat → Option Nat
  | _, 0 => none
  | q, r + 1 => if 48 ≤ ch q ∧ ch q ≤ 57 then fb ch (q + 1) r else some q
theorem fb_ge {ch : Nat → Nat} : ∀ (r q x : Nat), fb ch q r = some x → q ≤ x ∧ x < q + r := by
  intro r
  induction r with
  | zero => intro q x h; exact absurd h (by simp [fb])
  | succ r ih =>
    intro q x h
    rw [fb] at h
    by_cases e : 48 ≤ ch q ∧ ch q ≤ 57
    · rw [if_pos e] at h
      have := ih (q + 1) x h
      omega
    · rw [if_neg e] at h
      cases h
      omega
theorem fb_dig {ch : Nat → Nat} : ∀ (r q : Nat), fb ch q r = none → ∀ t, t < r → 48 ≤ ch (q + t) ∧ ch (q + t) ≤ 57 := by
  intro r
  induction r with
  | zero => intro q _ t ht; omega
  | succ r ih =>
    intro q h t ht
    rw [fb] at h
    by_cases e : 48 ≤ ch q ∧ ch q ≤ 57
    · rw [if_pos e] at h
      cases t with
      | zero => exact e
      | succ t =>
        have := ih (q + 1) h t (by omega)
        rw [show q + 1 + t = q + (t + 1) by omega] at this
        exact this
    · rw [if_neg e] at h
      cases h
/-- a whole statement at q: how many digits; else where it breaks -/
def st1 (ch : Nat → Nat) (q : Nat) : Option Nat := (dg (ch q)).bind (fun D => if fb ch (q + 1) D = none ∧ ch (q + 1 + D) = 59 then some D else none)
def bp (ch : Nat → Nat) (q : Nat) : Nat := match dg (ch q) with
  | none => q
  | some D => (match fb ch (q + 1) D with | some x => x | none => q + 1 + D)
theorem bk24 {σ : St} {d z D : Nat} {el : Nat → Int32} {ch : Nat → Nat} {k40 : Int32 → Option Int32} {k51 : Nat → Int32 → Option Int32} (h : rowAt σ d z el) (ht : isTx el z ch) (hd : d < 8) (hD : D < 4) : ∀ (r m q i : Nat), r < m → i + r = D → q + r < 1000 → f_X1_brokenAt_24 σ k40 k51 m (126 + 2 * d) (nI q) (nI D) (nI i) = (match fb ch q r with | some x => k40 (nI x) | none => k51 (126 + 2 * d) (nI (q + r))) := by
  intro r
  induction r with
  | zero =>
    intro m q i h1 h2 h3
    obtain ⟨m, rfl⟩ : ∃ x, m = x + 1 := ⟨m - 1, by omega⟩
    rw [f_X1_brokenAt_24, if_pos (nI_le (by omega) (by omega))]
    rfl
  | succ r ih =>
    intro m q i h1 h2 h3
    obtain ⟨m, rfl⟩ : ∃ x, m = x + 1 := ⟨m - 1, by omega⟩
    obtain ⟨x, e1, e2, e3⟩ := digC1 (q := q) h ht hd (by omega)
    rw [f_X1_brokenAt_24, if_neg (nI_ge (by omega) (by omega)), chk_t (sh_ok d hd).1, bnd_o e1, bnd_o e2, fb]
    by_cases hr : 48 ≤ ch q ∧ ch q ≤ 57
    · rw [if_pos hr, if_pos hr, if_pos rfl, nw_s, nw_s, nI_1, nI_1, ih m (q + 1) (i + 1) (by omega) (by omega) (by omega), show q + 1 + r = q + (r + 1) by omega]
    · rw [if_neg hr, if_neg hr, if_neg p0]
theorem st1_0 {ch : Nat → Nat} {q : Nat} (h : dg (ch q) = none) : st1 ch q = none ∧ bp ch q = q := by
  refine ⟨?_, ?_⟩
  · unfold st1; rw [h]; rfl
  · unfold bp; rw [h]
theorem st1_1 {ch : Nat → Nat} {q D x : Nat} (h : dg (ch q) = some D) (g : fb ch (q + 1) D = some x) : st1 ch q = none ∧ bp ch q = x := by
  refine ⟨?_, ?_⟩
  · unfold st1; rw [h]
    exact if_neg (fun w => by rw [g] at w; exact nomatch w.1)
  · unfold bp; rw [h]
    show (match fb ch (q + 1) D with | some x => x | none => q + 1 + D) = x
    rw [g]
theorem st1_2 {ch : Nat → Nat} {q D : Nat} (h : dg (ch q) = some D) (g : fb ch (q + 1) D = none) (e : ch (q + 1 + D) ≠ 59) : st1 ch q = none ∧ bp ch q = q + 1 + D := by
  refine ⟨?_, ?_⟩
  · unfold st1; rw [h]
    exact if_neg (fun w => e w.2)
  · unfold bp; rw [h]
    show (match fb ch (q + 1) D with | some x => x | none => q + 1 + D) = _
    rw [g]
theorem st1_3 {ch : Nat → Nat} {q D : Nat} (h : dg (ch q) = some D) (g : fb ch (q + 1) D = none) (e : ch (q + 1 + D) = 59) : st1 ch q = some D := by
  unfold st1; rw [h]
  exact if_pos ⟨g, e⟩
theorem dg_lt {c D : Nat} (h : dg c = some D) : D < 4 := by
  rcases dg_c (c := c) with ⟨e, g⟩ | ⟨e, g⟩ | ⟨e, g⟩ | ⟨e, g⟩ | ⟨e3, e4, e5, e6, g⟩ <;> rw [g] at h <;> cases h <;> omega
theorem bkA {σ : St} {d z q m : Nat} {el : Nat → Int32} {ch : Nat → Nat} (h : rowAt σ d z el) (ht : isTx el z ch) (hd : d < 8) (hq : q < 900) : (st1 ch q = none ∧ f_X1_brokenAt_2 σ (fun (w20_0 : Int32) => some w20_0) (fun (w21_0 : Int32) => some w21_0) (fun (w22_0 : Int32) => some w22_0) (some ((-4))) (m + 1) (126 + 2 * d) (nI q) = some (nI (bp ch q))) ∨ (∃ D, st1 ch q = some D ∧ D < 4 ∧ f_X1_brokenAt_2 σ (fun (w20_0 : Int32) => some w20_0) (fun (w21_0 : Int32) => some w21_0) (fun (w22_0 : Int32) => some w22_0) (some ((-4))) (m + 1) (126 + 2 * d) (nI q) = if q + 2 + D < z then f_X1_brokenAt_2 σ (fun (w20_0 : Int32) => some w20_0) (fun (w21_0 : Int32) => some w21_0) (fun (w22_0 : Int32) => some w22_0) (some ((-4))) m (126 + 2 * d) (nI (q + 2 + D)) else some (-4)) := by
  have h1 := h.1
  obtain ⟨x, e1, e2⟩ := letC (q := q) h ht hd (by omega)
  rw [f_X1_brokenAt_2, chk_t (sh_ok d hd).1, bnd_o e1, bnd_o (behC e2)]
  cases hdg : dg (ch q) with
  | none =>
    refine Or.inl ⟨(st1_0 hdg).1, ?_⟩
    rw [(st1_0 hdg).2]
    show (if (0 : Int32) ≤ -4 then _ else _) = _
    rw [if_neg (by decide)]
  | some D =>
    have hD := dg_lt hdg
    show (_ ∧ (if (0 : Int32) ≤ nI D then _ else _) = _) ∨ (∃ D', _ ∧ _ ∧ (if (0 : Int32) ≤ nI D then _ else _) = _)
    rw [if_pos (nI_pos' (by omega)), nw_s, nI_1]
    have b := bk24 (D := D) (k40 := fun (w21_0 : Int32) => some w21_0) (k51 := fun (w13_0 : Nat) (w14_1 : Int32) => chk (kOK SC w13_0 4) <| bnd (f_X4_elementOr σ w13_0 w14_1 ((-4))) fun r15 => (if r15 = 59 then nw (w14_1 + 1 : Int32) fun v118 => (if v118 < (σ.1 w13_0 4) then f_X1_brokenAt_2 σ (fun (w20_0 : Int32) => some w20_0) (fun (w21_0 : Int32) => some w21_0) (fun (w22_0 : Int32) => some w22_0) (some ((-4))) m w13_0 v118 else (some ((-4)))) else some w14_1)) h ht hd hD D fu (q + 1) 0 (by rw [fu_e]; omega) (by omega) (by omega)
    rw [show nI 0 = 0 from rfl] at b
    rw [b]
    cases hf : fb ch (q + 1) D with
    | some x =>
      refine Or.inl ⟨(st1_1 hdg hf).1, ?_⟩
      rw [(st1_1 hdg hf).2]
    | none =>
      obtain ⟨y, e3, e4⟩ := letC (q := q + 1 + D) h ht hd (by omega)
      dsimp only
      rw [chk_t (sh_ok d hd).1, bnd_o e3]
      by_cases e59 : ch (q + 1 + D) = 59
      · rw [if_pos (show y = 59 from (e4 59 (by omega)).mpr e59), nw_s, nI_1, h.2.1, show q + 1 + D + 1 = q + 2 + D by omega]
        refine Or.inr ⟨D, st1_3 hdg hf e59, hD, ?_⟩
        by_cases hz : q + 2 + D < z
        · rw [if_pos (nI_lt hz (by omega)), if_pos hz]
        · rw [if_neg (nI_nlt (by omega) (by omega)), if_neg hz]
      · refine Or.inl ⟨(st1_2 hdg hf e59).1, ?_⟩
        rw [(st1_2 hdg hf e59).2, if_neg (show ¬ y = 59 from fun w => e59 ((e4 59 (by omega)).mp w))]
/-! .. and the reference -/
def FR (σ σ' : St) : Prop := Fr (fun a => a = 0 ∨ a = 13 ∨ a = 14 ∨ a = 15) σ σ' ∧ ∀ s, s ≠ 19 → s ≠ 20 → s ≠ 21 → σ'.1 0 s = σ.1 0 s
theorem FR.rf {σ : St} : FR σ σ := ⟨Fr.rf, fun _ _ _ _ => rfl⟩
theorem FR.tr {σ σ' σ'' : St} (h : FR σ σ') (g : FR σ' σ'') : FR σ σ'' := ⟨Fr.tr h.1 g.1, fun s a b c => (g.2 s a b c).trans (h.2 s a b c)⟩
theorem FR.u0 {σ : St} {s : Nat} {v : Int32} (h : s = 19 ∨ s = 20 ∨ s = 21) : FR σ (uI σ 0 s v) := ⟨Fr.uI (Or.inl rfl), fun t a b c => uI_n (Or.inr (by omega))⟩
theorem FR.u13 {σ : St} {i s : Nat} {v : Int32} (h : i = 13 ∨ i = 14 ∨ i = 15) : FR σ (uI σ i s v) := ⟨Fr.uI (by omega), fun t a b c => uI_n (Or.inl (by omega))⟩
/-- the text that is being read, the place q -/
def RS (σ : St) (d z : Nat) (el : Nat → Int32) (q : Nat) : Prop := d < 8 ∧ rowMt σ d z el ∧ σ.1 0 17 = nI (100 * d) ∧ σ.1 0 18 = nI z ∧ σ.1 0 19 = nI q
theorem RS.fr {σ σ' : St} {d z q q' : Nat} {el : Nat → Int32} (h : RS σ d z el q) (f : FR σ σ') (hq : σ'.1 0 19 = nI q') : RS σ' d z el q' := by
  obtain ⟨h0, h1, h2, h3, h4⟩ := h
  exact ⟨h0, h1.fr f.1 (by omega) (by omega), (f.2 17 (by omega) (by omega) (by omega)).trans h2, (f.2 18 (by omega) (by omega) (by omega)).trans h3, hq⟩
theorem m2 : kOK SM 0 6 = true := by decide +kernel
theorem hereM {σ : St} {d z q : Nat} {el : Nat → Int32} {ch : Nat → Nat} (h : RS σ d z el q) (ht : isTx el z ch) (hq : q < 1000) : ∃ x, f_X6_here σ = some x ∧ (∀ c, c < 128 → (x = nI c ↔ ch q = c)) ∧ f_X6_in x.toInt64 48 57 = some (if 48 ≤ ch q ∧ ch q ≤ 57 then 1 else 0) := by
  obtain ⟨h0, ⟨h1, h2, h3⟩, h4, h5, h6⟩ := h
  rw [f_X6_here, h4, h5, h6, nI_add]
  rcases Nat.lt_or_ge q z with hz | hz
  · obtain ⟨a1, a2, a3, a4⟩ := (ht q).1 hz
    refine ⟨nI (ch q), ?_, fun c hc => nI_eq (by omega) (by omega), ?_⟩
    · rw [if_pos (nI_lt hz (by omega)), chk_t (inb_nI (by omega) (by omega)), nI_clamp (by omega), h3 q hz, Int32.toInt32_toInt64, a2]
    · rw [inM_i, Int32.toInt_toInt64, nI_toInt (by omega)]
      have e1 : (48 : Int64).toInt = 48 := by decide
      have e2 : (57 : Int64).toInt = 57 := by decide
      rw [e1, e2]
      by_cases hr : 48 ≤ ch q ∧ ch q ≤ 57
      · rw [if_pos hr, if_pos (by omega)]
      · rw [if_neg hr, if_neg (by omega)]
  · have hc := (ht q).2 hz
    refine ⟨-1, if_neg (nI_nlt hz (by omega)), fun c hc2 => ⟨fun g => absurd g (nI_neg_ne (by decide) (by omega)), fun g => by omega⟩, ?_⟩
    rw [if_neg (by omega)]
    decide
theorem rdD {σ : St} {d z q : Nat} {el : Nat → Int32} {ch : Nat → Nat} (h : RS σ d z el q) (ht : isTx el z ch) (hq : q < 1000) (h0 : σ.1 0 20 = 0) : (48 ≤ ch q ∧ ch q ≤ 57 ∧ f_X6_readDigit σ = some (nI (ch q - 48), uI (uI σ 0 20 0) 0 19 (nI (q + 1)))) ∨ (¬ (48 ≤ ch q ∧ ch q ≤ 57) ∧ f_X6_readDigit σ = some (0, uI σ 0 20 1)) := by
  obtain ⟨x, e1, e2, e3⟩ := hereM h ht hq
  obtain ⟨g0, ⟨h1, h2, h3⟩, h4, h5, h6⟩ := h
  rw [f_X6_readDigit, if_pos h0, bnd_o e1, bnd_o e3]
  by_cases hr : 48 ≤ ch q ∧ ch q ≤ 57
  · have hz : q < z := by
      rcases Nat.lt_or_ge q z with w | w
      · exact w
      · have := (ht q).2 w; omega
    obtain ⟨a1, a2, a3, a4⟩ := (ht q).1 hz
    refine Or.inl ⟨hr.1, hr.2, ?_⟩
    have s19 : (uI σ 0 20 0).1 0 19 = nI q := by rw [uI_n (Or.inr (by omega))]; exact h6
    have s17 : (uI σ 0 20 0).1 0 17 = nI (100 * d) := by rw [uI_n (Or.inr (by omega))]; exact h4
    have t17 : (uI (uI σ 0 20 0) 0 19 (nI (q + 1))).1 0 17 = nI (100 * d) := by rw [uI_n (Or.inr (by omega))]; exact s17
    rw [if_pos hr, if_neg p0, f_X6_readDigit_30, chk_t m2, chk_t (by decide), nw_s, uI_i, if_pos rfl, s19, nI_1, nw_s, uI_i, t17, nI_add, show 100 * d + (q + 1) = 100 * d + q + 1 by omega, nI_pred, chk_t (inb_nI (by omega) (by omega)), nI_clamp (by omega)]
    show some (((σ.2 21 (100 * d + q)).toInt32) - 48, _) = _
    rw [h3 q hz, Int32.toInt32_toInt64, a3 (by omega), show (48 : Int32) = nI 48 from rfl, pk_sub (by omega)]
  · refine Or.inr ⟨hr, ?_⟩
    rw [if_neg hr, if_pos rfl, f_X6_readDigit_25, f_X6_readDigit_30, chk_t m2, chk_t (by decide), nw_s, uI_i, if_neg p0]
theorem rdD_bad {σ : St} (h0 : σ.1 0 20 = 1) : f_X6_readDigit σ = some (0, uI σ 0 20 1) := by
  rw [f_X6_readDigit, h0, if_neg p0, f_X6_readDigit_25, f_X6_readDigit_30, chk_t m2, chk_t (by decide), nw_s, uI_i, if_neg p0]
theorem rs_bad {k D : Nat} {k9 : St → Option St} (hk : k ≤ 50) (hD : D < 4) : ∀ (r m i : Nat) (σ : St), r < m → i + r = D → σ.1 0 20 = 1 → ∃ σ', f_X6_readStatement_123 k9 m (nI k) (nI D) (nI i) σ = k9 σ' ∧ FR σ σ' ∧ σ'.1 0 20 = 1 ∧ σ'.1 0 19 = σ.1 0 19 ∧ σ'.1 0 21 = σ.1 0 21 ∧ (∀ b, b < 3 * k + i → σ'.1 15 b = σ.1 15 b) ∧ σ'.1 13 = σ.1 13 ∧ σ'.1 14 = σ.1 14 := by
  intro r
  induction r with
  | zero =>
    intro m i σ h1 h2 h3
    obtain ⟨m, rfl⟩ : ∃ x, m = x + 1 := ⟨m - 1, by omega⟩
    rw [f_X6_readStatement_123, if_pos (nI_le (by omega) (by omega))]
    exact ⟨σ, rfl, FR.rf, h3, rfl, rfl, fun _ _ => rfl, rfl, rfl⟩
  | succ r ih =>
    intro m i σ h1 h2 h3
    obtain ⟨m, rfl⟩ : ∃ x, m = x + 1 := ⟨m - 1, by omega⟩
    have f1 : FR σ (uI (uI σ 0 20 1) 15 (3 * k + i) 0) := (FR.u0 (Or.inr (Or.inl rfl))).tr (FR.u13 (Or.inr (Or.inr rfl)))
    obtain ⟨σ', g1, g2, g3, g4, g5, g6, g7, g8⟩ := ih m (i + 1) (uI (uI σ 0 20 1) 15 (3 * k + i) 0) (by omega) (by omega) (by rw [uI_n (Or.inl (by omega)), uI_i])
    refine ⟨σ', ?_, f1.tr g2, g3, ?_, ?_, fun b hb => ?_, ?_, ?_⟩
    · rw [f_X6_readStatement_123, if_neg (nI_ge (by omega) (by omega)), bnd_o (rdD_bad h3), show (3 : Int32) = nI 3 from rfl, pk_mul, nI_add, chk_t (inb_nI (by omega) (by omega)), nw_s, nI_clamp (by omega), nw_s, nI_1]
      exact g1
    · rw [g4, uI_n (Or.inl (by omega)), uI_n (Or.inr (by omega))]
    · rw [g5, uI_n (Or.inl (by omega)), uI_n (Or.inr (by omega))]
    · rw [g6 b (by omega), uI_n (Or.inr (by omega)), uI_n (Or.inl (by omega))]
    · rw [g7]; funext b; rw [uI_n (Or.inl (by omega)), uI_n (Or.inl (by omega))]
    · rw [g8]; funext b; rw [uI_n (Or.inl (by omega)), uI_n (Or.inl (by omega))]
theorem rs_dig {d z k D : Nat} {el : Nat → Int32} {ch : Nat → Nat} {k9 : St → Option St} (ht : isTx el z ch) (hk : k ≤ 50) (hD : D < 4) : ∀ (r m q i : Nat) (σ : St), r < m → i + r = D → q + r < 1000 → RS σ d z el q → σ.1 0 20 = 0 → ∃ σ', f_X6_readStatement_123 k9 m (nI k) (nI D) (nI i) σ = k9 σ' ∧ FR σ σ' ∧ σ'.1 0 21 = σ.1 0 21 ∧ (∀ b, b < 3 * k + i → σ'.1 15 b = σ.1 15 b) ∧ σ'.1 13 = σ.1 13 ∧ σ'.1 14 = σ.1 14 ∧
    ((fb ch q r = none ∧ σ'.1 0 20 = 0 ∧ σ'.1 0 19 = nI (q + r) ∧ ∀ t, t < r → σ'.1 15 (3 * k + i + t) = nI (ch (q + t) - 48)) ∨ (∃ x, fb ch q r = some x ∧ σ'.1 0 20 = 1 ∧ σ'.1 0 19 = nI x)) := by
  intro r
  induction r with
  | zero =>
    intro m q i σ h1 h2 h3 hS h0
    obtain ⟨m, rfl⟩ : ∃ x, m = x + 1 := ⟨m - 1, by omega⟩
    rw [f_X6_readStatement_123, if_pos (nI_le (by omega) (by omega))]
    exact ⟨σ, rfl, FR.rf, rfl, fun _ _ => rfl, rfl, rfl, Or.inl ⟨rfl, h0, hS.2.2.2.2, fun t ht => absurd ht (by omega)⟩⟩
  | succ r ih =>
    intro m q i σ h1 h2 h3 hS h0
    obtain ⟨m, rfl⟩ : ∃ x, m = x + 1 := ⟨m - 1, by omega⟩
    rcases rdD hS ht (by omega) h0 with ⟨c1, c2, e⟩ | ⟨c1, e⟩
    · have f1 : FR σ (uI (uI (uI σ 0 20 0) 0 19 (nI (q + 1))) 15 (3 * k + i) (nI (ch q - 48))) := ((FR.u0 (Or.inr (Or.inl rfl))).tr (FR.u0 (Or.inl rfl))).tr (FR.u13 (Or.inr (Or.inr rfl)))
      have s19 : (uI (uI (uI σ 0 20 0) 0 19 (nI (q + 1))) 15 (3 * k + i) (nI (ch q - 48))).1 0 19 = nI (q + 1) := by rw [uI_n (Or.inl (by omega)), uI_i]
      obtain ⟨σ', g1, g2, g3, g4, g13, g14, g5⟩ := ih m (q + 1) (i + 1) _ (by omega) (by omega) (by omega) (hS.fr f1 s19) (by rw [uI_n (Or.inl (by omega)), uI_n (Or.inr (by omega)), uI_i])
      refine ⟨σ', ?_, f1.tr g2, ?_, fun b hb => ?_, ?_, ?_, ?_⟩
      · rw [f_X6_readStatement_123, if_neg (nI_ge (by omega) (by omega)), bnd_o e, show (3 : Int32) = nI 3 from rfl, pk_mul, nI_add, chk_t (inb_nI (by omega) (by omega)), nw_s, nI_clamp (by omega), nw_s, nI_1]
        exact g1
      · rw [g3, uI_n (Or.inl (by omega)), uI_n (Or.inr (by omega)), uI_n (Or.inr (by omega))]
      · rw [g4 b (by omega), uI_n (Or.inr (by omega)), uI_n (Or.inl (by omega)), uI_n (Or.inl (by omega))]
      · rw [g13]; funext b; rw [uI_n (Or.inl (by omega)), uI_n (Or.inl (by omega)), uI_n (Or.inl (by omega))]
      · rw [g14]; funext b; rw [uI_n (Or.inl (by omega)), uI_n (Or.inl (by omega)), uI_n (Or.inl (by omega))]
      · rw [fb, if_pos ⟨c1, c2⟩]
        rcases g5 with ⟨a1, a2, a3, a4⟩ | ⟨x, a1, a2, a3⟩
        · refine Or.inl ⟨a1, a2, by rw [a3]; congr 1; omega, fun t ht2 => ?_⟩
          cases t with
          | zero =>
            rw [Nat.add_zero, Nat.add_zero, g4 _ (by omega), uI_i]
          | succ t =>
            have := a4 t (by omega)
            rw [show 3 * k + (i + 1) + t = 3 * k + i + (t + 1) by omega, show q + 1 + t = q + (t + 1) by omega] at this
            exact this
        · exact Or.inr ⟨x, a1, a2, a3⟩
    · have f1 : FR σ (uI (uI σ 0 20 1) 15 (3 * k + i) 0) := (FR.u0 (Or.inr (Or.inl rfl))).tr (FR.u13 (Or.inr (Or.inr rfl)))
      obtain ⟨σ', g1, g2, g3, g4, g5, g6, g7, g8⟩ := rs_bad (k9 := k9) hk hD r m (i + 1) (uI (uI σ 0 20 1) 15 (3 * k + i) 0) (by omega) (by omega) (by rw [uI_n (Or.inl (by omega)), uI_i])
      refine ⟨σ', ?_, f1.tr g2, ?_, fun b hb => ?_, ?_, ?_, Or.inr ⟨q, ?_, g3, ?_⟩⟩
      · rw [f_X6_readStatement_123, if_neg (nI_ge (by omega) (by omega)), bnd_o e, show (3 : Int32) = nI 3 from rfl, pk_mul, nI_add, chk_t (inb_nI (by omega) (by omega)), nw_s, nI_clamp (by omega), nw_s, nI_1]
        exact g1
      · rw [g5, uI_n (Or.inl (by omega)), uI_n (Or.inr (by omega))]
      · rw [g6 b (by omega), uI_n (Or.inr (by omega)), uI_n (Or.inl (by omega))]
      · rw [g7]; funext b; rw [uI_n (Or.inl (by omega)), uI_n (Or.inl (by omega))]
      · rw [g8]; funext b; rw [uI_n (Or.inl (by omega)), uI_n (Or.inl (by omega))]
      · rw [fb, if_neg c1]
      · rw [g4, uI_n (Or.inl (by omega)), uI_n (Or.inr (by omega))]
        exact hS.2.2.2.2
