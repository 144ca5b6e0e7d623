/-! POTS AND KITCHENS OF THE CLASS -/
def isPt (i : Nat) : Prop := kOK SC i 3 = true ∧ isFl (i + 1) ∧ aOK SC (i + 3) 20 12 = true ∧ aOK SC (i + 4) 20 12 = true
def pt (b j : Nat) : Nat := b + 1 + 1 + 5 * j
def isKt (b : Nat) : Prop := b = 1 ∨ b = 33 ∨ b = 65
theorem kt_ok {b : Nat} (h : isKt b) : kOK SC b 1 = true ∧ aOK SC (b + 1) 22 6 = true := by
  rcases h with rfl | rfl | rfl <;> exact ⟨by decide +kernel, by decide +kernel⟩
theorem pt_all : ∀ b, b < 3 → ∀ j, j < 6 → (kOK SC (pt (32 * b + 1) j) 3 = true ∧ (kOK SC (pt (32 * b + 1) j + 1) 0 = true ∧ aOK SC (pt (32 * b + 1) j + 1 + 1) 21 4 = true) ∧ aOK SC (pt (32 * b + 1) j + 3) 20 12 = true ∧ aOK SC (pt (32 * b + 1) j + 4) 20 12 = true) := by decide +kernel
theorem pt_ok {b j : Nat} (h : isKt b) (hj : j < 6) : isPt (pt b j) := by
  rcases h with rfl | rfl | rfl
  · exact pt_all 0 (by omega) j hj
  · exact pt_all 1 (by omega) j hj
  · exact pt_all 2 (by omega) j hj
def up (f : Nat → Nat) (k v : Nat) : Nat → Nat := fun i => if i = k then v else f i
theorem up_i {f : Nat → Nat} {k v : Nat} : up f k v k = v := if_pos rfl
theorem up_n {f : Nat → Nat} {k v i : Nat} (h : i ≠ k) : up f k v i = f i := if_neg h
/-- a pot: its flavour and its dishes, the first cooked first -/
def potC (σ : St) (i n : Nat) (x kd fg : Nat → Nat) : Prop := isPt i ∧ flv σ (i + 1) x n ∧ n ≤ 12 ∧ bd x n ∧ ∀ d, d < n → kd d < 8 ∧ fg d < 10 ∧ σ.1 (i + 3) d = nI (kd d) ∧ σ.1 (i + 4) d = nI (fg d)
theorem potC.fr {σ σ' : St} {i n : Nat} {x kd fg : Nat → Nat} {P : Nat → Prop} (h : potC σ i n x kd fg) (f : Fr P σ σ') (hp : ∀ a, i ≤ a → a ≤ i + 4 → ¬ P a) : potC σ' i n x kd fg := by
  obtain ⟨a, b, c, d, g⟩ := h
  refine ⟨a, b.fr f (hp _ (by omega) (by omega)) (hp _ (by omega) (by omega)), c, d, fun q hq => ?_⟩
  obtain ⟨g1, g2, g3, g4⟩ := g q hq
  refine ⟨g1, g2, ?_, ?_⟩
  · rw [(f _ (hp _ (by omega) (by omega))).1]; exact g3
  · rw [(f _ (hp _ (by omega) (by omega))).1]; exact g4
theorem roomC {σ : St} {i n : Nat} {x : Nat → Nat} (h : flv σ i x n) (hn : n < 2 ^ 31) : f_X0_hasRoom σ i = some (if n < 12 then 1 else 0) := by
  rw [f_X0_hasRoom, chk_t h.1.1, h.2.2.2]
  by_cases e : n < 12
  · rw [if_neg (show ¬ (12 : Int32) ≤ nI n from nI_ge (b := 12) e (by omega)), if_pos e]
  · rw [if_pos (show (12 : Int32) ≤ nI n from nI_le (a := 12) (by omega) hn), if_neg e]
theorem cookC {σ : St} {i n k f : Nat} {x kd fg : Nat → Nat} (h : potC σ i n x kd fg) (hk : k < 8) (hf : f < 10) (hn : n < 12) : ∃ σ', f_X3_cookIn σ i (nI k) (nI f) = some (1, σ') ∧ potC σ' i (n + 1) (takeN k f n x) (up kd n k) (up fg n f) ∧ Fr (fun a => i ≤ a ∧ a ≤ i + 4) σ σ' := by
  obtain ⟨⟨p1, p2, p3, p4⟩, b, c, d, g⟩ := h
  rw [f_X3_cookIn, chk_t p1, chk_t p2.1, bnd_o (roomC b (by omega)), if_pos hn, if_neg (by decide), chk_t p3, b.2.2.2, chk_t (inb_nI hn (by omega)), nw_s, chk_t p4, nI_clamp (by omega)]
  have e1 : (uI σ (i + 3) n (nI k)).1 (i + 1) 2 = nI n := by rw [uI_n (Or.inl (by omega))]; exact b.2.2.2
  rw [e1, chk_t (inb_nI hn (by omega)), nw_s, nI_clamp (by omega)]
  have f1 : Fr (fun a => a = i + 3 ∨ a = i + 4) σ (uI (uI σ (i + 3) n (nI k)) (i + 4) n (nI f)) := Fr.tr (Fr.uI (Or.inl rfl)) (Fr.uI (Or.inr rfl))
  have b2 := b.fr f1 (by omega) (by omega)
  obtain ⟨σ2, e2, b3, f2⟩ := takeC b2 hk hf
  rw [bnd_o e2]
  refine ⟨σ2, rfl, ⟨⟨p1, p2, p3, p4⟩, b3, by omega, bd_take d hk hf, fun q hq => ?_⟩, Fr.tr (f1.mono (fun a ha => by omega)) (f2.mono (fun a ha => by omega))⟩
  have r3 : σ2.1 (i + 3) q = (uI (uI σ (i + 3) n (nI k)) (i + 4) n (nI f)).1 (i + 3) q := congrFun (f2 (i + 3) (by omega)).1 q
  have r4 : σ2.1 (i + 4) q = (uI (uI σ (i + 3) n (nI k)) (i + 4) n (nI f)).1 (i + 4) q := congrFun (f2 (i + 4) (by omega)).1 q
  rw [r3, r4]
  by_cases hqn : q = n
  · subst hqn
    rw [up_i, up_i, uI_n (Or.inl (by omega)), uI_i, uI_i]
    exact ⟨hk, hf, rfl, rfl⟩
  · obtain ⟨g1, g2, g3, g4⟩ := g q (by omega)
    rw [up_n hqn, up_n hqn, uI_n (Or.inl (by omega)), uI_n (Or.inr hqn), uI_n (Or.inr hqn), uI_n (Or.inl (by omega))]
    exact ⟨g1, g2, g3, g4⟩
theorem cookC_no {σ : St} {i n : Nat} {k f : Int32} {x kd fg : Nat → Nat} (h : potC σ i n x kd fg) (hn : ¬ n < 12) : f_X3_cookIn σ i k f = some (0, σ) := by
  obtain ⟨⟨p1, p2, p3, p4⟩, b, c, d, g⟩ := h
  rw [f_X3_cookIn, chk_t p1, chk_t p2.1, bnd_o (roomC b (by omega)), if_neg hn, if_pos rfl]
theorem cpI_at {σ : St} {i j : Nat} {n b : Nat} (hn : n < 2 ^ 31) (hb : b < n) : (cpI σ i 0 j 0 (nI n)).1 j b = σ.1 i b := by
  simp only [cpI]
  rw [if_pos trivial, nI_clamp hn]
  show va_cpy _ _ (0 : Int32).toNatClampNeg (0 : Int32).toNatClampNeg n b = _
  rw [sb_cl0]
  exact sb_cpy0 hb
theorem Fr.cp {σ : St} {i j : Nat} {sp dp n : Int32} {P : Nat → Prop} (h : P j) : Fr P σ (cpI σ i sp j dp n) := fun a ha => by
  have hne : a ≠ j := fun q => ha (q ▸ h)
  refine ⟨?_, rfl⟩
  funext b
  simp only [cpI]
  rw [if_neg hne]
theorem potBecome {σ : St} {i o n : Nat} {x kd fg : Nat → Nat} (h : potC σ o n x kd fg) (hi : isPt i) (ha : i + 4 < o ∨ o + 4 < i) : ∃ σ', f_X3_become σ i o = some σ' ∧ potC σ' i n x kd fg ∧ Fr (fun a => i ≤ a ∧ a ≤ i + 4) σ σ' := by
  obtain ⟨⟨q1, q2, q3, q4⟩, b, c, d, g⟩ := h
  obtain ⟨p1, p2, p3, p4⟩ := hi
  rw [f_X3_become, chk_t p1, chk_t q1, chk_t p2.1, bnd_o (becomeC p2 q2), chk_t q3, chk_t p3, chk_t (by decide), nw_s, chk_t q4, chk_t p4, chk_t (by decide), nw_s]
  have f1 : Fr (fun a => a = i + 1 ∨ a = i + 1 + 1) σ (setF σ (i + 1) (σ.2 (o + 1 + 1)) (σ.2 (o + 1) 1) (σ.1 (o + 1) 2)) := setF_fr
  have b1 : flv (setF σ (i + 1) (σ.2 (o + 1 + 1)) (σ.2 (o + 1) 1) (σ.1 (o + 1) 2)) (i + 1) x n := setF_flv p2 b.2.1 b.2.2.1 b.2.2.2
  have f2 : Fr (fun a => a = i + 3 ∨ a = i + 4) (setF σ (i + 1) (σ.2 (o + 1 + 1)) (σ.2 (o + 1) 1) (σ.1 (o + 1) 2)) (cpI (cpI (setF σ (i + 1) (σ.2 (o + 1 + 1)) (σ.2 (o + 1) 1) (σ.1 (o + 1) 2)) (o + 3) 0 (i + 3) 0 12) (o + 4) 0 (i + 4) 0 12) := Fr.tr (Fr.cp (Or.inl rfl)) (Fr.cp (Or.inr rfl))
  refine ⟨_, rfl, ⟨⟨p1, p2, p3, p4⟩, b1.fr f2 (by omega) (by omega), c, d, fun q hq => ?_⟩, Fr.tr (f1.mono (fun a ha => by omega)) (f2.mono (fun a ha => by omega))⟩
  obtain ⟨g1, g2, g3, g4⟩ := g q hq
  refine ⟨g1, g2, ?_, ?_⟩
  · rw [(Fr.cp (P := fun a => a = i + 4) rfl (i + 3) (by omega)).1]
    rw [show (12 : Int32) = nI 12 from rfl, cpI_at (by omega) (by omega), (f1 (o + 3) (by omega)).1]
    exact g3
  · rw [show (12 : Int32) = nI 12 from rfl, cpI_at (by omega) (by omega), (Fr.cp (P := fun a => a = i + 3) rfl (o + 4) (by omega)).1, (f1 (o + 4) (by omega)).1]
    exact g4
/-- a kitchen: how many pots; of each how many dishes, the tastes, kinds and figures -/
abbrev Kv : Type := Nat × (Nat → Nat) × (Nat → Nat → Nat) × (Nat → Nat → Nat) × (Nat → Nat → Nat)
def KC (b : Nat) (σ : St) (K : Kv) : Prop := isKt b ∧ σ.1 b 1 = nI K.1 ∧ K.1 ≤ 6 ∧ ∀ j, j < K.1 → potC σ (pt b j) (K.2.1 j) (K.2.2.1 j) (K.2.2.2.1 j) (K.2.2.2.2 j)
theorem KC.fr {b : Nat} {σ σ' : St} {K : Kv} {P : Nat → Prop} (h : KC b σ K) (f : Fr P σ σ') (hp : ∀ a, b ≤ a → a ≤ b + 31 → ¬ P a) : KC b σ' K := by
  obtain ⟨h1, h2, h3, h4⟩ := h
  refine ⟨h1, ?_, h3, fun j hj => (h4 j hj).fr f (fun a g1 g2 => hp a ?_ ?_)⟩
  · rw [(f b (hp b (by omega) (by omega))).1]; exact h2
  · unfold pt at g1; omega
  · unfold pt at g2; omega
theorem kitBecome_l {a b : Nat} {σ : St} {K : Kv} {k : St → Option St} (ha : isKt a) (hb : isKt b) (hab : a ≠ b) : ∀ (m i : Nat) (σ1 : St), i ≤ K.1 → K.1 < m + i → KC b σ1 K → σ1.1 a 1 = nI K.1 → (∀ j, j < i → potC σ1 (pt a j) (K.2.1 j) (K.2.2.1 j) (K.2.2.2.1 j) (K.2.2.2.2 j)) → Fr (fun q => a ≤ q ∧ q ≤ a + 31) σ σ1 → ∃ σ2, f_X1_become_10 k m a b (nI i) σ1 = k σ2 ∧ KC a σ2 K ∧ Fr (fun q => a ≤ q ∧ q ≤ a + 31) σ σ2 := by
  intro m
  induction m with
  | zero => intro i σ1 h1 h2; omega
  | succ m ih =>
    intro i σ1 h1 h2 hK hs hp hf
    have h6 := hK.2.2.1
    rw [f_X1_become_10, chk_t (kt_ok ha).1, hs]
    by_cases hi : i = K.1
    · subst hi
      rw [if_pos (nI_le (Nat.le_refl _) (by omega))]
      exact ⟨σ1, rfl, ⟨ha, hs, h6, hp⟩, hf⟩
    · have hlt : i < K.1 := by omega
      rw [if_neg (nI_ge hlt (by omega)), chk_t (kt_ok ha).2, chk_t (inb_nI (by omega) (by omega)), chk_t (kt_ok hb).1, chk_t (kt_ok hb).2, nI_clamp (by omega)]
      have hpa := pt_ok ha (show i < 6 by omega)
      have hdis : pt a i + 4 < pt b i ∨ pt b i + 4 < pt a i := by
        unfold pt
        rcases ha with rfl | rfl | rfl <;> rcases hb with rfl | rfl | rfl <;> omega
      obtain ⟨σ2, e2, p2, f2⟩ := potBecome (hK.2.2.2 i hlt) hpa hdis
      have hdb : ∀ q, b ≤ q → q ≤ b + 31 → ¬ (pt a i ≤ q ∧ q ≤ pt a i + 4) := by
        intro q g1 g2 g3
        unfold pt at g3
        rcases ha with rfl | rfl | rfl <;> rcases hb with rfl | rfl | rfl <;> omega
      have ep : kOK SC (a + 1 + 1 + 5 * i) 3 = true := hpa.1
      have ef : f_X3_become σ1 (a + 1 + 1 + 5 * i) (b + 1 + 1 + 5 * i) = some σ2 := e2
      rw [chk_t ep, bnd_o ef, nw_s, nI_1]
      refine ih (i + 1) σ2 (by omega) (by omega) (hK.fr f2 hdb) ?_ ?_ ?_
      · rw [(f2 a (by unfold pt; omega)).1]; exact hs
      · intro j hj
        by_cases e : j = i
        · subst e; exact p2
        · exact (hp j (by omega)).fr f2 (fun q g1 g2 g3 => by unfold pt at g1 g2 g3; omega)
      · exact Fr.tr hf (f2.mono (fun q g => by unfold pt at g; omega))
theorem kitBecome {a b : Nat} {σ : St} {K : Kv} (ha : isKt a) (hK : KC b σ K) (hab : a ≠ b) : ∃ σ2, f_X1_become σ a b = some σ2 ∧ KC a σ2 K ∧ Fr (fun q => a ≤ q ∧ q ≤ a + 31) σ σ2 := by
  have hb := hK.1
  rw [f_X1_become, chk_t (kt_ok hb).1, chk_t (kt_ok ha).1, nw_s, hK.2.1]
  have f1 : Fr (fun q => q = a) σ (uI σ a 1 (nI K.1)) := Fr.uI rfl
  have hK2 := hK.fr f1 (fun q g1 g2 g3 => by subst g3; rcases ha with rfl | rfl | rfl <;> rcases hb with rfl | rfl | rfl <;> omega)
  obtain ⟨σ2, e, k2, f2⟩ := kitBecome_l (σ := σ) (k := fun (σ13 : St) => some σ13) ha hb hab fu 0 (uI σ a 1 (nI K.1)) (Nat.zero_le _) (by have := hK.2.2.1; rw [fu_e]; omega) hK2 uI_i (fun j h => absurd h (by omega)) (f1.mono (fun q g => by omega))
  exact ⟨σ2, e, k2, f2⟩
theorem hasC {b : Nat} {σ : St} {K : Kv} (h : KC b σ K) (x : Int32) : f_X1_has σ b x = some (if inb x K.1 = true then 1 else 0) := by
  have h6 := h.2.2.1
  rw [f_X1_has]
  by_cases e : x < 0
  · rw [if_pos e, if_neg]
    intro q
    obtain ⟨j, hj, hx⟩ := inb_not q
    rw [hx (by omega)] at e
    exact nI_pos (by omega) e
  · rw [if_neg e, chk_t (kt_ok h.1).1, h.2.1]
    obtain ⟨j, hj, rfl⟩ := nI_of e
    by_cases e2 : j < K.1
    · rw [if_neg (nI_ge e2 (by omega)), if_pos (inb_nI e2 (by omega))]
    · rw [if_pos (nI_le (by omega) hj), if_neg]
      intro q
      obtain ⟨j2, hj2, hx⟩ := inb_not q
      have := (nI_eq hj (by omega)).mp (hx (by omega))
      omega
