/-! WHICH DISHES MADE IT: mayHave -/
theorem least_cross {a b c d : Nat} (hb : 0 < b) (hd : 0 < d) : (lsN a b 0 = lsN c d 0 ∧ lsN a b 1 = lsN c d 1) ↔ a * d = c * b := by
  have key : ∀ (a b : Nat), 0 < b → ∃ g p q : Nat, 0 < g ∧ Nat.Coprime p q ∧ a = p * g ∧ b = q * g ∧ lsN a b 0 = p ∧ lsN a b 1 = q := by
    intro a b hb
    have hg : 0 < Nat.gcd a b := Nat.gcd_pos_of_pos_right a hb
    obtain ⟨p, q, h1, h2, h3⟩ := Nat.exists_coprime a b
    refine ⟨Nat.gcd a b, p, q, hg, h1, h2, h3, ?_, ?_⟩
    · rw [lsN, if_pos rfl]
      exact Nat.div_eq_of_eq_mul_left hg h2
    · rw [lsN, if_neg (by omega)]
      exact Nat.div_eq_of_eq_mul_left hg h3
  obtain ⟨g, p, q, hg, h1, h2, h3, h4, h5⟩ := key a b hb
  obtain ⟨h, r, s, hh, k1, k2, k3, k4, k5⟩ := key c d hd
  rw [h4, h5, k4, k5]
  have hq : 0 < q := by
    rcases Nat.eq_zero_or_pos q with e | e
    · rw [e, Nat.zero_mul] at h3
      omega
    · exact e
  constructor
  · rintro ⟨rfl, rfl⟩
    rw [h2, h3, k2, k3, Nat.mul_mul_mul_comm, Nat.mul_mul_mul_comm p h, Nat.mul_comm h g]
  · intro e
    rw [h2, h3, k2, k3, Nat.mul_mul_mul_comm, Nat.mul_mul_mul_comm r h, Nat.mul_comm h g] at e
    have e2 : p * s = r * q := Nat.eq_of_mul_eq_mul_right (Nat.mul_pos hg hh) e
    have d1 : q ∣ s := Nat.Coprime.dvd_of_dvd_mul_left (k := q) (m := p) (n := s) h1.symm ⟨r, by rw [e2, Nat.mul_comm]⟩
    have d2 : s ∣ q := Nat.Coprime.dvd_of_dvd_mul_left (k := s) (m := r) (n := q) k1.symm ⟨p, by rw [← e2, Nat.mul_comm]⟩
    have e3 : q = s := Nat.dvd_antisymm d1 d2
    subst e3
    exact ⟨Nat.eq_of_mul_eq_mul_right hq e2, rfl⟩
theorem lsN_lt {a b q : Nat} (ha : a < 2 ^ 63) (hb : b < 2 ^ 63) : lsN a b q < 2 ^ 63 := by
  unfold lsN
  split
  · exact Nat.lt_of_le_of_lt (Nat.div_le_self _ _) ha
  · exact Nat.lt_of_le_of_lt (Nat.div_le_self _ _) hb
/-- X over 9 to the a, x over 9 to the b: alike in the first j tastes -/
def lk (X x : Nat → Nat) (a b : Nat) : Nat → Bool
  | 0 => true
  | j + 1 => lk X x a b j && decide (X j * 9 ^ b = x j * 9 ^ a)
theorem lk_dn {X x : Nat → Nat} {a b i : Nat} (h : lk X x a b i = false) : ∀ j, i ≤ j → lk X x a b j = false := by
  intro j hj
  induction j with
  | zero => rw [show i = 0 by omega] at h; exact h
  | succ j ih =>
    by_cases e : i = j + 1
    · rw [← e]; exact h
    · rw [lk, ih (by omega), Bool.false_and]
theorem hI_t : hI true = 1 := rfl
theorem hI_f : hI false = 0 := rfl
theorem cross_lt {X x : Nat → Nat} {a b : Nat} (hX : bd X a) (hx : bd x b) (ha : a ≤ 3) (hb : b ≤ 12) {t : Nat} (ht : t < 4) : X t * 9 ^ b < 2 ^ 63 ∧ x t * 9 ^ a < 2 ^ 63 := by
  have e1 := hX t ht
  have e2 := hx t ht
  have e3 : 9 ^ a ≤ 729 := Nat.le_trans (Nat.pow_le_pow_right (by omega) ha) (by decide)
  have e4 := p9_le (n := b) (by omega)
  have e5 : X t * 9 ^ b ≤ 60 * 729 * 2541865828329 := Nat.mul_le_mul (by omega) e4
  have e6 : x t * 9 ^ a ≤ 60 * 2541865828329 * 729 := Nat.mul_le_mul (by omega) e3
  omega
theorem likeC_l {σ : St} {i o a b : Nat} {X x : Nat → Nat} (h : flv σ i X a) (g : flv σ o x b) (hX : bd X a) (hx : bd x b) (ha : a ≤ 3) (hb : b ≤ 12) : ∀ (m j : Nat), j ≤ 4 → 4 < m + j → lk X x a b j = true → f_X0_isLike_2 σ (some 0) (some 1) m i o (nI j) = some (hI (lk X x a b 4)) := by
  intro m
  induction m with
  | zero => intro j h1 h2; omega
  | succ m ih =>
    intro j h1 h2 h3
    rw [f_X0_isLike_2]
    by_cases hj : j = 4
    · subst hj
      rw [h3, if_pos (by decide)]
      rfl
    · have hlt : j < 4 := by omega
      obtain ⟨b1, b2⟩ := cross_lt hX hx ha hb hlt
      rw [if_neg (show ¬ (4 : Int32) ≤ nI j from nI_ge (b := 4) hlt (by omega)), chk_t h.1.1, chk_t h.1.2, chk_t (inb_nI hlt (by omega)), chk_t g.1.1, chk_t g.1.2, nI_clamp (by omega), h.2.1 j hlt, g.2.1 j hlt, h.2.2.1, g.2.2.1, lN_mul, lN_mul]
      by_cases e : X j * 9 ^ b = x j * 9 ^ a
      · rw [if_pos (by rw [lg_cmp_eq, e]), nw_s, nI_1]
        exact ih (j + 1) (by omega) (by omega) (by rw [lk, h3, decide_eq_true e]; rfl)
      · have e0 : lk X x a b (j + 1) = false := by rw [lk, decide_eq_false e, Bool.and_false]
        rw [if_neg (by rw [lg_cmp_eq, pk_lEQ b1 b2]; exact e), lk_dn e0 4 (by omega)]
        rfl
theorem likeC {σ : St} {i o a b : Nat} {X x : Nat → Nat} (h : flv σ i X a) (g : flv σ o x b) (hX : bd X a) (hx : bd x b) (ha : a ≤ 3) (hb : b ≤ 12) : f_X0_isLike σ i o = some (hI (lk X x a b 4)) := by
  rw [f_X0_isLike]
  exact likeC_l h g hX hx ha hb fu 0 (by omega) (by rw [fu_e]; omega) rfl
theorem n24 (t : Nat) : (24 : Int32) + nI t = nI (4 * 6 + t) := nI_add 24 t
theorem mh_step {σ : St} {j n b t q m : Nat} {X x : Nat → Nat} {v3 v4 v5 v6 v7 : Int32} {like : Bool} {k : Int32 → Int32 → Int32 → Int32 → Int32 → Int32 → Int32 → Int32 → Int32 → St → Option (Int32 × St)} (hj : j < 6) (hm6 : flm σ 6 X n) (hm : flm σ j x b) (hX : bd X n) (hx : bd x b) (hn : n ≤ 3) (hb : b ≤ 12) (ht : t < 4) (hq : q < 2) :
    f_X6_mayHave_101 k (m + 1) (nI j) (nI n) v3 v4 v5 v6 v7 (hI like) (nI t) (nI q) σ = f_X6_mayHave_101 k m (nI j) (nI n) v3 v4 v5 v6 v7 (hI (like && decide (lsN (X t) (9 ^ n) q = lsN (x t) (9 ^ b) q))) (nI t) (nI (q + 1)) σ := by
  have e1 := (bd_sum hX (by omega)).2 t ht
  have e2 := (bd_sum hx (by omega)).2 t ht
  have e3 := p9_le (n := n) (by omega)
  have e4 := p9_le (n := b) (by omega)
  rw [f_X6_mayHave_101, if_neg (show ¬ (2 : Int32) ≤ nI q from nI_ge (b := 2) hq (by omega))]
  cases like with
  | false =>
    rw [hI_f, if_pos rfl, f_X6_mayHave_164, f_X6_mayHave_165, nw_s, nI_1, Bool.false_and, hI_f]
  | true =>
    rw [hI_t, if_neg p0, n24, chk_t (inb_nI (by omega) (by omega)), nI_clamp (show 4 * 6 + t < 2 ^ 31 by omega), hm6.2.1 t ht, bnd_o (nineM (by omega)), bnd_o (leastM (by omega) (by omega) (p9_pos _) hq), n4, chk_t (inb_nI (by omega) (by omega)), chk_t (inb_nI (by omega) (by omega)), nI_clamp (show j < 2 ^ 31 by omega), nI_clamp (show 4 * j + t < 2 ^ 31 by omega), hm.2.2, hm.2.1 t ht, bnd_o (nineM (by omega)), bnd_o (leastM (by omega) (by omega) (p9_pos _) hq), Bool.true_and]
    by_cases e : lsN (X t) (9 ^ n) q = lsN (x t) (9 ^ b) q
    · rw [if_pos (by rw [lg_cmp_eq, e]), f_X6_mayHave_165, nw_s, nI_1, decide_eq_true e, hI_t]
    · rw [if_neg (by rw [lg_cmp_eq, pk_lEQ (lsN_lt (by omega) (by omega)) (lsN_lt (by omega) (by omega))]; exact e), f_X6_mayHave_164, f_X6_mayHave_165, nw_s, nI_1, decide_eq_false e, hI_f]
theorem mh_in {σ : St} {j n b t m : Nat} {X x : Nat → Nat} {v3 v4 v5 v6 v7 : Int32} {like : Bool} {k : Int32 → Int32 → Int32 → Int32 → Int32 → Int32 → Int32 → Int32 → Int32 → St → Option (Int32 × St)} (hj : j < 6) (hm6 : flm σ 6 X n) (hm : flm σ j x b) (hX : bd X n) (hx : bd x b) (hn : n ≤ 3) (hb : b ≤ 12) (ht : t < 4) :
    f_X6_mayHave_101 k (m + 3) (nI j) (nI n) v3 v4 v5 v6 v7 (hI like) (nI t) 0 σ = k (nI j) (nI n) v3 v4 v5 v6 v7 (hI (like && decide (X t * 9 ^ b = x t * 9 ^ n))) (nI t) σ := by
  have s0 := mh_step (m := m + 2) (q := 0) (v3 := v3) (v4 := v4) (v5 := v5) (v6 := v6) (v7 := v7) (like := like) (k := k) hj hm6 hm hX hx hn hb ht (by omega)
  have s1 := mh_step (m := m + 1) (q := 1) (v3 := v3) (v4 := v4) (v5 := v5) (v6 := v6) (v7 := v7) (like := like && decide (lsN (X t) (9 ^ n) 0 = lsN (x t) (9 ^ b) 0)) (k := k) hj hm6 hm hX hx hn hb ht (by omega)
  have hc : (like && decide (lsN (X t) (9 ^ n) 0 = lsN (x t) (9 ^ b) 0) && decide (lsN (X t) (9 ^ n) 1 = lsN (x t) (9 ^ b) 1)) = (like && decide (X t * 9 ^ b = x t * 9 ^ n)) := by
    rw [Bool.and_assoc, ← Bool.decide_and]
    congr 1
    exact decide_eq_decide.mpr (least_cross (p9_pos _) (p9_pos _))
  rw [show (0 : Int32) = nI 0 from rfl, s0, s1, hc, f_X6_mayHave_101, if_pos (by decide)]
theorem mh_out {σ : St} {j n b : Nat} {X x : Nat → Nat} {v3 v4 v5 v6 v7 : Int32} {k : Int32 → Int32 → Int32 → Int32 → Int32 → Int32 → Int32 → Int32 → St → Option (Int32 × St)} (hj : j < 6) (hm6 : flm σ 6 X n) (hm : flm σ j x b) (hX : bd X n) (hx : bd x b) (hn : n ≤ 3) (hb : b ≤ 12) : ∀ (m t : Nat), t ≤ 4 → 4 < m + t →
    f_X6_mayHave_92 k m (nI j) (nI n) v3 v4 v5 v6 v7 (hI (lk X x n b t)) (nI t) σ = k (nI j) (nI n) v3 v4 v5 v6 v7 (hI (lk X x n b 4)) σ := by
  intro m
  induction m with
  | zero => intro t h1 h2; omega
  | succ m ih =>
    intro t h1 h2
    rw [f_X6_mayHave_92]
    by_cases ht : t = 4
    · subst ht
      exact if_pos (by decide)
    · have q := ih (t + 1) (by omega) (by omega)
      have e := mh_in (m := 9997) (t := t) (v3 := v3) (v4 := v4) (v5 := v5) (v6 := v6) (v7 := v7) (like := lk X x n b t) (k := fun (w60_0 : Int32) (w61_1 : Int32) (w62_2 : Int32) (w63_3 : Int32) (w64_4 : Int32) (w65_5 : Int32) (w66_6 : Int32) (w67_7 : Int32) (w68_8 : Int32) (σ69 : St) => nw (w68_8 + 1 : Int32) fun v170 => f_X6_mayHave_92 k m w60_0 w61_1 w62_2 w63_3 w64_4 w65_5 w66_6 w67_7 v170 σ69) hj hm6 hm hX hx hn hb (by omega)
      rw [if_neg (show ¬ (4 : Int32) ≤ nI t from nI_ge (b := 4) (by omega) (by omega)), fu_e, e, nw_s, nI_1]
      exact q
theorem may_l {K : Kv} {j n f q : Nat} (hj : j < K.1) (hn : n ≤ 3) (hf : f < 10) : ∀ (m c w : Nat) (fw : Int32) (σc σm : St), c ≤ 8 ^ n → 8 ^ n < m + c → w ≤ c → RK K σc σm → ∃ (r : Int32) (σc' σm' : St), f_X5_mayHave_68 (fun (w50_0 : Int32) (w51_1 : Int32) (w52_2 : Int32) (σ53 : St) => (if w50_0 = 0 then some (w51_1, σ53) else some (w52_2, σ53))) m (nI n) (nI f) (nI q) (pt 1 j + 1) (nI w) fw (nI (8 ^ n)) (nI c) σc = some (r, σc') ∧
    f_X6_mayHave_60 (fun (w110_0 : Int32) (w111_1 : Int32) (w112_2 : Int32) (σ113 : St) => (if w110_0 = 0 then some (w111_1, σ113) else some (w112_2, σ113))) m (nI j) (nI n) (nI f) (nI q) (nI w) fw (nI c) σm = some (r, σm') ∧ RR σc' σm' := by
  have b8 := p8_le hn
  intro m
  induction m with
  | zero => intro c w fw σc σm h1 h2; omega
  | succ m ih =>
    intro c w fw σc σm h1 h2 h3 hR
    obtain ⟨hRR, hC, hM⟩ := id hR
    have h6 := hC.2.2.1
    rw [f_X5_mayHave_68, f_X6_mayHave_60, bnd_o (pow8 (by omega))]
    by_cases hc : c = 8 ^ n
    · rw [if_pos (nI_le (by omega) (by omega)), if_pos (nI_le (by omega) (by omega))]
      by_cases e0 : nI q = 0
      · rw [if_pos e0, if_pos e0]
        exact ⟨_, _, _, rfl, rfl, hRR⟩
      · rw [if_neg e0, if_neg e0]
        exact ⟨_, _, _, rfl, rfl, hRR⟩
    · have hlt : c < 8 ^ n := by omega
      obtain ⟨p1, p2, p3, p4, p5⟩ := hC.2.2.2 j hj
      obtain ⟨σ0, m0, s1, s2, s3⟩ := empM6 (σ := σm)
      obtain ⟨σ1, c1, c2, c3⟩ := tcC (c := c) (n := n) (f := f) (setF_flv (σ := σc) (n := 0) (x := fun _ => 0) (g := fun _ => 0) (b := 1) (c := 0) fl122 (fun _ _ => rfl) rfl rfl) (by omega) hn hf
      obtain ⟨σ2, m1, m2, m3⟩ := ccM (c := c) (n := n) (f := f) s1 (by omega) (by omega) hn hf
      have b1 := codX_bd (c := c) (n := n) (f := f) (bd_0 (n := 0)) hf n
      have f1 : Fr scr σc σ1 := Fr.tr (setF_fr.mono (fun a ha => scr_fl ha)) (c3.mono (fun a ha => scr_fl ha))
      have hR2 : RK K σ1 σ2 := hR.keep f1 (s2.tr m3)
      have m2' := m2 (by omega)
      rw [Nat.zero_add] at c2 m2' b1
      have hw : flv σ1 (pt 1 j + 1) (K.2.2.1 j) (K.2.1 j) := (hR2.2.1.2.2.2 j hj).2.1
      have hl := likeC c2 hw b1 p4 hn p3
      have hmo9 := fun (k : Int32 → Int32 → Int32 → Int32 → Int32 → Int32 → Int32 → Int32 → St → Option (Int32 × St)) => mh_out (v3 := nI f) (v4 := nI q) (v5 := nI w) (v6 := fw) (v7 := nI c) (k := k) (show j < 6 by omega) m2' (hR2.2.2.flm hj) b1 p4 hn p3 fu 0 (by omega) (by rw [fu_e]; omega)
      have hmo : ∀ (k : Int32 → Int32 → Int32 → Int32 → Int32 → Int32 → Int32 → Int32 → St → Option (Int32 × St)), f_X6_mayHave_92 k fu (nI j) (nI n) (nI f) (nI q) (nI w) fw (nI c) 1 0 σ2 = k (nI j) (nI n) (nI f) (nI q) (nI w) fw (nI c) (hI (lk (codX c n f 0 (fun _ => 0) n) (K.2.2.1 j) n (K.2.1 j) 4)) σ2 := fun k => hmo9 k
      have hdg := digC n (by omega) c (by omega)
      have hdm := digM n (by omega) c (by omega)
      rw [if_neg (nI_ge hlt (by omega)), if_neg (nI_ge hlt (by omega)), bnd_o (clearC fl122), bnd_o c1, bnd_o hl, bnd_o m0, bnd_o m1]
      rw [hmo]
      cases hlk : lk (codX c n f 0 (fun _ => 0) n) (K.2.2.1 j) n (K.2.1 j) 4 with
      | false =>
        obtain ⟨r, σ3, σ4, g1, g2, g3⟩ := ih (c + 1) w fw σ1 σ2 (by omega) (by omega) (by omega) hR2
        refine ⟨r, σ3, σ4, ?_, ?_, g3⟩
        · rw [hI_f, if_pos rfl, f_X5_mayHave_126, nw_s, nI_1]
          exact g1
        · rw [hI_f, if_pos rfl, f_X6_mayHave_198, f_X6_mayHave_200, if_pos rfl, f_X6_mayHave_214, nw_s, nw_s, nI_1, show (0 : Int32) = nI 0 from rfl, nI_add]
          exact g2
      | true =>
        by_cases hw0 : w = 0
        · subst hw0
          obtain ⟨r, σ3, σ4, g1, g2, g3⟩ := ih (c + 1) 1 (nI (digN c n)) σ1 σ2 (by omega) (by omega) (by omega) hR2
          refine ⟨r, σ3, σ4, ?_, ?_, g3⟩
          · rw [hI_t, if_neg p0, if_pos (show nI 0 = 0 from rfl), bnd_o hdg, f_X5_mayHave_121, nw_s, f_X5_mayHave_126, nw_s, nI_1, nI_1]
            exact g1
          · rw [hI_t, if_neg p0, if_pos (show nI 0 = 0 from rfl), bnd_o hdm, f_X6_mayHave_200, if_neg p0, f_X6_mayHave_214, nw_s, nw_s, nI_1, nI_1]
            exact g2
        · have hw1 : ¬ nI w = 0 := nI_ne0 (by omega) (by omega)
          obtain ⟨r, σ3, σ4, g1, g2, g3⟩ := ih (c + 1) (w + 1) fw σ1 σ2 (by omega) (by omega) (by omega) hR2
          refine ⟨r, σ3, σ4, ?_, ?_, g3⟩
          · rw [hI_t, if_neg p0, if_neg hw1, f_X5_mayHave_121, nw_s, f_X5_mayHave_126, nw_s, nI_1, nI_1]
            exact g1
          · rw [hI_t, if_neg p0, if_neg hw1, f_X6_mayHave_198, f_X6_mayHave_200, if_neg p0, f_X6_mayHave_214, nw_s, nw_s, nI_1, nI_1]
            exact g2
theorem oneNN {x M : Int32} {N : Nat} {A : Type} {u v : A} (hM : M = nI N) (hN : N + 1 < 2 ^ 31) : (if x < 1 then u else if M < x then u else v) = if inb x (N + 1) = true ∧ ¬ x = 0 then v else u := by
  subst hM
  rcases inb_or x hN with ⟨j, hj, rfl⟩ | h
  · by_cases h0 : j = 0
    · subst h0
      rw [if_pos (by decide), if_neg (fun q => q.2 rfl)]
    · rw [if_neg (show ¬ nI j < 1 from nI_nlt (b := 1) (by omega) (by omega)), if_neg (nI_nlt (by omega) (by omega)), if_pos ⟨inb_nI hj (by omega), nI_ne0 (by omega) (by omega)⟩]
  · rw [if_neg (c := inb x (N + 1) = true ∧ ¬ x = 0) (fun q => h q.1)]
    by_cases h1 : x < 1
    · rw [if_pos h1]
    · rw [if_neg h1, if_pos]
      have h0 : ¬ x < 0 := by
        intro z
        rw [Int32.lt_iff_toInt_lt] at z h1
        have e0 : (0 : Int32).toInt = 0 := rfl
        have e1 : (1 : Int32).toInt = 1 := rfl
        omega
      obtain ⟨j, hj, rfl⟩ := nI_of h0
      refine nI_lt ?_ hj
      rcases Nat.lt_or_ge N j with q | q
      · exact q
      · exact absurd (inb_nI (n := N + 1) (by omega) hj) h
theorem sim_mayHave {σc σm : St} (h : RR σc σm) (x y z v : Int32) : ∃ (r : Int32) (σc' σm' : St), f_X5_mayHave σc x y z v = some (r, σc') ∧ f_X6_mayHave σm x y z v = some (r, σm') ∧ RR σc' σm' := by
  have h5 := h.u5 (v := 0)
  obtain ⟨K, K2, hC, hM, -⟩ := id h
  have hM5 := hM.u5 (v := 0)
  have h6 := hC.2.2.1
  rw [f_X6_mayHave, nw_s, f_X5_mayHave]
  rcases inb_or x (show K.1 < 2 ^ 31 by omega) with ⟨j, hj, rfl⟩ | hn
  · obtain ⟨p1, p2, p3, p4, p5⟩ := hC.2.2.2 j hj
    rw [bnd_o (hasC_y hC hj), bnd_o (isPotM_y hM5 hj), if_neg p0, if_neg p0, oneNN (M := 3) (N := 3) rfl (by omega), bnd_o (inM1 (n := 4) (by decide) (by decide))]
    by_cases e : inb y 4 = true ∧ ¬ y = 0
    · rw [if_pos e, if_pos e, if_neg p0]
      rcases inb_or y (show 4 < 2 ^ 31 by omega) with ⟨n, hn, rfl⟩ | hn
      · rcases inb_or z (show 10 < 2 ^ 31 by omega) with ⟨f, hf, rfl⟩ | hn
        · rw [bnd_o (noFigure_y hf), bnd_o (inM_y hf (by omega)), if_pos rfl, if_neg p0]
          rcases inb_or v (show 2 < 2 ^ 31 by omega) with ⟨q, hq, rfl⟩ | hn
          · have b8 := p8_le (n := n) (by omega)
            obtain ⟨r, σ1, σ2, e1, e2, hR⟩ := may_l (q := q) hj (show n ≤ 3 by omega) hf fu 0 0 (-4) σc (uI σm 0 5 0) (Nat.zero_le _) (by rw [fu_e]; omega) (by omega) ⟨h5, hC, hM5⟩
            rw [show nI 0 = 0 from rfl] at e1 e2
            rw [bnd_o (noHalf_y hq), bnd_o (inM_y hq (by omega)), if_pos rfl, if_neg p0, chk_t (inb_nI (by omega) (by omega)), nI_clamp (show j < 2 ^ 31 by omega), pt1, chk_t p1.1, nw_s, nw_s, nw_s, bnd_o (codesC n (by omega)), e1, e2]
            exact ⟨_, _, _, rfl, rfl, hR⟩
          · rw [bnd_o (noHalf_n hn), bnd_o (inM_n (n := 2) hn), if_neg p0, if_pos rfl]
            exact ⟨_, _, _, rfl, rfl, h5⟩
        · rw [bnd_o (noFigure_n hn), bnd_o (inM_n (n := 10) hn), if_neg p0, if_pos rfl]
          exact ⟨_, _, _, rfl, rfl, h5⟩
      · exact absurd e.1 hn
    · rw [if_neg e, if_neg e, if_pos rfl]
      exact ⟨_, _, _, rfl, rfl, h5⟩
  · rw [bnd_o (hasC_n hC hn), bnd_o (isPotM_n hM5 hn), if_pos rfl, if_pos rfl]
    exact ⟨_, _, _, rfl, rfl, h5⟩
