/-! POTS OF THE REFERENCE; its rows copied -/
def pm (t m k g : Nat) (σ : St) (j n : Nat) (x kd fg : Nat → Nat) : Prop := (∀ q, q < 4 → σ.2 t (4 * j + q) = lN (x q)) ∧ σ.1 m j = nI n ∧ n ≤ 12 ∧ ∀ d, d < n → σ.1 k (12 * j + d) = nI (kd d) ∧ σ.1 g (12 * j + d) = nI (fg d)
def KM (f t m k g : Nat) (σ : St) (K : Kv) : Prop := σ.1 0 f = nI K.1 ∧ K.1 ≤ 6 ∧ ∀ j, j < K.1 → pm t m k g σ j (K.2.1 j) (K.2.2.1 j) (K.2.2.2.1 j) (K.2.2.2.2 j)
theorem copyL_l {σ : St} {s d : Nat} {k : St → Option St} (hs : s < SM.1 ∧ SM.2.1 s = 21 ∧ SM.2.2 s = 28) (hd : d < SM.1 ∧ SM.2.1 d = 21 ∧ SM.2.2 d = 28) (hne : s ≠ d) : ∀ (m j : Nat), j ≤ 28 → 28 < m + j → f_X6_copyLongs_2 k m s d (nI j) (wL σ d 0 j (σ.2 s)) = k (wL σ d 0 28 (σ.2 s)) := by
  intro m
  induction m with
  | zero => intro j h1 h2; omega
  | succ m ih =>
    intro j h1 h2
    rw [f_X6_copyLongs_2]
    by_cases hj : j = 28
    · subst hj
      exact if_pos (by decide)
    · have hlt : j < 28 := by omega
      rw [if_neg (show ¬ (28 : Int32) ≤ nI j from nI_ge (b := 28) hlt (by omega)), chk_t (by simp [kOK, hs.1, hs.2.1]), hs.2.2, chk_t (inb_nI hlt (by omega)), chk_t (by simp [kOK, hd.1, hd.2.1]), hd.2.2, chk_t (inb_nI hlt (by omega)), nw_s, nw_s, nI_clamp (by omega), nI_1, wL_n (Or.inl hne)]
      have e := wL_s (σ := σ) (i := d) (o := 0) (j := j) (f := σ.2 s) rfl
      rw [Nat.zero_add] at e
      rw [e]
      exact ih (j + 1) (by omega) (by omega)
theorem copyL {σ : St} {s d : Nat} (hs : s < SM.1 ∧ SM.2.1 s = 21 ∧ SM.2.2 s = 28) (hd : d < SM.1 ∧ SM.2.1 d = 21 ∧ SM.2.2 d = 28) (hne : s ≠ d) : f_X6_copyLongs σ s d = some (wL σ d 0 28 (σ.2 s)) := by
  rw [f_X6_copyLongs]
  have e := copyL_l (σ := σ) (k := fun (σ8 : St) => some σ8) hs hd hne fu 0 (by omega) (by rw [fu_e]; omega)
  rw [wL_0] at e
  exact e
theorem copyI_l {σ : St} {s d n : Nat} {k : St → Option St} (hn : n < 2 ^ 31) (hs : s < SM.1 ∧ SM.2.1 s = 20 ∧ n ≤ SM.2.2 s) (hd : d < SM.1 ∧ SM.2.1 d = 20 ∧ n ≤ SM.2.2 d) (hne : s ≠ d) : ∀ (m j : Nat), j ≤ n → n < m + j → f_X6_copyInts_2 k m s d (nI n) (nI j) (wI σ d 0 j (σ.1 s)) = k (wI σ d 0 n (σ.1 s)) := by
  intro m
  induction m with
  | zero => intro j h1 h2; omega
  | succ m ih =>
    intro j h1 h2
    rw [f_X6_copyInts_2]
    by_cases hj : j = n
    · subst hj
      exact if_pos (nI_le (Nat.le_refl _) hn)
    · have hlt : j < n := by omega
      rw [if_neg (nI_ge hlt hn), chk_t (by simp [kOK, hs.1, hs.2.1]), chk_t (inb_nI (by omega) (by omega)), chk_t (by simp [kOK, hd.1, hd.2.1]), chk_t (inb_nI (by omega) (by omega)), nw_s, nw_s, nI_clamp (by omega), nI_1, wI_n (Or.inl hne)]
      have e := wI_s (σ := σ) (i := d) (o := 0) (j := j) (f := σ.1 s) rfl
      rw [Nat.zero_add] at e
      rw [e]
      exact ih (j + 1) (by omega) (by omega)
theorem copyI {σ : St} {s d n : Nat} (hn : n < 10000) (hs : s < SM.1 ∧ SM.2.1 s = 20 ∧ n ≤ SM.2.2 s) (hd : d < SM.1 ∧ SM.2.1 d = 20 ∧ n ≤ SM.2.2 d) (hne : s ≠ d) : f_X6_copyInts σ s d (nI n) = some (wI σ d 0 n (σ.1 s)) := by
  rw [f_X6_copyInts]
  have e := copyI_l (σ := σ) (k := fun (σ8 : St) => some σ8) (by omega) hs hd hne fu 0 (by omega) (by rw [fu_e]; omega)
  rw [wI_0] at e
  exact e
/-- the four rows copied, one behind the other -/
def cp4 (σ : St) (t m k g t' m' k' g' : Nat) : St := wI (wI (wI (wL σ t' 0 28 (σ.2 t)) m' 0 7 (σ.1 m)) k' 0 84 (σ.1 k)) g' 0 84 (σ.1 g)
theorem cp4_fr {σ : St} {t m k g t' m' k' g' : Nat} : Fr (fun a => a = t' ∨ a = m' ∨ a = k' ∨ a = g') σ (cp4 σ t m k g t' m' k' g') :=
  Fr.tr (Fr.tr (Fr.tr (Fr.wL (Or.inl rfl)) (Fr.wI (Or.inr (Or.inl rfl)))) (Fr.wI (Or.inr (Or.inr (Or.inl rfl))))) (Fr.wI (Or.inr (Or.inr (Or.inr rfl))))
/-- all pots of one place of the reference stand in another one -/
theorem cp4_pm {σ : St} {t m k g t' m' k' g' j n : Nat} {x kd fg : Nat → Nat} (hj : j < 7) (ht : t' ≠ m' ∧ t' ≠ k' ∧ t' ≠ g' ∧ m' ≠ k' ∧ m' ≠ g' ∧ k' ≠ g') (h : pm t m k g σ j n x kd fg) : pm t' m' k' g' (cp4 σ t m k g t' m' k' g') j n x kd fg := by
  obtain ⟨h1, h2, h3, h4⟩ := h
  refine ⟨fun q hq => ?_, ?_, h3, fun d hd => ⟨?_, ?_⟩⟩
  · show (wL σ t' 0 28 (σ.2 t)).2 t' (4 * j + q) = _
    rw [show 4 * j + q = 0 + (4 * j + q) by omega, wL_i (by omega)]
    exact h1 q hq
  · show (wI (wI (wI (wL σ t' 0 28 (σ.2 t)) m' 0 7 (σ.1 m)) k' 0 84 (σ.1 k)) g' 0 84 (σ.1 g)).1 m' j = _
    rw [wI_n (Or.inl (by omega)), wI_n (Or.inl (by omega)), show j = 0 + j by omega, wI_i (by omega)]
    exact h2
  · show (wI (wI (wI (wL σ t' 0 28 (σ.2 t)) m' 0 7 (σ.1 m)) k' 0 84 (σ.1 k)) g' 0 84 (σ.1 g)).1 k' (12 * j + d) = _
    rw [wI_n (Or.inl (by omega)), show 12 * j + d = 0 + (12 * j + d) by omega, wI_i (by omega)]
    exact (h4 d hd).1
  · show (wI (wI (wI (wL σ t' 0 28 (σ.2 t)) m' 0 7 (σ.1 m)) k' 0 84 (σ.1 k)) g' 0 84 (σ.1 g)).1 g' (12 * j + d) = _
    rw [show 12 * j + d = 0 + (12 * j + d) by omega, wI_i (by omega)]
    exact (h4 d hd).2
theorem pm.fr {t m k g : Nat} {σ σ' : St} {j n : Nat} {x kd fg : Nat → Nat} {P : Nat → Prop} (h : pm t m k g σ j n x kd fg) (f : Fr P σ σ') (hp : ¬ P t ∧ ¬ P m ∧ ¬ P k ∧ ¬ P g) : pm t m k g σ' j n x kd fg := by
  obtain ⟨h1, h2, h3, h4⟩ := h
  obtain ⟨p1, p2, p3, p4⟩ := hp
  refine ⟨fun q hq => ?_, ?_, h3, fun d hd => ⟨?_, ?_⟩⟩
  · rw [(f t p1).2]; exact h1 q hq
  · rw [(f m p2).1]; exact h2
  · rw [(f k p3).1]; exact (h4 d hd).1
  · rw [(f g p4).1]; exact (h4 d hd).2
/-- .. and where one slot of the model's own cell was written -/
theorem pm.u0 {t m k g : Nat} {σ : St} {j n s : Nat} {v : Int32} {x kd fg : Nat → Nat} (h : pm t m k g σ j n x kd fg) (hp : 0 < t ∧ 0 < m ∧ 0 < k ∧ 0 < g) : pm t m k g (uI σ 0 s v) j n x kd fg :=
  h.fr (P := fun a => a = 0) (Fr.uI rfl) ⟨by omega, by omega, by omega, by omega⟩
theorem KM.u0 {f t m k g : Nat} {σ : St} {s : Nat} {v : Int32} {K : Kv} (h : KM f t m k g σ K) (hp : 0 < t ∧ 0 < m ∧ 0 < k ∧ 0 < g) (hs : f ≠ s) : KM f t m k g (uI σ 0 s v) K := by
  refine ⟨?_, h.2.1, fun j hj => (h.2.2 j hj).u0 hp⟩
  rw [uI_n (Or.inr hs)]
  exact h.1
theorem KM.fr {f t m k g : Nat} {σ σ' : St} {K : Kv} {P : Nat → Prop} (h : KM f t m k g σ K) (fr : Fr P σ σ') (hp : ¬ P 0 ∧ ¬ P t ∧ ¬ P m ∧ ¬ P k ∧ ¬ P g) : KM f t m k g σ' K := by
  refine ⟨?_, h.2.1, fun j hj => (h.2.2 j hj).fr fr hp.2⟩
  rw [(fr 0 hp.1).1]
  exact h.1
theorem sm_ok : ∀ b, b < 3 → ((4 * b + 1 < SM.1 ∧ SM.2.1 (4 * b + 1) = 21 ∧ SM.2.2 (4 * b + 1) = 28) ∧ (4 * b + 2 < SM.1 ∧ SM.2.1 (4 * b + 2) = 20 ∧ 7 ≤ SM.2.2 (4 * b + 2)) ∧ (4 * b + 3 < SM.1 ∧ SM.2.1 (4 * b + 3) = 20 ∧ 84 ≤ SM.2.2 (4 * b + 3)) ∧ (4 * b + 4 < SM.1 ∧ SM.2.1 (4 * b + 4) = 20 ∧ 84 ≤ SM.2.2 (4 * b + 4))) := by decide +kernel
theorem openM {σ : St} : f_X6_open σ = some (cp4 (uI σ 0 12 (σ.1 0 0)) 1 2 3 4 9 10 11 12) := by
  have a := sm_ok 0 (by omega)
  have b := sm_ok 2 (by omega)
  rw [f_X6_open, nw_s, bnd_o (copyL a.1 b.1 (by omega)), show (7 : Int32) = nI 7 from rfl, bnd_o (copyI (by omega) a.2.1 b.2.1 (by omega)), show (84 : Int32) = nI 84 from rfl, bnd_o (copyI (by omega) a.2.2.1 b.2.2.1 (by omega)), bnd_o (copyI (by omega) a.2.2.2 b.2.2.2 (by omega))]
  rfl
theorem closeM {σ : St} : f_X6_close σ = some (cp4 (uI σ 0 0 (σ.1 0 12)) 9 10 11 12 1 2 3 4) := by
  have a := sm_ok 0 (by omega)
  have b := sm_ok 2 (by omega)
  rw [f_X6_close, nw_s, bnd_o (copyL b.1 a.1 (by omega)), show (7 : Int32) = nI 7 from rfl, bnd_o (copyI (by omega) b.2.1 a.2.1 (by omega)), show (84 : Int32) = nI 84 from rfl, bnd_o (copyI (by omega) b.2.2.1 a.2.2.1 (by omega)), bnd_o (copyI (by omega) b.2.2.2 a.2.2.2 (by omega))]
  rfl
theorem imageM {σ : St} : f_X6_image σ = some (σ.1 0 0, cp4 (uI (uI (uI σ 0 5 0) 0 7 1) 0 6 (σ.1 0 0)) 1 2 3 4 5 6 7 8) := by
  have a := sm_ok 0 (by omega)
  have b := sm_ok 1 (by omega)
  rw [f_X6_image, nw_s, nw_s, nw_s, uI_n (Or.inr (by omega)), uI_n (Or.inr (by omega)), bnd_o (copyL a.1 b.1 (by omega)), show (7 : Int32) = nI 7 from rfl, bnd_o (copyI (by omega) a.2.1 b.2.1 (by omega)), show (84 : Int32) = nI 84 from rfl, bnd_o (copyI (by omega) a.2.2.1 b.2.2.1 (by omega)), bnd_o (copyI (by omega) a.2.2.2 b.2.2.2 (by omega))]
  refine congrArg some (Prod.ext ?_ rfl)
  show (cp4 (uI (uI (uI σ 0 5 0) 0 7 1) 0 6 (σ.1 0 0)) 1 2 3 4 5 6 7 8).1 0 0 = σ.1 0 0
  rw [(cp4_fr 0 (by omega)).1, uI_n (Or.inr (by omega)), uI_n (Or.inr (by omega)), uI_n (Or.inr (by omega))]
theorem restoreM {σ : St} (h : ¬ σ.1 0 7 = 0) : f_X6_restore σ = some (σ.1 0 6, cp4 (uI (uI σ 0 5 0) 0 0 (σ.1 0 6)) 5 6 7 8 1 2 3 4) := by
  have a := sm_ok 0 (by omega)
  have b := sm_ok 1 (by omega)
  rw [f_X6_restore, nw_s, uI_n (Or.inr (by omega)), if_neg h, nw_s, uI_n (Or.inr (by omega)), bnd_o (copyL b.1 a.1 (by omega)), show (7 : Int32) = nI 7 from rfl, bnd_o (copyI (by omega) b.2.1 a.2.1 (by omega)), show (84 : Int32) = nI 84 from rfl, bnd_o (copyI (by omega) b.2.2.1 a.2.2.1 (by omega)), bnd_o (copyI (by omega) b.2.2.2 a.2.2.2 (by omega))]
  refine congrArg some (Prod.ext ?_ rfl)
  show (cp4 (uI (uI σ 0 5 0) 0 0 (σ.1 0 6)) 5 6 7 8 1 2 3 4).1 0 0 = σ.1 0 6
  rw [(cp4_fr 0 (by omega)).1, uI_i]
